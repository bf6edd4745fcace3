abbrev b_M_make : ByteArray := prog_13_method_32_code
def y_M_make : MethodName := ⟨"TreeServerModel", "make", "(IJII)V"⟩
theorem d_M_make_0 : decode b_M_make 0 = .ok (.bipush 6, 2) := by decide +kernel
theorem d_M_make_2 : decode b_M_make 2 = .ok (.iload_n 1, 1) := by decide +kernel
theorem d_M_make_3 : decode b_M_make 3 = .ok (.imul, 1) := by decide +kernel
theorem d_M_make_4 : decode b_M_make 4 = .ok (.istore 6, 2) := by decide +kernel
theorem d_M_make_6 : decode b_M_make 6 = .ok (.aload_n 0, 1) := by decide +kernel
theorem d_M_make_7 : decode b_M_make 7 = .ok (.getfield 45, 3) := by decide +kernel
theorem d_M_make_10 : decode b_M_make 10 = .ok (.iload 6, 2) := by decide +kernel
theorem d_M_make_12 : decode b_M_make 12 = .ok (.baload, 1) := by decide +kernel
theorem d_M_make_13 : decode b_M_make 13 = .ok (.ifCond .eq 9, 3) := by decide +kernel
theorem d_M_make_16 : decode b_M_make 16 = .ok (.iinc 6 1, 3) := by decide +kernel
theorem d_M_make_19 : decode b_M_make 19 = .ok (.goto (-13), 3) := by decide +kernel
theorem d_M_make_22 : decode b_M_make 22 = .ok (.aload_n 0, 1) := by decide +kernel
theorem d_M_make_23 : decode b_M_make 23 = .ok (.getfield 45, 3) := by decide +kernel
theorem d_M_make_26 : decode b_M_make 26 = .ok (.iload 6, 2) := by decide +kernel
theorem d_M_make_28 : decode b_M_make 28 = .ok (.iconst 1, 1) := by decide +kernel
theorem d_M_make_29 : decode b_M_make 29 = .ok (.bastore, 1) := by decide +kernel
theorem d_M_make_30 : decode b_M_make 30 = .ok (.aload_n 0, 1) := by decide +kernel
theorem d_M_make_31 : decode b_M_make 31 = .ok (.getfield 48, 3) := by decide +kernel
theorem d_M_make_34 : decode b_M_make 34 = .ok (.iload 6, 2) := by decide +kernel
theorem d_M_make_36 : decode b_M_make 36 = .ok (.lload_n 2, 1) := by decide +kernel
theorem d_M_make_37 : decode b_M_make 37 = .ok (.lastore, 1) := by decide +kernel
theorem d_M_make_38 : decode b_M_make 38 = .ok (.aload_n 0, 1) := by decide +kernel
theorem d_M_make_39 : decode b_M_make 39 = .ok (.iload 6, 2) := by decide +kernel
theorem d_M_make_41 : decode b_M_make 41 = .ok (.iload 4, 2) := by decide +kernel
theorem d_M_make_43 : decode b_M_make 43 = .ok (.iload 5, 2) := by decide +kernel
theorem d_M_make_45 : decode b_M_make 45 = .ok (.invokevirtual 163, 3) := by decide +kernel
theorem d_M_make_48 : decode b_M_make 48 = .ok (.return_, 1) := by decide +kernel
abbrev rm_M_make : Room := { frames := 2, cells := 0, slots := 0, locals := 45 }
set_option maxRecDepth 100000 in
set_option maxHeartbeats 4000000 in
theorem k_M_make_6 {p : Program} {l : Launch} {e : Env} {s : State} {m : MethodId} {args : Array Value} {below : List Frame} {meth : Method} {c : Code} {t : TY} {a0 : Nat} {K : GS → Prop} (X : kX p s m args meth c b_M_make 7 "TreeServerModel" t) (hret : meth.sig.returnType = none) : ∀ (n : Nat) (l2 : Int64) (l4 : Int32) (l5 : Int32) (l6 : Int32) (G : GS), w_M_make_6 t a0 K n l2 l4 l5 l6 G → kW p l e rm_M_make s m args below meth c (MQ below (va_Qv (fun u : GS => K u) (fun u T => HB t u T.heap) (tA t)) args s 0 0 (tA t)) 7 t false 6 [(0, va_rf (some a0)), (2, .long l2), (4, .int l4), (5, .int l5), (6, .int l6)] [] G := by
  intro n
  induction n with
  | zero => intro l2 l4 l5 l6 G hwp; exact hwp.elim
  | succ n hr_6 =>
    intro l2 l4 l5 l6 G hwp
    unfold w_M_make_6 at hwp
    dsimp only at hwp
    refine kw_aload_n (pc := 6) X d_M_make_6 rfl 0 rfl ?_
    obtain ⟨f1, hwp⟩ := hwp
    refine kg_86 (a := a0) (pc := 7) X d_M_make_7 x_1006 rfl f1 ?_
    refine kw_iload (pc := 10) X d_M_make_10 4 rfl ?_
    obtain ⟨a2, h_a2, hwp⟩ := hwp
    obtain ⟨f3, hwp⟩ := hwp
    obtain ⟨f4, hwp⟩ := hwp
    refine ka_zald (a := a2) (pc := 12) X d_M_make_12 h_a2 f3 f4 ?_
    refine kw_if_eq (tgt := 22) (pc := 13) X d_M_make_13 (by decide) (fun h => ?_) (fun h => ?_)
    · have hwp := ite_t h hwp
      refine kw_aload_n (pc := 22) X d_M_make_22 rfl 0 rfl ?_
      refine kg_86 (a := a0) (pc := 23) X d_M_make_23 x_1006 rfl f1 ?_
      refine kw_iload (pc := 26) X d_M_make_26 4 rfl ?_
      refine kw_iconst (v := 1) (pc := 28) X d_M_make_28 (by decide) ?_
      refine ka_zast (a := a2) (pc := 29) X rfl d_M_make_29 h_a2 f3 f4 ?_
      obtain ⟨G5, e_G5⟩ : ∃ g, g = ais G a2 l6.toNatClampNeg (vp_nar .boolean (1 : Int32)) := ⟨_, rfl⟩
      have hwp := hwp G5 e_G5
      refine kW.g e_G5.symm ?_
      refine kw_aload_n (pc := 30) X d_M_make_30 rfl 0 rfl ?_
      refine kg_87 (a := a0) (pc := 31) X d_M_make_31 x_1007 rfl f1 ?_
      refine kw_iload (pc := 34) X d_M_make_34 4 rfl ?_
      refine kw_lload_n (pc := 36) X d_M_make_36 rfl 1 rfl ?_
      obtain ⟨a6, h_a6, hwp⟩ := hwp
      obtain ⟨f7, hwp⟩ := hwp
      obtain ⟨f8, hwp⟩ := hwp
      refine ka_last (a := a6) (pc := 37) X rfl d_M_make_37 h_a6 f7 f8 ?_
      obtain ⟨G9, e_G9⟩ : ∃ g, g = als G5 a6 l6.toNatClampNeg l2 := ⟨_, rfl⟩
      have hwp := hwp G9 e_G9
      refine kW.g e_G9.symm ?_
      refine kw_aload_n (pc := 38) X d_M_make_38 rfl 0 rfl ?_
      refine kw_iload (pc := 39) X d_M_make_39 4 rfl ?_
      refine kw_iload (pc := 41) X d_M_make_41 2 rfl ?_
      refine kw_iload (pc := 43) X d_M_make_43 3 rfl ?_
      refine kcV_v (n := 3) (As := [.int l6, .int l4, .int l5]) (rest := []) (pc := 45) X rfl (c_M_point l t G9 a0 l6 l4 l5 _) (cwV_of (C := "TreeServerModel") X x_1239 x_1236 x_1238 xp_67 x_13 (by decide +kernel) ⟨rfl, rfl⟩ (by decide)) (rv_10 X f1) rfl rfl (by decide) d_M_make_45 hwp (fun G10 hwp => ?_)
      exact kr_v (pc := 48) X hret d_M_make_48 hwp
    · have hwp := ite_f h hwp
      obtain ⟨v11, e_v11⟩ : ∃ z, z = (l6 + (1 : Int32)) := ⟨_, rfl⟩
      have hwp := hwp v11 e_v11
      refine kw_iinc (v := v11) (lv' := [(6, .int v11), (0, va_rf (some a0)), (2, .long l2), (4, .int l4), (5, .int l5)]) (pc := 16) X d_M_make_16 4 rfl (by rw [e_v11]; rfl) (by decide) rfl ?_
      refine kw_goto (tgt := 6) (pc := 19) X d_M_make_19 (by decide) ?_
      exact kW.sub [1, 2, 3, 4, 0] rfl (hr_6 _ _ _ _ _ hwp)
set_option maxRecDepth 100000 in
set_option maxHeartbeats 4000000 in
theorem k_M_make {p : Program} {l : Launch} {e : Env} {s : State} {m : MethodId} {args : Array Value} {below : List Frame} {meth : Method} {c : Code} {t : TY} {a0 : Nat} {K : GS → Prop} (X : kX p s m args meth c b_M_make 7 "TreeServerModel" t) (hret : meth.sig.returnType = none) (G : GS) (p1 : Int32) (p2 : Int64) (p4 : Int32) (p5 : Int32) (hwp : w_M_make t G a0 p1 p2 p4 p5 K) : kW p l e rm_M_make s m args below meth c (MQ below (va_Qv (fun u : GS => K u) (fun u T => HB t u T.heap) (tA t)) args s 0 0 (tA t)) 7 t false 0 [(0, va_rf (some a0)), (1, .int p1), (2, .long p2), (4, .int p4), (5, .int p5)] [] G := by
  unfold w_M_make at hwp
  refine kw_bipush (v := 6) (pc := 0) X d_M_make_0 (by decide) ?_
  refine kw_iload_n (pc := 2) X d_M_make_2 rfl 1 rfl ?_
  refine kw_imul (pc := 3) X d_M_make_3 ?_
  obtain ⟨v1, e_v1⟩ : ∃ z, z = ((6 : Int32) * p1) := ⟨_, rfl⟩
  have hwp := hwp v1 e_v1
  refine kW.st (st' := .int v1 :: _) (by rw [e_v1]) ?_
  refine kw_istore (i := 6) (lv' := [(6, .int v1), (0, va_rf (some a0)), (1, .int p1), (2, .long p2), (4, .int p4), (5, .int p5)]) (pc := 4) X d_M_make_4 (by decide) rfl ?_
  obtain ⟨n, hwp⟩ := hwp
  exact kW.sub [1, 3, 4, 5, 0] rfl (k_M_make_6 X hret  n _ _ _ _ _ hwp)
set_option maxRecDepth 100000 in
set_option maxHeartbeats 4000000 in
theorem c_M_make (l : Launch) (t : TY) (G : GS) (a0 : Nat) (p1 : Int32) (p2 : Int64) (p4 : Int32) (p5 : Int32) (K : GS → Prop) : Met l y_M_make (Cond.code y_M_make b_M_make 7 (Option.none : Option Jvm.ClassFile.FieldType) :: GW) rm_M_make (va_Pc [.ref a0, .int p1, .long p2, .int p4, .int p5] (fun U => HB t G U.heap ∧ HK t U ∧ w_M_make t G a0 p1 p2 p4 p5 K)) (va_Qv (fun u : GS => K u) (fun u T => HB t u T.heap) (tA t)) 0 0 (tA t) := by
  refine Met.ofW (cc := b_M_make) (maxL := 7) (ret := none) (by decide) rfl ?_
  intro p e s m args below meth c s₁ B hml hv
  obtain ⟨rfl, hB, hK, hwp⟩ := hv
  have hts := atoms_spec (ws := Cond.code y_M_make b_M_make 7 (Option.none : Option Jvm.ClassFile.FieldType) :: GW) B.pre
  have X : kX p s m _ meth c b_M_make 7 "TreeServerModel" t := ⟨B.exec, B.bytes, hml, findClass_of_methodNamed B.named, fun w h => hts w (List.mem_cons_of_mem _ h), B.notSynchronized, hK⟩
  have hZ : kZ t false s G s.heap [] := ⟨hB, va_S.rf, fun _ => ⟨rfl, rfl⟩⟩
  rw [lg_entry_eq]
  have hl := lv_entry ([.ref a0, .int p1, .long p2, .int p4, .int p5]) (n := 7) (by simp [lg_sl, rf_cat, cat_i, cat_l, cat_r])
  exact k_M_make X B.returns _ _ _ _ _ hwp s.heap [] _ hl hZ
abbrev b_M_open : ByteArray := prog_13_method_34_code
def y_M_open : MethodName := ⟨"TreeServerModel", "open", "(II)V"⟩
theorem d_M_open_0 : decode b_M_open 0 = .ok (.aload_n 0, 1) := by decide +kernel
theorem d_M_open_1 : decode b_M_open 1 = .ok (.getfield 58, 3) := by decide +kernel
theorem d_M_open_4 : decode b_M_open 4 = .ok (.iload_n 1, 1) := by decide +kernel
theorem d_M_open_5 : decode b_M_open 5 = .ok (.iload_n 2, 1) := by decide +kernel
theorem d_M_open_6 : decode b_M_open 6 = .ok (.iconst 3, 1) := by decide +kernel
theorem d_M_open_7 : decode b_M_open 7 = .ok (.iand, 1) := by decide +kernel
theorem d_M_open_8 : decode b_M_open 8 = .ok (.iastore, 1) := by decide +kernel
theorem d_M_open_9 : decode b_M_open 9 = .ok (.aload_n 0, 1) := by decide +kernel
theorem d_M_open_10 : decode b_M_open 10 = .ok (.getfield 61, 3) := by decide +kernel
theorem d_M_open_13 : decode b_M_open 13 = .ok (.iload_n 1, 1) := by decide +kernel
theorem d_M_open_14 : decode b_M_open 14 = .ok (.iload_n 2, 1) := by decide +kernel
theorem d_M_open_15 : decode b_M_open 15 = .ok (.bipush 64, 2) := by decide +kernel
theorem d_M_open_17 : decode b_M_open 17 = .ok (.iand, 1) := by decide +kernel
theorem d_M_open_18 : decode b_M_open 18 = .ok (.ifCond .eq 7, 3) := by decide +kernel
theorem d_M_open_21 : decode b_M_open 21 = .ok (.iconst 1, 1) := by decide +kernel
theorem d_M_open_22 : decode b_M_open 22 = .ok (.goto 4, 3) := by decide +kernel
theorem d_M_open_25 : decode b_M_open 25 = .ok (.iconst 0, 1) := by decide +kernel
theorem d_M_open_26 : decode b_M_open 26 = .ok (.bastore, 1) := by decide +kernel
theorem d_M_open_27 : decode b_M_open 27 = .ok (.aload_n 0, 1) := by decide +kernel
theorem d_M_open_28 : decode b_M_open 28 = .ok (.getfield 64, 3) := by decide +kernel
theorem d_M_open_31 : decode b_M_open 31 = .ok (.iload_n 1, 1) := by decide +kernel
theorem d_M_open_32 : decode b_M_open 32 = .ok (.lconst 0, 1) := by decide +kernel
theorem d_M_open_33 : decode b_M_open 33 = .ok (.lastore, 1) := by decide +kernel
theorem d_M_open_34 : decode b_M_open 34 = .ok (.aload_n 0, 1) := by decide +kernel
theorem d_M_open_35 : decode b_M_open 35 = .ok (.getfield 67, 3) := by decide +kernel
theorem d_M_open_38 : decode b_M_open 38 = .ok (.iload_n 1, 1) := by decide +kernel
theorem d_M_open_39 : decode b_M_open 39 = .ok (.iconst 0, 1) := by decide +kernel
theorem d_M_open_40 : decode b_M_open 40 = .ok (.iastore, 1) := by decide +kernel
theorem d_M_open_41 : decode b_M_open 41 = .ok (.return_, 1) := by decide +kernel
abbrev rm_M_open : Room := { frames := 0, cells := 0, slots := 0, locals := 0 }
set_option maxRecDepth 100000 in
set_option maxHeartbeats 4000000 in
theorem k_M_open_26 {p : Program} {l : Launch} {e : Env} {s : State} {m : MethodId} {args : Array Value} {below : List Frame} {meth : Method} {c : Code} {t : TY} {a0 : Nat} {K : GS → Prop} (X : kX p s m args meth c b_M_open 3 "TreeServerModel" t) (hret : meth.sig.returnType = none) (l1 : Int32) (s0 : Option Nat) (s1 : Int32) (s2 : Int32) (G : GS) (hwp : w_M_open_26 t a0 K l1 s0 s1 s2 G) : kW p l e rm_M_open s m args below meth c (MQ below (va_Qv (fun u : GS => K u) (fun u T => HB t u T.heap) (tA t)) args s 0 0 (tA t)) 3 t false 26 [(0, va_rf (some a0)), (1, .int l1)] [.int s2, .int s1, va_rf s0] G := by
  unfold w_M_open_26 at hwp
  obtain ⟨a1, h_a1, hwp⟩ := hwp
  obtain ⟨f2, hwp⟩ := hwp
  obtain ⟨f3, hwp⟩ := hwp
  refine ka_zast (a := a1) (pc := 26) X rfl d_M_open_26 h_a1 f2 f3 ?_
  obtain ⟨G4, e_G4⟩ : ∃ g, g = ais G a1 s1.toNatClampNeg (vp_nar .boolean s2) := ⟨_, rfl⟩
  have hwp := hwp G4 e_G4
  refine kW.g e_G4.symm ?_
  refine kw_aload_n (pc := 27) X d_M_open_27 rfl 0 rfl ?_
  obtain ⟨f5, hwp⟩ := hwp
  refine kg_92 (a := a0) (pc := 28) X d_M_open_28 x_1012 rfl f5 ?_
  refine kw_iload_n (pc := 31) X d_M_open_31 rfl 1 rfl ?_
  refine kw_lconst (v := 0) (pc := 32) X d_M_open_32 (by decide) ?_
  obtain ⟨a6, h_a6, hwp⟩ := hwp
  obtain ⟨f7, hwp⟩ := hwp
  obtain ⟨f8, hwp⟩ := hwp
  refine ka_last (a := a6) (pc := 33) X rfl d_M_open_33 h_a6 f7 f8 ?_
  obtain ⟨G9, e_G9⟩ : ∃ g, g = als G4 a6 l1.toNatClampNeg (0 : Int64) := ⟨_, rfl⟩
  have hwp := hwp G9 e_G9
  refine kW.g e_G9.symm ?_
  refine kw_aload_n (pc := 34) X d_M_open_34 rfl 0 rfl ?_
  refine kg_93 (a := a0) (pc := 35) X d_M_open_35 x_1013 rfl f5 ?_
  refine kw_iload_n (pc := 38) X d_M_open_38 rfl 1 rfl ?_
  refine kw_iconst (v := 0) (pc := 39) X d_M_open_39 (by decide) ?_
  obtain ⟨a10, h_a10, hwp⟩ := hwp
  obtain ⟨f11, hwp⟩ := hwp
  obtain ⟨f12, hwp⟩ := hwp
  refine ka_iast (a := a10) (pc := 40) X rfl d_M_open_40 h_a10 f11 f12 ?_
  obtain ⟨G13, e_G13⟩ : ∃ g, g = ais G9 a10 l1.toNatClampNeg (0 : Int32) := ⟨_, rfl⟩
  have hwp := hwp G13 e_G13
  refine kW.g e_G13.symm ?_
  exact kr_v (pc := 41) X hret d_M_open_41 hwp
set_option maxRecDepth 100000 in
set_option maxHeartbeats 4000000 in
theorem k_M_open {p : Program} {l : Launch} {e : Env} {s : State} {m : MethodId} {args : Array Value} {below : List Frame} {meth : Method} {c : Code} {t : TY} {a0 : Nat} {K : GS → Prop} (X : kX p s m args meth c b_M_open 3 "TreeServerModel" t) (hret : meth.sig.returnType = none) (G : GS) (p1 : Int32) (p2 : Int32) (hwp : w_M_open t G a0 p1 p2 K) : kW p l e rm_M_open s m args below meth c (MQ below (va_Qv (fun u : GS => K u) (fun u T => HB t u T.heap) (tA t)) args s 0 0 (tA t)) 3 t false 0 [(0, va_rf (some a0)), (1, .int p1), (2, .int p2)] [] G := by
  unfold w_M_open at hwp
  refine kw_aload_n (pc := 0) X d_M_open_0 rfl 0 rfl ?_
  obtain ⟨f1, hwp⟩ := hwp
  refine kg_90 (a := a0) (pc := 1) X d_M_open_1 x_1010 rfl f1 ?_
  refine kw_iload_n (pc := 4) X d_M_open_4 rfl 1 rfl ?_
  refine kw_iload_n (pc := 5) X d_M_open_5 rfl 2 rfl ?_
  refine kw_iconst (v := 3) (pc := 6) X d_M_open_6 (by decide) ?_
  refine kw_iand (pc := 7) X d_M_open_7 ?_
  obtain ⟨a2, h_a2, hwp⟩ := hwp
  obtain ⟨f3, hwp⟩ := hwp
  obtain ⟨f4, hwp⟩ := hwp
  refine ka_iast (a := a2) (pc := 8) X rfl d_M_open_8 h_a2 f3 f4 ?_
  obtain ⟨G5, e_G5⟩ : ∃ g, g = ais G a2 p1.toNatClampNeg (p2 &&& (3 : Int32)) := ⟨_, rfl⟩
  have hwp := hwp G5 e_G5
  refine kW.g e_G5.symm ?_
  refine kw_aload_n (pc := 9) X d_M_open_9 rfl 0 rfl ?_
  refine kg_91 (a := a0) (pc := 10) X d_M_open_10 x_1011 rfl f1 ?_
  refine kw_iload_n (pc := 13) X d_M_open_13 rfl 1 rfl ?_
  refine kw_iload_n (pc := 14) X d_M_open_14 rfl 2 rfl ?_
  refine kw_bipush (v := 64) (pc := 15) X d_M_open_15 (by decide) ?_
  refine kw_iand (pc := 17) X d_M_open_17 ?_
  refine kw_if_eq (tgt := 25) (pc := 18) X d_M_open_18 (by decide) (fun h => ?_) (fun h => ?_)
  · have hwp := ite_t h hwp
    refine kw_iconst (v := 0) (pc := 25) X d_M_open_25 (by decide) ?_
    exact kW.sub [0, 1] rfl (k_M_open_26 X hret  _ _ _ _ _ hwp)
  · have hwp := ite_f h hwp
    refine kw_iconst (v := 1) (pc := 21) X d_M_open_21 (by decide) ?_
    refine kw_goto (tgt := 26) (pc := 22) X d_M_open_22 (by decide) ?_
    exact kW.sub [0, 1] rfl (k_M_open_26 X hret  _ _ _ _ _ hwp)
set_option maxRecDepth 100000 in
set_option maxHeartbeats 4000000 in
theorem c_M_open (l : Launch) (t : TY) (G : GS) (a0 : Nat) (p1 : Int32) (p2 : Int32) (K : GS → Prop) : Met l y_M_open (Cond.code y_M_open b_M_open 3 (Option.none : Option Jvm.ClassFile.FieldType) :: GW) rm_M_open (va_Pc [.ref a0, .int p1, .int p2] (fun U => HB t G U.heap ∧ HK t U ∧ w_M_open t G a0 p1 p2 K)) (va_Qv (fun u : GS => K u) (fun u T => HB t u T.heap) (tA t)) 0 0 (tA t) := by
  refine Met.ofW (cc := b_M_open) (maxL := 3) (ret := none) (by decide) rfl ?_
  intro p e s m args below meth c s₁ B hml hv
  obtain ⟨rfl, hB, hK, hwp⟩ := hv
  have hts := atoms_spec (ws := Cond.code y_M_open b_M_open 3 (Option.none : Option Jvm.ClassFile.FieldType) :: GW) B.pre
  have X : kX p s m _ meth c b_M_open 3 "TreeServerModel" t := ⟨B.exec, B.bytes, hml, findClass_of_methodNamed B.named, fun w h => hts w (List.mem_cons_of_mem _ h), B.notSynchronized, hK⟩
  have hZ : kZ t false s G s.heap [] := ⟨hB, va_S.rf, fun _ => ⟨rfl, rfl⟩⟩
  rw [lg_entry_eq]
  have hl := lv_entry ([.ref a0, .int p1, .int p2]) (n := 3) (by simp [lg_sl, rf_cat, cat_i, cat_l, cat_r])
  exact k_M_open X B.returns _ _ _ hwp s.heap [] _ hl hZ
abbrev b_M_release : ByteArray := prog_13_method_35_code
def y_M_release : MethodName := ⟨"TreeServerModel", "release", "(I)V"⟩
theorem d_M_release_0 : decode b_M_release 0 = .ok (.aload_n 0, 1) := by decide +kernel
theorem d_M_release_1 : decode b_M_release 1 = .ok (.getfield 45, 3) := by decide +kernel
theorem d_M_release_4 : decode b_M_release 4 = .ok (.iload_n 1, 1) := by decide +kernel
theorem d_M_release_5 : decode b_M_release 5 = .ok (.iconst 0, 1) := by decide +kernel
theorem d_M_release_6 : decode b_M_release 6 = .ok (.bastore, 1) := by decide +kernel
theorem d_M_release_7 : decode b_M_release 7 = .ok (.aload_n 0, 1) := by decide +kernel
theorem d_M_release_8 : decode b_M_release 8 = .ok (.aload_n 0, 1) := by decide +kernel
theorem d_M_release_9 : decode b_M_release 9 = .ok (.getfield 52, 3) := by decide +kernel
theorem d_M_release_12 : decode b_M_release 12 = .ok (.iload_n 1, 1) := by decide +kernel
theorem d_M_release_13 : decode b_M_release 13 = .ok (.iaload, 1) := by decide +kernel
theorem d_M_release_14 : decode b_M_release 14 = .ok (.invokevirtual 89, 3) := by decide +kernel
theorem d_M_release_17 : decode b_M_release 17 = .ok (.istore_n 2, 1) := by decide +kernel
theorem d_M_release_18 : decode b_M_release 18 = .ok (.aload_n 0, 1) := by decide +kernel
theorem d_M_release_19 : decode b_M_release 19 = .ok (.getfield 61, 3) := by decide +kernel
theorem d_M_release_22 : decode b_M_release 22 = .ok (.iload_n 1, 1) := by decide +kernel
theorem d_M_release_23 : decode b_M_release 23 = .ok (.baload, 1) := by decide +kernel
theorem d_M_release_24 : decode b_M_release 24 = .ok (.ifCond .eq 38, 3) := by decide +kernel
theorem d_M_release_27 : decode b_M_release 27 = .ok (.iload_n 2, 1) := by decide +kernel
theorem d_M_release_28 : decode b_M_release 28 = .ok (.iconst 1, 1) := by decide +kernel
theorem d_M_release_29 : decode b_M_release 29 = .ok (.if_icmp .lt 33, 3) := by decide +kernel
theorem d_M_release_32 : decode b_M_release 32 = .ok (.aload_n 0, 1) := by decide +kernel
theorem d_M_release_33 : decode b_M_release 33 = .ok (.iload_n 2, 1) := by decide +kernel
theorem d_M_release_34 : decode b_M_release 34 = .ok (.invokevirtual 97, 3) := by decide +kernel
theorem d_M_release_37 : decode b_M_release 37 = .ok (.ifCond .eq 11, 3) := by decide +kernel
theorem d_M_release_40 : decode b_M_release 40 = .ok (.aload_n 0, 1) := by decide +kernel
theorem d_M_release_41 : decode b_M_release 41 = .ok (.iload_n 2, 1) := by decide +kernel
theorem d_M_release_42 : decode b_M_release 42 = .ok (.invokevirtual 101, 3) := by decide +kernel
theorem d_M_release_45 : decode b_M_release 45 = .ok (.ifCond .gt 17, 3) := by decide +kernel
theorem d_M_release_48 : decode b_M_release 48 = .ok (.aload_n 0, 1) := by decide +kernel
theorem d_M_release_49 : decode b_M_release 49 = .ok (.iload_n 2, 1) := by decide +kernel
theorem d_M_release_50 : decode b_M_release 50 = .ok (.aload_n 0, 1) := by decide +kernel
theorem d_M_release_51 : decode b_M_release 51 = .ok (.getfield 55, 3) := by decide +kernel
theorem d_M_release_54 : decode b_M_release 54 = .ok (.iload_n 1, 1) := by decide +kernel
theorem d_M_release_55 : decode b_M_release 55 = .ok (.iaload, 1) := by decide +kernel
theorem d_M_release_56 : decode b_M_release 56 = .ok (.invokevirtual 166, 3) := by decide +kernel
theorem d_M_release_59 : decode b_M_release 59 = .ok (.ifCond .ne 4, 3) := by decide +kernel
theorem d_M_release_62 : decode b_M_release 62 = .ok (.return_, 1) := by decide +kernel
theorem d_M_release_63 : decode b_M_release 63 = .ok (.aload_n 0, 1) := by decide +kernel
theorem d_M_release_64 : decode b_M_release 64 = .ok (.invokevirtual 170, 3) := by decide +kernel
theorem d_M_release_67 : decode b_M_release 67 = .ok (.aload_n 0, 1) := by decide +kernel
theorem d_M_release_68 : decode b_M_release 68 = .ok (.iload_n 2, 1) := by decide +kernel
theorem d_M_release_69 : decode b_M_release 69 = .ok (.aload_n 0, 1) := by decide +kernel
theorem d_M_release_70 : decode b_M_release 70 = .ok (.getfield 55, 3) := by decide +kernel
theorem d_M_release_73 : decode b_M_release 73 = .ok (.iload_n 1, 1) := by decide +kernel
theorem d_M_release_74 : decode b_M_release 74 = .ok (.iaload, 1) := by decide +kernel
theorem d_M_release_75 : decode b_M_release 75 = .ok (.invokevirtual 173, 3) := by decide +kernel
theorem d_M_release_78 : decode b_M_release 78 = .ok (.aload_n 0, 1) := by decide +kernel
theorem d_M_release_79 : decode b_M_release 79 = .ok (.bipush 16, 2) := by decide +kernel
theorem d_M_release_81 : decode b_M_release 81 = .ok (.invokevirtual 176, 3) := by decide +kernel
theorem d_M_release_84 : decode b_M_release 84 = .ok (.istore_n 3, 1) := by decide +kernel
theorem d_M_release_85 : decode b_M_release 85 = .ok (.return_, 1) := by decide +kernel
abbrev rm_M_release : Room := { frames := 3, cells := 0, slots := 0, locals := 69 }
set_option maxRecDepth 100000 in
set_option maxHeartbeats 4000000 in
theorem k_M_release_48 {p : Program} {l : Launch} {e : Env} {s : State} {m : MethodId} {args : Array Value} {below : List Frame} {meth : Method} {c : Code} {t : TY} {a0 : Nat} {K : GS → Prop} (X : kX p s m args meth c b_M_release 4 "TreeServerModel" t) (hret : meth.sig.returnType = none) (l1 : Int32) (l2 : Int32) (G : GS) (hwp : w_M_release_48 t a0 K l1 l2 G) : kW p l e rm_M_release s m args below meth c (MQ below (va_Qv (fun u : GS => K u) (fun u T => HB t u T.heap) (tA t)) args s 0 0 (tA t)) 4 t false 48 [(0, va_rf (some a0)), (1, .int l1), (2, .int l2)] [] G := by
  unfold w_M_release_48 at hwp
  refine kw_aload_n (pc := 48) X d_M_release_48 rfl 0 rfl ?_
  refine kw_iload_n (pc := 49) X d_M_release_49 rfl 2 rfl ?_
  refine kw_aload_n (pc := 50) X d_M_release_50 rfl 0 rfl ?_
  obtain ⟨f1, hwp⟩ := hwp
  refine kg_89 (a := a0) (pc := 51) X d_M_release_51 x_1009 rfl f1 ?_
  refine kw_iload_n (pc := 54) X d_M_release_54 rfl 1 rfl ?_
  obtain ⟨a2, h_a2, hwp⟩ := hwp
  obtain ⟨f3, hwp⟩ := hwp
  obtain ⟨f4, hwp⟩ := hwp
  refine ka_iald (a := a2) (pc := 55) X d_M_release_55 h_a2 f3 f4 ?_
  refine kcVp_i (n := 2) (As := [.int l2, .int (ai G a2 l1.toNatClampNeg)]) (rest := []) (pc := 56) X (c_M_mayIn l t G a0 l2 (ai G a2 l1.toNatClampNeg) _) (cwV_of (C := "TreeServerModel") X x_1123 x_1120 x_1122 xp_44 x_13 (by decide +kernel) ⟨rfl, rfl⟩ (by decide)) (rv_10 X f1) rfl rfl (by decide) d_M_release_56 hwp (fun v5 hwp => ?_)
  obtain ⟨b_v5, hwp⟩ := hwp
  refine kw_if_ne (tgt := 63) (pc := 59) X d_M_release_59 (by decide) (fun h => ?_) (fun h => ?_)
  · have hwp := ite_t h hwp
    refine kw_aload_n (pc := 63) X d_M_release_63 rfl 0 rfl ?_
    refine kcV_v (n := 0) (As := []) (rest := []) (pc := 64) X rfl (c_M_begin l t G a0 _) (cwV_of (C := "TreeServerModel") X x_1131 x_1128 x_1130 xp_46 x_13 (by decide +kernel) ⟨rfl, rfl⟩ (by decide)) (rv_10 X f1) rfl rfl (by decide) d_M_release_64 hwp (fun G6 hwp => ?_)
    refine kw_aload_n (pc := 67) X d_M_release_67 rfl 0 rfl ?_
    refine kw_iload_n (pc := 68) X d_M_release_68 rfl 2 rfl ?_
    refine kw_aload_n (pc := 69) X d_M_release_69 rfl 0 rfl ?_
    refine kg_89 (a := a0) (pc := 70) X d_M_release_70 x_1009 rfl f1 ?_
    refine kw_iload_n (pc := 73) X d_M_release_73 rfl 1 rfl ?_
    obtain ⟨a7, h_a7, hwp⟩ := hwp
    obtain ⟨f8, hwp⟩ := hwp
    obtain ⟨f9, hwp⟩ := hwp
    refine ka_iald (a := a7) (pc := 74) X d_M_release_74 h_a7 f8 f9 ?_
    refine kcV_v (n := 2) (As := [.int l2, .int (ai G6 a7 l1.toNatClampNeg)]) (rest := []) (pc := 75) X rfl (c_M_cutOut l t G6 a0 l2 (ai G6 a7 l1.toNatClampNeg) _) (cwV_of (C := "TreeServerModel") X x_1135 x_1132 x_1134 xp_47 x_13 (by decide +kernel) ⟨rfl, rfl⟩ (by decide)) (rv_10 X f1) rfl rfl (by decide) d_M_release_75 hwp (fun G10 hwp => ?_)
    refine kw_aload_n (pc := 78) X d_M_release_78 rfl 0 rfl ?_
    refine kw_bipush (v := 16) (pc := 79) X d_M_release_79 (by decide) ?_
    refine kcV_i (n := 1) (As := [.int (16 : Int32)]) (rest := []) (pc := 81) X rfl (c_M_commit l t G10 a0 (16 : Int32) _) (cwV_of (C := "TreeServerModel") X x_1147 x_1144 x_1146 xp_50 x_13 (by decide +kernel) ⟨rfl, rfl⟩ (by decide)) (rv_10 X f1) rfl rfl (by decide) d_M_release_81 hwp (fun v12 G11 hwp => ?_)
    obtain ⟨b_v12, hwp⟩ := hwp
    refine kw_istore_n (i := 3) (lv' := [(3, .int v12), (0, va_rf (some a0)), (1, .int l1), (2, .int l2)]) (pc := 84) X d_M_release_84 rfl (by decide) rfl ?_
    exact kr_v (pc := 85) X hret d_M_release_85 hwp
  · have hwp := ite_f (not_not_intro h) hwp
    exact kr_v (pc := 62) X hret d_M_release_62 hwp
set_option maxRecDepth 100000 in
set_option maxHeartbeats 4000000 in
theorem k_M_release {p : Program} {l : Launch} {e : Env} {s : State} {m : MethodId} {args : Array Value} {below : List Frame} {meth : Method} {c : Code} {t : TY} {a0 : Nat} {K : GS → Prop} (X : kX p s m args meth c b_M_release 4 "TreeServerModel" t) (hret : meth.sig.returnType = none) (G : GS) (p1 : Int32) (hwp : w_M_release t G a0 p1 K) : kW p l e rm_M_release s m args below meth c (MQ below (va_Qv (fun u : GS => K u) (fun u T => HB t u T.heap) (tA t)) args s 0 0 (tA t)) 4 t false 0 [(0, va_rf (some a0)), (1, .int p1)] [] G := by
  unfold w_M_release at hwp
  refine kw_aload_n (pc := 0) X d_M_release_0 rfl 0 rfl ?_
  obtain ⟨f1, hwp⟩ := hwp
  refine kg_86 (a := a0) (pc := 1) X d_M_release_1 x_1006 rfl f1 ?_
  refine kw_iload_n (pc := 4) X d_M_release_4 rfl 1 rfl ?_
  refine kw_iconst (v := 0) (pc := 5) X d_M_release_5 (by decide) ?_
  obtain ⟨a2, h_a2, hwp⟩ := hwp
  obtain ⟨f3, hwp⟩ := hwp
  obtain ⟨f4, hwp⟩ := hwp
  refine ka_zast (a := a2) (pc := 6) X rfl d_M_release_6 h_a2 f3 f4 ?_
  obtain ⟨G5, e_G5⟩ : ∃ g, g = ais G a2 p1.toNatClampNeg (vp_nar .boolean (0 : Int32)) := ⟨_, rfl⟩
  have hwp := hwp G5 e_G5
  refine kW.g e_G5.symm ?_
  refine kw_aload_n (pc := 7) X d_M_release_7 rfl 0 rfl ?_
  refine kw_aload_n (pc := 8) X d_M_release_8 rfl 0 rfl ?_
  refine kg_88 (a := a0) (pc := 9) X d_M_release_9 x_1008 rfl f1 ?_
  refine kw_iload_n (pc := 12) X d_M_release_12 rfl 1 rfl ?_
  obtain ⟨a6, h_a6, hwp⟩ := hwp
  obtain ⟨f7, hwp⟩ := hwp
  obtain ⟨f8, hwp⟩ := hwp
  refine ka_iald (a := a6) (pc := 13) X d_M_release_13 h_a6 f7 f8 ?_
  refine kcVp_i (n := 1) (As := [.int (ai G5 a6 p1.toNatClampNeg)]) (rest := []) (pc := 14) X (c_M_find l t G5 a0 (ai G5 a6 p1.toNatClampNeg) _) (cwV_of (C := "TreeServerModel") X x_1107 x_1104 x_1106 xp_40 x_13 (by decide +kernel) ⟨rfl, rfl⟩ (by decide)) (rv_10 X f1) rfl rfl (by decide) d_M_release_14 hwp (fun v9 hwp => ?_)
  refine kw_istore_n (i := 2) (lv' := [(2, .int v9), (0, va_rf (some a0)), (1, .int p1)]) (pc := 17) X d_M_release_17 rfl (by decide) rfl ?_
  refine kw_aload_n (pc := 18) X d_M_release_18 rfl 1 rfl ?_
  refine kg_91 (a := a0) (pc := 19) X d_M_release_19 x_1011 rfl f1 ?_
  refine kw_iload_n (pc := 22) X d_M_release_22 rfl 2 rfl ?_
  obtain ⟨a10, h_a10, hwp⟩ := hwp
  obtain ⟨f11, hwp⟩ := hwp
  obtain ⟨f12, hwp⟩ := hwp
  refine ka_zald (a := a10) (pc := 23) X d_M_release_23 h_a10 f11 f12 ?_
  refine kw_if_eq (tgt := 62) (pc := 24) X d_M_release_24 (by decide) (fun h => ?_) (fun h => ?_)
  · have hwp := ite_t h hwp
    exact kr_v (pc := 62) X hret d_M_release_62 hwp
  · have hwp := ite_f h hwp
    refine kw_iload_n (pc := 27) X d_M_release_27 rfl 0 rfl ?_
    refine kw_iconst (v := 1) (pc := 28) X d_M_release_28 (by decide) ?_
    refine kw_icmp_lt (tgt := 62) (pc := 29) X d_M_release_29 (by decide) (fun h => ?_) (fun h => ?_)
    · have hwp := ite_t h hwp
      exact kr_v (pc := 62) X hret d_M_release_62 hwp
    · have hwp := ite_f h hwp
      refine kw_aload_n (pc := 32) X d_M_release_32 rfl 1 rfl ?_
      refine kw_iload_n (pc := 33) X d_M_release_33 rfl 0 rfl ?_
      refine kcVp_i (n := 1) (As := [.int v9]) (rest := []) (pc := 34) X (c_M_isDirectory l t G5 a0 v9 _) (cwV_of (C := "TreeServerModel") X x_1115 x_1112 x_1114 xp_42 x_13 (by decide +kernel) ⟨rfl, rfl⟩ (by decide)) (rv_10 X f1) rfl rfl (by decide) d_M_release_34 hwp (fun v13 hwp => ?_)
      obtain ⟨b_v13, hwp⟩ := hwp
      refine kw_if_eq (tgt := 48) (pc := 37) X d_M_release_37 (by decide) (fun h => ?_) (fun h => ?_)
      · have hwp := ite_t h hwp
        exact kW.sub [1, 2, 0] rfl (k_M_release_48 X hret  _ _ _ hwp)
      · have hwp := ite_f h hwp
        refine kw_aload_n (pc := 40) X d_M_release_40 rfl 1 rfl ?_
        refine kw_iload_n (pc := 41) X d_M_release_41 rfl 0 rfl ?_
        refine kcVp_i (n := 1) (As := [.int v9]) (rest := []) (pc := 42) X (c_M_entries l t G5 a0 v9 _) (cwV_of (C := "TreeServerModel") X x_1119 x_1116 x_1118 xp_43 x_13 (by decide +kernel) ⟨rfl, rfl⟩ (by decide)) (rv_10 X f1) rfl rfl (by decide) d_M_release_42 hwp (fun v14 hwp => ?_)
        refine kw_if_gt (tgt := 62) (pc := 45) X d_M_release_45 (by decide) (fun h => ?_) (fun h => ?_)
        · have hwp := ite_t h hwp
          exact kr_v (pc := 62) X hret d_M_release_62 hwp
        · have hwp := ite_f h hwp
          exact kW.sub [1, 2, 0] rfl (k_M_release_48 X hret  _ _ _ hwp)
set_option maxRecDepth 100000 in
set_option maxHeartbeats 4000000 in
theorem c_M_release (l : Launch) (t : TY) (G : GS) (a0 : Nat) (p1 : Int32) (K : GS → Prop) : Met l y_M_release (Cond.code y_M_release b_M_release 4 (Option.none : Option Jvm.ClassFile.FieldType) :: GW) rm_M_release (va_Pc [.ref a0, .int p1] (fun U => HB t G U.heap ∧ HK t U ∧ w_M_release t G a0 p1 K)) (va_Qv (fun u : GS => K u) (fun u T => HB t u T.heap) (tA t)) 0 0 (tA t) := by
  refine Met.ofW (cc := b_M_release) (maxL := 4) (ret := none) (by decide) rfl ?_
  intro p e s m args below meth c s₁ B hml hv
  obtain ⟨rfl, hB, hK, hwp⟩ := hv
  have hts := atoms_spec (ws := Cond.code y_M_release b_M_release 4 (Option.none : Option Jvm.ClassFile.FieldType) :: GW) B.pre
  have X : kX p s m _ meth c b_M_release 4 "TreeServerModel" t := ⟨B.exec, B.bytes, hml, findClass_of_methodNamed B.named, fun w h => hts w (List.mem_cons_of_mem _ h), B.notSynchronized, hK⟩
  have hZ : kZ t false s G s.heap [] := ⟨hB, va_S.rf, fun _ => ⟨rfl, rfl⟩⟩
  rw [lg_entry_eq]
  have hl := lv_entry ([.ref a0, .int p1]) (n := 4) (by simp [lg_sl, rf_cat, cat_i, cat_l, cat_r])
  exact k_M_release X B.returns _ _ hwp s.heap [] _ hl hZ
abbrev b_M_releaseAll : ByteArray := prog_13_method_36_code
def y_M_releaseAll : MethodName := ⟨"TreeServerModel", "releaseAll", "(I)V"⟩
theorem d_M_releaseAll_0 : decode b_M_releaseAll 0 = .ok (.iconst 0, 1) := by decide +kernel
theorem d_M_releaseAll_1 : decode b_M_releaseAll 1 = .ok (.istore_n 2, 1) := by decide +kernel
theorem d_M_releaseAll_2 : decode b_M_releaseAll 2 = .ok (.iload_n 2, 1) := by decide +kernel
theorem d_M_releaseAll_3 : decode b_M_releaseAll 3 = .ok (.bipush 6, 2) := by decide +kernel
theorem d_M_releaseAll_5 : decode b_M_releaseAll 5 = .ok (.if_icmp .ge 89, 3) := by decide +kernel
theorem d_M_releaseAll_8 : decode b_M_releaseAll 8 = .ok (.aload_n 0, 1) := by decide +kernel
theorem d_M_releaseAll_9 : decode b_M_releaseAll 9 = .ok (.getfield 125, 3) := by decide +kernel
theorem d_M_releaseAll_12 : decode b_M_releaseAll 12 = .ok (.ifCond .ne 82, 3) := by decide +kernel
theorem d_M_releaseAll_15 : decode b_M_releaseAll 15 = .ok (.iconst (-1), 1) := by decide +kernel
theorem d_M_releaseAll_16 : decode b_M_releaseAll 16 = .ok (.istore_n 3, 1) := by decide +kernel
theorem d_M_releaseAll_17 : decode b_M_releaseAll 17 = .ok (.bipush 6, 2) := by decide +kernel
theorem d_M_releaseAll_19 : decode b_M_releaseAll 19 = .ok (.iload_n 1, 1) := by decide +kernel
theorem d_M_releaseAll_20 : decode b_M_releaseAll 20 = .ok (.imul, 1) := by decide +kernel
theorem d_M_releaseAll_21 : decode b_M_releaseAll 21 = .ok (.istore 4, 2) := by decide +kernel
theorem d_M_releaseAll_23 : decode b_M_releaseAll 23 = .ok (.iload 4, 2) := by decide +kernel
theorem d_M_releaseAll_25 : decode b_M_releaseAll 25 = .ok (.bipush 6, 2) := by decide +kernel
theorem d_M_releaseAll_27 : decode b_M_releaseAll 27 = .ok (.iload_n 1, 1) := by decide +kernel
theorem d_M_releaseAll_28 : decode b_M_releaseAll 28 = .ok (.imul, 1) := by decide +kernel
theorem d_M_releaseAll_29 : decode b_M_releaseAll 29 = .ok (.bipush 6, 2) := by decide +kernel
theorem d_M_releaseAll_31 : decode b_M_releaseAll 31 = .ok (.iadd, 1) := by decide +kernel
theorem d_M_releaseAll_32 : decode b_M_releaseAll 32 = .ok (.if_icmp .ge 47, 3) := by decide +kernel
theorem d_M_releaseAll_35 : decode b_M_releaseAll 35 = .ok (.aload_n 0, 1) := by decide +kernel
theorem d_M_releaseAll_36 : decode b_M_releaseAll 36 = .ok (.getfield 45, 3) := by decide +kernel
theorem d_M_releaseAll_39 : decode b_M_releaseAll 39 = .ok (.iload 4, 2) := by decide +kernel
theorem d_M_releaseAll_41 : decode b_M_releaseAll 41 = .ok (.baload, 1) := by decide +kernel
theorem d_M_releaseAll_42 : decode b_M_releaseAll 42 = .ok (.ifCond .eq 29, 3) := by decide +kernel
theorem d_M_releaseAll_45 : decode b_M_releaseAll 45 = .ok (.iload_n 3, 1) := by decide +kernel
theorem d_M_releaseAll_46 : decode b_M_releaseAll 46 = .ok (.ifCond .lt 20, 3) := by decide +kernel
theorem d_M_releaseAll_49 : decode b_M_releaseAll 49 = .ok (.aload_n 0, 1) := by decide +kernel
theorem d_M_releaseAll_50 : decode b_M_releaseAll 50 = .ok (.getfield 48, 3) := by decide +kernel
theorem d_M_releaseAll_53 : decode b_M_releaseAll 53 = .ok (.iload 4, 2) := by decide +kernel
theorem d_M_releaseAll_55 : decode b_M_releaseAll 55 = .ok (.laload, 1) := by decide +kernel
theorem d_M_releaseAll_56 : decode b_M_releaseAll 56 = .ok (.aload_n 0, 1) := by decide +kernel
theorem d_M_releaseAll_57 : decode b_M_releaseAll 57 = .ok (.getfield 48, 3) := by decide +kernel
theorem d_M_releaseAll_60 : decode b_M_releaseAll 60 = .ok (.iload_n 3, 1) := by decide +kernel
theorem d_M_releaseAll_61 : decode b_M_releaseAll 61 = .ok (.laload, 1) := by decide +kernel
theorem d_M_releaseAll_62 : decode b_M_releaseAll 62 = .ok (.lcmp, 1) := by decide +kernel
theorem d_M_releaseAll_63 : decode b_M_releaseAll 63 = .ok (.ifCond .ge 8, 3) := by decide +kernel
theorem d_M_releaseAll_66 : decode b_M_releaseAll 66 = .ok (.iload 4, 2) := by decide +kernel
theorem d_M_releaseAll_68 : decode b_M_releaseAll 68 = .ok (.goto 4, 3) := by decide +kernel
theorem d_M_releaseAll_71 : decode b_M_releaseAll 71 = .ok (.iload_n 3, 1) := by decide +kernel
theorem d_M_releaseAll_72 : decode b_M_releaseAll 72 = .ok (.istore_n 3, 1) := by decide +kernel
theorem d_M_releaseAll_73 : decode b_M_releaseAll 73 = .ok (.iinc 4 1, 3) := by decide +kernel
theorem d_M_releaseAll_76 : decode b_M_releaseAll 76 = .ok (.goto (-53), 3) := by decide +kernel
theorem d_M_releaseAll_79 : decode b_M_releaseAll 79 = .ok (.iload_n 3, 1) := by decide +kernel
theorem d_M_releaseAll_80 : decode b_M_releaseAll 80 = .ok (.ifCond .lt 8, 3) := by decide +kernel
theorem d_M_releaseAll_83 : decode b_M_releaseAll 83 = .ok (.aload_n 0, 1) := by decide +kernel
theorem d_M_releaseAll_84 : decode b_M_releaseAll 84 = .ok (.iload_n 3, 1) := by decide +kernel
theorem d_M_releaseAll_85 : decode b_M_releaseAll 85 = .ok (.invokevirtual 179, 3) := by decide +kernel
theorem d_M_releaseAll_88 : decode b_M_releaseAll 88 = .ok (.iinc 2 1, 3) := by decide +kernel
theorem d_M_releaseAll_91 : decode b_M_releaseAll 91 = .ok (.goto (-89), 3) := by decide +kernel
theorem d_M_releaseAll_94 : decode b_M_releaseAll 94 = .ok (.return_, 1) := by decide +kernel
abbrev rm_M_releaseAll : Room := { frames := 4, cells := 0, slots := 0, locals := 92 }
set_option maxRecDepth 100000 in
set_option maxHeartbeats 4000000 in
theorem k_M_releaseAll_72 {p : Program} {l : Launch} {e : Env} {s : State} {m : MethodId} {args : Array Value} {below : List Frame} {meth : Method} {c : Code} {t : TY} {a0 : Nat} {K : GS → Prop} {r2 : Int32 → Int32 → GS → Prop} {r23 : Int32 → Int32 → Int32 → Int32 → GS → Prop} (X : kX p s m args meth c b_M_releaseAll 5 "TreeServerModel" t) (hret : meth.sig.returnType = none) (hr_2 : ∀ (l1 : Int32) (l2 : Int32) (G : GS), r2 l1 l2 G → kW p l e rm_M_releaseAll s m args below meth c (MQ below (va_Qv (fun u : GS => K u) (fun u T => HB t u T.heap) (tA t)) args s 0 0 (tA t)) 5 t false 2 [(0, va_rf (some a0)), (1, .int l1), (2, .int l2)] [] G) (hr_23 : ∀ (l1 : Int32) (l2 : Int32) (l3 : Int32) (l4 : Int32) (G : GS), r23 l1 l2 l3 l4 G → kW p l e rm_M_releaseAll s m args below meth c (MQ below (va_Qv (fun u : GS => K u) (fun u T => HB t u T.heap) (tA t)) args s 0 0 (tA t)) 5 t false 23 [(0, va_rf (some a0)), (1, .int l1), (2, .int l2), (3, .int l3), (4, .int l4)] [] G) (l1 : Int32) (l2 : Int32) (l4 : Int32) (s0 : Int32) (G : GS) (hwp : w_M_releaseAll_72 t a0 K r2 r23 l1 l2 l4 s0 G) : kW p l e rm_M_releaseAll s m args below meth c (MQ below (va_Qv (fun u : GS => K u) (fun u T => HB t u T.heap) (tA t)) args s 0 0 (tA t)) 5 t false 72 [(0, va_rf (some a0)), (1, .int l1), (2, .int l2), (4, .int l4)] [.int s0] G := by
  unfold w_M_releaseAll_72 at hwp
  refine kw_istore_n (i := 3) (lv' := [(3, .int s0), (0, va_rf (some a0)), (1, .int l1), (2, .int l2), (4, .int l4)]) (pc := 72) X d_M_releaseAll_72 rfl (by decide) rfl ?_
  obtain ⟨v1, e_v1⟩ : ∃ z, z = (l4 + (1 : Int32)) := ⟨_, rfl⟩
  have hwp := hwp v1 e_v1
  refine kw_iinc (v := v1) (lv' := [(4, .int v1), (3, .int s0), (0, va_rf (some a0)), (1, .int l1), (2, .int l2)]) (pc := 73) X d_M_releaseAll_73 4 rfl (by rw [e_v1]; rfl) (by decide) rfl ?_
  refine kw_goto (tgt := 23) (pc := 76) X d_M_releaseAll_76 (by decide) ?_
  exact kW.sub [2, 3, 4, 1, 0] rfl (hr_23 _ _ _ _ _ hwp)
set_option maxRecDepth 100000 in
set_option maxHeartbeats 4000000 in
theorem k_M_releaseAll_71 {p : Program} {l : Launch} {e : Env} {s : State} {m : MethodId} {args : Array Value} {below : List Frame} {meth : Method} {c : Code} {t : TY} {a0 : Nat} {K : GS → Prop} {r2 : Int32 → Int32 → GS → Prop} {r23 : Int32 → Int32 → Int32 → Int32 → GS → Prop} (X : kX p s m args meth c b_M_releaseAll 5 "TreeServerModel" t) (hret : meth.sig.returnType = none) (hr_2 : ∀ (l1 : Int32) (l2 : Int32) (G : GS), r2 l1 l2 G → kW p l e rm_M_releaseAll s m args below meth c (MQ below (va_Qv (fun u : GS => K u) (fun u T => HB t u T.heap) (tA t)) args s 0 0 (tA t)) 5 t false 2 [(0, va_rf (some a0)), (1, .int l1), (2, .int l2)] [] G) (hr_23 : ∀ (l1 : Int32) (l2 : Int32) (l3 : Int32) (l4 : Int32) (G : GS), r23 l1 l2 l3 l4 G → kW p l e rm_M_releaseAll s m args below meth c (MQ below (va_Qv (fun u : GS => K u) (fun u T => HB t u T.heap) (tA t)) args s 0 0 (tA t)) 5 t false 23 [(0, va_rf (some a0)), (1, .int l1), (2, .int l2), (3, .int l3), (4, .int l4)] [] G) (l1 : Int32) (l2 : Int32) (l3 : Int32) (l4 : Int32) (G : GS) (hwp : w_M_releaseAll_71 t a0 K r2 r23 l1 l2 l3 l4 G) : kW p l e rm_M_releaseAll s m args below meth c (MQ below (va_Qv (fun u : GS => K u) (fun u T => HB t u T.heap) (tA t)) args s 0 0 (tA t)) 5 t false 71 [(0, va_rf (some a0)), (1, .int l1), (2, .int l2), (3, .int l3), (4, .int l4)] [] G := by
  unfold w_M_releaseAll_71 at hwp
  refine kw_iload_n (pc := 71) X d_M_releaseAll_71 rfl 3 rfl ?_
  exact kW.sub [0, 1, 2, 4] rfl (k_M_releaseAll_72 X hret hr_2 hr_23 _ _ _ _ _ hwp)
set_option maxRecDepth 100000 in
set_option maxHeartbeats 4000000 in
theorem k_M_releaseAll_66 {p : Program} {l : Launch} {e : Env} {s : State} {m : MethodId} {args : Array Value} {below : List Frame} {meth : Method} {c : Code} {t : TY} {a0 : Nat} {K : GS → Prop} {r2 : Int32 → Int32 → GS → Prop} {r23 : Int32 → Int32 → Int32 → Int32 → GS → Prop} (X : kX p s m args meth c b_M_releaseAll 5 "TreeServerModel" t) (hret : meth.sig.returnType = none) (hr_2 : ∀ (l1 : Int32) (l2 : Int32) (G : GS), r2 l1 l2 G → kW p l e rm_M_releaseAll s m args below meth c (MQ below (va_Qv (fun u : GS => K u) (fun u T => HB t u T.heap) (tA t)) args s 0 0 (tA t)) 5 t false 2 [(0, va_rf (some a0)), (1, .int l1), (2, .int l2)] [] G) (hr_23 : ∀ (l1 : Int32) (l2 : Int32) (l3 : Int32) (l4 : Int32) (G : GS), r23 l1 l2 l3 l4 G → kW p l e rm_M_releaseAll s m args below meth c (MQ below (va_Qv (fun u : GS => K u) (fun u T => HB t u T.heap) (tA t)) args s 0 0 (tA t)) 5 t false 23 [(0, va_rf (some a0)), (1, .int l1), (2, .int l2), (3, .int l3), (4, .int l4)] [] G) (l1 : Int32) (l2 : Int32) (l4 : Int32) (G : GS) (hwp : w_M_releaseAll_66 t a0 K r2 r23 l1 l2 l4 G) : kW p l e rm_M_releaseAll s m args below meth c (MQ below (va_Qv (fun u : GS => K u) (fun u T => HB t u T.heap) (tA t)) args s 0 0 (tA t)) 5 t false 66 [(0, va_rf (some a0)), (1, .int l1), (2, .int l2), (4, .int l4)] [] G := by
  unfold w_M_releaseAll_66 at hwp
  refine kw_iload (pc := 66) X d_M_releaseAll_66 3 rfl ?_
  refine kw_goto (tgt := 72) (pc := 68) X d_M_releaseAll_68 (by decide) ?_
  exact kW.sub [0, 1, 2, 3] rfl (k_M_releaseAll_72 X hret hr_2 hr_23 _ _ _ _ _ hwp)
set_option maxRecDepth 100000 in
set_option maxHeartbeats 4000000 in
theorem k_M_releaseAll_23 {p : Program} {l : Launch} {e : Env} {s : State} {m : MethodId} {args : Array Value} {below : List Frame} {meth : Method} {c : Code} {t : TY} {a0 : Nat} {K : GS → Prop} {r2 : Int32 → Int32 → GS → Prop} (X : kX p s m args meth c b_M_releaseAll 5 "TreeServerModel" t) (hret : meth.sig.returnType = none) (hr_2 : ∀ (l1 : Int32) (l2 : Int32) (G : GS), r2 l1 l2 G → kW p l e rm_M_releaseAll s m args below meth c (MQ below (va_Qv (fun u : GS => K u) (fun u T => HB t u T.heap) (tA t)) args s 0 0 (tA t)) 5 t false 2 [(0, va_rf (some a0)), (1, .int l1), (2, .int l2)] [] G) : ∀ (n : Nat) (l1 : Int32) (l2 : Int32) (l3 : Int32) (l4 : Int32) (G : GS), w_M_releaseAll_23 t a0 K r2 n l1 l2 l3 l4 G → kW p l e rm_M_releaseAll s m args below meth c (MQ below (va_Qv (fun u : GS => K u) (fun u T => HB t u T.heap) (tA t)) args s 0 0 (tA t)) 5 t false 23 [(0, va_rf (some a0)), (1, .int l1), (2, .int l2), (3, .int l3), (4, .int l4)] [] G := by
  intro n
  induction n with
  | zero => intro l1 l2 l3 l4 G hwp; exact hwp.elim
  | succ n hr_23 =>
    intro l1 l2 l3 l4 G hwp
    unfold w_M_releaseAll_23 at hwp
    dsimp only at hwp
    refine kw_iload (pc := 23) X d_M_releaseAll_23 4 rfl ?_
    refine kw_bipush (v := 6) (pc := 25) X d_M_releaseAll_25 (by decide) ?_
    refine kw_iload_n (pc := 27) X d_M_releaseAll_27 rfl 1 rfl ?_
    refine kw_imul (pc := 28) X d_M_releaseAll_28 ?_
    refine kw_bipush (v := 6) (pc := 29) X d_M_releaseAll_29 (by decide) ?_
    refine kw_iadd (pc := 31) X d_M_releaseAll_31 ?_
    refine kw_icmp_ge (tgt := 79) (pc := 32) X d_M_releaseAll_32 (by decide) (fun h => ?_) (fun h => ?_)
    · have hwp := ite_t h hwp
      refine kw_iload_n (pc := 79) X d_M_releaseAll_79 rfl 3 rfl ?_
      refine kw_if_lt (tgt := 88) (pc := 80) X d_M_releaseAll_80 (by decide) (fun h => ?_) (fun h => ?_)
      · have hwp := ite_t h hwp
        obtain ⟨v1, e_v1⟩ : ∃ z, z = (l2 + (1 : Int32)) := ⟨_, rfl⟩
        have hwp := hwp v1 e_v1
        refine kw_iinc (v := v1) (lv' := [(2, .int v1), (0, va_rf (some a0)), (1, .int l1), (3, .int l3), (4, .int l4)]) (pc := 88) X d_M_releaseAll_88 2 rfl (by rw [e_v1]; rfl) (by decide) rfl ?_
        refine kw_goto (tgt := 2) (pc := 91) X d_M_releaseAll_91 (by decide) ?_
        exact kW.sub [1, 2, 0] rfl (hr_2 _ _ _ hwp)
      · have hwp := ite_f h hwp
        refine kw_aload_n (pc := 83) X d_M_releaseAll_83 rfl 0 rfl ?_
        refine kw_iload_n (pc := 84) X d_M_releaseAll_84 rfl 3 rfl ?_
        obtain ⟨f2, hwp⟩ := hwp
        refine kcV_v (n := 1) (As := [.int l3]) (rest := []) (pc := 85) X rfl (c_M_release l t G a0 l3 _) (cwV_of (C := "TreeServerModel") X x_1103 x_1100 x_1102 xp_39 x_13 (by decide +kernel) ⟨rfl, rfl⟩ (by decide)) (rv_10 X f2) rfl rfl (by decide) d_M_releaseAll_85 hwp (fun G3 hwp => ?_)
        obtain ⟨v4, e_v4⟩ : ∃ z, z = (l2 + (1 : Int32)) := ⟨_, rfl⟩
        have hwp := hwp v4 e_v4
        refine kw_iinc (v := v4) (lv' := [(2, .int v4), (0, va_rf (some a0)), (1, .int l1), (3, .int l3), (4, .int l4)]) (pc := 88) X d_M_releaseAll_88 2 rfl (by rw [e_v4]; rfl) (by decide) rfl ?_
        refine kw_goto (tgt := 2) (pc := 91) X d_M_releaseAll_91 (by decide) ?_
        exact kW.sub [1, 2, 0] rfl (hr_2 _ _ _ hwp)
    · have hwp := ite_f h hwp
      refine kw_aload_n (pc := 35) X d_M_releaseAll_35 rfl 0 rfl ?_
      obtain ⟨f5, hwp⟩ := hwp
      refine kg_86 (a := a0) (pc := 36) X d_M_releaseAll_36 x_1006 rfl f5 ?_
      refine kw_iload (pc := 39) X d_M_releaseAll_39 4 rfl ?_
      obtain ⟨a6, h_a6, hwp⟩ := hwp
      obtain ⟨f7, hwp⟩ := hwp
      obtain ⟨f8, hwp⟩ := hwp
      refine ka_zald (a := a6) (pc := 41) X d_M_releaseAll_41 h_a6 f7 f8 ?_
      refine kw_if_eq (tgt := 71) (pc := 42) X d_M_releaseAll_42 (by decide) (fun h => ?_) (fun h => ?_)
      · have hwp := ite_t h hwp
        exact kW.sub [0, 1, 2, 3, 4] rfl (k_M_releaseAll_71 X hret hr_2 hr_23 _ _ _ _ _ hwp)
      · have hwp := ite_f h hwp
        refine kw_iload_n (pc := 45) X d_M_releaseAll_45 rfl 3 rfl ?_
        refine kw_if_lt (tgt := 66) (pc := 46) X d_M_releaseAll_46 (by decide) (fun h => ?_) (fun h => ?_)
        · have hwp := ite_t h hwp
          exact kW.sub [0, 1, 2, 4] rfl (k_M_releaseAll_66 X hret hr_2 hr_23 _ _ _ _ hwp)
        · have hwp := ite_f h hwp
          refine kw_aload_n (pc := 49) X d_M_releaseAll_49 rfl 0 rfl ?_
          refine kg_87 (a := a0) (pc := 50) X d_M_releaseAll_50 x_1007 rfl f5 ?_
          refine kw_iload (pc := 53) X d_M_releaseAll_53 4 rfl ?_
          obtain ⟨a9, h_a9, hwp⟩ := hwp
          obtain ⟨f10, hwp⟩ := hwp
          obtain ⟨f11, hwp⟩ := hwp
          refine ka_lald (a := a9) (pc := 55) X d_M_releaseAll_55 h_a9 f10 f11 ?_
          refine kw_aload_n (pc := 56) X d_M_releaseAll_56 rfl 0 rfl ?_
          refine kg_87 (a := a0) (pc := 57) X d_M_releaseAll_57 x_1007 rfl f5 ?_
          refine kw_iload_n (pc := 60) X d_M_releaseAll_60 rfl 3 rfl ?_
          obtain ⟨f12, hwp⟩ := hwp
          refine ka_lald (a := a9) (pc := 61) X d_M_releaseAll_61 h_a9 f10 f12 ?_
          refine kw_lcmp_ge (tgt := 71) (pc := 62) X d_M_releaseAll_62 d_M_releaseAll_63 (by decide) (fun h => ?_) (fun h => ?_)
          · have hwp := ite_t h hwp
            exact kW.sub [0, 1, 2, 3, 4] rfl (k_M_releaseAll_71 X hret hr_2 hr_23 _ _ _ _ _ hwp)
          · have hwp := ite_f h hwp
            exact kW.sub [0, 1, 2, 4] rfl (k_M_releaseAll_66 X hret hr_2 hr_23 _ _ _ _ hwp)
set_option maxRecDepth 100000 in
set_option maxHeartbeats 4000000 in
theorem k_M_releaseAll_2 {p : Program} {l : Launch} {e : Env} {s : State} {m : MethodId} {args : Array Value} {below : List Frame} {meth : Method} {c : Code} {t : TY} {a0 : Nat} {K : GS → Prop} (X : kX p s m args meth c b_M_releaseAll 5 "TreeServerModel" t) (hret : meth.sig.returnType = none) : ∀ (n : Nat) (l1 : Int32) (l2 : Int32) (G : GS), w_M_releaseAll_2 t a0 K n l1 l2 G → kW p l e rm_M_releaseAll s m args below meth c (MQ below (va_Qv (fun u : GS => K u) (fun u T => HB t u T.heap) (tA t)) args s 0 0 (tA t)) 5 t false 2 [(0, va_rf (some a0)), (1, .int l1), (2, .int l2)] [] G := by
  intro n
  induction n with
  | zero => intro l1 l2 G hwp; exact hwp.elim
  | succ n hr_2 =>
    intro l1 l2 G hwp
    unfold w_M_releaseAll_2 at hwp
    dsimp only at hwp
    refine kw_iload_n (pc := 2) X d_M_releaseAll_2 rfl 2 rfl ?_
    refine kw_bipush (v := 6) (pc := 3) X d_M_releaseAll_3 (by decide) ?_
    refine kw_icmp_ge (tgt := 94) (pc := 5) X d_M_releaseAll_5 (by decide) (fun h => ?_) (fun h => ?_)
    · have hwp := ite_t h hwp
      exact kr_v (pc := 94) X hret d_M_releaseAll_94 hwp
    · have hwp := ite_f h hwp
      refine kw_aload_n (pc := 8) X d_M_releaseAll_8 rfl 0 rfl ?_
      obtain ⟨f1, hwp⟩ := hwp
      refine kg_75 (a := a0) (pc := 9) X d_M_releaseAll_9 x_995 rfl f1 ?_
      refine kw_if_ne (tgt := 94) (pc := 12) X d_M_releaseAll_12 (by decide) (fun h => ?_) (fun h => ?_)
      · have hwp := ite_t h hwp
        exact kr_v (pc := 94) X hret d_M_releaseAll_94 hwp
      · have hwp := ite_f (not_not_intro h) hwp
        refine kw_iconst (v := -1) (pc := 15) X d_M_releaseAll_15 (by decide) ?_
        refine kw_istore_n (i := 3) (lv' := [(3, .int (-1 : Int32)), (0, va_rf (some a0)), (1, .int l1), (2, .int l2)]) (pc := 16) X d_M_releaseAll_16 rfl (by decide) rfl ?_
        refine kw_bipush (v := 6) (pc := 17) X d_M_releaseAll_17 (by decide) ?_
        refine kw_iload_n (pc := 19) X d_M_releaseAll_19 rfl 2 rfl ?_
        refine kw_imul (pc := 20) X d_M_releaseAll_20 ?_
        obtain ⟨v2, e_v2⟩ : ∃ z, z = ((6 : Int32) * l1) := ⟨_, rfl⟩
        have hwp := hwp v2 e_v2
        refine kW.st (st' := .int v2 :: _) (by rw [e_v2]) ?_
        refine kw_istore (i := 4) (lv' := [(4, .int v2), (3, .int (-1 : Int32)), (0, va_rf (some a0)), (1, .int l1), (2, .int l2)]) (pc := 21) X d_M_releaseAll_21 (by decide) rfl ?_
        obtain ⟨n, hwp⟩ := hwp
        exact kW.sub [2, 3, 4, 1, 0] rfl (k_M_releaseAll_23 X hret hr_2 n _ _ _ _ _ hwp)
set_option maxRecDepth 100000 in
set_option maxHeartbeats 4000000 in
theorem k_M_releaseAll {p : Program} {l : Launch} {e : Env} {s : State} {m : MethodId} {args : Array Value} {below : List Frame} {meth : Method} {c : Code} {t : TY} {a0 : Nat} {K : GS → Prop} (X : kX p s m args meth c b_M_releaseAll 5 "TreeServerModel" t) (hret : meth.sig.returnType = none) (G : GS) (p1 : Int32) (hwp : w_M_releaseAll t G a0 p1 K) : kW p l e rm_M_releaseAll s m args below meth c (MQ below (va_Qv (fun u : GS => K u) (fun u T => HB t u T.heap) (tA t)) args s 0 0 (tA t)) 5 t false 0 [(0, va_rf (some a0)), (1, .int p1)] [] G := by
  unfold w_M_releaseAll at hwp
  refine kw_iconst (v := 0) (pc := 0) X d_M_releaseAll_0 (by decide) ?_
  refine kw_istore_n (i := 2) (lv' := [(2, .int (0 : Int32)), (0, va_rf (some a0)), (1, .int p1)]) (pc := 1) X d_M_releaseAll_1 rfl (by decide) rfl ?_
  obtain ⟨n, hwp⟩ := hwp
  exact kW.sub [1, 2, 0] rfl (k_M_releaseAll_2 X hret  n _ _ _ hwp)
set_option maxRecDepth 100000 in
set_option maxHeartbeats 4000000 in
theorem c_M_releaseAll (l : Launch) (t : TY) (G : GS) (a0 : Nat) (p1 : Int32) (K : GS → Prop) : Met l y_M_releaseAll (Cond.code y_M_releaseAll b_M_releaseAll 5 (Option.none : Option Jvm.ClassFile.FieldType) :: GW) rm_M_releaseAll (va_Pc [.ref a0, .int p1] (fun U => HB t G U.heap ∧ HK t U ∧ w_M_releaseAll t G a0 p1 K)) (va_Qv (fun u : GS => K u) (fun u T => HB t u T.heap) (tA t)) 0 0 (tA t) := by
  refine Met.ofW (cc := b_M_releaseAll) (maxL := 5) (ret := none) (by decide) rfl ?_
  intro p e s m args below meth c s₁ B hml hv
  obtain ⟨rfl, hB, hK, hwp⟩ := hv
  have hts := atoms_spec (ws := Cond.code y_M_releaseAll b_M_releaseAll 5 (Option.none : Option Jvm.ClassFile.FieldType) :: GW) B.pre
  have X : kX p s m _ meth c b_M_releaseAll 5 "TreeServerModel" t := ⟨B.exec, B.bytes, hml, findClass_of_methodNamed B.named, fun w h => hts w (List.mem_cons_of_mem _ h), B.notSynchronized, hK⟩
  have hZ : kZ t false s G s.heap [] := ⟨hB, va_S.rf, fun _ => ⟨rfl, rfl⟩⟩
  rw [lg_entry_eq]
  have hl := lv_entry ([.ref a0, .int p1]) (n := 5) (by simp [lg_sl, rf_cat, cat_i, cat_l, cat_r])
  exact k_M_releaseAll X B.returns _ _ hwp s.heap [] _ hl hZ
abbrev b_M_isType : ByteArray := prog_13_method_39_code
def y_M_isType : MethodName := ⟨"TreeServerModel", "isType", "(I)Z"⟩
theorem d_M_isType_0 : decode b_M_isType 0 = .ok (.iload_n 0, 1) := by decide +kernel
theorem d_M_isType_1 : decode b_M_isType 1 = .ok (.bipush 100, 2) := by decide +kernel
theorem d_M_isType_3 : decode b_M_isType 3 = .ok (.if_icmp .eq 39, 3) := by decide +kernel
theorem d_M_isType_6 : decode b_M_isType 6 = .ok (.iload_n 0, 1) := by decide +kernel
theorem d_M_isType_7 : decode b_M_isType 7 = .ok (.bipush 102, 2) := by decide +kernel
theorem d_M_isType_9 : decode b_M_isType 9 = .ok (.if_icmp .eq 33, 3) := by decide +kernel
theorem d_M_isType_12 : decode b_M_isType 12 = .ok (.iload_n 0, 1) := by decide +kernel
theorem d_M_isType_13 : decode b_M_isType 13 = .ok (.bipush 104, 2) := by decide +kernel
theorem d_M_isType_15 : decode b_M_isType 15 = .ok (.if_icmp .eq 27, 3) := by decide +kernel
theorem d_M_isType_18 : decode b_M_isType 18 = .ok (.iload_n 0, 1) := by decide +kernel
theorem d_M_isType_19 : decode b_M_isType 19 = .ok (.bipush 108, 2) := by decide +kernel
theorem d_M_isType_21 : decode b_M_isType 21 = .ok (.if_icmp .eq 21, 3) := by decide +kernel
theorem d_M_isType_24 : decode b_M_isType 24 = .ok (.iload_n 0, 1) := by decide +kernel
theorem d_M_isType_25 : decode b_M_isType 25 = .ok (.bipush 110, 2) := by decide +kernel
theorem d_M_isType_27 : decode b_M_isType 27 = .ok (.if_icmp .lt 19, 3) := by decide +kernel
theorem d_M_isType_30 : decode b_M_isType 30 = .ok (.iload_n 0, 1) := by decide +kernel
theorem d_M_isType_31 : decode b_M_isType 31 = .ok (.bipush 126, 2) := by decide +kernel
theorem d_M_isType_33 : decode b_M_isType 33 = .ok (.if_icmp .gt 13, 3) := by decide +kernel
theorem d_M_isType_36 : decode b_M_isType 36 = .ok (.iload_n 0, 1) := by decide +kernel
theorem d_M_isType_37 : decode b_M_isType 37 = .ok (.iconst 2, 1) := by decide +kernel
theorem d_M_isType_38 : decode b_M_isType 38 = .ok (.irem, 1) := by decide +kernel
theorem d_M_isType_39 : decode b_M_isType 39 = .ok (.ifCond .ne 7, 3) := by decide +kernel
theorem d_M_isType_42 : decode b_M_isType 42 = .ok (.iconst 1, 1) := by decide +kernel
theorem d_M_isType_43 : decode b_M_isType 43 = .ok (.goto 4, 3) := by decide +kernel
theorem d_M_isType_46 : decode b_M_isType 46 = .ok (.iconst 0, 1) := by decide +kernel
theorem d_M_isType_47 : decode b_M_isType 47 = .ok (.ireturn, 1) := by decide +kernel
abbrev rm_M_isType : Room := { frames := 0, cells := 0, slots := 0, locals := 0 }
set_option maxRecDepth 100000 in
set_option maxHeartbeats 4000000 in
theorem k_M_isType {p : Program} {l : Launch} {e : Env} {s : State} {m : MethodId} {args : Array Value} {below : List Frame} {meth : Method} {c : Code} {t : TY} {G : GS} {K : Int32 → Prop} (X : kX p s m args meth c b_M_isType 1 "TreeServerModel" t) (hret : meth.sig.returnType = some .boolean) (p0 : Int32) (hwp : w_M_isType t G p0 K) : kW p l e rm_M_isType s m args below meth c (MQ below (vp_Si (fun r => isB r ∧ K r)) args s 0 0 (fun _ => False)) 1 t true 0 [(0, .int p0)] [] G := by
  unfold w_M_isType at hwp
  refine kw_iload_n (pc := 0) X d_M_isType_0 rfl 0 rfl ?_
  refine kw_bipush (v := 100) (pc := 1) X d_M_isType_1 (by decide) ?_
  refine kw_icmp_eq (tgt := 42) (pc := 3) X d_M_isType_3 (by decide) (fun h => ?_) (fun h => ?_)
  · have hwp := ite_t h hwp
    refine kw_iconst (v := 1) (pc := 42) X d_M_isType_42 (by decide) ?_
    refine kw_goto (tgt := 47) (pc := 43) X d_M_isType_43 (by decide) ?_
    exact krp_z (pc := 47) X hret d_M_isType_47 (Or.inr rfl) hwp
  · have hwp := ite_f h hwp
    refine kw_iload_n (pc := 6) X d_M_isType_6 rfl 0 rfl ?_
    refine kw_bipush (v := 102) (pc := 7) X d_M_isType_7 (by decide) ?_
    refine kw_icmp_eq (tgt := 42) (pc := 9) X d_M_isType_9 (by decide) (fun h => ?_) (fun h => ?_)
    · have hwp := ite_t h hwp
      refine kw_iconst (v := 1) (pc := 42) X d_M_isType_42 (by decide) ?_
      refine kw_goto (tgt := 47) (pc := 43) X d_M_isType_43 (by decide) ?_
      exact krp_z (pc := 47) X hret d_M_isType_47 (Or.inr rfl) hwp
    · have hwp := ite_f h hwp
      refine kw_iload_n (pc := 12) X d_M_isType_12 rfl 0 rfl ?_
      refine kw_bipush (v := 104) (pc := 13) X d_M_isType_13 (by decide) ?_
      refine kw_icmp_eq (tgt := 42) (pc := 15) X d_M_isType_15 (by decide) (fun h => ?_) (fun h => ?_)
      · have hwp := ite_t h hwp
        refine kw_iconst (v := 1) (pc := 42) X d_M_isType_42 (by decide) ?_
        refine kw_goto (tgt := 47) (pc := 43) X d_M_isType_43 (by decide) ?_
        exact krp_z (pc := 47) X hret d_M_isType_47 (Or.inr rfl) hwp
      · have hwp := ite_f h hwp
        refine kw_iload_n (pc := 18) X d_M_isType_18 rfl 0 rfl ?_
        refine kw_bipush (v := 108) (pc := 19) X d_M_isType_19 (by decide) ?_
        refine kw_icmp_eq (tgt := 42) (pc := 21) X d_M_isType_21 (by decide) (fun h => ?_) (fun h => ?_)
        · have hwp := ite_t h hwp
          refine kw_iconst (v := 1) (pc := 42) X d_M_isType_42 (by decide) ?_
          refine kw_goto (tgt := 47) (pc := 43) X d_M_isType_43 (by decide) ?_
          exact krp_z (pc := 47) X hret d_M_isType_47 (Or.inr rfl) hwp
        · have hwp := ite_f h hwp
          refine kw_iload_n (pc := 24) X d_M_isType_24 rfl 0 rfl ?_
          refine kw_bipush (v := 110) (pc := 25) X d_M_isType_25 (by decide) ?_
          refine kw_icmp_lt (tgt := 46) (pc := 27) X d_M_isType_27 (by decide) (fun h => ?_) (fun h => ?_)
          · have hwp := ite_t h hwp
            refine kw_iconst (v := 0) (pc := 46) X d_M_isType_46 (by decide) ?_
            exact krp_z (pc := 47) X hret d_M_isType_47 (Or.inl rfl) hwp
          · have hwp := ite_f h hwp
            refine kw_iload_n (pc := 30) X d_M_isType_30 rfl 0 rfl ?_
            refine kw_bipush (v := 126) (pc := 31) X d_M_isType_31 (by decide) ?_
            refine kw_icmp_gt (tgt := 46) (pc := 33) X d_M_isType_33 (by decide) (fun h => ?_) (fun h => ?_)
            · have hwp := ite_t h hwp
              refine kw_iconst (v := 0) (pc := 46) X d_M_isType_46 (by decide) ?_
              exact krp_z (pc := 47) X hret d_M_isType_47 (Or.inl rfl) hwp
            · have hwp := ite_f h hwp
              refine kw_iload_n (pc := 36) X d_M_isType_36 rfl 0 rfl ?_
              refine kw_iconst (v := 2) (pc := 37) X d_M_isType_37 (by decide) ?_
              refine kw_irem (pc := 38) X d_M_isType_38 (by decide) ?_
              refine kw_if_ne (tgt := 46) (pc := 39) X d_M_isType_39 (by decide) (fun h => ?_) (fun h => ?_)
              · have hwp := ite_t h hwp
                refine kw_iconst (v := 0) (pc := 46) X d_M_isType_46 (by decide) ?_
                exact krp_z (pc := 47) X hret d_M_isType_47 (Or.inl rfl) hwp
              · have hwp := ite_f (not_not_intro h) hwp
                refine kw_iconst (v := 1) (pc := 42) X d_M_isType_42 (by decide) ?_
                refine kw_goto (tgt := 47) (pc := 43) X d_M_isType_43 (by decide) ?_
                exact krp_z (pc := 47) X hret d_M_isType_47 (Or.inr rfl) hwp
set_option maxRecDepth 100000 in
set_option maxHeartbeats 4000000 in
theorem c_M_isType (l : Launch) (t : TY) (G : GS) (p0 : Int32) (K : Int32 → Prop) : Met l y_M_isType (Cond.code y_M_isType b_M_isType 1 (Option.some Jvm.ClassFile.FieldType.boolean) :: GW) rm_M_isType (va_Pc [.int p0] (fun U => HB t G U.heap ∧ HK t U ∧ w_M_isType t G p0 K)) (vp_Si (fun r => isB r ∧ K r)) 0 0 (fun _ => False) := by
  refine Met.ofW (cc := b_M_isType) (maxL := 1) (ret := some .boolean) (by decide) rfl ?_
  intro p e s m args below meth c s₁ B hml hv
  obtain ⟨rfl, hB, hK, hwp⟩ := hv
  have hts := atoms_spec (ws := Cond.code y_M_isType b_M_isType 1 (Option.some Jvm.ClassFile.FieldType.boolean) :: GW) B.pre
  have X : kX p s m _ meth c b_M_isType 1 "TreeServerModel" t := ⟨B.exec, B.bytes, hml, findClass_of_methodNamed B.named, fun w h => hts w (List.mem_cons_of_mem _ h), B.notSynchronized, hK⟩
  have hZ : kZ t true s G s.heap [] := ⟨hB, va_S.rf, fun _ => ⟨rfl, rfl⟩⟩
  rw [lg_entry_eq]
  have hl := lv_entry ([.int p0]) (n := 1) (by simp [lg_sl, rf_cat, cat_i, cat_l, cat_r])
  exact k_M_isType X B.returns _ hwp s.heap [] _ hl hZ
abbrev b_M_isStat : ByteArray := prog_13_method_42_code
def y_M_isStat : MethodName := ⟨"TreeServerModel", "isStat", "()Z"⟩
theorem d_M_isStat_0 : decode b_M_isStat 0 = .ok (.aload_n 0, 1) := by decide +kernel
theorem d_M_isStat_1 : decode b_M_isStat 1 = .ok (.getfield 187, 3) := by decide +kernel
theorem d_M_isStat_4 : decode b_M_isStat 4 = .ok (.bipush 56, 2) := by decide +kernel
theorem d_M_isStat_6 : decode b_M_isStat 6 = .ok (.if_icmp .lt 22, 3) := by decide +kernel
theorem d_M_isStat_9 : decode b_M_isStat 9 = .ok (.aload_n 0, 1) := by decide +kernel
theorem d_M_isStat_10 : decode b_M_isStat 10 = .ok (.bipush 13, 2) := by decide +kernel
theorem d_M_isStat_12 : decode b_M_isStat 12 = .ok (.iconst 2, 1) := by decide +kernel
theorem d_M_isStat_13 : decode b_M_isStat 13 = .ok (.invokevirtual 85, 3) := by decide +kernel
theorem d_M_isStat_16 : decode b_M_isStat 16 = .ok (.aload_n 0, 1) := by decide +kernel
theorem d_M_isStat_17 : decode b_M_isStat 17 = .ok (.getfield 187, 3) := by decide +kernel
theorem d_M_isStat_20 : decode b_M_isStat 20 = .ok (.bipush 15, 2) := by decide +kernel
theorem d_M_isStat_22 : decode b_M_isStat 22 = .ok (.isub, 1) := by decide +kernel
theorem d_M_isStat_23 : decode b_M_isStat 23 = .ok (.i2l, 1) := by decide +kernel
theorem d_M_isStat_24 : decode b_M_isStat 24 = .ok (.lcmp, 1) := by decide +kernel
theorem d_M_isStat_25 : decode b_M_isStat 25 = .ok (.ifCond .eq 5, 3) := by decide +kernel
theorem d_M_isStat_28 : decode b_M_isStat 28 = .ok (.iconst 0, 1) := by decide +kernel
theorem d_M_isStat_29 : decode b_M_isStat 29 = .ok (.ireturn, 1) := by decide +kernel
theorem d_M_isStat_30 : decode b_M_isStat 30 = .ok (.bipush 54, 2) := by decide +kernel
theorem d_M_isStat_32 : decode b_M_isStat 32 = .ok (.istore_n 1, 1) := by decide +kernel
theorem d_M_isStat_33 : decode b_M_isStat 33 = .ok (.iconst 0, 1) := by decide +kernel
theorem d_M_isStat_34 : decode b_M_isStat 34 = .ok (.istore_n 2, 1) := by decide +kernel
theorem d_M_isStat_35 : decode b_M_isStat 35 = .ok (.iload_n 2, 1) := by decide +kernel
theorem d_M_isStat_36 : decode b_M_isStat 36 = .ok (.iconst 4, 1) := by decide +kernel
theorem d_M_isStat_37 : decode b_M_isStat 37 = .ok (.if_icmp .ge 19, 3) := by decide +kernel
theorem d_M_isStat_40 : decode b_M_isStat 40 = .ok (.aload_n 0, 1) := by decide +kernel
theorem d_M_isStat_41 : decode b_M_isStat 41 = .ok (.iload_n 1, 1) := by decide +kernel
theorem d_M_isStat_42 : decode b_M_isStat 42 = .ok (.aload_n 0, 1) := by decide +kernel
theorem d_M_isStat_43 : decode b_M_isStat 43 = .ok (.getfield 187, 3) := by decide +kernel
theorem d_M_isStat_46 : decode b_M_isStat 46 = .ok (.invokevirtual 200, 3) := by decide +kernel
theorem d_M_isStat_49 : decode b_M_isStat 49 = .ok (.istore_n 1, 1) := by decide +kernel
theorem d_M_isStat_50 : decode b_M_isStat 50 = .ok (.iinc 2 1, 3) := by decide +kernel
theorem d_M_isStat_53 : decode b_M_isStat 53 = .ok (.goto (-18), 3) := by decide +kernel
theorem d_M_isStat_56 : decode b_M_isStat 56 = .ok (.iload_n 1, 1) := by decide +kernel
theorem d_M_isStat_57 : decode b_M_isStat 57 = .ok (.aload_n 0, 1) := by decide +kernel
theorem d_M_isStat_58 : decode b_M_isStat 58 = .ok (.getfield 187, 3) := by decide +kernel
theorem d_M_isStat_61 : decode b_M_isStat 61 = .ok (.if_icmp .ne 7, 3) := by decide +kernel
theorem d_M_isStat_64 : decode b_M_isStat 64 = .ok (.iconst 1, 1) := by decide +kernel
theorem d_M_isStat_65 : decode b_M_isStat 65 = .ok (.goto 4, 3) := by decide +kernel
theorem d_M_isStat_68 : decode b_M_isStat 68 = .ok (.iconst 0, 1) := by decide +kernel
theorem d_M_isStat_69 : decode b_M_isStat 69 = .ok (.ireturn, 1) := by decide +kernel
abbrev rm_M_isStat : Room := { frames := 2, cells := 0, slots := 0, locals := 48 }
set_option maxRecDepth 100000 in
set_option maxHeartbeats 4000000 in
theorem k_M_isStat_35 {p : Program} {l : Launch} {e : Env} {s : State} {m : MethodId} {args : Array Value} {below : List Frame} {meth : Method} {c : Code} {t : TY} {a0 : Nat} {G : GS} {K : Int32 → Prop} (X : kX p s m args meth c b_M_isStat 3 "TreeServerModel" t) (hret : meth.sig.returnType = some .boolean) : ∀ (n : Nat) (l1 : Int32) (l2 : Int32), w_M_isStat_35 t G a0 K n l1 l2 → kW p l e rm_M_isStat s m args below meth c (MQ below (vp_Si (fun r => isB r ∧ K r)) args s 0 0 (fun _ => False)) 3 t true 35 [(0, va_rf (some a0)), (1, .int l1), (2, .int l2)] [] G := by
  intro n
  induction n with
  | zero => intro l1 l2 hwp; exact hwp.elim
  | succ n hr_35 =>
    intro l1 l2 hwp
    unfold w_M_isStat_35 at hwp
    dsimp only at hwp
    refine kw_iload_n (pc := 35) X d_M_isStat_35 rfl 2 rfl ?_
    refine kw_iconst (v := 4) (pc := 36) X d_M_isStat_36 (by decide) ?_
    refine kw_icmp_ge (tgt := 56) (pc := 37) X d_M_isStat_37 (by decide) (fun h => ?_) (fun h => ?_)
    · have hwp := ite_t h hwp
      refine kw_iload_n (pc := 56) X d_M_isStat_56 rfl 1 rfl ?_
      refine kw_aload_n (pc := 57) X d_M_isStat_57 rfl 0 rfl ?_
      obtain ⟨f1, hwp⟩ := hwp
      refine kg_95 (a := a0) (pc := 58) X d_M_isStat_58 x_1015 rfl f1 ?_
      refine kw_icmp_ne (tgt := 68) (pc := 61) X d_M_isStat_61 (by decide) (fun h => ?_) (fun h => ?_)
      · have hwp := ite_t h hwp
        refine kw_iconst (v := 0) (pc := 68) X d_M_isStat_68 (by decide) ?_
        exact krp_z (pc := 69) X hret d_M_isStat_69 (Or.inl rfl) hwp
      · have hwp := ite_f (not_not_intro h) hwp
        refine kw_iconst (v := 1) (pc := 64) X d_M_isStat_64 (by decide) ?_
        refine kw_goto (tgt := 69) (pc := 65) X d_M_isStat_65 (by decide) ?_
        exact krp_z (pc := 69) X hret d_M_isStat_69 (Or.inr rfl) hwp
    · have hwp := ite_f h hwp
      refine kw_aload_n (pc := 40) X d_M_isStat_40 rfl 0 rfl ?_
      refine kw_iload_n (pc := 41) X d_M_isStat_41 rfl 1 rfl ?_
      refine kw_aload_n (pc := 42) X d_M_isStat_42 rfl 0 rfl ?_
      obtain ⟨f2, hwp⟩ := hwp
      refine kg_95 (a := a0) (pc := 43) X d_M_isStat_43 x_1015 rfl f2 ?_
      refine kcVp_i (n := 2) (As := [.int l1, .int (gi G 95 a0)]) (rest := []) (pc := 46) X (c_M_behind l t G a0 l1 (gi G 95 a0) _) (cwV_of (C := "TreeServerModel") X x_1171 x_1168 x_1170 xp_55 x_13 (by decide +kernel) ⟨rfl, rfl⟩ (by decide)) (rv_10 X f2) rfl rfl (by decide) d_M_isStat_46 hwp (fun v3 hwp => ?_)
      refine kw_istore_n (i := 1) (lv' := [(1, .int v3), (0, va_rf (some a0)), (2, .int l2)]) (pc := 49) X d_M_isStat_49 rfl (by decide) rfl ?_
      obtain ⟨v4, e_v4⟩ : ∃ z, z = (l2 + (1 : Int32)) := ⟨_, rfl⟩
      have hwp := hwp v4 e_v4
      refine kw_iinc (v := v4) (lv' := [(2, .int v4), (1, .int v3), (0, va_rf (some a0))]) (pc := 50) X d_M_isStat_50 2 rfl (by rw [e_v4]; rfl) (by decide) rfl ?_
      refine kw_goto (tgt := 35) (pc := 53) X d_M_isStat_53 (by decide) ?_
      exact kW.sub [2, 1, 0] rfl (hr_35 _ _ hwp)
set_option maxRecDepth 100000 in
set_option maxHeartbeats 4000000 in
theorem k_M_isStat {p : Program} {l : Launch} {e : Env} {s : State} {m : MethodId} {args : Array Value} {below : List Frame} {meth : Method} {c : Code} {t : TY} {a0 : Nat} {G : GS} {K : Int32 → Prop} (X : kX p s m args meth c b_M_isStat 3 "TreeServerModel" t) (hret : meth.sig.returnType = some .boolean)  (hwp : w_M_isStat t G a0 K) : kW p l e rm_M_isStat s m args below meth c (MQ below (vp_Si (fun r => isB r ∧ K r)) args s 0 0 (fun _ => False)) 3 t true 0 [(0, va_rf (some a0))] [] G := by
  unfold w_M_isStat at hwp
  refine kw_aload_n (pc := 0) X d_M_isStat_0 rfl 0 rfl ?_
  obtain ⟨f1, hwp⟩ := hwp
  refine kg_95 (a := a0) (pc := 1) X d_M_isStat_1 x_1015 rfl f1 ?_
  refine kw_bipush (v := 56) (pc := 4) X d_M_isStat_4 (by decide) ?_
  refine kw_icmp_lt (tgt := 28) (pc := 6) X d_M_isStat_6 (by decide) (fun h => ?_) (fun h => ?_)
  · have hwp := ite_t h hwp
    refine kw_iconst (v := 0) (pc := 28) X d_M_isStat_28 (by decide) ?_
    exact krp_z (pc := 29) X hret d_M_isStat_29 (Or.inl rfl) hwp
  · have hwp := ite_f h hwp
    refine kw_aload_n (pc := 9) X d_M_isStat_9 rfl 0 rfl ?_
    refine kw_bipush (v := 13) (pc := 10) X d_M_isStat_10 (by decide) ?_
    refine kw_iconst (v := 2) (pc := 12) X d_M_isStat_12 (by decide) ?_
    refine kcVp_l (n := 2) (As := [.int (13 : Int32), .int (2 : Int32)]) (rest := []) (pc := 13) X (c_M_get l t G a0 (13 : Int32) (2 : Int32) _) (cwV_of (C := "TreeServerModel") X x_1175 x_1172 x_1174 xp_56 x_13 (by decide +kernel) ⟨rfl, rfl⟩ (by decide)) (rv_10 X f1) rfl rfl (by decide) d_M_isStat_13 hwp (fun v2 hwp => ?_)
    refine kw_aload_n (pc := 16) X d_M_isStat_16 rfl 0 rfl ?_
    refine kg_95 (a := a0) (pc := 17) X d_M_isStat_17 x_1015 rfl f1 ?_
    refine kw_bipush (v := 15) (pc := 20) X d_M_isStat_20 (by decide) ?_
    refine kw_isub (pc := 22) X d_M_isStat_22 ?_
    refine kw_i2l (pc := 23) X d_M_isStat_23 ?_
    refine kw_lcmp_eq (tgt := 30) (pc := 24) X d_M_isStat_24 d_M_isStat_25 (by decide) (fun h => ?_) (fun h => ?_)
    · have hwp := ite_t h hwp
      refine kw_bipush (v := 54) (pc := 30) X d_M_isStat_30 (by decide) ?_
      refine kw_istore_n (i := 1) (lv' := [(1, .int (54 : Int32)), (0, va_rf (some a0))]) (pc := 32) X d_M_isStat_32 rfl (by decide) rfl ?_
      refine kw_iconst (v := 0) (pc := 33) X d_M_isStat_33 (by decide) ?_
      refine kw_istore_n (i := 2) (lv' := [(2, .int (0 : Int32)), (1, .int (54 : Int32)), (0, va_rf (some a0))]) (pc := 34) X d_M_isStat_34 rfl (by decide) rfl ?_
      obtain ⟨n, hwp⟩ := hwp
      exact kW.sub [2, 1, 0] rfl (k_M_isStat_35 X hret  n _ _ hwp)
    · have hwp := ite_f h hwp
      refine kw_iconst (v := 0) (pc := 28) X d_M_isStat_28 (by decide) ?_
      exact krp_z (pc := 29) X hret d_M_isStat_29 (Or.inl rfl) hwp
set_option maxRecDepth 100000 in
set_option maxHeartbeats 4000000 in
theorem c_M_isStat (l : Launch) (t : TY) (G : GS) (a0 : Nat) (K : Int32 → Prop) : Met l y_M_isStat (Cond.code y_M_isStat b_M_isStat 3 (Option.some Jvm.ClassFile.FieldType.boolean) :: GW) rm_M_isStat (va_Pc [.ref a0] (fun U => HB t G U.heap ∧ HK t U ∧ w_M_isStat t G a0 K)) (vp_Si (fun r => isB r ∧ K r)) 0 0 (fun _ => False) := by
  refine Met.ofW (cc := b_M_isStat) (maxL := 3) (ret := some .boolean) (by decide) rfl ?_
  intro p e s m args below meth c s₁ B hml hv
  obtain ⟨rfl, hB, hK, hwp⟩ := hv
  have hts := atoms_spec (ws := Cond.code y_M_isStat b_M_isStat 3 (Option.some Jvm.ClassFile.FieldType.boolean) :: GW) B.pre
  have X : kX p s m _ meth c b_M_isStat 3 "TreeServerModel" t := ⟨B.exec, B.bytes, hml, findClass_of_methodNamed B.named, fun w h => hts w (List.mem_cons_of_mem _ h), B.notSynchronized, hK⟩
  have hZ : kZ t true s G s.heap [] := ⟨hB, va_S.rf, fun _ => ⟨rfl, rfl⟩⟩
  rw [lg_entry_eq]
  have hl := lv_entry ([.ref a0]) (n := 3) (by simp [lg_sl, rf_cat, cat_i, cat_l, cat_r])
  exact k_M_isStat X B.returns hwp s.heap [] _ hl hZ
abbrev b_M_isWalk : ByteArray := prog_13_method_41_code
def y_M_isWalk : MethodName := ⟨"TreeServerModel", "isWalk", "()Z"⟩
theorem d_M_isWalk_0 : decode b_M_isWalk 0 = .ok (.aload_n 0, 1) := by decide +kernel
theorem d_M_isWalk_1 : decode b_M_isWalk 1 = .ok (.getfield 187, 3) := by decide +kernel
theorem d_M_isWalk_4 : decode b_M_isWalk 4 = .ok (.bipush 17, 2) := by decide +kernel
theorem d_M_isWalk_6 : decode b_M_isWalk 6 = .ok (.if_icmp .lt 17, 3) := by decide +kernel
theorem d_M_isWalk_9 : decode b_M_isWalk 9 = .ok (.aload_n 0, 1) := by decide +kernel
theorem d_M_isWalk_10 : decode b_M_isWalk 10 = .ok (.bipush 15, 2) := by decide +kernel
theorem d_M_isWalk_12 : decode b_M_isWalk 12 = .ok (.iconst 2, 1) := by decide +kernel
theorem d_M_isWalk_13 : decode b_M_isWalk 13 = .ok (.invokevirtual 85, 3) := by decide +kernel
theorem d_M_isWalk_16 : decode b_M_isWalk 16 = .ok (.ldc2_w 210, 3) := by decide +kernel
theorem d_M_isWalk_19 : decode b_M_isWalk 19 = .ok (.lcmp, 1) := by decide +kernel
theorem d_M_isWalk_20 : decode b_M_isWalk 20 = .ok (.ifCond .le 5, 3) := by decide +kernel
theorem d_M_isWalk_23 : decode b_M_isWalk 23 = .ok (.iconst 0, 1) := by decide +kernel
theorem d_M_isWalk_24 : decode b_M_isWalk 24 = .ok (.ireturn, 1) := by decide +kernel
theorem d_M_isWalk_25 : decode b_M_isWalk 25 = .ok (.aload_n 0, 1) := by decide +kernel
theorem d_M_isWalk_26 : decode b_M_isWalk 26 = .ok (.bipush 15, 2) := by decide +kernel
theorem d_M_isWalk_28 : decode b_M_isWalk 28 = .ok (.iconst 2, 1) := by decide +kernel
theorem d_M_isWalk_29 : decode b_M_isWalk 29 = .ok (.invokevirtual 85, 3) := by decide +kernel
theorem d_M_isWalk_32 : decode b_M_isWalk 32 = .ok (.l2i, 1) := by decide +kernel
theorem d_M_isWalk_33 : decode b_M_isWalk 33 = .ok (.istore_n 1, 1) := by decide +kernel
theorem d_M_isWalk_34 : decode b_M_isWalk 34 = .ok (.bipush 17, 2) := by decide +kernel
theorem d_M_isWalk_36 : decode b_M_isWalk 36 = .ok (.istore_n 2, 1) := by decide +kernel
theorem d_M_isWalk_37 : decode b_M_isWalk 37 = .ok (.iconst 0, 1) := by decide +kernel
theorem d_M_isWalk_38 : decode b_M_isWalk 38 = .ok (.istore_n 3, 1) := by decide +kernel
theorem d_M_isWalk_39 : decode b_M_isWalk 39 = .ok (.iload_n 3, 1) := by decide +kernel
theorem d_M_isWalk_40 : decode b_M_isWalk 40 = .ok (.iload_n 1, 1) := by decide +kernel
theorem d_M_isWalk_41 : decode b_M_isWalk 41 = .ok (.if_icmp .ge 19, 3) := by decide +kernel
theorem d_M_isWalk_44 : decode b_M_isWalk 44 = .ok (.aload_n 0, 1) := by decide +kernel
theorem d_M_isWalk_45 : decode b_M_isWalk 45 = .ok (.iload_n 2, 1) := by decide +kernel
theorem d_M_isWalk_46 : decode b_M_isWalk 46 = .ok (.aload_n 0, 1) := by decide +kernel
theorem d_M_isWalk_47 : decode b_M_isWalk 47 = .ok (.getfield 187, 3) := by decide +kernel
theorem d_M_isWalk_50 : decode b_M_isWalk 50 = .ok (.invokevirtual 200, 3) := by decide +kernel
theorem d_M_isWalk_53 : decode b_M_isWalk 53 = .ok (.istore_n 2, 1) := by decide +kernel
theorem d_M_isWalk_54 : decode b_M_isWalk 54 = .ok (.iinc 3 1, 3) := by decide +kernel
theorem d_M_isWalk_57 : decode b_M_isWalk 57 = .ok (.goto (-18), 3) := by decide +kernel
theorem d_M_isWalk_60 : decode b_M_isWalk 60 = .ok (.iload_n 2, 1) := by decide +kernel
theorem d_M_isWalk_61 : decode b_M_isWalk 61 = .ok (.aload_n 0, 1) := by decide +kernel
theorem d_M_isWalk_62 : decode b_M_isWalk 62 = .ok (.getfield 187, 3) := by decide +kernel
theorem d_M_isWalk_65 : decode b_M_isWalk 65 = .ok (.if_icmp .ne 7, 3) := by decide +kernel
theorem d_M_isWalk_68 : decode b_M_isWalk 68 = .ok (.iconst 1, 1) := by decide +kernel
theorem d_M_isWalk_69 : decode b_M_isWalk 69 = .ok (.goto 4, 3) := by decide +kernel
theorem d_M_isWalk_72 : decode b_M_isWalk 72 = .ok (.iconst 0, 1) := by decide +kernel
theorem d_M_isWalk_73 : decode b_M_isWalk 73 = .ok (.ireturn, 1) := by decide +kernel
abbrev rm_M_isWalk : Room := { frames := 2, cells := 0, slots := 0, locals := 48 }
set_option maxRecDepth 100000 in
set_option maxHeartbeats 4000000 in
theorem k_M_isWalk_39 {p : Program} {l : Launch} {e : Env} {s : State} {m : MethodId} {args : Array Value} {below : List Frame} {meth : Method} {c : Code} {t : TY} {a0 : Nat} {G : GS} {K : Int32 → Prop} (X : kX p s m args meth c b_M_isWalk 4 "TreeServerModel" t) (hret : meth.sig.returnType = some .boolean) : ∀ (n : Nat) (l1 : Int32) (l2 : Int32) (l3 : Int32), w_M_isWalk_39 t G a0 K n l1 l2 l3 → kW p l e rm_M_isWalk s m args below meth c (MQ below (vp_Si (fun r => isB r ∧ K r)) args s 0 0 (fun _ => False)) 4 t true 39 [(0, va_rf (some a0)), (1, .int l1), (2, .int l2), (3, .int l3)] [] G := by
  intro n
  induction n with
  | zero => intro l1 l2 l3 hwp; exact hwp.elim
  | succ n hr_39 =>
    intro l1 l2 l3 hwp
    unfold w_M_isWalk_39 at hwp
    dsimp only at hwp
    refine kw_iload_n (pc := 39) X d_M_isWalk_39 rfl 3 rfl ?_
    refine kw_iload_n (pc := 40) X d_M_isWalk_40 rfl 1 rfl ?_
    refine kw_icmp_ge (tgt := 60) (pc := 41) X d_M_isWalk_41 (by decide) (fun h => ?_) (fun h => ?_)
    · have hwp := ite_t h hwp
      refine kw_iload_n (pc := 60) X d_M_isWalk_60 rfl 2 rfl ?_
      refine kw_aload_n (pc := 61) X d_M_isWalk_61 rfl 0 rfl ?_
      obtain ⟨f1, hwp⟩ := hwp
      refine kg_95 (a := a0) (pc := 62) X d_M_isWalk_62 x_1015 rfl f1 ?_
      refine kw_icmp_ne (tgt := 72) (pc := 65) X d_M_isWalk_65 (by decide) (fun h => ?_) (fun h => ?_)
      · have hwp := ite_t h hwp
        refine kw_iconst (v := 0) (pc := 72) X d_M_isWalk_72 (by decide) ?_
        exact krp_z (pc := 73) X hret d_M_isWalk_73 (Or.inl rfl) hwp
      · have hwp := ite_f (not_not_intro h) hwp
        refine kw_iconst (v := 1) (pc := 68) X d_M_isWalk_68 (by decide) ?_
        refine kw_goto (tgt := 73) (pc := 69) X d_M_isWalk_69 (by decide) ?_
        exact krp_z (pc := 73) X hret d_M_isWalk_73 (Or.inr rfl) hwp
    · have hwp := ite_f h hwp
      refine kw_aload_n (pc := 44) X d_M_isWalk_44 rfl 0 rfl ?_
      refine kw_iload_n (pc := 45) X d_M_isWalk_45 rfl 2 rfl ?_
      refine kw_aload_n (pc := 46) X d_M_isWalk_46 rfl 0 rfl ?_
      obtain ⟨f2, hwp⟩ := hwp
      refine kg_95 (a := a0) (pc := 47) X d_M_isWalk_47 x_1015 rfl f2 ?_
      refine kcVp_i (n := 2) (As := [.int l2, .int (gi G 95 a0)]) (rest := []) (pc := 50) X (c_M_behind l t G a0 l2 (gi G 95 a0) _) (cwV_of (C := "TreeServerModel") X x_1171 x_1168 x_1170 xp_55 x_13 (by decide +kernel) ⟨rfl, rfl⟩ (by decide)) (rv_10 X f2) rfl rfl (by decide) d_M_isWalk_50 hwp (fun v3 hwp => ?_)
      refine kw_istore_n (i := 2) (lv' := [(2, .int v3), (0, va_rf (some a0)), (1, .int l1), (3, .int l3)]) (pc := 53) X d_M_isWalk_53 rfl (by decide) rfl ?_
      obtain ⟨v4, e_v4⟩ : ∃ z, z = (l3 + (1 : Int32)) := ⟨_, rfl⟩
      have hwp := hwp v4 e_v4
      refine kw_iinc (v := v4) (lv' := [(3, .int v4), (2, .int v3), (0, va_rf (some a0)), (1, .int l1)]) (pc := 54) X d_M_isWalk_54 3 rfl (by rw [e_v4]; rfl) (by decide) rfl ?_
      refine kw_goto (tgt := 39) (pc := 57) X d_M_isWalk_57 (by decide) ?_
      exact kW.sub [2, 3, 1, 0] rfl (hr_39 _ _ _ hwp)
set_option maxRecDepth 100000 in
set_option maxHeartbeats 4000000 in
theorem k_M_isWalk {p : Program} {l : Launch} {e : Env} {s : State} {m : MethodId} {args : Array Value} {below : List Frame} {meth : Method} {c : Code} {t : TY} {a0 : Nat} {G : GS} {K : Int32 → Prop} (X : kX p s m args meth c b_M_isWalk 4 "TreeServerModel" t) (hret : meth.sig.returnType = some .boolean)  (hwp : w_M_isWalk t G a0 K) : kW p l e rm_M_isWalk s m args below meth c (MQ below (vp_Si (fun r => isB r ∧ K r)) args s 0 0 (fun _ => False)) 4 t true 0 [(0, va_rf (some a0))] [] G := by
  unfold w_M_isWalk at hwp
  refine kw_aload_n (pc := 0) X d_M_isWalk_0 rfl 0 rfl ?_
  obtain ⟨f1, hwp⟩ := hwp
  refine kg_95 (a := a0) (pc := 1) X d_M_isWalk_1 x_1015 rfl f1 ?_
  refine kw_bipush (v := 17) (pc := 4) X d_M_isWalk_4 (by decide) ?_
  refine kw_icmp_lt (tgt := 23) (pc := 6) X d_M_isWalk_6 (by decide) (fun h => ?_) (fun h => ?_)
  · have hwp := ite_t h hwp
    refine kw_iconst (v := 0) (pc := 23) X d_M_isWalk_23 (by decide) ?_
    exact krp_z (pc := 24) X hret d_M_isWalk_24 (Or.inl rfl) hwp
  · have hwp := ite_f h hwp
    refine kw_aload_n (pc := 9) X d_M_isWalk_9 rfl 0 rfl ?_
    refine kw_bipush (v := 15) (pc := 10) X d_M_isWalk_10 (by decide) ?_
    refine kw_iconst (v := 2) (pc := 12) X d_M_isWalk_12 (by decide) ?_
    refine kcVp_l (n := 2) (As := [.int (15 : Int32), .int (2 : Int32)]) (rest := []) (pc := 13) X (c_M_get l t G a0 (15 : Int32) (2 : Int32) _) (cwV_of (C := "TreeServerModel") X x_1175 x_1172 x_1174 xp_56 x_13 (by decide +kernel) ⟨rfl, rfl⟩ (by decide)) (rv_10 X f1) rfl rfl (by decide) d_M_isWalk_13 hwp (fun v2 hwp => ?_)
    refine kw_ldc2 (v := 4) (pc := 16) X d_M_isWalk_16 x_1184 ?_
    refine kw_lcmp_le (tgt := 25) (pc := 19) X d_M_isWalk_19 d_M_isWalk_20 (by decide) (fun h => ?_) (fun h => ?_)
    · have hwp := ite_t h hwp
      refine kw_aload_n (pc := 25) X d_M_isWalk_25 rfl 0 rfl ?_
      refine kw_bipush (v := 15) (pc := 26) X d_M_isWalk_26 (by decide) ?_
      refine kw_iconst (v := 2) (pc := 28) X d_M_isWalk_28 (by decide) ?_
      refine kcVp_l (n := 2) (As := [.int (15 : Int32), .int (2 : Int32)]) (rest := []) (pc := 29) X (c_M_get l t G a0 (15 : Int32) (2 : Int32) _) (cwV_of (C := "TreeServerModel") X x_1175 x_1172 x_1174 xp_56 x_13 (by decide +kernel) ⟨rfl, rfl⟩ (by decide)) (rv_10 X f1) rfl rfl (by decide) d_M_isWalk_29 hwp (fun v3 hwp => ?_)
      refine kw_l2i (pc := 32) X d_M_isWalk_32 ?_
      obtain ⟨v4, e_v4⟩ : ∃ z, z = v3.toInt32 := ⟨_, rfl⟩
      have hwp := hwp v4 e_v4
      refine kW.st (st' := .int v4 :: _) (by rw [e_v4]) ?_
      refine kw_istore_n (i := 1) (lv' := [(1, .int v4), (0, va_rf (some a0))]) (pc := 33) X d_M_isWalk_33 rfl (by decide) rfl ?_
      refine kw_bipush (v := 17) (pc := 34) X d_M_isWalk_34 (by decide) ?_
      refine kw_istore_n (i := 2) (lv' := [(2, .int (17 : Int32)), (1, .int v4), (0, va_rf (some a0))]) (pc := 36) X d_M_isWalk_36 rfl (by decide) rfl ?_
      refine kw_iconst (v := 0) (pc := 37) X d_M_isWalk_37 (by decide) ?_
      refine kw_istore_n (i := 3) (lv' := [(3, .int (0 : Int32)), (2, .int (17 : Int32)), (1, .int v4), (0, va_rf (some a0))]) (pc := 38) X d_M_isWalk_38 rfl (by decide) rfl ?_
      obtain ⟨n, hwp⟩ := hwp
      exact kW.sub [3, 2, 1, 0] rfl (k_M_isWalk_39 X hret  n _ _ _ hwp)
    · have hwp := ite_f h hwp
      refine kw_iconst (v := 0) (pc := 23) X d_M_isWalk_23 (by decide) ?_
      exact krp_z (pc := 24) X hret d_M_isWalk_24 (Or.inl rfl) hwp
set_option maxRecDepth 100000 in
set_option maxHeartbeats 4000000 in
theorem c_M_isWalk (l : Launch) (t : TY) (G : GS) (a0 : Nat) (K : Int32 → Prop) : Met l y_M_isWalk (Cond.code y_M_isWalk b_M_isWalk 4 (Option.some Jvm.ClassFile.FieldType.boolean) :: GW) rm_M_isWalk (va_Pc [.ref a0] (fun U => HB t G U.heap ∧ HK t U ∧ w_M_isWalk t G a0 K)) (vp_Si (fun r => isB r ∧ K r)) 0 0 (fun _ => False) := by
  refine Met.ofW (cc := b_M_isWalk) (maxL := 4) (ret := some .boolean) (by decide) rfl ?_
  intro p e s m args below meth c s₁ B hml hv
  obtain ⟨rfl, hB, hK, hwp⟩ := hv
  have hts := atoms_spec (ws := Cond.code y_M_isWalk b_M_isWalk 4 (Option.some Jvm.ClassFile.FieldType.boolean) :: GW) B.pre
  have X : kX p s m _ meth c b_M_isWalk 4 "TreeServerModel" t := ⟨B.exec, B.bytes, hml, findClass_of_methodNamed B.named, fun w h => hts w (List.mem_cons_of_mem _ h), B.notSynchronized, hK⟩
  have hZ : kZ t true s G s.heap [] := ⟨hB, va_S.rf, fun _ => ⟨rfl, rfl⟩⟩
  rw [lg_entry_eq]
  have hl := lv_entry ([.ref a0]) (n := 4) (by simp [lg_sl, rf_cat, cat_i, cat_l, cat_r])
  exact k_M_isWalk X B.returns hwp s.heap [] _ hl hZ
abbrev b_M_formed : ByteArray := prog_13_method_40_code
def y_M_formed : MethodName := ⟨"TreeServerModel", "formed", "(I)Z"⟩
theorem d_M_formed_0 : decode b_M_formed 0 = .ok (.iload_n 1, 1) := by decide +kernel
theorem d_M_formed_1 : decode b_M_formed 1 = .ok (.bipush 100, 2) := by decide +kernel
theorem d_M_formed_3 : decode b_M_formed 3 = .ok (.if_icmp .ne 35, 3) := by decide +kernel
theorem d_M_formed_6 : decode b_M_formed 6 = .ok (.aload_n 0, 1) := by decide +kernel
theorem d_M_formed_7 : decode b_M_formed 7 = .ok (.getfield 187, 3) := by decide +kernel
theorem d_M_formed_10 : decode b_M_formed 10 = .ok (.bipush 10, 2) := by decide +kernel
theorem d_M_formed_12 : decode b_M_formed 12 = .ok (.if_icmp .le 24, 3) := by decide +kernel
theorem d_M_formed_15 : decode b_M_formed 15 = .ok (.aload_n 0, 1) := by decide +kernel
theorem d_M_formed_16 : decode b_M_formed 16 = .ok (.bipush 11, 2) := by decide +kernel
theorem d_M_formed_18 : decode b_M_formed 18 = .ok (.aload_n 0, 1) := by decide +kernel
theorem d_M_formed_19 : decode b_M_formed 19 = .ok (.getfield 187, 3) := by decide +kernel
theorem d_M_formed_22 : decode b_M_formed 22 = .ok (.invokevirtual 200, 3) := by decide +kernel
theorem d_M_formed_25 : decode b_M_formed 25 = .ok (.aload_n 0, 1) := by decide +kernel
theorem d_M_formed_26 : decode b_M_formed 26 = .ok (.getfield 187, 3) := by decide +kernel
theorem d_M_formed_29 : decode b_M_formed 29 = .ok (.if_icmp .ne 7, 3) := by decide +kernel
theorem d_M_formed_32 : decode b_M_formed 32 = .ok (.iconst 1, 1) := by decide +kernel
theorem d_M_formed_33 : decode b_M_formed 33 = .ok (.goto 4, 3) := by decide +kernel
theorem d_M_formed_36 : decode b_M_formed 36 = .ok (.iconst 0, 1) := by decide +kernel
theorem d_M_formed_37 : decode b_M_formed 37 = .ok (.ireturn, 1) := by decide +kernel
theorem d_M_formed_38 : decode b_M_formed 38 = .ok (.iload_n 1, 1) := by decide +kernel
theorem d_M_formed_39 : decode b_M_formed 39 = .ok (.bipush 102, 2) := by decide +kernel
theorem d_M_formed_41 : decode b_M_formed 41 = .ok (.if_icmp .ne 43, 3) := by decide +kernel
theorem d_M_formed_44 : decode b_M_formed 44 = .ok (.aload_n 0, 1) := by decide +kernel
theorem d_M_formed_45 : decode b_M_formed 45 = .ok (.getfield 187, 3) := by decide +kernel
theorem d_M_formed_48 : decode b_M_formed 48 = .ok (.bipush 10, 2) := by decide +kernel
theorem d_M_formed_50 : decode b_M_formed 50 = .ok (.if_icmp .le 32, 3) := by decide +kernel
theorem d_M_formed_53 : decode b_M_formed 53 = .ok (.aload_n 0, 1) := by decide +kernel
theorem d_M_formed_54 : decode b_M_formed 54 = .ok (.aload_n 0, 1) := by decide +kernel
theorem d_M_formed_55 : decode b_M_formed 55 = .ok (.bipush 11, 2) := by decide +kernel
theorem d_M_formed_57 : decode b_M_formed 57 = .ok (.aload_n 0, 1) := by decide +kernel
theorem d_M_formed_58 : decode b_M_formed 58 = .ok (.getfield 187, 3) := by decide +kernel
theorem d_M_formed_61 : decode b_M_formed 61 = .ok (.invokevirtual 200, 3) := by decide +kernel
theorem d_M_formed_64 : decode b_M_formed 64 = .ok (.aload_n 0, 1) := by decide +kernel
theorem d_M_formed_65 : decode b_M_formed 65 = .ok (.getfield 187, 3) := by decide +kernel
theorem d_M_formed_68 : decode b_M_formed 68 = .ok (.invokevirtual 200, 3) := by decide +kernel
theorem d_M_formed_71 : decode b_M_formed 71 = .ok (.aload_n 0, 1) := by decide +kernel
theorem d_M_formed_72 : decode b_M_formed 72 = .ok (.getfield 187, 3) := by decide +kernel
theorem d_M_formed_75 : decode b_M_formed 75 = .ok (.if_icmp .ne 7, 3) := by decide +kernel
theorem d_M_formed_78 : decode b_M_formed 78 = .ok (.iconst 1, 1) := by decide +kernel
theorem d_M_formed_79 : decode b_M_formed 79 = .ok (.goto 4, 3) := by decide +kernel
theorem d_M_formed_82 : decode b_M_formed 82 = .ok (.iconst 0, 1) := by decide +kernel
theorem d_M_formed_83 : decode b_M_formed 83 = .ok (.ireturn, 1) := by decide +kernel
theorem d_M_formed_84 : decode b_M_formed 84 = .ok (.iload_n 1, 1) := by decide +kernel
theorem d_M_formed_85 : decode b_M_formed 85 = .ok (.bipush 104, 2) := by decide +kernel
theorem d_M_formed_87 : decode b_M_formed 87 = .ok (.if_icmp .ne 43, 3) := by decide +kernel
theorem d_M_formed_90 : decode b_M_formed 90 = .ok (.aload_n 0, 1) := by decide +kernel
theorem d_M_formed_91 : decode b_M_formed 91 = .ok (.getfield 187, 3) := by decide +kernel
theorem d_M_formed_94 : decode b_M_formed 94 = .ok (.bipush 14, 2) := by decide +kernel
theorem d_M_formed_96 : decode b_M_formed 96 = .ok (.if_icmp .le 32, 3) := by decide +kernel
theorem d_M_formed_99 : decode b_M_formed 99 = .ok (.aload_n 0, 1) := by decide +kernel
theorem d_M_formed_100 : decode b_M_formed 100 = .ok (.aload_n 0, 1) := by decide +kernel
theorem d_M_formed_101 : decode b_M_formed 101 = .ok (.bipush 15, 2) := by decide +kernel
theorem d_M_formed_103 : decode b_M_formed 103 = .ok (.aload_n 0, 1) := by decide +kernel
theorem d_M_formed_104 : decode b_M_formed 104 = .ok (.getfield 187, 3) := by decide +kernel
theorem d_M_formed_107 : decode b_M_formed 107 = .ok (.invokevirtual 200, 3) := by decide +kernel
theorem d_M_formed_110 : decode b_M_formed 110 = .ok (.aload_n 0, 1) := by decide +kernel
theorem d_M_formed_111 : decode b_M_formed 111 = .ok (.getfield 187, 3) := by decide +kernel
theorem d_M_formed_114 : decode b_M_formed 114 = .ok (.invokevirtual 200, 3) := by decide +kernel
theorem d_M_formed_117 : decode b_M_formed 117 = .ok (.aload_n 0, 1) := by decide +kernel
theorem d_M_formed_118 : decode b_M_formed 118 = .ok (.getfield 187, 3) := by decide +kernel
theorem d_M_formed_121 : decode b_M_formed 121 = .ok (.if_icmp .ne 7, 3) := by decide +kernel
theorem d_M_formed_124 : decode b_M_formed 124 = .ok (.iconst 1, 1) := by decide +kernel
theorem d_M_formed_125 : decode b_M_formed 125 = .ok (.goto 4, 3) := by decide +kernel
theorem d_M_formed_128 : decode b_M_formed 128 = .ok (.iconst 0, 1) := by decide +kernel
theorem d_M_formed_129 : decode b_M_formed 129 = .ok (.ireturn, 1) := by decide +kernel
theorem d_M_formed_130 : decode b_M_formed 130 = .ok (.iload_n 1, 1) := by decide +kernel
theorem d_M_formed_131 : decode b_M_formed 131 = .ok (.bipush 108, 2) := by decide +kernel
theorem d_M_formed_133 : decode b_M_formed 133 = .ok (.if_icmp .ne 18, 3) := by decide +kernel
theorem d_M_formed_136 : decode b_M_formed 136 = .ok (.aload_n 0, 1) := by decide +kernel
theorem d_M_formed_137 : decode b_M_formed 137 = .ok (.getfield 187, 3) := by decide +kernel
theorem d_M_formed_140 : decode b_M_formed 140 = .ok (.bipush 9, 2) := by decide +kernel
theorem d_M_formed_142 : decode b_M_formed 142 = .ok (.if_icmp .ne 7, 3) := by decide +kernel
theorem d_M_formed_145 : decode b_M_formed 145 = .ok (.iconst 1, 1) := by decide +kernel
theorem d_M_formed_146 : decode b_M_formed 146 = .ok (.goto 4, 3) := by decide +kernel
theorem d_M_formed_149 : decode b_M_formed 149 = .ok (.iconst 0, 1) := by decide +kernel
theorem d_M_formed_150 : decode b_M_formed 150 = .ok (.ireturn, 1) := by decide +kernel
theorem d_M_formed_151 : decode b_M_formed 151 = .ok (.iload_n 1, 1) := by decide +kernel
theorem d_M_formed_152 : decode b_M_formed 152 = .ok (.bipush 112, 2) := by decide +kernel
theorem d_M_formed_154 : decode b_M_formed 154 = .ok (.if_icmp .ne 18, 3) := by decide +kernel
theorem d_M_formed_157 : decode b_M_formed 157 = .ok (.aload_n 0, 1) := by decide +kernel
theorem d_M_formed_158 : decode b_M_formed 158 = .ok (.getfield 187, 3) := by decide +kernel
theorem d_M_formed_161 : decode b_M_formed 161 = .ok (.bipush 12, 2) := by decide +kernel
theorem d_M_formed_163 : decode b_M_formed 163 = .ok (.if_icmp .ne 7, 3) := by decide +kernel
theorem d_M_formed_166 : decode b_M_formed 166 = .ok (.iconst 1, 1) := by decide +kernel
theorem d_M_formed_167 : decode b_M_formed 167 = .ok (.goto 4, 3) := by decide +kernel
theorem d_M_formed_170 : decode b_M_formed 170 = .ok (.iconst 0, 1) := by decide +kernel
theorem d_M_formed_171 : decode b_M_formed 171 = .ok (.ireturn, 1) := by decide +kernel
theorem d_M_formed_172 : decode b_M_formed 172 = .ok (.iload_n 1, 1) := by decide +kernel
theorem d_M_formed_173 : decode b_M_formed 173 = .ok (.bipush 116, 2) := by decide +kernel
theorem d_M_formed_175 : decode b_M_formed 175 = .ok (.if_icmp .ne 18, 3) := by decide +kernel
theorem d_M_formed_178 : decode b_M_formed 178 = .ok (.aload_n 0, 1) := by decide +kernel
theorem d_M_formed_179 : decode b_M_formed 179 = .ok (.getfield 187, 3) := by decide +kernel
theorem d_M_formed_182 : decode b_M_formed 182 = .ok (.bipush 23, 2) := by decide +kernel
theorem d_M_formed_184 : decode b_M_formed 184 = .ok (.if_icmp .ne 7, 3) := by decide +kernel
theorem d_M_formed_187 : decode b_M_formed 187 = .ok (.iconst 1, 1) := by decide +kernel
theorem d_M_formed_188 : decode b_M_formed 188 = .ok (.goto 4, 3) := by decide +kernel
theorem d_M_formed_191 : decode b_M_formed 191 = .ok (.iconst 0, 1) := by decide +kernel
theorem d_M_formed_192 : decode b_M_formed 192 = .ok (.ireturn, 1) := by decide +kernel
theorem d_M_formed_193 : decode b_M_formed 193 = .ok (.iload_n 1, 1) := by decide +kernel
theorem d_M_formed_194 : decode b_M_formed 194 = .ok (.bipush 118, 2) := by decide +kernel
theorem d_M_formed_196 : decode b_M_formed 196 = .ok (.if_icmp .ne 37, 3) := by decide +kernel
theorem d_M_formed_199 : decode b_M_formed 199 = .ok (.aload_n 0, 1) := by decide +kernel
theorem d_M_formed_200 : decode b_M_formed 200 = .ok (.getfield 187, 3) := by decide +kernel
theorem d_M_formed_203 : decode b_M_formed 203 = .ok (.bipush 22, 2) := by decide +kernel
theorem d_M_formed_205 : decode b_M_formed 205 = .ok (.if_icmp .le 26, 3) := by decide +kernel
theorem d_M_formed_208 : decode b_M_formed 208 = .ok (.aload_n 0, 1) := by decide +kernel
theorem d_M_formed_209 : decode b_M_formed 209 = .ok (.bipush 19, 2) := by decide +kernel
theorem d_M_formed_211 : decode b_M_formed 211 = .ok (.iconst 4, 1) := by decide +kernel
theorem d_M_formed_212 : decode b_M_formed 212 = .ok (.invokevirtual 85, 3) := by decide +kernel
theorem d_M_formed_215 : decode b_M_formed 215 = .ok (.aload_n 0, 1) := by decide +kernel
theorem d_M_formed_216 : decode b_M_formed 216 = .ok (.getfield 187, 3) := by decide +kernel
theorem d_M_formed_219 : decode b_M_formed 219 = .ok (.bipush 23, 2) := by decide +kernel
theorem d_M_formed_221 : decode b_M_formed 221 = .ok (.isub, 1) := by decide +kernel
theorem d_M_formed_222 : decode b_M_formed 222 = .ok (.i2l, 1) := by decide +kernel
theorem d_M_formed_223 : decode b_M_formed 223 = .ok (.lcmp, 1) := by decide +kernel
theorem d_M_formed_224 : decode b_M_formed 224 = .ok (.ifCond .ne 7, 3) := by decide +kernel
theorem d_M_formed_227 : decode b_M_formed 227 = .ok (.iconst 1, 1) := by decide +kernel
theorem d_M_formed_228 : decode b_M_formed 228 = .ok (.goto 4, 3) := by decide +kernel
theorem d_M_formed_231 : decode b_M_formed 231 = .ok (.iconst 0, 1) := by decide +kernel
theorem d_M_formed_232 : decode b_M_formed 232 = .ok (.ireturn, 1) := by decide +kernel
theorem d_M_formed_233 : decode b_M_formed 233 = .ok (.iload_n 1, 1) := by decide +kernel
theorem d_M_formed_234 : decode b_M_formed 234 = .ok (.bipush 114, 2) := by decide +kernel
theorem d_M_formed_236 : decode b_M_formed 236 = .ok (.if_icmp .ne 37, 3) := by decide +kernel
theorem d_M_formed_239 : decode b_M_formed 239 = .ok (.aload_n 0, 1) := by decide +kernel
theorem d_M_formed_240 : decode b_M_formed 240 = .ok (.getfield 187, 3) := by decide +kernel
theorem d_M_formed_243 : decode b_M_formed 243 = .ok (.bipush 10, 2) := by decide +kernel
theorem d_M_formed_245 : decode b_M_formed 245 = .ok (.if_icmp .le 26, 3) := by decide +kernel
theorem d_M_formed_248 : decode b_M_formed 248 = .ok (.aload_n 0, 1) := by decide +kernel
theorem d_M_formed_249 : decode b_M_formed 249 = .ok (.bipush 11, 2) := by decide +kernel
theorem d_M_formed_251 : decode b_M_formed 251 = .ok (.aload_n 0, 1) := by decide +kernel
theorem d_M_formed_252 : decode b_M_formed 252 = .ok (.getfield 187, 3) := by decide +kernel
theorem d_M_formed_255 : decode b_M_formed 255 = .ok (.invokevirtual 200, 3) := by decide +kernel
theorem d_M_formed_258 : decode b_M_formed 258 = .ok (.iconst 5, 1) := by decide +kernel
theorem d_M_formed_259 : decode b_M_formed 259 = .ok (.iadd, 1) := by decide +kernel
theorem d_M_formed_260 : decode b_M_formed 260 = .ok (.aload_n 0, 1) := by decide +kernel
theorem d_M_formed_261 : decode b_M_formed 261 = .ok (.getfield 187, 3) := by decide +kernel
theorem d_M_formed_264 : decode b_M_formed 264 = .ok (.if_icmp .ne 7, 3) := by decide +kernel
theorem d_M_formed_267 : decode b_M_formed 267 = .ok (.iconst 1, 1) := by decide +kernel
theorem d_M_formed_268 : decode b_M_formed 268 = .ok (.goto 4, 3) := by decide +kernel
theorem d_M_formed_271 : decode b_M_formed 271 = .ok (.iconst 0, 1) := by decide +kernel
theorem d_M_formed_272 : decode b_M_formed 272 = .ok (.ireturn, 1) := by decide +kernel
theorem d_M_formed_273 : decode b_M_formed 273 = .ok (.iload_n 1, 1) := by decide +kernel
theorem d_M_formed_274 : decode b_M_formed 274 = .ok (.bipush 126, 2) := by decide +kernel
theorem d_M_formed_276 : decode b_M_formed 276 = .ok (.if_icmp .ne 44, 3) := by decide +kernel
theorem d_M_formed_279 : decode b_M_formed 279 = .ok (.aload_n 0, 1) := by decide +kernel
theorem d_M_formed_280 : decode b_M_formed 280 = .ok (.getfield 187, 3) := by decide +kernel
theorem d_M_formed_283 : decode b_M_formed 283 = .ok (.bipush 12, 2) := by decide +kernel
theorem d_M_formed_285 : decode b_M_formed 285 = .ok (.if_icmp .le 33, 3) := by decide +kernel
theorem d_M_formed_288 : decode b_M_formed 288 = .ok (.aload_n 0, 1) := by decide +kernel
theorem d_M_formed_289 : decode b_M_formed 289 = .ok (.bipush 11, 2) := by decide +kernel
theorem d_M_formed_291 : decode b_M_formed 291 = .ok (.iconst 2, 1) := by decide +kernel
theorem d_M_formed_292 : decode b_M_formed 292 = .ok (.invokevirtual 85, 3) := by decide +kernel
theorem d_M_formed_295 : decode b_M_formed 295 = .ok (.aload_n 0, 1) := by decide +kernel
theorem d_M_formed_296 : decode b_M_formed 296 = .ok (.getfield 187, 3) := by decide +kernel
theorem d_M_formed_299 : decode b_M_formed 299 = .ok (.bipush 13, 2) := by decide +kernel
theorem d_M_formed_301 : decode b_M_formed 301 = .ok (.isub, 1) := by decide +kernel
theorem d_M_formed_302 : decode b_M_formed 302 = .ok (.i2l, 1) := by decide +kernel
theorem d_M_formed_303 : decode b_M_formed 303 = .ok (.lcmp, 1) := by decide +kernel
theorem d_M_formed_304 : decode b_M_formed 304 = .ok (.ifCond .ne 14, 3) := by decide +kernel
theorem d_M_formed_307 : decode b_M_formed 307 = .ok (.aload_n 0, 1) := by decide +kernel
theorem d_M_formed_308 : decode b_M_formed 308 = .ok (.invokevirtual 203, 3) := by decide +kernel
theorem d_M_formed_311 : decode b_M_formed 311 = .ok (.ifCond .eq 7, 3) := by decide +kernel
theorem d_M_formed_314 : decode b_M_formed 314 = .ok (.iconst 1, 1) := by decide +kernel
theorem d_M_formed_315 : decode b_M_formed 315 = .ok (.goto 4, 3) := by decide +kernel
theorem d_M_formed_318 : decode b_M_formed 318 = .ok (.iconst 0, 1) := by decide +kernel
theorem d_M_formed_319 : decode b_M_formed 319 = .ok (.ireturn, 1) := by decide +kernel
theorem d_M_formed_320 : decode b_M_formed 320 = .ok (.iload_n 1, 1) := by decide +kernel
theorem d_M_formed_321 : decode b_M_formed 321 = .ok (.bipush 110, 2) := by decide +kernel
theorem d_M_formed_323 : decode b_M_formed 323 = .ok (.if_icmp .ne 10, 3) := by decide +kernel
theorem d_M_formed_326 : decode b_M_formed 326 = .ok (.aload_n 0, 1) := by decide +kernel
theorem d_M_formed_327 : decode b_M_formed 327 = .ok (.invokevirtual 207, 3) := by decide +kernel
theorem d_M_formed_330 : decode b_M_formed 330 = .ok (.goto 17, 3) := by decide +kernel
theorem d_M_formed_333 : decode b_M_formed 333 = .ok (.aload_n 0, 1) := by decide +kernel
theorem d_M_formed_334 : decode b_M_formed 334 = .ok (.getfield 187, 3) := by decide +kernel
theorem d_M_formed_337 : decode b_M_formed 337 = .ok (.bipush 11, 2) := by decide +kernel
theorem d_M_formed_339 : decode b_M_formed 339 = .ok (.if_icmp .ne 7, 3) := by decide +kernel
theorem d_M_formed_342 : decode b_M_formed 342 = .ok (.iconst 1, 1) := by decide +kernel
theorem d_M_formed_343 : decode b_M_formed 343 = .ok (.goto 4, 3) := by decide +kernel
theorem d_M_formed_346 : decode b_M_formed 346 = .ok (.iconst 0, 1) := by decide +kernel
theorem d_M_formed_347 : decode b_M_formed 347 = .ok (.ireturn, 1) := by decide +kernel
abbrev rm_M_formed : Room := { frames := 3, cells := 0, slots := 0, locals := 71 }
set_option maxRecDepth 100000 in
set_option maxHeartbeats 4000000 in
theorem k_M_formed {p : Program} {l : Launch} {e : Env} {s : State} {m : MethodId} {args : Array Value} {below : List Frame} {meth : Method} {c : Code} {t : TY} {a0 : Nat} {G : GS} {K : Int32 → Prop} (X : kX p s m args meth c b_M_formed 2 "TreeServerModel" t) (hret : meth.sig.returnType = some .boolean) (p1 : Int32) (hwp : w_M_formed t G a0 p1 K) : kW p l e rm_M_formed s m args below meth c (MQ below (vp_Si (fun r => isB r ∧ K r)) args s 0 0 (fun _ => False)) 2 t true 0 [(0, va_rf (some a0)), (1, .int p1)] [] G := by
  unfold w_M_formed at hwp
  refine kw_iload_n (pc := 0) X d_M_formed_0 rfl 1 rfl ?_
  refine kw_bipush (v := 100) (pc := 1) X d_M_formed_1 (by decide) ?_
  refine kw_icmp_ne (tgt := 38) (pc := 3) X d_M_formed_3 (by decide) (fun h => ?_) (fun h => ?_)
  · have hwp := ite_t h hwp
    refine kw_iload_n (pc := 38) X d_M_formed_38 rfl 1 rfl ?_
    refine kw_bipush (v := 102) (pc := 39) X d_M_formed_39 (by decide) ?_
    refine kw_icmp_ne (tgt := 84) (pc := 41) X d_M_formed_41 (by decide) (fun h => ?_) (fun h => ?_)
    · have hwp := ite_t h hwp
      refine kw_iload_n (pc := 84) X d_M_formed_84 rfl 1 rfl ?_
      refine kw_bipush (v := 104) (pc := 85) X d_M_formed_85 (by decide) ?_
      refine kw_icmp_ne (tgt := 130) (pc := 87) X d_M_formed_87 (by decide) (fun h => ?_) (fun h => ?_)
      · have hwp := ite_t h hwp
        refine kw_iload_n (pc := 130) X d_M_formed_130 rfl 1 rfl ?_
        refine kw_bipush (v := 108) (pc := 131) X d_M_formed_131 (by decide) ?_
        refine kw_icmp_ne (tgt := 151) (pc := 133) X d_M_formed_133 (by decide) (fun h => ?_) (fun h => ?_)
        · have hwp := ite_t h hwp
          refine kw_iload_n (pc := 151) X d_M_formed_151 rfl 1 rfl ?_
          refine kw_bipush (v := 112) (pc := 152) X d_M_formed_152 (by decide) ?_
          refine kw_icmp_ne (tgt := 172) (pc := 154) X d_M_formed_154 (by decide) (fun h => ?_) (fun h => ?_)
          · have hwp := ite_t h hwp
            refine kw_iload_n (pc := 172) X d_M_formed_172 rfl 1 rfl ?_
            refine kw_bipush (v := 116) (pc := 173) X d_M_formed_173 (by decide) ?_
            refine kw_icmp_ne (tgt := 193) (pc := 175) X d_M_formed_175 (by decide) (fun h => ?_) (fun h => ?_)
            · have hwp := ite_t h hwp
              refine kw_iload_n (pc := 193) X d_M_formed_193 rfl 1 rfl ?_
              refine kw_bipush (v := 118) (pc := 194) X d_M_formed_194 (by decide) ?_
              refine kw_icmp_ne (tgt := 233) (pc := 196) X d_M_formed_196 (by decide) (fun h => ?_) (fun h => ?_)
              · have hwp := ite_t h hwp
                refine kw_iload_n (pc := 233) X d_M_formed_233 rfl 1 rfl ?_
                refine kw_bipush (v := 114) (pc := 234) X d_M_formed_234 (by decide) ?_
                refine kw_icmp_ne (tgt := 273) (pc := 236) X d_M_formed_236 (by decide) (fun h => ?_) (fun h => ?_)
                · have hwp := ite_t h hwp
                  refine kw_iload_n (pc := 273) X d_M_formed_273 rfl 1 rfl ?_
                  refine kw_bipush (v := 126) (pc := 274) X d_M_formed_274 (by decide) ?_
                  refine kw_icmp_ne (tgt := 320) (pc := 276) X d_M_formed_276 (by decide) (fun h => ?_) (fun h => ?_)
                  · have hwp := ite_t h hwp
                    refine kw_iload_n (pc := 320) X d_M_formed_320 rfl 1 rfl ?_
                    refine kw_bipush (v := 110) (pc := 321) X d_M_formed_321 (by decide) ?_
                    refine kw_icmp_ne (tgt := 333) (pc := 323) X d_M_formed_323 (by decide) (fun h => ?_) (fun h => ?_)
                    · have hwp := ite_t h hwp
                      refine kw_aload_n (pc := 333) X d_M_formed_333 rfl 0 rfl ?_
                      obtain ⟨f1, hwp⟩ := hwp
                      refine kg_95 (a := a0) (pc := 334) X d_M_formed_334 x_1015 rfl f1 ?_
                      refine kw_bipush (v := 11) (pc := 337) X d_M_formed_337 (by decide) ?_
                      refine kw_icmp_ne (tgt := 346) (pc := 339) X d_M_formed_339 (by decide) (fun h => ?_) (fun h => ?_)
                      · have hwp := ite_t h hwp
                        refine kw_iconst (v := 0) (pc := 346) X d_M_formed_346 (by decide) ?_
                        exact krp_z (pc := 347) X hret d_M_formed_347 (Or.inl rfl) hwp
                      · have hwp := ite_f (not_not_intro h) hwp
                        refine kw_iconst (v := 1) (pc := 342) X d_M_formed_342 (by decide) ?_
                        refine kw_goto (tgt := 347) (pc := 343) X d_M_formed_343 (by decide) ?_
                        exact krp_z (pc := 347) X hret d_M_formed_347 (Or.inr rfl) hwp
                    · have hwp := ite_f (not_not_intro h) hwp
                      refine kw_aload_n (pc := 326) X d_M_formed_326 rfl 0 rfl ?_
                      obtain ⟨f2, hwp⟩ := hwp
                      refine kcVp_i (n := 0) (As := []) (rest := []) (pc := 327) X (c_M_isWalk l t G a0 _) (cwV_of (C := "TreeServerModel") X x_1183 x_1180 x_1182 xp_58 x_13 (by decide +kernel) ⟨rfl, rfl⟩ (by decide)) (rv_10 X f2) rfl rfl (by decide) d_M_formed_327 hwp (fun v3 hwp => ?_)
                      obtain ⟨b_v3, hwp⟩ := hwp
                      refine kw_goto (tgt := 347) (pc := 330) X d_M_formed_330 (by decide) ?_
                      exact krp_z (pc := 347) X hret d_M_formed_347 b_v3 hwp
                  · have hwp := ite_f (not_not_intro h) hwp
                    refine kw_aload_n (pc := 279) X d_M_formed_279 rfl 0 rfl ?_
                    obtain ⟨f4, hwp⟩ := hwp
                    refine kg_95 (a := a0) (pc := 280) X d_M_formed_280 x_1015 rfl f4 ?_
                    refine kw_bipush (v := 12) (pc := 283) X d_M_formed_283 (by decide) ?_
                    refine kw_icmp_le (tgt := 318) (pc := 285) X d_M_formed_285 (by decide) (fun h => ?_) (fun h => ?_)
                    · have hwp := ite_t h hwp
                      refine kw_iconst (v := 0) (pc := 318) X d_M_formed_318 (by decide) ?_
                      exact krp_z (pc := 319) X hret d_M_formed_319 (Or.inl rfl) hwp
                    · have hwp := ite_f h hwp
                      refine kw_aload_n (pc := 288) X d_M_formed_288 rfl 0 rfl ?_
                      refine kw_bipush (v := 11) (pc := 289) X d_M_formed_289 (by decide) ?_
                      refine kw_iconst (v := 2) (pc := 291) X d_M_formed_291 (by decide) ?_
                      refine kcVp_l (n := 2) (As := [.int (11 : Int32), .int (2 : Int32)]) (rest := []) (pc := 292) X (c_M_get l t G a0 (11 : Int32) (2 : Int32) _) (cwV_of (C := "TreeServerModel") X x_1175 x_1172 x_1174 xp_56 x_13 (by decide +kernel) ⟨rfl, rfl⟩ (by decide)) (rv_10 X f4) rfl rfl (by decide) d_M_formed_292 hwp (fun v5 hwp => ?_)
                      refine kw_aload_n (pc := 295) X d_M_formed_295 rfl 0 rfl ?_
                      refine kg_95 (a := a0) (pc := 296) X d_M_formed_296 x_1015 rfl f4 ?_
                      refine kw_bipush (v := 13) (pc := 299) X d_M_formed_299 (by decide) ?_
                      refine kw_isub (pc := 301) X d_M_formed_301 ?_
                      refine kw_i2l (pc := 302) X d_M_formed_302 ?_
                      refine kw_lcmp_ne (tgt := 318) (pc := 303) X d_M_formed_303 d_M_formed_304 (by decide) (fun h => ?_) (fun h => ?_)
                      · have hwp := ite_t h hwp
                        refine kw_iconst (v := 0) (pc := 318) X d_M_formed_318 (by decide) ?_
                        exact krp_z (pc := 319) X hret d_M_formed_319 (Or.inl rfl) hwp
                      · have hwp := ite_f (not_not_intro h) hwp
                        refine kw_aload_n (pc := 307) X d_M_formed_307 rfl 0 rfl ?_
                        refine kcVp_i (n := 0) (As := []) (rest := []) (pc := 308) X (c_M_isStat l t G a0 _) (cwV_of (C := "TreeServerModel") X x_1179 x_1176 x_1178 xp_57 x_13 (by decide +kernel) ⟨rfl, rfl⟩ (by decide)) (rv_10 X f4) rfl rfl (by decide) d_M_formed_308 hwp (fun v6 hwp => ?_)
                        obtain ⟨b_v6, hwp⟩ := hwp
                        refine kw_if_eq (tgt := 318) (pc := 311) X d_M_formed_311 (by decide) (fun h => ?_) (fun h => ?_)
                        · have hwp := ite_t h hwp
                          refine kw_iconst (v := 0) (pc := 318) X d_M_formed_318 (by decide) ?_
                          exact krp_z (pc := 319) X hret d_M_formed_319 (Or.inl rfl) hwp
                        · have hwp := ite_f h hwp
                          refine kw_iconst (v := 1) (pc := 314) X d_M_formed_314 (by decide) ?_
                          refine kw_goto (tgt := 319) (pc := 315) X d_M_formed_315 (by decide) ?_
                          exact krp_z (pc := 319) X hret d_M_formed_319 (Or.inr rfl) hwp
                · have hwp := ite_f (not_not_intro h) hwp
                  refine kw_aload_n (pc := 239) X d_M_formed_239 rfl 0 rfl ?_
                  obtain ⟨f7, hwp⟩ := hwp
                  refine kg_95 (a := a0) (pc := 240) X d_M_formed_240 x_1015 rfl f7 ?_
                  refine kw_bipush (v := 10) (pc := 243) X d_M_formed_243 (by decide) ?_
                  refine kw_icmp_le (tgt := 271) (pc := 245) X d_M_formed_245 (by decide) (fun h => ?_) (fun h => ?_)
                  · have hwp := ite_t h hwp
                    refine kw_iconst (v := 0) (pc := 271) X d_M_formed_271 (by decide) ?_
                    exact krp_z (pc := 272) X hret d_M_formed_272 (Or.inl rfl) hwp
                  · have hwp := ite_f h hwp
                    refine kw_aload_n (pc := 248) X d_M_formed_248 rfl 0 rfl ?_
                    refine kw_bipush (v := 11) (pc := 249) X d_M_formed_249 (by decide) ?_
                    refine kw_aload_n (pc := 251) X d_M_formed_251 rfl 0 rfl ?_
                    refine kg_95 (a := a0) (pc := 252) X d_M_formed_252 x_1015 rfl f7 ?_
                    refine kcVp_i (n := 2) (As := [.int (11 : Int32), .int (gi G 95 a0)]) (rest := []) (pc := 255) X (c_M_behind l t G a0 (11 : Int32) (gi G 95 a0) _) (cwV_of (C := "TreeServerModel") X x_1171 x_1168 x_1170 xp_55 x_13 (by decide +kernel) ⟨rfl, rfl⟩ (by decide)) (rv_10 X f7) rfl rfl (by decide) d_M_formed_255 hwp (fun v8 hwp => ?_)
                    refine kw_iconst (v := 5) (pc := 258) X d_M_formed_258 (by decide) ?_
                    refine kw_iadd (pc := 259) X d_M_formed_259 ?_
                    refine kw_aload_n (pc := 260) X d_M_formed_260 rfl 0 rfl ?_
                    refine kg_95 (a := a0) (pc := 261) X d_M_formed_261 x_1015 rfl f7 ?_
                    refine kw_icmp_ne (tgt := 271) (pc := 264) X d_M_formed_264 (by decide) (fun h => ?_) (fun h => ?_)
                    · have hwp := ite_t h hwp
                      refine kw_iconst (v := 0) (pc := 271) X d_M_formed_271 (by decide) ?_
                      exact krp_z (pc := 272) X hret d_M_formed_272 (Or.inl rfl) hwp
                    · have hwp := ite_f (not_not_intro h) hwp
                      refine kw_iconst (v := 1) (pc := 267) X d_M_formed_267 (by decide) ?_
                      refine kw_goto (tgt := 272) (pc := 268) X d_M_formed_268 (by decide) ?_
                      exact krp_z (pc := 272) X hret d_M_formed_272 (Or.inr rfl) hwp
              · have hwp := ite_f (not_not_intro h) hwp
                refine kw_aload_n (pc := 199) X d_M_formed_199 rfl 0 rfl ?_
                obtain ⟨f9, hwp⟩ := hwp
                refine kg_95 (a := a0) (pc := 200) X d_M_formed_200 x_1015 rfl f9 ?_
                refine kw_bipush (v := 22) (pc := 203) X d_M_formed_203 (by decide) ?_
                refine kw_icmp_le (tgt := 231) (pc := 205) X d_M_formed_205 (by decide) (fun h => ?_) (fun h => ?_)
                · have hwp := ite_t h hwp
                  refine kw_iconst (v := 0) (pc := 231) X d_M_formed_231 (by decide) ?_
                  exact krp_z (pc := 232) X hret d_M_formed_232 (Or.inl rfl) hwp
                · have hwp := ite_f h hwp
                  refine kw_aload_n (pc := 208) X d_M_formed_208 rfl 0 rfl ?_
                  refine kw_bipush (v := 19) (pc := 209) X d_M_formed_209 (by decide) ?_
                  refine kw_iconst (v := 4) (pc := 211) X d_M_formed_211 (by decide) ?_
                  refine kcVp_l (n := 2) (As := [.int (19 : Int32), .int (4 : Int32)]) (rest := []) (pc := 212) X (c_M_get l t G a0 (19 : Int32) (4 : Int32) _) (cwV_of (C := "TreeServerModel") X x_1175 x_1172 x_1174 xp_56 x_13 (by decide +kernel) ⟨rfl, rfl⟩ (by decide)) (rv_10 X f9) rfl rfl (by decide) d_M_formed_212 hwp (fun v10 hwp => ?_)
                  refine kw_aload_n (pc := 215) X d_M_formed_215 rfl 0 rfl ?_
                  refine kg_95 (a := a0) (pc := 216) X d_M_formed_216 x_1015 rfl f9 ?_
                  refine kw_bipush (v := 23) (pc := 219) X d_M_formed_219 (by decide) ?_
                  refine kw_isub (pc := 221) X d_M_formed_221 ?_
                  refine kw_i2l (pc := 222) X d_M_formed_222 ?_
                  refine kw_lcmp_ne (tgt := 231) (pc := 223) X d_M_formed_223 d_M_formed_224 (by decide) (fun h => ?_) (fun h => ?_)
                  · have hwp := ite_t h hwp
                    refine kw_iconst (v := 0) (pc := 231) X d_M_formed_231 (by decide) ?_
                    exact krp_z (pc := 232) X hret d_M_formed_232 (Or.inl rfl) hwp
                  · have hwp := ite_f (not_not_intro h) hwp
                    refine kw_iconst (v := 1) (pc := 227) X d_M_formed_227 (by decide) ?_
                    refine kw_goto (tgt := 232) (pc := 228) X d_M_formed_228 (by decide) ?_
                    exact krp_z (pc := 232) X hret d_M_formed_232 (Or.inr rfl) hwp
            · have hwp := ite_f (not_not_intro h) hwp
              refine kw_aload_n (pc := 178) X d_M_formed_178 rfl 0 rfl ?_
              obtain ⟨f11, hwp⟩ := hwp
              refine kg_95 (a := a0) (pc := 179) X d_M_formed_179 x_1015 rfl f11 ?_
              refine kw_bipush (v := 23) (pc := 182) X d_M_formed_182 (by decide) ?_
              refine kw_icmp_ne (tgt := 191) (pc := 184) X d_M_formed_184 (by decide) (fun h => ?_) (fun h => ?_)
              · have hwp := ite_t h hwp
                refine kw_iconst (v := 0) (pc := 191) X d_M_formed_191 (by decide) ?_
                exact krp_z (pc := 192) X hret d_M_formed_192 (Or.inl rfl) hwp
              · have hwp := ite_f (not_not_intro h) hwp
                refine kw_iconst (v := 1) (pc := 187) X d_M_formed_187 (by decide) ?_
                refine kw_goto (tgt := 192) (pc := 188) X d_M_formed_188 (by decide) ?_
                exact krp_z (pc := 192) X hret d_M_formed_192 (Or.inr rfl) hwp
          · have hwp := ite_f (not_not_intro h) hwp
            refine kw_aload_n (pc := 157) X d_M_formed_157 rfl 0 rfl ?_
            obtain ⟨f12, hwp⟩ := hwp
            refine kg_95 (a := a0) (pc := 158) X d_M_formed_158 x_1015 rfl f12 ?_
            refine kw_bipush (v := 12) (pc := 161) X d_M_formed_161 (by decide) ?_
            refine kw_icmp_ne (tgt := 170) (pc := 163) X d_M_formed_163 (by decide) (fun h => ?_) (fun h => ?_)
            · have hwp := ite_t h hwp
              refine kw_iconst (v := 0) (pc := 170) X d_M_formed_170 (by decide) ?_
              exact krp_z (pc := 171) X hret d_M_formed_171 (Or.inl rfl) hwp
            · have hwp := ite_f (not_not_intro h) hwp
              refine kw_iconst (v := 1) (pc := 166) X d_M_formed_166 (by decide) ?_
              refine kw_goto (tgt := 171) (pc := 167) X d_M_formed_167 (by decide) ?_
              exact krp_z (pc := 171) X hret d_M_formed_171 (Or.inr rfl) hwp
        · have hwp := ite_f (not_not_intro h) hwp
          refine kw_aload_n (pc := 136) X d_M_formed_136 rfl 0 rfl ?_
          obtain ⟨f13, hwp⟩ := hwp
          refine kg_95 (a := a0) (pc := 137) X d_M_formed_137 x_1015 rfl f13 ?_
          refine kw_bipush (v := 9) (pc := 140) X d_M_formed_140 (by decide) ?_
          refine kw_icmp_ne (tgt := 149) (pc := 142) X d_M_formed_142 (by decide) (fun h => ?_) (fun h => ?_)
          · have hwp := ite_t h hwp
            refine kw_iconst (v := 0) (pc := 149) X d_M_formed_149 (by decide) ?_
            exact krp_z (pc := 150) X hret d_M_formed_150 (Or.inl rfl) hwp
          · have hwp := ite_f (not_not_intro h) hwp
            refine kw_iconst (v := 1) (pc := 145) X d_M_formed_145 (by decide) ?_
            refine kw_goto (tgt := 150) (pc := 146) X d_M_formed_146 (by decide) ?_
            exact krp_z (pc := 150) X hret d_M_formed_150 (Or.inr rfl) hwp
      · have hwp := ite_f (not_not_intro h) hwp
        refine kw_aload_n (pc := 90) X d_M_formed_90 rfl 0 rfl ?_
        obtain ⟨f14, hwp⟩ := hwp
        refine kg_95 (a := a0) (pc := 91) X d_M_formed_91 x_1015 rfl f14 ?_
        refine kw_bipush (v := 14) (pc := 94) X d_M_formed_94 (by decide) ?_
        refine kw_icmp_le (tgt := 128) (pc := 96) X d_M_formed_96 (by decide) (fun h => ?_) (fun h => ?_)
        · have hwp := ite_t h hwp
          refine kw_iconst (v := 0) (pc := 128) X d_M_formed_128 (by decide) ?_
          exact krp_z (pc := 129) X hret d_M_formed_129 (Or.inl rfl) hwp
        · have hwp := ite_f h hwp
          refine kw_aload_n (pc := 99) X d_M_formed_99 rfl 0 rfl ?_
          refine kw_aload_n (pc := 100) X d_M_formed_100 rfl 0 rfl ?_
          refine kw_bipush (v := 15) (pc := 101) X d_M_formed_101 (by decide) ?_
          refine kw_aload_n (pc := 103) X d_M_formed_103 rfl 0 rfl ?_
          refine kg_95 (a := a0) (pc := 104) X d_M_formed_104 x_1015 rfl f14 ?_
          refine kcVp_i (n := 2) (As := [.int (15 : Int32), .int (gi G 95 a0)]) (rest := [va_rf (some a0)]) (pc := 107) X (c_M_behind l t G a0 (15 : Int32) (gi G 95 a0) _) (cwV_of (C := "TreeServerModel") X x_1171 x_1168 x_1170 xp_55 x_13 (by decide +kernel) ⟨rfl, rfl⟩ (by decide)) (rv_10 X f14) rfl rfl (by simp [rf_cat, cat_i, cat_l, cat_r]) d_M_formed_107 hwp (fun v15 hwp => ?_)
          refine kw_aload_n (pc := 110) X d_M_formed_110 rfl 0 rfl ?_
          refine kg_95 (a := a0) (pc := 111) X d_M_formed_111 x_1015 rfl f14 ?_
          refine kcVp_i (n := 2) (As := [.int v15, .int (gi G 95 a0)]) (rest := []) (pc := 114) X (c_M_behind l t G a0 v15 (gi G 95 a0) _) (cwV_of (C := "TreeServerModel") X x_1171 x_1168 x_1170 xp_55 x_13 (by decide +kernel) ⟨rfl, rfl⟩ (by decide)) (rv_10 X f14) rfl rfl (by decide) d_M_formed_114 hwp (fun v16 hwp => ?_)
          refine kw_aload_n (pc := 117) X d_M_formed_117 rfl 0 rfl ?_
          refine kg_95 (a := a0) (pc := 118) X d_M_formed_118 x_1015 rfl f14 ?_
          refine kw_icmp_ne (tgt := 128) (pc := 121) X d_M_formed_121 (by decide) (fun h => ?_) (fun h => ?_)
          · have hwp := ite_t h hwp
            refine kw_iconst (v := 0) (pc := 128) X d_M_formed_128 (by decide) ?_
            exact krp_z (pc := 129) X hret d_M_formed_129 (Or.inl rfl) hwp
          · have hwp := ite_f (not_not_intro h) hwp
            refine kw_iconst (v := 1) (pc := 124) X d_M_formed_124 (by decide) ?_
            refine kw_goto (tgt := 129) (pc := 125) X d_M_formed_125 (by decide) ?_
            exact krp_z (pc := 129) X hret d_M_formed_129 (Or.inr rfl) hwp
    · have hwp := ite_f (not_not_intro h) hwp
      refine kw_aload_n (pc := 44) X d_M_formed_44 rfl 0 rfl ?_
      obtain ⟨f17, hwp⟩ := hwp
      refine kg_95 (a := a0) (pc := 45) X d_M_formed_45 x_1015 rfl f17 ?_
      refine kw_bipush (v := 10) (pc := 48) X d_M_formed_48 (by decide) ?_
      refine kw_icmp_le (tgt := 82) (pc := 50) X d_M_formed_50 (by decide) (fun h => ?_) (fun h => ?_)
      · have hwp := ite_t h hwp
        refine kw_iconst (v := 0) (pc := 82) X d_M_formed_82 (by decide) ?_
        exact krp_z (pc := 83) X hret d_M_formed_83 (Or.inl rfl) hwp
      · have hwp := ite_f h hwp
        refine kw_aload_n (pc := 53) X d_M_formed_53 rfl 0 rfl ?_
        refine kw_aload_n (pc := 54) X d_M_formed_54 rfl 0 rfl ?_
        refine kw_bipush (v := 11) (pc := 55) X d_M_formed_55 (by decide) ?_
        refine kw_aload_n (pc := 57) X d_M_formed_57 rfl 0 rfl ?_
        refine kg_95 (a := a0) (pc := 58) X d_M_formed_58 x_1015 rfl f17 ?_
        refine kcVp_i (n := 2) (As := [.int (11 : Int32), .int (gi G 95 a0)]) (rest := [va_rf (some a0)]) (pc := 61) X (c_M_behind l t G a0 (11 : Int32) (gi G 95 a0) _) (cwV_of (C := "TreeServerModel") X x_1171 x_1168 x_1170 xp_55 x_13 (by decide +kernel) ⟨rfl, rfl⟩ (by decide)) (rv_10 X f17) rfl rfl (by simp [rf_cat, cat_i, cat_l, cat_r]) d_M_formed_61 hwp (fun v18 hwp => ?_)
        refine kw_aload_n (pc := 64) X d_M_formed_64 rfl 0 rfl ?_
        refine kg_95 (a := a0) (pc := 65) X d_M_formed_65 x_1015 rfl f17 ?_
        refine kcVp_i (n := 2) (As := [.int v18, .int (gi G 95 a0)]) (rest := []) (pc := 68) X (c_M_behind l t G a0 v18 (gi G 95 a0) _) (cwV_of (C := "TreeServerModel") X x_1171 x_1168 x_1170 xp_55 x_13 (by decide +kernel) ⟨rfl, rfl⟩ (by decide)) (rv_10 X f17) rfl rfl (by decide) d_M_formed_68 hwp (fun v19 hwp => ?_)
        refine kw_aload_n (pc := 71) X d_M_formed_71 rfl 0 rfl ?_
        refine kg_95 (a := a0) (pc := 72) X d_M_formed_72 x_1015 rfl f17 ?_
        refine kw_icmp_ne (tgt := 82) (pc := 75) X d_M_formed_75 (by decide) (fun h => ?_) (fun h => ?_)
        · have hwp := ite_t h hwp
          refine kw_iconst (v := 0) (pc := 82) X d_M_formed_82 (by decide) ?_
          exact krp_z (pc := 83) X hret d_M_formed_83 (Or.inl rfl) hwp
        · have hwp := ite_f (not_not_intro h) hwp
          refine kw_iconst (v := 1) (pc := 78) X d_M_formed_78 (by decide) ?_
          refine kw_goto (tgt := 83) (pc := 79) X d_M_formed_79 (by decide) ?_
          exact krp_z (pc := 83) X hret d_M_formed_83 (Or.inr rfl) hwp
  · have hwp := ite_f (not_not_intro h) hwp
    refine kw_aload_n (pc := 6) X d_M_formed_6 rfl 0 rfl ?_
    obtain ⟨f20, hwp⟩ := hwp
    refine kg_95 (a := a0) (pc := 7) X d_M_formed_7 x_1015 rfl f20 ?_
    refine kw_bipush (v := 10) (pc := 10) X d_M_formed_10 (by decide) ?_
    refine kw_icmp_le (tgt := 36) (pc := 12) X d_M_formed_12 (by decide) (fun h => ?_) (fun h => ?_)
    · have hwp := ite_t h hwp
      refine kw_iconst (v := 0) (pc := 36) X d_M_formed_36 (by decide) ?_
      exact krp_z (pc := 37) X hret d_M_formed_37 (Or.inl rfl) hwp
    · have hwp := ite_f h hwp
      refine kw_aload_n (pc := 15) X d_M_formed_15 rfl 0 rfl ?_
      refine kw_bipush (v := 11) (pc := 16) X d_M_formed_16 (by decide) ?_
      refine kw_aload_n (pc := 18) X d_M_formed_18 rfl 0 rfl ?_
      refine kg_95 (a := a0) (pc := 19) X d_M_formed_19 x_1015 rfl f20 ?_
      refine kcVp_i (n := 2) (As := [.int (11 : Int32), .int (gi G 95 a0)]) (rest := []) (pc := 22) X (c_M_behind l t G a0 (11 : Int32) (gi G 95 a0) _) (cwV_of (C := "TreeServerModel") X x_1171 x_1168 x_1170 xp_55 x_13 (by decide +kernel) ⟨rfl, rfl⟩ (by decide)) (rv_10 X f20) rfl rfl (by decide) d_M_formed_22 hwp (fun v21 hwp => ?_)
      refine kw_aload_n (pc := 25) X d_M_formed_25 rfl 0 rfl ?_
      refine kg_95 (a := a0) (pc := 26) X d_M_formed_26 x_1015 rfl f20 ?_
      refine kw_icmp_ne (tgt := 36) (pc := 29) X d_M_formed_29 (by decide) (fun h => ?_) (fun h => ?_)
      · have hwp := ite_t h hwp
        refine kw_iconst (v := 0) (pc := 36) X d_M_formed_36 (by decide) ?_
        exact krp_z (pc := 37) X hret d_M_formed_37 (Or.inl rfl) hwp
      · have hwp := ite_f (not_not_intro h) hwp
        refine kw_iconst (v := 1) (pc := 32) X d_M_formed_32 (by decide) ?_
        refine kw_goto (tgt := 37) (pc := 33) X d_M_formed_33 (by decide) ?_
        exact krp_z (pc := 37) X hret d_M_formed_37 (Or.inr rfl) hwp
set_option maxRecDepth 100000 in
set_option maxHeartbeats 4000000 in
theorem c_M_formed (l : Launch) (t : TY) (G : GS) (a0 : Nat) (p1 : Int32) (K : Int32 → Prop) : Met l y_M_formed (Cond.code y_M_formed b_M_formed 2 (Option.some Jvm.ClassFile.FieldType.boolean) :: GW) rm_M_formed (va_Pc [.ref a0, .int p1] (fun U => HB t G U.heap ∧ HK t U ∧ w_M_formed t G a0 p1 K)) (vp_Si (fun r => isB r ∧ K r)) 0 0 (fun _ => False) := by
  refine Met.ofW (cc := b_M_formed) (maxL := 2) (ret := some .boolean) (by decide) rfl ?_
  intro p e s m args below meth c s₁ B hml hv
  obtain ⟨rfl, hB, hK, hwp⟩ := hv
  have hts := atoms_spec (ws := Cond.code y_M_formed b_M_formed 2 (Option.some Jvm.ClassFile.FieldType.boolean) :: GW) B.pre
  have X : kX p s m _ meth c b_M_formed 2 "TreeServerModel" t := ⟨B.exec, B.bytes, hml, findClass_of_methodNamed B.named, fun w h => hts w (List.mem_cons_of_mem _ h), B.notSynchronized, hK⟩
  have hZ : kZ t true s G s.heap [] := ⟨hB, va_S.rf, fun _ => ⟨rfl, rfl⟩⟩
  rw [lg_entry_eq]
  have hl := lv_entry ([.ref a0, .int p1]) (n := 2) (by simp [lg_sl, rf_cat, cat_i, cat_l, cat_r])
  exact k_M_formed X B.returns _ hwp s.heap [] _ hl hZ
abbrev b_M_version : ByteArray := prog_13_method_44_code
def y_M_version : MethodName := ⟨"TreeServerModel", "version", "(I)V"⟩
theorem d_M_version_0 : decode b_M_version 0 = .ok (.aload_n 0, 1) := by decide +kernel
theorem d_M_version_1 : decode b_M_version 1 = .ok (.bipush 7, 2) := by decide +kernel
theorem d_M_version_3 : decode b_M_version 3 = .ok (.iconst 4, 1) := by decide +kernel
theorem d_M_version_4 : decode b_M_version 4 = .ok (.invokevirtual 85, 3) := by decide +kernel
theorem d_M_version_7 : decode b_M_version 7 = .ok (.lstore_n 2, 1) := by decide +kernel
theorem d_M_version_8 : decode b_M_version 8 = .ok (.lload_n 2, 1) := by decide +kernel
theorem d_M_version_9 : decode b_M_version 9 = .ok (.ldc2_w 235, 3) := by decide +kernel
theorem d_M_version_12 : decode b_M_version 12 = .ok (.lcmp, 1) := by decide +kernel
theorem d_M_version_13 : decode b_M_version 13 = .ok (.ifCond .ge 11, 3) := by decide +kernel
theorem d_M_version_16 : decode b_M_version 16 = .ok (.aload_n 0, 1) := by decide +kernel
theorem d_M_version_17 : decode b_M_version 17 = .ok (.ldc2_w 237, 3) := by decide +kernel
theorem d_M_version_20 : decode b_M_version 20 = .ok (.putfield 193, 3) := by decide +kernel
theorem d_M_version_23 : decode b_M_version 23 = .ok (.return_, 1) := by decide +kernel
theorem d_M_version_24 : decode b_M_version 24 = .ok (.aload_n 0, 1) := by decide +kernel
theorem d_M_version_25 : decode b_M_version 25 = .ok (.iload_n 1, 1) := by decide +kernel
theorem d_M_version_26 : decode b_M_version 26 = .ok (.invokevirtual 184, 3) := by decide +kernel
theorem d_M_version_29 : decode b_M_version 29 = .ok (.aload_n 0, 1) := by decide +kernel
theorem d_M_version_30 : decode b_M_version 30 = .ok (.getfield 125, 3) := by decide +kernel
theorem d_M_version_33 : decode b_M_version 33 = .ok (.ifCond .eq 4, 3) := by decide +kernel
theorem d_M_version_36 : decode b_M_version 36 = .ok (.return_, 1) := by decide +kernel
theorem d_M_version_37 : decode b_M_version 37 = .ok (.aload_n 0, 1) := by decide +kernel
theorem d_M_version_38 : decode b_M_version 38 = .ok (.getfield 35, 3) := by decide +kernel
theorem d_M_version_41 : decode b_M_version 41 = .ok (.iload_n 1, 1) := by decide +kernel
theorem d_M_version_42 : decode b_M_version 42 = .ok (.lload_n 2, 1) := by decide +kernel
theorem d_M_version_43 : decode b_M_version 43 = .ok (.ldc2_w 239, 3) := by decide +kernel
theorem d_M_version_46 : decode b_M_version 46 = .ok (.lcmp, 1) := by decide +kernel
theorem d_M_version_47 : decode b_M_version 47 = .ok (.ifCond .le 9, 3) := by decide +kernel
theorem d_M_version_50 : decode b_M_version 50 = .ok (.sipush 128, 3) := by decide +kernel
theorem d_M_version_53 : decode b_M_version 53 = .ok (.goto 5, 3) := by decide +kernel
theorem d_M_version_56 : decode b_M_version 56 = .ok (.lload_n 2, 1) := by decide +kernel
theorem d_M_version_57 : decode b_M_version 57 = .ok (.l2i, 1) := by decide +kernel
theorem d_M_version_58 : decode b_M_version 58 = .ok (.iastore, 1) := by decide +kernel
theorem d_M_version_59 : decode b_M_version 59 = .ok (.aload_n 0, 1) := by decide +kernel
theorem d_M_version_60 : decode b_M_version 60 = .ok (.getfield 38, 3) := by decide +kernel
theorem d_M_version_63 : decode b_M_version 63 = .ok (.iload_n 1, 1) := by decide +kernel
theorem d_M_version_64 : decode b_M_version 64 = .ok (.aload_n 0, 1) := by decide +kernel
theorem d_M_version_65 : decode b_M_version 65 = .ok (.bipush 11, 2) := by decide +kernel
theorem d_M_version_67 : decode b_M_version 67 = .ok (.iconst 2, 1) := by decide +kernel
theorem d_M_version_68 : decode b_M_version 68 = .ok (.invokevirtual 85, 3) := by decide +kernel
theorem d_M_version_71 : decode b_M_version 71 = .ok (.ldc2_w 241, 3) := by decide +kernel
theorem d_M_version_74 : decode b_M_version 74 = .ok (.lcmp, 1) := by decide +kernel
theorem d_M_version_75 : decode b_M_version 75 = .ok (.ifCond .lt 22, 3) := by decide +kernel
theorem d_M_version_78 : decode b_M_version 78 = .ok (.aload_n 0, 1) := by decide +kernel
theorem d_M_version_79 : decode b_M_version 79 = .ok (.bipush 13, 2) := by decide +kernel
theorem d_M_version_81 : decode b_M_version 81 = .ok (.bipush 6, 2) := by decide +kernel
theorem d_M_version_83 : decode b_M_version 83 = .ok (.invokevirtual 85, 3) := by decide +kernel
theorem d_M_version_86 : decode b_M_version 86 = .ok (.ldc2_w 243, 3) := by decide +kernel
theorem d_M_version_89 : decode b_M_version 89 = .ok (.lcmp, 1) := by decide +kernel
theorem d_M_version_90 : decode b_M_version 90 = .ok (.ifCond .ne 7, 3) := by decide +kernel
theorem d_M_version_93 : decode b_M_version 93 = .ok (.iconst 1, 1) := by decide +kernel
theorem d_M_version_94 : decode b_M_version 94 = .ok (.goto 4, 3) := by decide +kernel
theorem d_M_version_97 : decode b_M_version 97 = .ok (.iconst 0, 1) := by decide +kernel
theorem d_M_version_98 : decode b_M_version 98 = .ok (.bastore, 1) := by decide +kernel
theorem d_M_version_99 : decode b_M_version 99 = .ok (.aload_n 0, 1) := by decide +kernel
theorem d_M_version_100 : decode b_M_version 100 = .ok (.aload_n 0, 1) := by decide +kernel
theorem d_M_version_101 : decode b_M_version 101 = .ok (.getfield 35, 3) := by decide +kernel
theorem d_M_version_104 : decode b_M_version 104 = .ok (.iload_n 1, 1) := by decide +kernel
theorem d_M_version_105 : decode b_M_version 105 = .ok (.iaload, 1) := by decide +kernel
theorem d_M_version_106 : decode b_M_version 106 = .ok (.i2l, 1) := by decide +kernel
theorem d_M_version_107 : decode b_M_version 107 = .ok (.iconst 4, 1) := by decide +kernel
theorem d_M_version_108 : decode b_M_version 108 = .ok (.invokevirtual 137, 3) := by decide +kernel
theorem d_M_version_111 : decode b_M_version 111 = .ok (.aload_n 0, 1) := by decide +kernel
theorem d_M_version_112 : decode b_M_version 112 = .ok (.aload_n 0, 1) := by decide +kernel
theorem d_M_version_113 : decode b_M_version 113 = .ok (.getfield 38, 3) := by decide +kernel
theorem d_M_version_116 : decode b_M_version 116 = .ok (.iload_n 1, 1) := by decide +kernel
theorem d_M_version_117 : decode b_M_version 117 = .ok (.baload, 1) := by decide +kernel
theorem d_M_version_118 : decode b_M_version 118 = .ok (.ifCond .eq 9, 3) := by decide +kernel
theorem d_M_version_121 : decode b_M_version 121 = .ok (.ldc2_w 243, 3) := by decide +kernel
theorem d_M_version_124 : decode b_M_version 124 = .ok (.goto 6, 3) := by decide +kernel
theorem d_M_version_127 : decode b_M_version 127 = .ok (.ldc2_w 245, 3) := by decide +kernel
theorem d_M_version_130 : decode b_M_version 130 = .ok (.invokevirtual 159, 3) := by decide +kernel
theorem d_M_version_133 : decode b_M_version 133 = .ok (.return_, 1) := by decide +kernel
abbrev rm_M_version : Room := { frames := 5, cells := 0, slots := 0, locals := 116 }
set_option maxRecDepth 100000 in
set_option maxHeartbeats 4000000 in
theorem k_M_version_130 {p : Program} {l : Launch} {e : Env} {s : State} {m : MethodId} {args : Array Value} {below : List Frame} {meth : Method} {c : Code} {t : TY} {a0 : Nat} {K : GS → Prop} (X : kX p s m args meth c b_M_version 4 "TreeServerModel" t) (hret : meth.sig.returnType = none) (s0 : Option Nat) (s1 : Int64) (G : GS) (hwp : w_M_version_130 t a0 K s0 s1 G) : kW p l e rm_M_version s m args below meth c (MQ below (va_Qv (fun u : GS => K u) (fun u T => HB t u T.heap) (tA t)) args s 0 0 (tA t)) 4 t false 130 [(0, va_rf (some a0))] [.long s1, va_rf s0] G := by
  unfold w_M_version_130 at hwp
  obtain ⟨a1, h_a1, hwp⟩ := hwp
  obtain ⟨f2, hwp⟩ := hwp
  refine kW.st (st' := [.long s1, .ref a1]) (by simp only [h_a1]; rfl) ?_
  refine kcV_v (n := 1) (As := [.long s1]) (rest := []) (pc := 130) X rfl (c_M_say l t G a1 s1 _) (cwV_of (C := "TreeServerModel") X x_1204 x_1201 x_1203 xp_61 x_13 (by decide +kernel) ⟨rfl, rfl⟩ (by decide)) (rv_10 X f2) rfl rfl (by decide) d_M_version_130 hwp (fun G3 hwp => ?_)
  exact kr_v (pc := 133) X hret d_M_version_133 hwp
set_option maxRecDepth 100000 in
set_option maxHeartbeats 4000000 in
theorem k_M_version_98 {p : Program} {l : Launch} {e : Env} {s : State} {m : MethodId} {args : Array Value} {below : List Frame} {meth : Method} {c : Code} {t : TY} {a0 : Nat} {K : GS → Prop} (X : kX p s m args meth c b_M_version 4 "TreeServerModel" t) (hret : meth.sig.returnType = none) (l1 : Int32) (s0 : Option Nat) (s1 : Int32) (s2 : Int32) (G : GS) (hwp : w_M_version_98 t a0 K l1 s0 s1 s2 G) : kW p l e rm_M_version s m args below meth c (MQ below (va_Qv (fun u : GS => K u) (fun u T => HB t u T.heap) (tA t)) args s 0 0 (tA t)) 4 t false 98 [(0, va_rf (some a0)), (1, .int l1)] [.int s2, .int s1, va_rf s0] G := by
  unfold w_M_version_98 at hwp
  obtain ⟨a1, h_a1, hwp⟩ := hwp
  obtain ⟨f2, hwp⟩ := hwp
  obtain ⟨f3, hwp⟩ := hwp
  refine ka_zast (a := a1) (pc := 98) X rfl d_M_version_98 h_a1 f2 f3 ?_
  obtain ⟨G4, e_G4⟩ : ∃ g, g = ais G a1 s1.toNatClampNeg (vp_nar .boolean s2) := ⟨_, rfl⟩
  have hwp := hwp G4 e_G4
  refine kW.g e_G4.symm ?_
  refine kw_aload_n (pc := 99) X d_M_version_99 rfl 0 rfl ?_
  refine kw_aload_n (pc := 100) X d_M_version_100 rfl 0 rfl ?_
  obtain ⟨f5, hwp⟩ := hwp
  refine kg_83 (a := a0) (pc := 101) X d_M_version_101 x_1003 rfl f5 ?_
  refine kw_iload_n (pc := 104) X d_M_version_104 rfl 1 rfl ?_
  obtain ⟨a6, h_a6, hwp⟩ := hwp
  obtain ⟨f7, hwp⟩ := hwp
  obtain ⟨f8, hwp⟩ := hwp
  refine ka_iald (a := a6) (pc := 105) X d_M_version_105 h_a6 f7 f8 ?_
  refine kw_i2l (pc := 106) X d_M_version_106 ?_
  refine kw_iconst (v := 4) (pc := 107) X d_M_version_107 (by decide) ?_
  refine kcV_v (n := 2) (As := [.long ((ai G4 a6 l1.toNatClampNeg).toInt64), .int (4 : Int32)]) (rest := []) (pc := 108) X rfl (c_M_put l t G4 a0 ((ai G4 a6 l1.toNatClampNeg).toInt64) (4 : Int32) _) (cwV_of (C := "TreeServerModel") X x_1199 x_1196 x_1198 xp_60 x_13 (by decide +kernel) ⟨rfl, rfl⟩ (by decide)) (rv_10 X f5) rfl rfl (by decide) d_M_version_108 hwp (fun G9 hwp => ?_)
  refine kw_aload_n (pc := 111) X d_M_version_111 rfl 0 rfl ?_
  refine kw_aload_n (pc := 112) X d_M_version_112 rfl 0 rfl ?_
  refine kg_84 (a := a0) (pc := 113) X d_M_version_113 x_1004 rfl f5 ?_
  refine kw_iload_n (pc := 116) X d_M_version_116 rfl 1 rfl ?_
  obtain ⟨a10, h_a10, hwp⟩ := hwp
  obtain ⟨f11, hwp⟩ := hwp
  obtain ⟨f12, hwp⟩ := hwp
  refine ka_zald (a := a10) (pc := 117) X d_M_version_117 h_a10 f11 f12 ?_
  refine kw_if_eq (tgt := 127) (pc := 118) X d_M_version_118 (by decide) (fun h => ?_) (fun h => ?_)
  · have hwp := ite_t h hwp
    refine kw_ldc2 (v := 31093567915781749) (pc := 127) X d_M_version_127 x_1200 ?_
    exact kW.sub [0] rfl (k_M_version_130 X hret  _ _ _ hwp)
  · have hwp := ite_f h hwp
    refine kw_ldc2 (v := 52983525167161) (pc := 121) X d_M_version_121 x_1195 ?_
    refine kw_goto (tgt := 130) (pc := 124) X d_M_version_124 (by decide) ?_
    exact kW.sub [0] rfl (k_M_version_130 X hret  _ _ _ hwp)
set_option maxRecDepth 100000 in
set_option maxHeartbeats 4000000 in
theorem k_M_version_97 {p : Program} {l : Launch} {e : Env} {s : State} {m : MethodId} {args : Array Value} {below : List Frame} {meth : Method} {c : Code} {t : TY} {a0 : Nat} {K : GS → Prop} (X : kX p s m args meth c b_M_version 4 "TreeServerModel" t) (hret : meth.sig.returnType = none) (l1 : Int32) (s0 : Option Nat) (s1 : Int32) (G : GS) (hwp : w_M_version_97 t a0 K l1 s0 s1 G) : kW p l e rm_M_version s m args below meth c (MQ below (va_Qv (fun u : GS => K u) (fun u T => HB t u T.heap) (tA t)) args s 0 0 (tA t)) 4 t false 97 [(0, va_rf (some a0)), (1, .int l1)] [.int s1, va_rf s0] G := by
  unfold w_M_version_97 at hwp
  refine kw_iconst (v := 0) (pc := 97) X d_M_version_97 (by decide) ?_
  exact kW.sub [0, 1] rfl (k_M_version_98 X hret  _ _ _ _ _ hwp)
set_option maxRecDepth 100000 in
set_option maxHeartbeats 4000000 in
theorem k_M_version_58 {p : Program} {l : Launch} {e : Env} {s : State} {m : MethodId} {args : Array Value} {below : List Frame} {meth : Method} {c : Code} {t : TY} {a0 : Nat} {K : GS → Prop} (X : kX p s m args meth c b_M_version 4 "TreeServerModel" t) (hret : meth.sig.returnType = none) (l1 : Int32) (s0 : Option Nat) (s1 : Int32) (s2 : Int32) (G : GS) (hwp : w_M_version_58 t a0 K l1 s0 s1 s2 G) : kW p l e rm_M_version s m args below meth c (MQ below (va_Qv (fun u : GS => K u) (fun u T => HB t u T.heap) (tA t)) args s 0 0 (tA t)) 4 t false 58 [(0, va_rf (some a0)), (1, .int l1)] [.int s2, .int s1, va_rf s0] G := by
  unfold w_M_version_58 at hwp
  obtain ⟨a1, h_a1, hwp⟩ := hwp
  obtain ⟨f2, hwp⟩ := hwp
  obtain ⟨f3, hwp⟩ := hwp
  refine ka_iast (a := a1) (pc := 58) X rfl d_M_version_58 h_a1 f2 f3 ?_
  obtain ⟨G4, e_G4⟩ : ∃ g, g = ais G a1 s1.toNatClampNeg s2 := ⟨_, rfl⟩
  have hwp := hwp G4 e_G4
  refine kW.g e_G4.symm ?_
  refine kw_aload_n (pc := 59) X d_M_version_59 rfl 0 rfl ?_
  obtain ⟨f5, hwp⟩ := hwp
  refine kg_84 (a := a0) (pc := 60) X d_M_version_60 x_1004 rfl f5 ?_
  refine kw_iload_n (pc := 63) X d_M_version_63 rfl 1 rfl ?_
  refine kw_aload_n (pc := 64) X d_M_version_64 rfl 0 rfl ?_
  refine kw_bipush (v := 11) (pc := 65) X d_M_version_65 (by decide) ?_
  refine kw_iconst (v := 2) (pc := 67) X d_M_version_67 (by decide) ?_
  refine kcVp_l (n := 2) (As := [.int (11 : Int32), .int (2 : Int32)]) (rest := [.int l1, va_rf (gr G4 84 a0)]) (pc := 68) X (c_M_get l t G4 a0 (11 : Int32) (2 : Int32) _) (cwV_of (C := "TreeServerModel") X x_1175 x_1172 x_1174 xp_56 x_13 (by decide +kernel) ⟨rfl, rfl⟩ (by decide)) (rv_10 X f5) rfl rfl (by simp [rf_cat, cat_i, cat_l, cat_r]) d_M_version_68 hwp (fun v6 hwp => ?_)
  refine kw_ldc2 (v := 6) (pc := 71) X d_M_version_71 x_1194 ?_
  refine kw_lcmp_lt (tgt := 97) (pc := 74) X d_M_version_74 d_M_version_75 (by decide) (fun h => ?_) (fun h => ?_)
  · have hwp := ite_t h hwp
    exact kW.sub [0, 1] rfl (k_M_version_97 X hret  _ _ _ _ hwp)
  · have hwp := ite_f h hwp
    refine kw_aload_n (pc := 78) X d_M_version_78 rfl 0 rfl ?_
    refine kw_bipush (v := 13) (pc := 79) X d_M_version_79 (by decide) ?_
    refine kw_bipush (v := 6) (pc := 81) X d_M_version_81 (by decide) ?_
    refine kcVp_l (n := 2) (As := [.int (13 : Int32), .int (6 : Int32)]) (rest := [.int l1, va_rf (gr G4 84 a0)]) (pc := 83) X (c_M_get l t G4 a0 (13 : Int32) (6 : Int32) _) (cwV_of (C := "TreeServerModel") X x_1175 x_1172 x_1174 xp_56 x_13 (by decide +kernel) ⟨rfl, rfl⟩ (by decide)) (rv_10 X f5) rfl rfl (by simp [rf_cat, cat_i, cat_l, cat_r]) d_M_version_83 hwp (fun v7 hwp => ?_)
    refine kw_ldc2 (v := 52983525167161) (pc := 86) X d_M_version_86 x_1195 ?_
    refine kw_lcmp_ne (tgt := 97) (pc := 89) X d_M_version_89 d_M_version_90 (by decide) (fun h => ?_) (fun h => ?_)
    · have hwp := ite_t h hwp
      exact kW.sub [0, 1] rfl (k_M_version_97 X hret  _ _ _ _ hwp)
    · have hwp := ite_f (not_not_intro h) hwp
      refine kw_iconst (v := 1) (pc := 93) X d_M_version_93 (by decide) ?_
      refine kw_goto (tgt := 98) (pc := 94) X d_M_version_94 (by decide) ?_
      exact kW.sub [0, 1] rfl (k_M_version_98 X hret  _ _ _ _ _ hwp)
set_option maxRecDepth 100000 in
set_option maxHeartbeats 4000000 in
theorem k_M_version {p : Program} {l : Launch} {e : Env} {s : State} {m : MethodId} {args : Array Value} {below : List Frame} {meth : Method} {c : Code} {t : TY} {a0 : Nat} {K : GS → Prop} (X : kX p s m args meth c b_M_version 4 "TreeServerModel" t) (hret : meth.sig.returnType = none) (G : GS) (p1 : Int32) (hwp : w_M_version t G a0 p1 K) : kW p l e rm_M_version s m args below meth c (MQ below (va_Qv (fun u : GS => K u) (fun u T => HB t u T.heap) (tA t)) args s 0 0 (tA t)) 4 t false 0 [(0, va_rf (some a0)), (1, .int p1)] [] G := by
  unfold w_M_version at hwp
  refine kw_aload_n (pc := 0) X d_M_version_0 rfl 0 rfl ?_
  refine kw_bipush (v := 7) (pc := 1) X d_M_version_1 (by decide) ?_
  refine kw_iconst (v := 4) (pc := 3) X d_M_version_3 (by decide) ?_
  obtain ⟨f1, hwp⟩ := hwp
  refine kcVp_l (n := 2) (As := [.int (7 : Int32), .int (4 : Int32)]) (rest := []) (pc := 4) X (c_M_get l t G a0 (7 : Int32) (4 : Int32) _) (cwV_of (C := "TreeServerModel") X x_1175 x_1172 x_1174 xp_56 x_13 (by decide +kernel) ⟨rfl, rfl⟩ (by decide)) (rv_10 X f1) rfl rfl (by decide) d_M_version_4 hwp (fun v2 hwp => ?_)
  refine kw_lstore_n (i := 2) (lv' := [(2, .long v2), (0, va_rf (some a0)), (1, .int p1)]) (pc := 7) X d_M_version_7 rfl (by decide) rfl ?_
  refine kw_lload_n (pc := 8) X d_M_version_8 rfl 0 rfl ?_
  refine kw_ldc2 (v := 96) (pc := 9) X d_M_version_9 x_1191 ?_
  refine kw_lcmp_ge (tgt := 24) (pc := 12) X d_M_version_12 d_M_version_13 (by decide) (fun h => ?_) (fun h => ?_)
  · have hwp := ite_t h hwp
    refine kw_aload_n (pc := 24) X d_M_version_24 rfl 1 rfl ?_
    refine kw_iload_n (pc := 25) X d_M_version_25 rfl 2 rfl ?_
    refine kcV_v (n := 1) (As := [.int p1]) (rest := []) (pc := 26) X rfl (c_M_releaseAll l t G a0 p1 _) (cwV_of (C := "TreeServerModel") X x_1099 x_1096 x_1098 xp_38 x_13 (by decide +kernel) ⟨rfl, rfl⟩ (by decide)) (rv_10 X f1) rfl rfl (by decide) d_M_version_26 hwp (fun G3 hwp => ?_)
    refine kw_aload_n (pc := 29) X d_M_version_29 rfl 1 rfl ?_
    refine kg_75 (a := a0) (pc := 30) X d_M_version_30 x_995 rfl f1 ?_
    refine kw_if_eq (tgt := 37) (pc := 33) X d_M_version_33 (by decide) (fun h => ?_) (fun h => ?_)
    · have hwp := ite_t h hwp
      refine kw_aload_n (pc := 37) X d_M_version_37 rfl 1 rfl ?_
      refine kg_83 (a := a0) (pc := 38) X d_M_version_38 x_1003 rfl f1 ?_
      refine kw_iload_n (pc := 41) X d_M_version_41 rfl 2 rfl ?_
      refine kw_lload_n (pc := 42) X d_M_version_42 rfl 0 rfl ?_
      refine kw_ldc2 (v := 128) (pc := 43) X d_M_version_43 x_1193 ?_
      refine kw_lcmp_le (tgt := 56) (pc := 46) X d_M_version_46 d_M_version_47 (by decide) (fun h => ?_) (fun h => ?_)
      · have hwp := ite_t h hwp
        refine kw_lload_n (pc := 56) X d_M_version_56 rfl 0 rfl ?_
        refine kw_l2i (pc := 57) X d_M_version_57 ?_
        exact kW.sub [1, 2] rfl (k_M_version_58 X hret  _ _ _ _ _ hwp)
      · have hwp := ite_f h hwp
        refine kw_sipush (v := 128) (pc := 50) X d_M_version_50 (by decide) ?_
        refine kw_goto (tgt := 58) (pc := 53) X d_M_version_53 (by decide) ?_
        exact kW.sub [1, 2] rfl (k_M_version_58 X hret  _ _ _ _ _ hwp)
    · have hwp := ite_f h hwp
      exact kr_v (pc := 36) X hret d_M_version_36 hwp
  · have hwp := ite_f h hwp
    refine kw_aload_n (pc := 16) X d_M_version_16 rfl 1 rfl ?_
    refine kw_ldc2 (v := 435845428077) (pc := 17) X d_M_version_17 x_1192 ?_
    refine kp_98 (a := a0) (x := (435845428077 : Int64)) (pc := 20) X rfl d_M_version_20 x_1018 rfl f1 ?_
    obtain ⟨G4, e_G4⟩ : ∃ g, g = sl G 98 a0 (435845428077 : Int64) := ⟨_, rfl⟩
    have hwp := hwp G4 e_G4
    refine kW.g e_G4.symm ?_
    exact kr_v (pc := 23) X hret d_M_version_23 hwp
set_option maxRecDepth 100000 in
set_option maxHeartbeats 4000000 in
theorem c_M_version (l : Launch) (t : TY) (G : GS) (a0 : Nat) (p1 : Int32) (K : GS → Prop) : Met l y_M_version (Cond.code y_M_version b_M_version 4 (Option.none : Option Jvm.ClassFile.FieldType) :: GW) rm_M_version (va_Pc [.ref a0, .int p1] (fun U => HB t G U.heap ∧ HK t U ∧ w_M_version t G a0 p1 K)) (va_Qv (fun u : GS => K u) (fun u T => HB t u T.heap) (tA t)) 0 0 (tA t) := by
  refine Met.ofW (cc := b_M_version) (maxL := 4) (ret := none) (by decide) rfl ?_
  intro p e s m args below meth c s₁ B hml hv
  obtain ⟨rfl, hB, hK, hwp⟩ := hv
  have hts := atoms_spec (ws := Cond.code y_M_version b_M_version 4 (Option.none : Option Jvm.ClassFile.FieldType) :: GW) B.pre
  have X : kX p s m _ meth c b_M_version 4 "TreeServerModel" t := ⟨B.exec, B.bytes, hml, findClass_of_methodNamed B.named, fun w h => hts w (List.mem_cons_of_mem _ h), B.notSynchronized, hK⟩
  have hZ : kZ t false s G s.heap [] := ⟨hB, va_S.rf, fun _ => ⟨rfl, rfl⟩⟩
  rw [lg_entry_eq]
  have hl := lv_entry ([.ref a0, .int p1]) (n := 4) (by simp [lg_sl, rf_cat, cat_i, cat_l, cat_r])
  exact k_M_version X B.returns _ _ hwp s.heap [] _ hl hZ
abbrev b_M_attach : ByteArray := prog_13_method_45_code
def y_M_attach : MethodName := ⟨"TreeServerModel", "attach", "(I)V"⟩
theorem d_M_attach_0 : decode b_M_attach 0 = .ok (.aload_n 0, 1) := by decide +kernel
theorem d_M_attach_1 : decode b_M_attach 1 = .ok (.bipush 15, 2) := by decide +kernel
theorem d_M_attach_3 : decode b_M_attach 3 = .ok (.invokevirtual 247, 3) := by decide +kernel
theorem d_M_attach_6 : decode b_M_attach 6 = .ok (.istore_n 2, 1) := by decide +kernel
theorem d_M_attach_7 : decode b_M_attach 7 = .ok (.aload_n 0, 1) := by decide +kernel
theorem d_M_attach_8 : decode b_M_attach 8 = .ok (.iload_n 1, 1) := by decide +kernel
theorem d_M_attach_9 : decode b_M_attach 9 = .ok (.aload_n 0, 1) := by decide +kernel
theorem d_M_attach_10 : decode b_M_attach 10 = .ok (.bipush 7, 2) := by decide +kernel
theorem d_M_attach_12 : decode b_M_attach 12 = .ok (.iconst 4, 1) := by decide +kernel
theorem d_M_attach_13 : decode b_M_attach 13 = .ok (.invokevirtual 85, 3) := by decide +kernel
theorem d_M_attach_16 : decode b_M_attach 16 = .ok (.invokevirtual 250, 3) := by decide +kernel
theorem d_M_attach_19 : decode b_M_attach 19 = .ok (.ifCond .lt 13, 3) := by decide +kernel
theorem d_M_attach_22 : decode b_M_attach 22 = .ok (.aload_n 0, 1) := by decide +kernel
theorem d_M_attach_23 : decode b_M_attach 23 = .ok (.ldc2_w 254, 3) := by decide +kernel
theorem d_M_attach_26 : decode b_M_attach 26 = .ok (.putfield 193, 3) := by decide +kernel
theorem d_M_attach_29 : decode b_M_attach 29 = .ok (.goto 58, 3) := by decide +kernel
theorem d_M_attach_32 : decode b_M_attach 32 = .ok (.aload_n 0, 1) := by decide +kernel
theorem d_M_attach_33 : decode b_M_attach 33 = .ok (.iload_n 1, 1) := by decide +kernel
theorem d_M_attach_34 : decode b_M_attach 34 = .ok (.invokevirtual 256, 3) := by decide +kernel
theorem d_M_attach_37 : decode b_M_attach 37 = .ok (.bipush 6, 2) := by decide +kernel
theorem d_M_attach_39 : decode b_M_attach 39 = .ok (.if_icmp .ne 13, 3) := by decide +kernel
theorem d_M_attach_42 : decode b_M_attach 42 = .ok (.aload_n 0, 1) := by decide +kernel
theorem d_M_attach_43 : decode b_M_attach 43 = .ok (.ldc2_w 259, 3) := by decide +kernel
theorem d_M_attach_46 : decode b_M_attach 46 = .ok (.putfield 193, 3) := by decide +kernel
theorem d_M_attach_49 : decode b_M_attach 49 = .ok (.goto 38, 3) := by decide +kernel
theorem d_M_attach_52 : decode b_M_attach 52 = .ok (.aload_n 0, 1) := by decide +kernel
theorem d_M_attach_53 : decode b_M_attach 53 = .ok (.bipush 11, 2) := by decide +kernel
theorem d_M_attach_55 : decode b_M_attach 55 = .ok (.iconst 4, 1) := by decide +kernel
theorem d_M_attach_56 : decode b_M_attach 56 = .ok (.invokevirtual 85, 3) := by decide +kernel
theorem d_M_attach_59 : decode b_M_attach 59 = .ok (.ldc2_w 261, 3) := by decide +kernel
theorem d_M_attach_62 : decode b_M_attach 62 = .ok (.lcmp, 1) := by decide +kernel
theorem d_M_attach_63 : decode b_M_attach 63 = .ok (.ifCond .eq 13, 3) := by decide +kernel
theorem d_M_attach_66 : decode b_M_attach 66 = .ok (.aload_n 0, 1) := by decide +kernel
theorem d_M_attach_67 : decode b_M_attach 67 = .ok (.ldc2_w 227, 3) := by decide +kernel
theorem d_M_attach_70 : decode b_M_attach 70 = .ok (.putfield 193, 3) := by decide +kernel
theorem d_M_attach_73 : decode b_M_attach 73 = .ok (.goto 14, 3) := by decide +kernel
theorem d_M_attach_76 : decode b_M_attach 76 = .ok (.iload_n 2, 1) := by decide +kernel
theorem d_M_attach_77 : decode b_M_attach 77 = .ok (.ifCond .ge 10, 3) := by decide +kernel
theorem d_M_attach_80 : decode b_M_attach 80 = .ok (.aload_n 0, 1) := by decide +kernel
theorem d_M_attach_81 : decode b_M_attach 81 = .ok (.ldc2_w 263, 3) := by decide +kernel
theorem d_M_attach_84 : decode b_M_attach 84 = .ok (.putfield 193, 3) := by decide +kernel
theorem d_M_attach_87 : decode b_M_attach 87 = .ok (.aload_n 0, 1) := by decide +kernel
theorem d_M_attach_88 : decode b_M_attach 88 = .ok (.getfield 193, 3) := by decide +kernel
theorem d_M_attach_91 : decode b_M_attach 91 = .ok (.lconst 0, 1) := by decide +kernel
theorem d_M_attach_92 : decode b_M_attach 92 = .ok (.lcmp, 1) := by decide +kernel
theorem d_M_attach_93 : decode b_M_attach 93 = .ok (.ifCond .eq 4, 3) := by decide +kernel
theorem d_M_attach_96 : decode b_M_attach 96 = .ok (.return_, 1) := by decide +kernel
theorem d_M_attach_97 : decode b_M_attach 97 = .ok (.aload_n 0, 1) := by decide +kernel
theorem d_M_attach_98 : decode b_M_attach 98 = .ok (.iload_n 1, 1) := by decide +kernel
theorem d_M_attach_99 : decode b_M_attach 99 = .ok (.aload_n 0, 1) := by decide +kernel
theorem d_M_attach_100 : decode b_M_attach 100 = .ok (.bipush 7, 2) := by decide +kernel
theorem d_M_attach_102 : decode b_M_attach 102 = .ok (.iconst 4, 1) := by decide +kernel
theorem d_M_attach_103 : decode b_M_attach 103 = .ok (.invokevirtual 85, 3) := by decide +kernel
theorem d_M_attach_106 : decode b_M_attach 106 = .ok (.iconst 0, 1) := by decide +kernel
theorem d_M_attach_107 : decode b_M_attach 107 = .ok (.iload_n 2, 1) := by decide +kernel
theorem d_M_attach_108 : decode b_M_attach 108 = .ok (.invokevirtual 265, 3) := by decide +kernel
theorem d_M_attach_111 : decode b_M_attach 111 = .ok (.aload_n 0, 1) := by decide +kernel
theorem d_M_attach_112 : decode b_M_attach 112 = .ok (.iconst 0, 1) := by decide +kernel
theorem d_M_attach_113 : decode b_M_attach 113 = .ok (.invokevirtual 156, 3) := by decide +kernel
theorem d_M_attach_116 : decode b_M_attach 116 = .ok (.return_, 1) := by decide +kernel
abbrev rm_M_attach : Room := { frames := 3, cells := 0, slots := 0, locals := 71 }
set_option maxRecDepth 100000 in
set_option maxHeartbeats 4000000 in
theorem k_M_attach_87 {p : Program} {l : Launch} {e : Env} {s : State} {m : MethodId} {args : Array Value} {below : List Frame} {meth : Method} {c : Code} {t : TY} {a0 : Nat} {K : GS → Prop} (X : kX p s m args meth c b_M_attach 3 "TreeServerModel" t) (hret : meth.sig.returnType = none) (l1 : Int32) (l2 : Int32) (G : GS) (hwp : w_M_attach_87 t a0 K l1 l2 G) : kW p l e rm_M_attach s m args below meth c (MQ below (va_Qv (fun u : GS => K u) (fun u T => HB t u T.heap) (tA t)) args s 0 0 (tA t)) 3 t false 87 [(0, va_rf (some a0)), (1, .int l1), (2, .int l2)] [] G := by
  unfold w_M_attach_87 at hwp
  refine kw_aload_n (pc := 87) X d_M_attach_87 rfl 0 rfl ?_
  obtain ⟨f1, hwp⟩ := hwp
  refine kg_98 (a := a0) (pc := 88) X d_M_attach_88 x_1018 rfl f1 ?_
  refine kw_lconst (v := 0) (pc := 91) X d_M_attach_91 (by decide) ?_
  refine kw_lcmp_eq (tgt := 97) (pc := 92) X d_M_attach_92 d_M_attach_93 (by decide) (fun h => ?_) (fun h => ?_)
  · have hwp := ite_t h hwp
    refine kw_aload_n (pc := 97) X d_M_attach_97 rfl 0 rfl ?_
    refine kw_iload_n (pc := 98) X d_M_attach_98 rfl 1 rfl ?_
    refine kw_aload_n (pc := 99) X d_M_attach_99 rfl 0 rfl ?_
    refine kw_bipush (v := 7) (pc := 100) X d_M_attach_100 (by decide) ?_
    refine kw_iconst (v := 4) (pc := 102) X d_M_attach_102 (by decide) ?_
    refine kcVp_l (n := 2) (As := [.int (7 : Int32), .int (4 : Int32)]) (rest := [.int l1, va_rf (some a0)]) (pc := 103) X (c_M_get l t G a0 (7 : Int32) (4 : Int32) _) (cwV_of (C := "TreeServerModel") X x_1175 x_1172 x_1174 xp_56 x_13 (by decide +kernel) ⟨rfl, rfl⟩ (by decide)) (rv_10 X f1) rfl rfl (by simp [rf_cat, cat_i, cat_l, cat_r]) d_M_attach_103 hwp (fun v2 hwp => ?_)
    refine kw_iconst (v := 0) (pc := 106) X d_M_attach_106 (by decide) ?_
    refine kw_iload_n (pc := 107) X d_M_attach_107 rfl 2 rfl ?_
    refine kcV_v (n := 4) (As := [.int l1, .long v2, .int (0 : Int32), .int l2]) (rest := []) (pc := 108) X rfl (c_M_make l t G a0 l1 v2 (0 : Int32) l2 _) (cwV_of (C := "TreeServerModel") X x_1235 x_1232 x_1234 xp_66 x_13 (by decide +kernel) ⟨rfl, rfl⟩ (by decide)) (rv_10 X f1) rfl rfl (by decide) d_M_attach_108 hwp (fun G3 hwp => ?_)
    refine kw_aload_n (pc := 111) X d_M_attach_111 rfl 0 rfl ?_
    refine kw_iconst (v := 0) (pc := 112) X d_M_attach_112 (by decide) ?_
    refine kcV_v (n := 1) (As := [.int (0 : Int32)]) (rest := []) (pc := 113) X rfl (c_M_qid l t G3 a0 (0 : Int32) _) (cwV_of (C := "TreeServerModel") X x_1243 x_1240 x_1242 xp_68 x_13 (by decide +kernel) ⟨rfl, rfl⟩ (by decide)) (rv_10 X f1) rfl rfl (by decide) d_M_attach_113 hwp (fun G4 hwp => ?_)
    exact kr_v (pc := 116) X hret d_M_attach_116 hwp
  · have hwp := ite_f h hwp
    exact kr_v (pc := 96) X hret d_M_attach_96 hwp
set_option maxRecDepth 100000 in
set_option maxHeartbeats 4000000 in
theorem k_M_attach {p : Program} {l : Launch} {e : Env} {s : State} {m : MethodId} {args : Array Value} {below : List Frame} {meth : Method} {c : Code} {t : TY} {a0 : Nat} {K : GS → Prop} (X : kX p s m args meth c b_M_attach 3 "TreeServerModel" t) (hret : meth.sig.returnType = none) (G : GS) (p1 : Int32) (hwp : w_M_attach t G a0 p1 K) : kW p l e rm_M_attach s m args below meth c (MQ below (va_Qv (fun u : GS => K u) (fun u T => HB t u T.heap) (tA t)) args s 0 0 (tA t)) 3 t false 0 [(0, va_rf (some a0)), (1, .int p1)] [] G := by
  unfold w_M_attach at hwp
  refine kw_aload_n (pc := 0) X d_M_attach_0 rfl 0 rfl ?_
  refine kw_bipush (v := 15) (pc := 1) X d_M_attach_1 (by decide) ?_
  obtain ⟨f1, hwp⟩ := hwp
  refine kcVp_i (n := 1) (As := [.int (15 : Int32)]) (rest := []) (pc := 3) X (c_M_userAt l t G a0 (15 : Int32) _) (cwV_of (C := "TreeServerModel") X x_1216 x_1213 x_1215 xp_63 x_13 (by decide +kernel) ⟨rfl, rfl⟩ (by decide)) (rv_10 X f1) rfl rfl (by decide) d_M_attach_3 hwp (fun v2 hwp => ?_)
  refine kw_istore_n (i := 2) (lv' := [(2, .int v2), (0, va_rf (some a0)), (1, .int p1)]) (pc := 6) X d_M_attach_6 rfl (by decide) rfl ?_
  refine kw_aload_n (pc := 7) X d_M_attach_7 rfl 1 rfl ?_
  refine kw_iload_n (pc := 8) X d_M_attach_8 rfl 2 rfl ?_
  refine kw_aload_n (pc := 9) X d_M_attach_9 rfl 1 rfl ?_
  refine kw_bipush (v := 7) (pc := 10) X d_M_attach_10 (by decide) ?_
  refine kw_iconst (v := 4) (pc := 12) X d_M_attach_12 (by decide) ?_
  refine kcVp_l (n := 2) (As := [.int (7 : Int32), .int (4 : Int32)]) (rest := [.int p1, va_rf (some a0)]) (pc := 13) X (c_M_get l t G a0 (7 : Int32) (4 : Int32) _) (cwV_of (C := "TreeServerModel") X x_1175 x_1172 x_1174 xp_56 x_13 (by decide +kernel) ⟨rfl, rfl⟩ (by decide)) (rv_10 X f1) rfl rfl (by simp [rf_cat, cat_i, cat_l, cat_r]) d_M_attach_13 hwp (fun v3 hwp => ?_)
  refine kcVp_i (n := 2) (As := [.int p1, .long v3]) (rest := []) (pc := 16) X (c_M_fid l t G a0 p1 v3 _) (cwV_of (C := "TreeServerModel") X x_1223 x_1220 x_1222 xp_64 x_13 (by decide +kernel) ⟨rfl, rfl⟩ (by decide)) (rv_10 X f1) rfl rfl (by decide) d_M_attach_16 hwp (fun v4 hwp => ?_)
  refine kw_if_lt (tgt := 32) (pc := 19) X d_M_attach_19 (by decide) (fun h => ?_) (fun h => ?_)
  · have hwp := ite_t h hwp
    refine kw_aload_n (pc := 32) X d_M_attach_32 rfl 1 rfl ?_
    refine kw_iload_n (pc := 33) X d_M_attach_33 rfl 2 rfl ?_
    refine kcVp_i (n := 1) (As := [.int p1]) (rest := []) (pc := 34) X (c_M_many l t G a0 p1 _) (cwV_of (C := "TreeServerModel") X x_1228 x_1225 x_1227 xp_65 x_13 (by decide +kernel) ⟨rfl, rfl⟩ (by decide)) (rv_10 X f1) rfl rfl (by decide) d_M_attach_34 hwp (fun v5 hwp => ?_)
    refine kw_bipush (v := 6) (pc := 37) X d_M_attach_37 (by decide) ?_
    refine kw_icmp_ne (tgt := 52) (pc := 39) X d_M_attach_39 (by decide) (fun h => ?_) (fun h => ?_)
    · have hwp := ite_t h hwp
      refine kw_aload_n (pc := 52) X d_M_attach_52 rfl 1 rfl ?_
      refine kw_bipush (v := 11) (pc := 53) X d_M_attach_53 (by decide) ?_
      refine kw_iconst (v := 4) (pc := 55) X d_M_attach_55 (by decide) ?_
      refine kcVp_l (n := 2) (As := [.int (11 : Int32), .int (4 : Int32)]) (rest := []) (pc := 56) X (c_M_get l t G a0 (11 : Int32) (4 : Int32) _) (cwV_of (C := "TreeServerModel") X x_1175 x_1172 x_1174 xp_56 x_13 (by decide +kernel) ⟨rfl, rfl⟩ (by decide)) (rv_10 X f1) rfl rfl (by decide) d_M_attach_56 hwp (fun v6 hwp => ?_)
      refine kw_ldc2 (v := 4294967295) (pc := 59) X d_M_attach_59 x_1230 ?_
      refine kw_lcmp_eq (tgt := 76) (pc := 62) X d_M_attach_62 d_M_attach_63 (by decide) (fun h => ?_) (fun h => ?_)
      · have hwp := ite_t h hwp
        refine kw_iload_n (pc := 76) X d_M_attach_76 rfl 0 rfl ?_
        refine kw_if_ge (tgt := 87) (pc := 77) X d_M_attach_77 (by decide) (fun h => ?_) (fun h => ?_)
        · have hwp := ite_t h hwp
          exact kW.sub [1, 2, 0] rfl (k_M_attach_87 X hret  _ _ _ hwp)
        · have hwp := ite_f h hwp
          refine kw_aload_n (pc := 80) X d_M_attach_80 rfl 1 rfl ?_
          refine kw_ldc2 (v := 1919251317) (pc := 81) X d_M_attach_81 x_1231 ?_
          refine kp_98 (a := a0) (x := (1919251317 : Int64)) (pc := 84) X rfl d_M_attach_84 x_1018 rfl f1 ?_
          obtain ⟨G7, e_G7⟩ : ∃ g, g = sl G 98 a0 (1919251317 : Int64) := ⟨_, rfl⟩
          have hwp := hwp G7 e_G7
          refine kW.g e_G7.symm ?_
          exact kW.sub [1, 2, 0] rfl (k_M_attach_87 X hret  _ _ _ hwp)
      · have hwp := ite_f h hwp
        refine kw_aload_n (pc := 66) X d_M_attach_66 rfl 1 rfl ?_
        refine kw_ldc2 (v := 1752462689) (pc := 67) X d_M_attach_67 x_1208 ?_
        refine kp_98 (a := a0) (x := (1752462689 : Int64)) (pc := 70) X rfl d_M_attach_70 x_1018 rfl f1 ?_
        obtain ⟨G8, e_G8⟩ : ∃ g, g = sl G 98 a0 (1752462689 : Int64) := ⟨_, rfl⟩
        have hwp := hwp G8 e_G8
        refine kW.g e_G8.symm ?_
        refine kw_goto (tgt := 87) (pc := 73) X d_M_attach_73 (by decide) ?_
        exact kW.sub [1, 2, 0] rfl (k_M_attach_87 X hret  _ _ _ hwp)
    · have hwp := ite_f (not_not_intro h) hwp
      refine kw_aload_n (pc := 42) X d_M_attach_42 rfl 1 rfl ?_
      refine kw_ldc2 (v := 1935960422) (pc := 43) X d_M_attach_43 x_1229 ?_
      refine kp_98 (a := a0) (x := (1935960422 : Int64)) (pc := 46) X rfl d_M_attach_46 x_1018 rfl f1 ?_
      obtain ⟨G9, e_G9⟩ : ∃ g, g = sl G 98 a0 (1935960422 : Int64) := ⟨_, rfl⟩
      have hwp := hwp G9 e_G9
      refine kW.g e_G9.symm ?_
      refine kw_goto (tgt := 87) (pc := 49) X d_M_attach_49 (by decide) ?_
      exact kW.sub [1, 2, 0] rfl (k_M_attach_87 X hret  _ _ _ hwp)
  · have hwp := ite_f h hwp
    refine kw_aload_n (pc := 22) X d_M_attach_22 rfl 1 rfl ?_
    refine kw_ldc2 (v := 435728772713) (pc := 23) X d_M_attach_23 x_1224 ?_
    refine kp_98 (a := a0) (x := (435728772713 : Int64)) (pc := 26) X rfl d_M_attach_26 x_1018 rfl f1 ?_
    obtain ⟨G10, e_G10⟩ : ∃ g, g = sl G 98 a0 (435728772713 : Int64) := ⟨_, rfl⟩
    have hwp := hwp G10 e_G10
    refine kW.g e_G10.symm ?_
    refine kw_goto (tgt := 87) (pc := 29) X d_M_attach_29 (by decide) ?_
    exact kW.sub [1, 2, 0] rfl (k_M_attach_87 X hret  _ _ _ hwp)
set_option maxRecDepth 100000 in
set_option maxHeartbeats 4000000 in
theorem c_M_attach (l : Launch) (t : TY) (G : GS) (a0 : Nat) (p1 : Int32) (K : GS → Prop) : Met l y_M_attach (Cond.code y_M_attach b_M_attach 3 (Option.none : Option Jvm.ClassFile.FieldType) :: GW) rm_M_attach (va_Pc [.ref a0, .int p1] (fun U => HB t G U.heap ∧ HK t U ∧ w_M_attach t G a0 p1 K)) (va_Qv (fun u : GS => K u) (fun u T => HB t u T.heap) (tA t)) 0 0 (tA t) := by
  refine Met.ofW (cc := b_M_attach) (maxL := 3) (ret := none) (by decide) rfl ?_
  intro p e s m args below meth c s₁ B hml hv
  obtain ⟨rfl, hB, hK, hwp⟩ := hv
  have hts := atoms_spec (ws := Cond.code y_M_attach b_M_attach 3 (Option.none : Option Jvm.ClassFile.FieldType) :: GW) B.pre
  have X : kX p s m _ meth c b_M_attach 3 "TreeServerModel" t := ⟨B.exec, B.bytes, hml, findClass_of_methodNamed B.named, fun w h => hts w (List.mem_cons_of_mem _ h), B.notSynchronized, hK⟩
  have hZ : kZ t false s G s.heap [] := ⟨hB, va_S.rf, fun _ => ⟨rfl, rfl⟩⟩
  rw [lg_entry_eq]
  have hl := lv_entry ([.ref a0, .int p1]) (n := 3) (by simp [lg_sl, rf_cat, cat_i, cat_l, cat_r])
  exact k_M_attach X B.returns _ _ hwp s.heap [] _ hl hZ
abbrev b_M_remove : ByteArray := prog_13_method_48_code
def y_M_remove : MethodName := ⟨"TreeServerModel", "remove", "(II)V"⟩
theorem d_M_remove_0 : decode b_M_remove 0 = .ok (.aload_n 0, 1) := by decide +kernel
theorem d_M_remove_1 : decode b_M_remove 1 = .ok (.getfield 45, 3) := by decide +kernel
theorem d_M_remove_4 : decode b_M_remove 4 = .ok (.iload_n 1, 1) := by decide +kernel
theorem d_M_remove_5 : decode b_M_remove 5 = .ok (.iconst 0, 1) := by decide +kernel
theorem d_M_remove_6 : decode b_M_remove 6 = .ok (.bastore, 1) := by decide +kernel
theorem d_M_remove_7 : decode b_M_remove 7 = .ok (.iload_n 2, 1) := by decide +kernel
theorem d_M_remove_8 : decode b_M_remove 8 = .ok (.ifCond .ge 13, 3) := by decide +kernel
theorem d_M_remove_11 : decode b_M_remove 11 = .ok (.aload_n 0, 1) := by decide +kernel
theorem d_M_remove_12 : decode b_M_remove 12 = .ok (.ldc2_w 274, 3) := by decide +kernel
theorem d_M_remove_15 : decode b_M_remove 15 = .ok (.putfield 193, 3) := by decide +kernel
theorem d_M_remove_18 : decode b_M_remove 18 = .ok (.goto 50, 3) := by decide +kernel
theorem d_M_remove_21 : decode b_M_remove 21 = .ok (.aload_n 0, 1) := by decide +kernel
theorem d_M_remove_22 : decode b_M_remove 22 = .ok (.iload_n 2, 1) := by decide +kernel
theorem d_M_remove_23 : decode b_M_remove 23 = .ok (.aload_n 0, 1) := by decide +kernel
theorem d_M_remove_24 : decode b_M_remove 24 = .ok (.getfield 55, 3) := by decide +kernel
theorem d_M_remove_27 : decode b_M_remove 27 = .ok (.iload_n 1, 1) := by decide +kernel
theorem d_M_remove_28 : decode b_M_remove 28 = .ok (.iaload, 1) := by decide +kernel
theorem d_M_remove_29 : decode b_M_remove 29 = .ok (.invokevirtual 166, 3) := by decide +kernel
theorem d_M_remove_32 : decode b_M_remove 32 = .ok (.ifCond .ne 13, 3) := by decide +kernel
theorem d_M_remove_35 : decode b_M_remove 35 = .ok (.aload_n 0, 1) := by decide +kernel
theorem d_M_remove_36 : decode b_M_remove 36 = .ok (.ldc2_w 303, 3) := by decide +kernel
theorem d_M_remove_39 : decode b_M_remove 39 = .ok (.putfield 193, 3) := by decide +kernel
theorem d_M_remove_42 : decode b_M_remove 42 = .ok (.goto 26, 3) := by decide +kernel
theorem d_M_remove_45 : decode b_M_remove 45 = .ok (.aload_n 0, 1) := by decide +kernel
theorem d_M_remove_46 : decode b_M_remove 46 = .ok (.iload_n 2, 1) := by decide +kernel
theorem d_M_remove_47 : decode b_M_remove 47 = .ok (.invokevirtual 97, 3) := by decide +kernel
theorem d_M_remove_50 : decode b_M_remove 50 = .ok (.ifCond .eq 18, 3) := by decide +kernel
theorem d_M_remove_53 : decode b_M_remove 53 = .ok (.aload_n 0, 1) := by decide +kernel
theorem d_M_remove_54 : decode b_M_remove 54 = .ok (.iload_n 2, 1) := by decide +kernel
theorem d_M_remove_55 : decode b_M_remove 55 = .ok (.invokevirtual 101, 3) := by decide +kernel
theorem d_M_remove_58 : decode b_M_remove 58 = .ok (.ifCond .le 10, 3) := by decide +kernel
theorem d_M_remove_61 : decode b_M_remove 61 = .ok (.aload_n 0, 1) := by decide +kernel
theorem d_M_remove_62 : decode b_M_remove 62 = .ok (.ldc2_w 305, 3) := by decide +kernel
theorem d_M_remove_65 : decode b_M_remove 65 = .ok (.putfield 193, 3) := by decide +kernel
theorem d_M_remove_68 : decode b_M_remove 68 = .ok (.aload_n 0, 1) := by decide +kernel
theorem d_M_remove_69 : decode b_M_remove 69 = .ok (.getfield 193, 3) := by decide +kernel
theorem d_M_remove_72 : decode b_M_remove 72 = .ok (.lconst 0, 1) := by decide +kernel
theorem d_M_remove_73 : decode b_M_remove 73 = .ok (.lcmp, 1) := by decide +kernel
theorem d_M_remove_74 : decode b_M_remove 74 = .ok (.ifCond .eq 4, 3) := by decide +kernel
theorem d_M_remove_77 : decode b_M_remove 77 = .ok (.return_, 1) := by decide +kernel
theorem d_M_remove_78 : decode b_M_remove 78 = .ok (.aload_n 0, 1) := by decide +kernel
theorem d_M_remove_79 : decode b_M_remove 79 = .ok (.invokevirtual 170, 3) := by decide +kernel
theorem d_M_remove_82 : decode b_M_remove 82 = .ok (.aload_n 0, 1) := by decide +kernel
theorem d_M_remove_83 : decode b_M_remove 83 = .ok (.iload_n 2, 1) := by decide +kernel
theorem d_M_remove_84 : decode b_M_remove 84 = .ok (.aload_n 0, 1) := by decide +kernel
theorem d_M_remove_85 : decode b_M_remove 85 = .ok (.getfield 55, 3) := by decide +kernel
theorem d_M_remove_88 : decode b_M_remove 88 = .ok (.iload_n 1, 1) := by decide +kernel
theorem d_M_remove_89 : decode b_M_remove 89 = .ok (.iaload, 1) := by decide +kernel
theorem d_M_remove_90 : decode b_M_remove 90 = .ok (.invokevirtual 173, 3) := by decide +kernel
theorem d_M_remove_93 : decode b_M_remove 93 = .ok (.aload_n 0, 1) := by decide +kernel
theorem d_M_remove_94 : decode b_M_remove 94 = .ok (.aload_n 0, 1) := by decide +kernel
theorem d_M_remove_95 : decode b_M_remove 95 = .ok (.getfield 187, 3) := by decide +kernel
theorem d_M_remove_98 : decode b_M_remove 98 = .ok (.invokevirtual 176, 3) := by decide +kernel
theorem d_M_remove_101 : decode b_M_remove 101 = .ok (.istore_n 3, 1) := by decide +kernel
theorem d_M_remove_102 : decode b_M_remove 102 = .ok (.return_, 1) := by decide +kernel
abbrev rm_M_remove : Room := { frames := 3, cells := 0, slots := 0, locals := 69 }
set_option maxRecDepth 100000 in
set_option maxHeartbeats 4000000 in
theorem k_M_remove_68 {p : Program} {l : Launch} {e : Env} {s : State} {m : MethodId} {args : Array Value} {below : List Frame} {meth : Method} {c : Code} {t : TY} {a0 : Nat} {K : GS → Prop} (X : kX p s m args meth c b_M_remove 4 "TreeServerModel" t) (hret : meth.sig.returnType = none) (l1 : Int32) (l2 : Int32) (G : GS) (hwp : w_M_remove_68 t a0 K l1 l2 G) : kW p l e rm_M_remove s m args below meth c (MQ below (va_Qv (fun u : GS => K u) (fun u T => HB t u T.heap) (tA t)) args s 0 0 (tA t)) 4 t false 68 [(0, va_rf (some a0)), (1, .int l1), (2, .int l2)] [] G := by
  unfold w_M_remove_68 at hwp
  refine kw_aload_n (pc := 68) X d_M_remove_68 rfl 0 rfl ?_
  obtain ⟨f1, hwp⟩ := hwp
  refine kg_98 (a := a0) (pc := 69) X d_M_remove_69 x_1018 rfl f1 ?_
  refine kw_lconst (v := 0) (pc := 72) X d_M_remove_72 (by decide) ?_
  refine kw_lcmp_eq (tgt := 78) (pc := 73) X d_M_remove_73 d_M_remove_74 (by decide) (fun h => ?_) (fun h => ?_)
  · have hwp := ite_t h hwp
    refine kw_aload_n (pc := 78) X d_M_remove_78 rfl 0 rfl ?_
    refine kcV_v (n := 0) (As := []) (rest := []) (pc := 79) X rfl (c_M_begin l t G a0 _) (cwV_of (C := "TreeServerModel") X x_1131 x_1128 x_1130 xp_46 x_13 (by decide +kernel) ⟨rfl, rfl⟩ (by decide)) (rv_10 X f1) rfl rfl (by decide) d_M_remove_79 hwp (fun G2 hwp => ?_)
    refine kw_aload_n (pc := 82) X d_M_remove_82 rfl 0 rfl ?_
    refine kw_iload_n (pc := 83) X d_M_remove_83 rfl 2 rfl ?_
    refine kw_aload_n (pc := 84) X d_M_remove_84 rfl 0 rfl ?_
    refine kg_89 (a := a0) (pc := 85) X d_M_remove_85 x_1009 rfl f1 ?_
    refine kw_iload_n (pc := 88) X d_M_remove_88 rfl 1 rfl ?_
    obtain ⟨a3, h_a3, hwp⟩ := hwp
    obtain ⟨f4, hwp⟩ := hwp
    obtain ⟨f5, hwp⟩ := hwp
    refine ka_iald (a := a3) (pc := 89) X d_M_remove_89 h_a3 f4 f5 ?_
    refine kcV_v (n := 2) (As := [.int l2, .int (ai G2 a3 l1.toNatClampNeg)]) (rest := []) (pc := 90) X rfl (c_M_cutOut l t G2 a0 l2 (ai G2 a3 l1.toNatClampNeg) _) (cwV_of (C := "TreeServerModel") X x_1135 x_1132 x_1134 xp_47 x_13 (by decide +kernel) ⟨rfl, rfl⟩ (by decide)) (rv_10 X f1) rfl rfl (by decide) d_M_remove_90 hwp (fun G6 hwp => ?_)
    refine kw_aload_n (pc := 93) X d_M_remove_93 rfl 0 rfl ?_
    refine kw_aload_n (pc := 94) X d_M_remove_94 rfl 0 rfl ?_
    refine kg_95 (a := a0) (pc := 95) X d_M_remove_95 x_1015 rfl f1 ?_
    refine kcV_i (n := 1) (As := [.int (gi G6 95 a0)]) (rest := []) (pc := 98) X rfl (c_M_commit l t G6 a0 (gi G6 95 a0) _) (cwV_of (C := "TreeServerModel") X x_1147 x_1144 x_1146 xp_50 x_13 (by decide +kernel) ⟨rfl, rfl⟩ (by decide)) (rv_10 X f1) rfl rfl (by decide) d_M_remove_98 hwp (fun v8 G7 hwp => ?_)
    obtain ⟨b_v8, hwp⟩ := hwp
    refine kw_istore_n (i := 3) (lv' := [(3, .int v8), (0, va_rf (some a0)), (1, .int l1), (2, .int l2)]) (pc := 101) X d_M_remove_101 rfl (by decide) rfl ?_
    exact kr_v (pc := 102) X hret d_M_remove_102 hwp
  · have hwp := ite_f h hwp
    exact kr_v (pc := 77) X hret d_M_remove_77 hwp
set_option maxRecDepth 100000 in
set_option maxHeartbeats 4000000 in
theorem k_M_remove {p : Program} {l : Launch} {e : Env} {s : State} {m : MethodId} {args : Array Value} {below : List Frame} {meth : Method} {c : Code} {t : TY} {a0 : Nat} {K : GS → Prop} (X : kX p s m args meth c b_M_remove 4 "TreeServerModel" t) (hret : meth.sig.returnType = none) (G : GS) (p1 : Int32) (p2 : Int32) (hwp : w_M_remove t G a0 p1 p2 K) : kW p l e rm_M_remove s m args below meth c (MQ below (va_Qv (fun u : GS => K u) (fun u T => HB t u T.heap) (tA t)) args s 0 0 (tA t)) 4 t false 0 [(0, va_rf (some a0)), (1, .int p1), (2, .int p2)] [] G := by
  unfold w_M_remove at hwp
  refine kw_aload_n (pc := 0) X d_M_remove_0 rfl 0 rfl ?_
  obtain ⟨f1, hwp⟩ := hwp
  refine kg_86 (a := a0) (pc := 1) X d_M_remove_1 x_1006 rfl f1 ?_
  refine kw_iload_n (pc := 4) X d_M_remove_4 rfl 1 rfl ?_
  refine kw_iconst (v := 0) (pc := 5) X d_M_remove_5 (by decide) ?_
  obtain ⟨a2, h_a2, hwp⟩ := hwp
  obtain ⟨f3, hwp⟩ := hwp
  obtain ⟨f4, hwp⟩ := hwp
  refine ka_zast (a := a2) (pc := 6) X rfl d_M_remove_6 h_a2 f3 f4 ?_
  obtain ⟨G5, e_G5⟩ : ∃ g, g = ais G a2 p1.toNatClampNeg (vp_nar .boolean (0 : Int32)) := ⟨_, rfl⟩
  have hwp := hwp G5 e_G5
  refine kW.g e_G5.symm ?_
  refine kw_iload_n (pc := 7) X d_M_remove_7 rfl 2 rfl ?_
  refine kw_if_ge (tgt := 21) (pc := 8) X d_M_remove_8 (by decide) (fun h => ?_) (fun h => ?_)
  · have hwp := ite_t h hwp
    refine kw_aload_n (pc := 21) X d_M_remove_21 rfl 0 rfl ?_
    refine kw_iload_n (pc := 22) X d_M_remove_22 rfl 2 rfl ?_
    refine kw_aload_n (pc := 23) X d_M_remove_23 rfl 0 rfl ?_
    refine kg_89 (a := a0) (pc := 24) X d_M_remove_24 x_1009 rfl f1 ?_
    refine kw_iload_n (pc := 27) X d_M_remove_27 rfl 1 rfl ?_
    obtain ⟨a6, h_a6, hwp⟩ := hwp
    obtain ⟨f7, hwp⟩ := hwp
    obtain ⟨f8, hwp⟩ := hwp
    refine ka_iald (a := a6) (pc := 28) X d_M_remove_28 h_a6 f7 f8 ?_
    refine kcVp_i (n := 2) (As := [.int p2, .int (ai G5 a6 p1.toNatClampNeg)]) (rest := []) (pc := 29) X (c_M_mayIn l t G5 a0 p2 (ai G5 a6 p1.toNatClampNeg) _) (cwV_of (C := "TreeServerModel") X x_1123 x_1120 x_1122 xp_44 x_13 (by decide +kernel) ⟨rfl, rfl⟩ (by decide)) (rv_10 X f1) rfl rfl (by decide) d_M_remove_29 hwp (fun v9 hwp => ?_)
    obtain ⟨b_v9, hwp⟩ := hwp
    refine kw_if_ne (tgt := 45) (pc := 32) X d_M_remove_32 (by decide) (fun h => ?_) (fun h => ?_)
    · have hwp := ite_t h hwp
      refine kw_aload_n (pc := 45) X d_M_remove_45 rfl 0 rfl ?_
      refine kw_iload_n (pc := 46) X d_M_remove_46 rfl 2 rfl ?_
      refine kcVp_i (n := 1) (As := [.int p2]) (rest := []) (pc := 47) X (c_M_isDirectory l t G5 a0 p2 _) (cwV_of (C := "TreeServerModel") X x_1115 x_1112 x_1114 xp_42 x_13 (by decide +kernel) ⟨rfl, rfl⟩ (by decide)) (rv_10 X f1) rfl rfl (by decide) d_M_remove_47 hwp (fun v10 hwp => ?_)
      obtain ⟨b_v10, hwp⟩ := hwp
      refine kw_if_eq (tgt := 68) (pc := 50) X d_M_remove_50 (by decide) (fun h => ?_) (fun h => ?_)
      · have hwp := ite_t h hwp
        exact kW.sub [0, 1, 2] rfl (k_M_remove_68 X hret  _ _ _ hwp)
      · have hwp := ite_f h hwp
        refine kw_aload_n (pc := 53) X d_M_remove_53 rfl 0 rfl ?_
        refine kw_iload_n (pc := 54) X d_M_remove_54 rfl 2 rfl ?_
        refine kcVp_i (n := 1) (As := [.int p2]) (rest := []) (pc := 55) X (c_M_entries l t G5 a0 p2 _) (cwV_of (C := "TreeServerModel") X x_1119 x_1116 x_1118 xp_43 x_13 (by decide +kernel) ⟨rfl, rfl⟩ (by decide)) (rv_10 X f1) rfl rfl (by decide) d_M_remove_55 hwp (fun v11 hwp => ?_)
        refine kw_if_le (tgt := 68) (pc := 58) X d_M_remove_58 (by decide) (fun h => ?_) (fun h => ?_)
        · have hwp := ite_t h hwp
          exact kW.sub [0, 1, 2] rfl (k_M_remove_68 X hret  _ _ _ hwp)
        · have hwp := ite_f h hwp
          refine kw_aload_n (pc := 61) X d_M_remove_61 rfl 0 rfl ?_
          refine kw_ldc2 (v := 521644567909) (pc := 62) X d_M_remove_62 x_1255 ?_
          refine kp_98 (a := a0) (x := (521644567909 : Int64)) (pc := 65) X rfl d_M_remove_65 x_1018 rfl f1 ?_
          obtain ⟨G12, e_G12⟩ : ∃ g, g = sl G5 98 a0 (521644567909 : Int64) := ⟨_, rfl⟩
          have hwp := hwp G12 e_G12
          refine kW.g e_G12.symm ?_
          exact kW.sub [0, 1, 2] rfl (k_M_remove_68 X hret  _ _ _ hwp)
    · have hwp := ite_f (not_not_intro h) hwp
      refine kw_aload_n (pc := 35) X d_M_remove_35 rfl 0 rfl ?_
      refine kw_ldc2 (v := 1836213616) (pc := 36) X d_M_remove_36 x_1254 ?_
      refine kp_98 (a := a0) (x := (1836213616 : Int64)) (pc := 39) X rfl d_M_remove_39 x_1018 rfl f1 ?_
      obtain ⟨G13, e_G13⟩ : ∃ g, g = sl G5 98 a0 (1836213616 : Int64) := ⟨_, rfl⟩
      have hwp := hwp G13 e_G13
      refine kW.g e_G13.symm ?_
      refine kw_goto (tgt := 68) (pc := 42) X d_M_remove_42 (by decide) ?_
      exact kW.sub [0, 1, 2] rfl (k_M_remove_68 X hret  _ _ _ hwp)
  · have hwp := ite_f h hwp
    refine kw_aload_n (pc := 11) X d_M_remove_11 rfl 0 rfl ?_
    refine kw_ldc2 (v := 1701736295) (pc := 12) X d_M_remove_12 x_1253 ?_
    refine kp_98 (a := a0) (x := (1701736295 : Int64)) (pc := 15) X rfl d_M_remove_15 x_1018 rfl f1 ?_
    obtain ⟨G14, e_G14⟩ : ∃ g, g = sl G5 98 a0 (1701736295 : Int64) := ⟨_, rfl⟩
    have hwp := hwp G14 e_G14
    refine kW.g e_G14.symm ?_
    refine kw_goto (tgt := 68) (pc := 18) X d_M_remove_18 (by decide) ?_
    exact kW.sub [0, 1, 2] rfl (k_M_remove_68 X hret  _ _ _ hwp)
set_option maxRecDepth 100000 in
set_option maxHeartbeats 4000000 in
theorem c_M_remove (l : Launch) (t : TY) (G : GS) (a0 : Nat) (p1 : Int32) (p2 : Int32) (K : GS → Prop) : Met l y_M_remove (Cond.code y_M_remove b_M_remove 4 (Option.none : Option Jvm.ClassFile.FieldType) :: GW) rm_M_remove (va_Pc [.ref a0, .int p1, .int p2] (fun U => HB t G U.heap ∧ HK t U ∧ w_M_remove t G a0 p1 p2 K)) (va_Qv (fun u : GS => K u) (fun u T => HB t u T.heap) (tA t)) 0 0 (tA t) := by
  refine Met.ofW (cc := b_M_remove) (maxL := 4) (ret := none) (by decide) rfl ?_
  intro p e s m args below meth c s₁ B hml hv
  obtain ⟨rfl, hB, hK, hwp⟩ := hv
  have hts := atoms_spec (ws := Cond.code y_M_remove b_M_remove 4 (Option.none : Option Jvm.ClassFile.FieldType) :: GW) B.pre
  have X : kX p s m _ meth c b_M_remove 4 "TreeServerModel" t := ⟨B.exec, B.bytes, hml, findClass_of_methodNamed B.named, fun w h => hts w (List.mem_cons_of_mem _ h), B.notSynchronized, hK⟩
  have hZ : kZ t false s G s.heap [] := ⟨hB, va_S.rf, fun _ => ⟨rfl, rfl⟩⟩
  rw [lg_entry_eq]
  have hl := lv_entry ([.ref a0, .int p1, .int p2]) (n := 4) (by simp [lg_sl, rf_cat, cat_i, cat_l, cat_r])
  exact k_M_remove X B.returns _ _ _ hwp s.heap [] _ hl hZ
abbrev b_M_walk : ByteArray := prog_13_method_49_code
def y_M_walk : MethodName := ⟨"TreeServerModel", "walk", "(III)V"⟩
theorem d_M_walk_0 : decode b_M_walk 0 = .ok (.aload_n 0, 1) := by decide +kernel
theorem d_M_walk_1 : decode b_M_walk 1 = .ok (.bipush 11, 2) := by decide +kernel
theorem d_M_walk_3 : decode b_M_walk 3 = .ok (.iconst 4, 1) := by decide +kernel
theorem d_M_walk_4 : decode b_M_walk 4 = .ok (.invokevirtual 85, 3) := by decide +kernel
theorem d_M_walk_7 : decode b_M_walk 7 = .ok (.lstore 4, 2) := by decide +kernel
theorem d_M_walk_9 : decode b_M_walk 9 = .ok (.lload 4, 2) := by decide +kernel
theorem d_M_walk_11 : decode b_M_walk 11 = .ok (.aload_n 0, 1) := by decide +kernel
theorem d_M_walk_12 : decode b_M_walk 12 = .ok (.getfield 48, 3) := by decide +kernel
theorem d_M_walk_15 : decode b_M_walk 15 = .ok (.iload_n 2, 1) := by decide +kernel
theorem d_M_walk_16 : decode b_M_walk 16 = .ok (.laload, 1) := by decide +kernel
theorem d_M_walk_17 : decode b_M_walk 17 = .ok (.lcmp, 1) := by decide +kernel
theorem d_M_walk_18 : decode b_M_walk 18 = .ok (.ifCond .ne 7, 3) := by decide +kernel
theorem d_M_walk_21 : decode b_M_walk 21 = .ok (.iconst 1, 1) := by decide +kernel
theorem d_M_walk_22 : decode b_M_walk 22 = .ok (.goto 4, 3) := by decide +kernel
theorem d_M_walk_25 : decode b_M_walk 25 = .ok (.iconst 0, 1) := by decide +kernel
theorem d_M_walk_26 : decode b_M_walk 26 = .ok (.istore 6, 2) := by decide +kernel
theorem d_M_walk_28 : decode b_M_walk 28 = .ok (.aload_n 0, 1) := by decide +kernel
theorem d_M_walk_29 : decode b_M_walk 29 = .ok (.getfield 58, 3) := by decide +kernel
theorem d_M_walk_32 : decode b_M_walk 32 = .ok (.iload_n 2, 1) := by decide +kernel
theorem d_M_walk_33 : decode b_M_walk 33 = .ok (.iaload, 1) := by decide +kernel
theorem d_M_walk_34 : decode b_M_walk 34 = .ok (.ifCond .lt 13, 3) := by decide +kernel
theorem d_M_walk_37 : decode b_M_walk 37 = .ok (.aload_n 0, 1) := by decide +kernel
theorem d_M_walk_38 : decode b_M_walk 38 = .ok (.ldc2_w 307, 3) := by decide +kernel
theorem d_M_walk_41 : decode b_M_walk 41 = .ok (.putfield 193, 3) := by decide +kernel
theorem d_M_walk_44 : decode b_M_walk 44 = .ok (.goto 50, 3) := by decide +kernel
theorem d_M_walk_47 : decode b_M_walk 47 = .ok (.iload 6, 2) := by decide +kernel
theorem d_M_walk_49 : decode b_M_walk 49 = .ok (.ifCond .ne 23, 3) := by decide +kernel
theorem d_M_walk_52 : decode b_M_walk 52 = .ok (.aload_n 0, 1) := by decide +kernel
theorem d_M_walk_53 : decode b_M_walk 53 = .ok (.iload_n 1, 1) := by decide +kernel
theorem d_M_walk_54 : decode b_M_walk 54 = .ok (.lload 4, 2) := by decide +kernel
theorem d_M_walk_56 : decode b_M_walk 56 = .ok (.invokevirtual 250, 3) := by decide +kernel
theorem d_M_walk_59 : decode b_M_walk 59 = .ok (.ifCond .lt 13, 3) := by decide +kernel
theorem d_M_walk_62 : decode b_M_walk 62 = .ok (.aload_n 0, 1) := by decide +kernel
theorem d_M_walk_63 : decode b_M_walk 63 = .ok (.ldc2_w 254, 3) := by decide +kernel
theorem d_M_walk_66 : decode b_M_walk 66 = .ok (.putfield 193, 3) := by decide +kernel
theorem d_M_walk_69 : decode b_M_walk 69 = .ok (.goto 25, 3) := by decide +kernel
theorem d_M_walk_72 : decode b_M_walk 72 = .ok (.iload 6, 2) := by decide +kernel
theorem d_M_walk_74 : decode b_M_walk 74 = .ok (.ifCond .ne 20, 3) := by decide +kernel
theorem d_M_walk_77 : decode b_M_walk 77 = .ok (.aload_n 0, 1) := by decide +kernel
theorem d_M_walk_78 : decode b_M_walk 78 = .ok (.iload_n 1, 1) := by decide +kernel
theorem d_M_walk_79 : decode b_M_walk 79 = .ok (.invokevirtual 256, 3) := by decide +kernel
theorem d_M_walk_82 : decode b_M_walk 82 = .ok (.bipush 6, 2) := by decide +kernel
theorem d_M_walk_84 : decode b_M_walk 84 = .ok (.if_icmp .ne 10, 3) := by decide +kernel
theorem d_M_walk_87 : decode b_M_walk 87 = .ok (.aload_n 0, 1) := by decide +kernel
theorem d_M_walk_88 : decode b_M_walk 88 = .ok (.ldc2_w 259, 3) := by decide +kernel
theorem d_M_walk_91 : decode b_M_walk 91 = .ok (.putfield 193, 3) := by decide +kernel
theorem d_M_walk_94 : decode b_M_walk 94 = .ok (.aload_n 0, 1) := by decide +kernel
theorem d_M_walk_95 : decode b_M_walk 95 = .ok (.getfield 193, 3) := by decide +kernel
theorem d_M_walk_98 : decode b_M_walk 98 = .ok (.lconst 0, 1) := by decide +kernel
theorem d_M_walk_99 : decode b_M_walk 99 = .ok (.lcmp, 1) := by decide +kernel
theorem d_M_walk_100 : decode b_M_walk 100 = .ok (.ifCond .eq 4, 3) := by decide +kernel
theorem d_M_walk_103 : decode b_M_walk 103 = .ok (.return_, 1) := by decide +kernel
theorem d_M_walk_104 : decode b_M_walk 104 = .ok (.aload_n 0, 1) := by decide +kernel
theorem d_M_walk_105 : decode b_M_walk 105 = .ok (.bipush 15, 2) := by decide +kernel
theorem d_M_walk_107 : decode b_M_walk 107 = .ok (.iconst 2, 1) := by decide +kernel
theorem d_M_walk_108 : decode b_M_walk 108 = .ok (.invokevirtual 85, 3) := by decide +kernel
theorem d_M_walk_111 : decode b_M_walk 111 = .ok (.l2i, 1) := by decide +kernel
theorem d_M_walk_112 : decode b_M_walk 112 = .ok (.istore 7, 2) := by decide +kernel
theorem d_M_walk_114 : decode b_M_walk 114 = .ok (.iload_n 3, 1) := by decide +kernel
theorem d_M_walk_115 : decode b_M_walk 115 = .ok (.istore 8, 2) := by decide +kernel
theorem d_M_walk_117 : decode b_M_walk 117 = .ok (.bipush 17, 2) := by decide +kernel
theorem d_M_walk_119 : decode b_M_walk 119 = .ok (.istore 9, 2) := by decide +kernel
theorem d_M_walk_121 : decode b_M_walk 121 = .ok (.aload_n 0, 1) := by decide +kernel
theorem d_M_walk_122 : decode b_M_walk 122 = .ok (.lconst 0, 1) := by decide +kernel
theorem d_M_walk_123 : decode b_M_walk 123 = .ok (.iconst 2, 1) := by decide +kernel
theorem d_M_walk_124 : decode b_M_walk 124 = .ok (.invokevirtual 137, 3) := by decide +kernel
theorem d_M_walk_127 : decode b_M_walk 127 = .ok (.iconst 0, 1) := by decide +kernel
theorem d_M_walk_128 : decode b_M_walk 128 = .ok (.istore 10, 2) := by decide +kernel
theorem d_M_walk_130 : decode b_M_walk 130 = .ok (.iconst 0, 1) := by decide +kernel
theorem d_M_walk_131 : decode b_M_walk 131 = .ok (.istore 11, 2) := by decide +kernel
theorem d_M_walk_133 : decode b_M_walk 133 = .ok (.iload 11, 2) := by decide +kernel
theorem d_M_walk_135 : decode b_M_walk 135 = .ok (.iload 7, 2) := by decide +kernel
theorem d_M_walk_137 : decode b_M_walk 137 = .ok (.if_icmp .ge 163, 3) := by decide +kernel
theorem d_M_walk_140 : decode b_M_walk 140 = .ok (.aload_n 0, 1) := by decide +kernel
theorem d_M_walk_141 : decode b_M_walk 141 = .ok (.getfield 193, 3) := by decide +kernel
theorem d_M_walk_144 : decode b_M_walk 144 = .ok (.lconst 0, 1) := by decide +kernel
theorem d_M_walk_145 : decode b_M_walk 145 = .ok (.lcmp, 1) := by decide +kernel
theorem d_M_walk_146 : decode b_M_walk 146 = .ok (.ifCond .ne 154, 3) := by decide +kernel
theorem d_M_walk_149 : decode b_M_walk 149 = .ok (.aload_n 0, 1) := by decide +kernel
theorem d_M_walk_150 : decode b_M_walk 150 = .ok (.iload 8, 2) := by decide +kernel
theorem d_M_walk_152 : decode b_M_walk 152 = .ok (.invokevirtual 97, 3) := by decide +kernel
theorem d_M_walk_155 : decode b_M_walk 155 = .ok (.ifCond .eq 17, 3) := by decide +kernel
theorem d_M_walk_158 : decode b_M_walk 158 = .ok (.aload_n 0, 1) := by decide +kernel
theorem d_M_walk_159 : decode b_M_walk 159 = .ok (.iload 8, 2) := by decide +kernel
theorem d_M_walk_161 : decode b_M_walk 161 = .ok (.aload_n 0, 1) := by decide +kernel
theorem d_M_walk_162 : decode b_M_walk 162 = .ok (.getfield 276, 3) := by decide +kernel
theorem d_M_walk_165 : decode b_M_walk 165 = .ok (.iconst 1, 1) := by decide +kernel
theorem d_M_walk_166 : decode b_M_walk 166 = .ok (.invokevirtual 93, 3) := by decide +kernel
theorem d_M_walk_169 : decode b_M_walk 169 = .ok (.ifCond .ne 7, 3) := by decide +kernel
theorem d_M_walk_172 : decode b_M_walk 172 = .ok (.iconst (-1), 1) := by decide +kernel
theorem d_M_walk_173 : decode b_M_walk 173 = .ok (.goto 44, 3) := by decide +kernel
theorem d_M_walk_176 : decode b_M_walk 176 = .ok (.aload_n 0, 1) := by decide +kernel
theorem d_M_walk_177 : decode b_M_walk 177 = .ok (.iload 9, 2) := by decide +kernel
theorem d_M_walk_179 : decode b_M_walk 179 = .ok (.invokevirtual 309, 3) := by decide +kernel
theorem d_M_walk_182 : decode b_M_walk 182 = .ok (.ifCond .eq 27, 3) := by decide +kernel
theorem d_M_walk_185 : decode b_M_walk 185 = .ok (.iload 8, 2) := by decide +kernel
theorem d_M_walk_187 : decode b_M_walk 187 = .ok (.ifCond .ne 7, 3) := by decide +kernel
theorem d_M_walk_190 : decode b_M_walk 190 = .ok (.iconst 0, 1) := by decide +kernel
theorem d_M_walk_191 : decode b_M_walk 191 = .ok (.goto 26, 3) := by decide +kernel
theorem d_M_walk_194 : decode b_M_walk 194 = .ok (.aload_n 0, 1) := by decide +kernel
theorem d_M_walk_195 : decode b_M_walk 195 = .ok (.aload_n 0, 1) := by decide +kernel
theorem d_M_walk_196 : decode b_M_walk 196 = .ok (.iload 8, 2) := by decide +kernel
theorem d_M_walk_198 : decode b_M_walk 198 = .ok (.bipush 8, 2) := by decide +kernel
theorem d_M_walk_200 : decode b_M_walk 200 = .ok (.invokevirtual 81, 3) := by decide +kernel
theorem d_M_walk_203 : decode b_M_walk 203 = .ok (.invokevirtual 89, 3) := by decide +kernel
theorem d_M_walk_206 : decode b_M_walk 206 = .ok (.goto 11, 3) := by decide +kernel
theorem d_M_walk_209 : decode b_M_walk 209 = .ok (.aload_n 0, 1) := by decide +kernel
theorem d_M_walk_210 : decode b_M_walk 210 = .ok (.iload 8, 2) := by decide +kernel
theorem d_M_walk_212 : decode b_M_walk 212 = .ok (.iload 9, 2) := by decide +kernel
theorem d_M_walk_214 : decode b_M_walk 214 = .ok (.invokevirtual 312, 3) := by decide +kernel
theorem d_M_walk_217 : decode b_M_walk 217 = .ok (.istore 12, 2) := by decide +kernel
theorem d_M_walk_219 : decode b_M_walk 219 = .ok (.iload 12, 2) := by decide +kernel
theorem d_M_walk_221 : decode b_M_walk 221 = .ok (.ifCond .ge 48, 3) := by decide +kernel
theorem d_M_walk_224 : decode b_M_walk 224 = .ok (.aload_n 0, 1) := by decide +kernel
theorem d_M_walk_225 : decode b_M_walk 225 = .ok (.aload_n 0, 1) := by decide +kernel
theorem d_M_walk_226 : decode b_M_walk 226 = .ok (.iload 8, 2) := by decide +kernel
theorem d_M_walk_228 : decode b_M_walk 228 = .ok (.invokevirtual 97, 3) := by decide +kernel
theorem d_M_walk_231 : decode b_M_walk 231 = .ok (.ifCond .ne 9, 3) := by decide +kernel
theorem d_M_walk_234 : decode b_M_walk 234 = .ok (.ldc2_w 315, 3) := by decide +kernel
theorem d_M_walk_237 : decode b_M_walk 237 = .ok (.goto 26, 3) := by decide +kernel
theorem d_M_walk_240 : decode b_M_walk 240 = .ok (.aload_n 0, 1) := by decide +kernel
theorem d_M_walk_241 : decode b_M_walk 241 = .ok (.iload 8, 2) := by decide +kernel
theorem d_M_walk_243 : decode b_M_walk 243 = .ok (.aload_n 0, 1) := by decide +kernel
theorem d_M_walk_244 : decode b_M_walk 244 = .ok (.getfield 276, 3) := by decide +kernel
theorem d_M_walk_247 : decode b_M_walk 247 = .ok (.iconst 1, 1) := by decide +kernel
theorem d_M_walk_248 : decode b_M_walk 248 = .ok (.invokevirtual 93, 3) := by decide +kernel
theorem d_M_walk_251 : decode b_M_walk 251 = .ok (.ifCond .ne 9, 3) := by decide +kernel
theorem d_M_walk_254 : decode b_M_walk 254 = .ok (.ldc2_w 303, 3) := by decide +kernel
theorem d_M_walk_257 : decode b_M_walk 257 = .ok (.goto 6, 3) := by decide +kernel
theorem d_M_walk_260 : decode b_M_walk 260 = .ok (.ldc2_w 317, 3) := by decide +kernel
theorem d_M_walk_263 : decode b_M_walk 263 = .ok (.putfield 193, 3) := by decide +kernel
theorem d_M_walk_266 : decode b_M_walk 266 = .ok (.goto 28, 3) := by decide +kernel
theorem d_M_walk_269 : decode b_M_walk 269 = .ok (.iload 12, 2) := by decide +kernel
theorem d_M_walk_271 : decode b_M_walk 271 = .ok (.istore 8, 2) := by decide +kernel
theorem d_M_walk_273 : decode b_M_walk 273 = .ok (.aload_n 0, 1) := by decide +kernel
theorem d_M_walk_274 : decode b_M_walk 274 = .ok (.iload 8, 2) := by decide +kernel
theorem d_M_walk_276 : decode b_M_walk 276 = .ok (.invokevirtual 156, 3) := by decide +kernel
theorem d_M_walk_279 : decode b_M_walk 279 = .ok (.iinc 10 1, 3) := by decide +kernel
theorem d_M_walk_282 : decode b_M_walk 282 = .ok (.aload_n 0, 1) := by decide +kernel
theorem d_M_walk_283 : decode b_M_walk 283 = .ok (.iload 9, 2) := by decide +kernel
theorem d_M_walk_285 : decode b_M_walk 285 = .ok (.aload_n 0, 1) := by decide +kernel
theorem d_M_walk_286 : decode b_M_walk 286 = .ok (.getfield 187, 3) := by decide +kernel
theorem d_M_walk_289 : decode b_M_walk 289 = .ok (.invokevirtual 200, 3) := by decide +kernel
theorem d_M_walk_292 : decode b_M_walk 292 = .ok (.istore 9, 2) := by decide +kernel
theorem d_M_walk_294 : decode b_M_walk 294 = .ok (.iinc 11 1, 3) := by decide +kernel
theorem d_M_walk_297 : decode b_M_walk 297 = .ok (.goto (-164), 3) := by decide +kernel
theorem d_M_walk_300 : decode b_M_walk 300 = .ok (.aload_n 0, 1) := by decide +kernel
theorem d_M_walk_301 : decode b_M_walk 301 = .ok (.getfield 73, 3) := by decide +kernel
theorem d_M_walk_304 : decode b_M_walk 304 = .ok (.bipush 7, 2) := by decide +kernel
theorem d_M_walk_306 : decode b_M_walk 306 = .ok (.iload 10, 2) := by decide +kernel
theorem d_M_walk_308 : decode b_M_walk 308 = .ok (.iastore, 1) := by decide +kernel
theorem d_M_walk_309 : decode b_M_walk 309 = .ok (.iload 10, 2) := by decide +kernel
theorem d_M_walk_311 : decode b_M_walk 311 = .ok (.ifCond .le 8, 3) := by decide +kernel
theorem d_M_walk_314 : decode b_M_walk 314 = .ok (.aload_n 0, 1) := by decide +kernel
theorem d_M_walk_315 : decode b_M_walk 315 = .ok (.lconst 0, 1) := by decide +kernel
theorem d_M_walk_316 : decode b_M_walk 316 = .ok (.putfield 193, 3) := by decide +kernel
theorem d_M_walk_319 : decode b_M_walk 319 = .ok (.aload_n 0, 1) := by decide +kernel
theorem d_M_walk_320 : decode b_M_walk 320 = .ok (.getfield 193, 3) := by decide +kernel
theorem d_M_walk_323 : decode b_M_walk 323 = .ok (.lconst 0, 1) := by decide +kernel
theorem d_M_walk_324 : decode b_M_walk 324 = .ok (.lcmp, 1) := by decide +kernel
theorem d_M_walk_325 : decode b_M_walk 325 = .ok (.ifCond .ne 10, 3) := by decide +kernel
theorem d_M_walk_328 : decode b_M_walk 328 = .ok (.iload 10, 2) := by decide +kernel
theorem d_M_walk_330 : decode b_M_walk 330 = .ok (.iload 7, 2) := by decide +kernel
theorem d_M_walk_332 : decode b_M_walk 332 = .ok (.if_icmp .ge 4, 3) := by decide +kernel
theorem d_M_walk_335 : decode b_M_walk 335 = .ok (.return_, 1) := by decide +kernel
theorem d_M_walk_336 : decode b_M_walk 336 = .ok (.iload 6, 2) := by decide +kernel
theorem d_M_walk_338 : decode b_M_walk 338 = .ok (.ifCond .eq 17, 3) := by decide +kernel
theorem d_M_walk_341 : decode b_M_walk 341 = .ok (.aload_n 0, 1) := by decide +kernel
theorem d_M_walk_342 : decode b_M_walk 342 = .ok (.iload_n 2, 1) := by decide +kernel
theorem d_M_walk_343 : decode b_M_walk 343 = .ok (.iload 8, 2) := by decide +kernel
theorem d_M_walk_345 : decode b_M_walk 345 = .ok (.aload_n 0, 1) := by decide +kernel
theorem d_M_walk_346 : decode b_M_walk 346 = .ok (.getfield 276, 3) := by decide +kernel
theorem d_M_walk_349 : decode b_M_walk 349 = .ok (.invokevirtual 163, 3) := by decide +kernel
theorem d_M_walk_352 : decode b_M_walk 352 = .ok (.goto 16, 3) := by decide +kernel
theorem d_M_walk_355 : decode b_M_walk 355 = .ok (.aload_n 0, 1) := by decide +kernel
theorem d_M_walk_356 : decode b_M_walk 356 = .ok (.iload_n 1, 1) := by decide +kernel
theorem d_M_walk_357 : decode b_M_walk 357 = .ok (.lload 4, 2) := by decide +kernel
theorem d_M_walk_359 : decode b_M_walk 359 = .ok (.iload 8, 2) := by decide +kernel
theorem d_M_walk_361 : decode b_M_walk 361 = .ok (.aload_n 0, 1) := by decide +kernel
theorem d_M_walk_362 : decode b_M_walk 362 = .ok (.getfield 276, 3) := by decide +kernel
theorem d_M_walk_365 : decode b_M_walk 365 = .ok (.invokevirtual 265, 3) := by decide +kernel
theorem d_M_walk_368 : decode b_M_walk 368 = .ok (.return_, 1) := by decide +kernel
abbrev rm_M_walk : Room := { frames := 3, cells := 0, slots := 0, locals := 71 }
set_option maxRecDepth 100000 in
set_option maxHeartbeats 4000000 in
theorem k_M_walk_319 {p : Program} {l : Launch} {e : Env} {s : State} {m : MethodId} {args : Array Value} {below : List Frame} {meth : Method} {c : Code} {t : TY} {a0 : Nat} {K : GS → Prop} (X : kX p s m args meth c b_M_walk 13 "TreeServerModel" t) (hret : meth.sig.returnType = none) (l1 : Int32) (l2 : Int32) (l4 : Int64) (l6 : Int32) (l7 : Int32) (l8 : Int32) (l10 : Int32) (G : GS) (hwp : w_M_walk_319 t a0 K l1 l2 l4 l6 l7 l8 l10 G) : kW p l e rm_M_walk s m args below meth c (MQ below (va_Qv (fun u : GS => K u) (fun u T => HB t u T.heap) (tA t)) args s 0 0 (tA t)) 13 t false 319 [(0, va_rf (some a0)), (1, .int l1), (2, .int l2), (4, .long l4), (6, .int l6), (7, .int l7), (8, .int l8), (10, .int l10)] [] G := by
  unfold w_M_walk_319 at hwp
  refine kw_aload_n (pc := 319) X d_M_walk_319 rfl 0 rfl ?_
  obtain ⟨f1, hwp⟩ := hwp
  refine kg_98 (a := a0) (pc := 320) X d_M_walk_320 x_1018 rfl f1 ?_
  refine kw_lconst (v := 0) (pc := 323) X d_M_walk_323 (by decide) ?_
  refine kw_lcmp_ne (tgt := 335) (pc := 324) X d_M_walk_324 d_M_walk_325 (by decide) (fun h => ?_) (fun h => ?_)
  · have hwp := ite_t h hwp
    exact kr_v (pc := 335) X hret d_M_walk_335 hwp
  · have hwp := ite_f (not_not_intro h) hwp
    refine kw_iload (pc := 328) X d_M_walk_328 7 rfl ?_
    refine kw_iload (pc := 330) X d_M_walk_330 5 rfl ?_
    refine kw_icmp_ge (tgt := 336) (pc := 332) X d_M_walk_332 (by decide) (fun h => ?_) (fun h => ?_)
    · have hwp := ite_t h hwp
      refine kw_iload (pc := 336) X d_M_walk_336 4 rfl ?_
      refine kw_if_eq (tgt := 355) (pc := 338) X d_M_walk_338 (by decide) (fun h => ?_) (fun h => ?_)
      · have hwp := ite_t h hwp
        refine kw_aload_n (pc := 355) X d_M_walk_355 rfl 0 rfl ?_
        refine kw_iload_n (pc := 356) X d_M_walk_356 rfl 1 rfl ?_
        refine kw_lload (pc := 357) X d_M_walk_357 3 rfl ?_
        refine kw_iload (pc := 359) X d_M_walk_359 6 rfl ?_
        refine kw_aload_n (pc := 361) X d_M_walk_361 rfl 0 rfl ?_
        refine kg_99 (a := a0) (pc := 362) X d_M_walk_362 x_1019 rfl f1 ?_
        refine kcV_v (n := 4) (As := [.int l1, .long l4, .int l8, .int (gi G 99 a0)]) (rest := []) (pc := 365) X rfl (c_M_make l t G a0 l1 l4 l8 (gi G 99 a0) _) (cwV_of (C := "TreeServerModel") X x_1235 x_1232 x_1234 xp_66 x_13 (by decide +kernel) ⟨rfl, rfl⟩ (by decide)) (rv_10 X f1) rfl rfl (by decide) d_M_walk_365 hwp (fun G2 hwp => ?_)
        exact kr_v (pc := 368) X hret d_M_walk_368 hwp
      · have hwp := ite_f h hwp
        refine kw_aload_n (pc := 341) X d_M_walk_341 rfl 0 rfl ?_
        refine kw_iload_n (pc := 342) X d_M_walk_342 rfl 2 rfl ?_
        refine kw_iload (pc := 343) X d_M_walk_343 6 rfl ?_
        refine kw_aload_n (pc := 345) X d_M_walk_345 rfl 0 rfl ?_
        refine kg_99 (a := a0) (pc := 346) X d_M_walk_346 x_1019 rfl f1 ?_
        refine kcV_v (n := 3) (As := [.int l2, .int l8, .int (gi G 99 a0)]) (rest := []) (pc := 349) X rfl (c_M_point l t G a0 l2 l8 (gi G 99 a0) _) (cwV_of (C := "TreeServerModel") X x_1239 x_1236 x_1238 xp_67 x_13 (by decide +kernel) ⟨rfl, rfl⟩ (by decide)) (rv_10 X f1) rfl rfl (by decide) d_M_walk_349 hwp (fun G3 hwp => ?_)
        refine kw_goto (tgt := 368) (pc := 352) X d_M_walk_352 (by decide) ?_
        exact kr_v (pc := 368) X hret d_M_walk_368 hwp
    · have hwp := ite_f h hwp
      exact kr_v (pc := 335) X hret d_M_walk_335 hwp
set_option maxRecDepth 100000 in
set_option maxHeartbeats 4000000 in
theorem k_M_walk_300 {p : Program} {l : Launch} {e : Env} {s : State} {m : MethodId} {args : Array Value} {below : List Frame} {meth : Method} {c : Code} {t : TY} {a0 : Nat} {K : GS → Prop} (X : kX p s m args meth c b_M_walk 13 "TreeServerModel" t) (hret : meth.sig.returnType = none) (l1 : Int32) (l2 : Int32) (l4 : Int64) (l6 : Int32) (l7 : Int32) (l8 : Int32) (l10 : Int32) (G : GS) (hwp : w_M_walk_300 t a0 K l1 l2 l4 l6 l7 l8 l10 G) : kW p l e rm_M_walk s m args below meth c (MQ below (va_Qv (fun u : GS => K u) (fun u T => HB t u T.heap) (tA t)) args s 0 0 (tA t)) 13 t false 300 [(0, va_rf (some a0)), (1, .int l1), (2, .int l2), (4, .long l4), (6, .int l6), (7, .int l7), (8, .int l8), (10, .int l10)] [] G := by
  unfold w_M_walk_300 at hwp
  refine kw_aload_n (pc := 300) X d_M_walk_300 rfl 0 rfl ?_
  obtain ⟨f1, hwp⟩ := hwp
  refine kg_96 (a := a0) (pc := 301) X d_M_walk_301 x_1016 rfl f1 ?_
  refine kw_bipush (v := 7) (pc := 304) X d_M_walk_304 (by decide) ?_
  refine kw_iload (pc := 306) X d_M_walk_306 7 rfl ?_
  obtain ⟨a2, h_a2, hwp⟩ := hwp
  obtain ⟨f3, hwp⟩ := hwp
  obtain ⟨f4, hwp⟩ := hwp
  refine ka_iast (a := a2) (pc := 308) X rfl d_M_walk_308 h_a2 f3 f4 ?_
  obtain ⟨G5, e_G5⟩ : ∃ g, g = ais G a2 (7 : Int32).toNatClampNeg l10 := ⟨_, rfl⟩
  have hwp := hwp G5 e_G5
  refine kW.g e_G5.symm ?_
  refine kw_iload (pc := 309) X d_M_walk_309 7 rfl ?_
  refine kw_if_le (tgt := 319) (pc := 311) X d_M_walk_311 (by decide) (fun h => ?_) (fun h => ?_)
  · have hwp := ite_t h hwp
    exact kW.sub [0, 1, 2, 3, 4, 5, 6, 7] rfl (k_M_walk_319 X hret  _ _ _ _ _ _ _ _ hwp)
  · have hwp := ite_f h hwp
    refine kw_aload_n (pc := 314) X d_M_walk_314 rfl 0 rfl ?_
    refine kw_lconst (v := 0) (pc := 315) X d_M_walk_315 (by decide) ?_
    refine kp_98 (a := a0) (x := (0 : Int64)) (pc := 316) X rfl d_M_walk_316 x_1018 rfl f1 ?_
    obtain ⟨G6, e_G6⟩ : ∃ g, g = sl G5 98 a0 (0 : Int64) := ⟨_, rfl⟩
    have hwp := hwp G6 e_G6
    refine kW.g e_G6.symm ?_
    exact kW.sub [0, 1, 2, 3, 4, 5, 6, 7] rfl (k_M_walk_319 X hret  _ _ _ _ _ _ _ _ hwp)
set_option maxRecDepth 100000 in
set_option maxHeartbeats 4000000 in
theorem k_M_walk_263 {p : Program} {l : Launch} {e : Env} {s : State} {m : MethodId} {args : Array Value} {below : List Frame} {meth : Method} {c : Code} {t : TY} {a0 : Nat} {K : GS → Prop} {r133 : Int32 → Int32 → Int64 → Int32 → Int32 → Int32 → Int32 → Int32 → Int32 → GS → Prop} (X : kX p s m args meth c b_M_walk 13 "TreeServerModel" t) (hret : meth.sig.returnType = none) (hr_133 : ∀ (l1 : Int32) (l2 : Int32) (l4 : Int64) (l6 : Int32) (l7 : Int32) (l8 : Int32) (l9 : Int32) (l10 : Int32) (l11 : Int32) (G : GS), r133 l1 l2 l4 l6 l7 l8 l9 l10 l11 G → kW p l e rm_M_walk s m args below meth c (MQ below (va_Qv (fun u : GS => K u) (fun u T => HB t u T.heap) (tA t)) args s 0 0 (tA t)) 13 t false 133 [(0, va_rf (some a0)), (1, .int l1), (2, .int l2), (4, .long l4), (6, .int l6), (7, .int l7), (8, .int l8), (9, .int l9), (10, .int l10), (11, .int l11)] [] G) (l1 : Int32) (l2 : Int32) (l4 : Int64) (l6 : Int32) (l7 : Int32) (l8 : Int32) (l9 : Int32) (l10 : Int32) (l11 : Int32) (s0 : Option Nat) (s1 : Int64) (G : GS) (hwp : w_M_walk_263 t a0 K r133 l1 l2 l4 l6 l7 l8 l9 l10 l11 s0 s1 G) : kW p l e rm_M_walk s m args below meth c (MQ below (va_Qv (fun u : GS => K u) (fun u T => HB t u T.heap) (tA t)) args s 0 0 (tA t)) 13 t false 263 [(0, va_rf (some a0)), (1, .int l1), (2, .int l2), (4, .long l4), (6, .int l6), (7, .int l7), (8, .int l8), (9, .int l9), (10, .int l10), (11, .int l11)] [.long s1, va_rf s0] G := by
  unfold w_M_walk_263 at hwp
  obtain ⟨a1, h_a1, hwp⟩ := hwp
  obtain ⟨f2, hwp⟩ := hwp
  refine kp_98 (a := a1) (x := s1) (pc := 263) X rfl d_M_walk_263 x_1018 h_a1 f2 ?_
  obtain ⟨G3, e_G3⟩ : ∃ g, g = sl G 98 a1 s1 := ⟨_, rfl⟩
  have hwp := hwp G3 e_G3
  refine kW.g e_G3.symm ?_
  refine kw_goto (tgt := 294) (pc := 266) X d_M_walk_266 (by decide) ?_
  obtain ⟨v4, e_v4⟩ : ∃ z, z = (l11 + (1 : Int32)) := ⟨_, rfl⟩
  have hwp := hwp v4 e_v4
  refine kw_iinc (v := v4) (lv' := [(11, .int v4), (0, va_rf (some a0)), (1, .int l1), (2, .int l2), (4, .long l4), (6, .int l6), (7, .int l7), (8, .int l8), (9, .int l9), (10, .int l10)]) (pc := 294) X d_M_walk_294 9 rfl (by rw [e_v4]; rfl) (by decide) rfl ?_
  refine kw_goto (tgt := 133) (pc := 297) X d_M_walk_297 (by decide) ?_
  exact kW.sub [1, 2, 3, 4, 5, 6, 7, 8, 9, 0] rfl (hr_133 _ _ _ _ _ _ _ _ _ _ hwp)
set_option maxRecDepth 100000 in
set_option maxHeartbeats 4000000 in
theorem k_M_walk_217 {p : Program} {l : Launch} {e : Env} {s : State} {m : MethodId} {args : Array Value} {below : List Frame} {meth : Method} {c : Code} {t : TY} {a0 : Nat} {K : GS → Prop} {r133 : Int32 → Int32 → Int64 → Int32 → Int32 → Int32 → Int32 → Int32 → Int32 → GS → Prop} (X : kX p s m args meth c b_M_walk 13 "TreeServerModel" t) (hret : meth.sig.returnType = none) (hr_133 : ∀ (l1 : Int32) (l2 : Int32) (l4 : Int64) (l6 : Int32) (l7 : Int32) (l8 : Int32) (l9 : Int32) (l10 : Int32) (l11 : Int32) (G : GS), r133 l1 l2 l4 l6 l7 l8 l9 l10 l11 G → kW p l e rm_M_walk s m args below meth c (MQ below (va_Qv (fun u : GS => K u) (fun u T => HB t u T.heap) (tA t)) args s 0 0 (tA t)) 13 t false 133 [(0, va_rf (some a0)), (1, .int l1), (2, .int l2), (4, .long l4), (6, .int l6), (7, .int l7), (8, .int l8), (9, .int l9), (10, .int l10), (11, .int l11)] [] G) (l1 : Int32) (l2 : Int32) (l4 : Int64) (l6 : Int32) (l7 : Int32) (l8 : Int32) (l9 : Int32) (l10 : Int32) (l11 : Int32) (s0 : Int32) (G : GS) (hwp : w_M_walk_217 t a0 K r133 l1 l2 l4 l6 l7 l8 l9 l10 l11 s0 G) : kW p l e rm_M_walk s m args below meth c (MQ below (va_Qv (fun u : GS => K u) (fun u T => HB t u T.heap) (tA t)) args s 0 0 (tA t)) 13 t false 217 [(0, va_rf (some a0)), (1, .int l1), (2, .int l2), (4, .long l4), (6, .int l6), (7, .int l7), (8, .int l8), (9, .int l9), (10, .int l10), (11, .int l11)] [.int s0] G := by
  unfold w_M_walk_217 at hwp
  refine kw_istore (i := 12) (lv' := [(12, .int s0), (0, va_rf (some a0)), (1, .int l1), (2, .int l2), (4, .long l4), (6, .int l6), (7, .int l7), (8, .int l8), (9, .int l9), (10, .int l10), (11, .int l11)]) (pc := 217) X d_M_walk_217 (by decide) rfl ?_
  refine kw_iload (pc := 219) X d_M_walk_219 0 rfl ?_
  refine kw_if_ge (tgt := 269) (pc := 221) X d_M_walk_221 (by decide) (fun h => ?_) (fun h => ?_)
  · have hwp := ite_t h hwp
    refine kw_iload (pc := 269) X d_M_walk_269 0 rfl ?_
    refine kw_istore (i := 8) (lv' := [(8, .int s0), (12, .int s0), (0, va_rf (some a0)), (1, .int l1), (2, .int l2), (4, .long l4), (6, .int l6), (7, .int l7), (9, .int l9), (10, .int l10), (11, .int l11)]) (pc := 271) X d_M_walk_271 (by decide) rfl ?_
    refine kw_aload_n (pc := 273) X d_M_walk_273 rfl 2 rfl ?_
    refine kw_iload (pc := 274) X d_M_walk_274 0 rfl ?_
    obtain ⟨f1, hwp⟩ := hwp
    refine kcV_v (n := 1) (As := [.int s0]) (rest := []) (pc := 276) X rfl (c_M_qid l t G a0 s0 _) (cwV_of (C := "TreeServerModel") X x_1243 x_1240 x_1242 xp_68 x_13 (by decide +kernel) ⟨rfl, rfl⟩ (by decide)) (rv_10 X f1) rfl rfl (by decide) d_M_walk_276 hwp (fun G2 hwp => ?_)
    obtain ⟨v3, e_v3⟩ : ∃ z, z = (l10 + (1 : Int32)) := ⟨_, rfl⟩
    have hwp := hwp v3 e_v3
    refine kw_iinc (v := v3) (lv' := [(10, .int v3), (8, .int s0), (12, .int s0), (0, va_rf (some a0)), (1, .int l1), (2, .int l2), (4, .long l4), (6, .int l6), (7, .int l7), (9, .int l9), (11, .int l11)]) (pc := 279) X d_M_walk_279 9 rfl (by rw [e_v3]; rfl) (by decide) rfl ?_
    refine kw_aload_n (pc := 282) X d_M_walk_282 rfl 3 rfl ?_
    refine kw_iload (pc := 283) X d_M_walk_283 9 rfl ?_
    refine kw_aload_n (pc := 285) X d_M_walk_285 rfl 3 rfl ?_
    refine kg_95 (a := a0) (pc := 286) X d_M_walk_286 x_1015 rfl f1 ?_
    refine kcVp_i (n := 2) (As := [.int l9, .int (gi G2 95 a0)]) (rest := []) (pc := 289) X (c_M_behind l t G2 a0 l9 (gi G2 95 a0) _) (cwV_of (C := "TreeServerModel") X x_1171 x_1168 x_1170 xp_55 x_13 (by decide +kernel) ⟨rfl, rfl⟩ (by decide)) (rv_10 X f1) rfl rfl (by decide) d_M_walk_289 hwp (fun v4 hwp => ?_)
    refine kw_istore (i := 9) (lv' := [(9, .int v4), (10, .int v3), (8, .int s0), (12, .int s0), (0, va_rf (some a0)), (1, .int l1), (2, .int l2), (4, .long l4), (6, .int l6), (7, .int l7), (11, .int l11)]) (pc := 292) X d_M_walk_292 (by decide) rfl ?_
    obtain ⟨v5, e_v5⟩ : ∃ z, z = (l11 + (1 : Int32)) := ⟨_, rfl⟩
    have hwp := hwp v5 e_v5
    refine kw_iinc (v := v5) (lv' := [(11, .int v5), (9, .int v4), (10, .int v3), (8, .int s0), (12, .int s0), (0, va_rf (some a0)), (1, .int l1), (2, .int l2), (4, .long l4), (6, .int l6), (7, .int l7)]) (pc := 294) X d_M_walk_294 10 rfl (by rw [e_v5]; rfl) (by decide) rfl ?_
    refine kw_goto (tgt := 133) (pc := 297) X d_M_walk_297 (by decide) ?_
    exact kW.sub [5, 6, 7, 8, 9, 10, 3, 1, 2, 0] rfl (hr_133 _ _ _ _ _ _ _ _ _ _ hwp)
  · have hwp := ite_f h hwp
    refine kw_aload_n (pc := 224) X d_M_walk_224 rfl 1 rfl ?_
    refine kw_aload_n (pc := 225) X d_M_walk_225 rfl 1 rfl ?_
    refine kw_iload (pc := 226) X d_M_walk_226 7 rfl ?_
    obtain ⟨f6, hwp⟩ := hwp
    refine kcVp_i (n := 1) (As := [.int l8]) (rest := [va_rf (some a0)]) (pc := 228) X (c_M_isDirectory l t G a0 l8 _) (cwV_of (C := "TreeServerModel") X x_1115 x_1112 x_1114 xp_42 x_13 (by decide +kernel) ⟨rfl, rfl⟩ (by decide)) (rv_10 X f6) rfl rfl (by simp [rf_cat, cat_i, cat_l, cat_r]) d_M_walk_228 hwp (fun v7 hwp => ?_)
    obtain ⟨b_v7, hwp⟩ := hwp
    refine kw_if_ne (tgt := 240) (pc := 231) X d_M_walk_231 (by decide) (fun h => ?_) (fun h => ?_)
    · have hwp := ite_t h hwp
      refine kw_aload_n (pc := 240) X d_M_walk_240 rfl 1 rfl ?_
      refine kw_iload (pc := 241) X d_M_walk_241 7 rfl ?_
      refine kw_aload_n (pc := 243) X d_M_walk_243 rfl 1 rfl ?_
      refine kg_99 (a := a0) (pc := 244) X d_M_walk_244 x_1019 rfl f6 ?_
      refine kw_iconst (v := 1) (pc := 247) X d_M_walk_247 (by decide) ?_
      refine kcVp_i (n := 3) (As := [.int l8, .int (gi G 99 a0), .int (1 : Int32)]) (rest := [va_rf (some a0)]) (pc := 248) X (c_M_may l t G a0 l8 (gi G 99 a0) (1 : Int32) _) (cwV_of (C := "TreeServerModel") X x_1127 x_1124 x_1126 xp_45 x_13 (by decide +kernel) ⟨rfl, rfl⟩ (by decide)) (rv_10 X f6) rfl rfl (by simp [rf_cat, cat_i, cat_l, cat_r]) d_M_walk_248 hwp (fun v8 hwp => ?_)
      obtain ⟨b_v8, hwp⟩ := hwp
      refine kw_if_ne (tgt := 260) (pc := 251) X d_M_walk_251 (by decide) (fun h => ?_) (fun h => ?_)
      · have hwp := ite_t h hwp
        refine kw_ldc2 (v := 500068347758) (pc := 260) X d_M_walk_260 x_1271 ?_
        exact kW.sub [1, 2, 3, 4, 5, 6, 7, 8, 9, 10] rfl (k_M_walk_263 X hret hr_133 _ _ _ _ _ _ _ _ _ _ _ _ hwp)
      · have hwp := ite_f (not_not_intro h) hwp
        refine kw_ldc2 (v := 1836213616) (pc := 254) X d_M_walk_254 x_1254 ?_
        refine kw_goto (tgt := 263) (pc := 257) X d_M_walk_257 (by decide) ?_
        exact kW.sub [1, 2, 3, 4, 5, 6, 7, 8, 9, 10] rfl (k_M_walk_263 X hret hr_133 _ _ _ _ _ _ _ _ _ _ _ _ hwp)
    · have hwp := ite_f (not_not_intro h) hwp
      refine kw_ldc2 (v := 7498084) (pc := 234) X d_M_walk_234 x_1270 ?_
      refine kw_goto (tgt := 263) (pc := 237) X d_M_walk_237 (by decide) ?_
      exact kW.sub [1, 2, 3, 4, 5, 6, 7, 8, 9, 10] rfl (k_M_walk_263 X hret hr_133 _ _ _ _ _ _ _ _ _ _ _ _ hwp)
set_option maxRecDepth 100000 in
set_option maxHeartbeats 4000000 in
theorem k_M_walk_172 {p : Program} {l : Launch} {e : Env} {s : State} {m : MethodId} {args : Array Value} {below : List Frame} {meth : Method} {c : Code} {t : TY} {a0 : Nat} {K : GS → Prop} {r133 : Int32 → Int32 → Int64 → Int32 → Int32 → Int32 → Int32 → Int32 → Int32 → GS → Prop} (X : kX p s m args meth c b_M_walk 13 "TreeServerModel" t) (hret : meth.sig.returnType = none) (hr_133 : ∀ (l1 : Int32) (l2 : Int32) (l4 : Int64) (l6 : Int32) (l7 : Int32) (l8 : Int32) (l9 : Int32) (l10 : Int32) (l11 : Int32) (G : GS), r133 l1 l2 l4 l6 l7 l8 l9 l10 l11 G → kW p l e rm_M_walk s m args below meth c (MQ below (va_Qv (fun u : GS => K u) (fun u T => HB t u T.heap) (tA t)) args s 0 0 (tA t)) 13 t false 133 [(0, va_rf (some a0)), (1, .int l1), (2, .int l2), (4, .long l4), (6, .int l6), (7, .int l7), (8, .int l8), (9, .int l9), (10, .int l10), (11, .int l11)] [] G) (l1 : Int32) (l2 : Int32) (l4 : Int64) (l6 : Int32) (l7 : Int32) (l8 : Int32) (l9 : Int32) (l10 : Int32) (l11 : Int32) (G : GS) (hwp : w_M_walk_172 t a0 K r133 l1 l2 l4 l6 l7 l8 l9 l10 l11 G) : kW p l e rm_M_walk s m args below meth c (MQ below (va_Qv (fun u : GS => K u) (fun u T => HB t u T.heap) (tA t)) args s 0 0 (tA t)) 13 t false 172 [(0, va_rf (some a0)), (1, .int l1), (2, .int l2), (4, .long l4), (6, .int l6), (7, .int l7), (8, .int l8), (9, .int l9), (10, .int l10), (11, .int l11)] [] G := by
  unfold w_M_walk_172 at hwp
  refine kw_iconst (v := -1) (pc := 172) X d_M_walk_172 (by decide) ?_
  refine kw_goto (tgt := 217) (pc := 173) X d_M_walk_173 (by decide) ?_
  exact kW.sub [0, 1, 2, 3, 4, 5, 6, 7, 8, 9] rfl (k_M_walk_217 X hret hr_133 _ _ _ _ _ _ _ _ _ _ _ hwp)
set_option maxRecDepth 100000 in
set_option maxHeartbeats 4000000 in
theorem k_M_walk_133 {p : Program} {l : Launch} {e : Env} {s : State} {m : MethodId} {args : Array Value} {below : List Frame} {meth : Method} {c : Code} {t : TY} {a0 : Nat} {K : GS → Prop} (X : kX p s m args meth c b_M_walk 13 "TreeServerModel" t) (hret : meth.sig.returnType = none) : ∀ (n : Nat) (l1 : Int32) (l2 : Int32) (l4 : Int64) (l6 : Int32) (l7 : Int32) (l8 : Int32) (l9 : Int32) (l10 : Int32) (l11 : Int32) (G : GS), w_M_walk_133 t a0 K n l1 l2 l4 l6 l7 l8 l9 l10 l11 G → kW p l e rm_M_walk s m args below meth c (MQ below (va_Qv (fun u : GS => K u) (fun u T => HB t u T.heap) (tA t)) args s 0 0 (tA t)) 13 t false 133 [(0, va_rf (some a0)), (1, .int l1), (2, .int l2), (4, .long l4), (6, .int l6), (7, .int l7), (8, .int l8), (9, .int l9), (10, .int l10), (11, .int l11)] [] G := by
  intro n
  induction n with
  | zero => intro l1 l2 l4 l6 l7 l8 l9 l10 l11 G hwp; exact hwp.elim
  | succ n hr_133 =>
    intro l1 l2 l4 l6 l7 l8 l9 l10 l11 G hwp
    unfold w_M_walk_133 at hwp
    dsimp only at hwp
    refine kw_iload (pc := 133) X d_M_walk_133 9 rfl ?_
    refine kw_iload (pc := 135) X d_M_walk_135 5 rfl ?_
    refine kw_icmp_ge (tgt := 300) (pc := 137) X d_M_walk_137 (by decide) (fun h => ?_) (fun h => ?_)
    · have hwp := ite_t h hwp
      exact kW.sub [0, 1, 2, 3, 4, 5, 6, 8] rfl (k_M_walk_300 X hret  _ _ _ _ _ _ _ _ hwp)
    · have hwp := ite_f h hwp
      refine kw_aload_n (pc := 140) X d_M_walk_140 rfl 0 rfl ?_
      obtain ⟨f1, hwp⟩ := hwp
      refine kg_98 (a := a0) (pc := 141) X d_M_walk_141 x_1018 rfl f1 ?_
      refine kw_lconst (v := 0) (pc := 144) X d_M_walk_144 (by decide) ?_
      refine kw_lcmp_ne (tgt := 300) (pc := 145) X d_M_walk_145 d_M_walk_146 (by decide) (fun h => ?_) (fun h => ?_)
      · have hwp := ite_t h hwp
        exact kW.sub [0, 1, 2, 3, 4, 5, 6, 8] rfl (k_M_walk_300 X hret  _ _ _ _ _ _ _ _ hwp)
      · have hwp := ite_f (not_not_intro h) hwp
        refine kw_aload_n (pc := 149) X d_M_walk_149 rfl 0 rfl ?_
        refine kw_iload (pc := 150) X d_M_walk_150 6 rfl ?_
        refine kcVp_i (n := 1) (As := [.int l8]) (rest := []) (pc := 152) X (c_M_isDirectory l t G a0 l8 _) (cwV_of (C := "TreeServerModel") X x_1115 x_1112 x_1114 xp_42 x_13 (by decide +kernel) ⟨rfl, rfl⟩ (by decide)) (rv_10 X f1) rfl rfl (by decide) d_M_walk_152 hwp (fun v2 hwp => ?_)
        obtain ⟨b_v2, hwp⟩ := hwp
        refine kw_if_eq (tgt := 172) (pc := 155) X d_M_walk_155 (by decide) (fun h => ?_) (fun h => ?_)
        · have hwp := ite_t h hwp
          exact kW.sub [0, 1, 2, 3, 4, 5, 6, 7, 8, 9] rfl (k_M_walk_172 X hret hr_133 _ _ _ _ _ _ _ _ _ _ hwp)
        · have hwp := ite_f h hwp
          refine kw_aload_n (pc := 158) X d_M_walk_158 rfl 0 rfl ?_
          refine kw_iload (pc := 159) X d_M_walk_159 6 rfl ?_
          refine kw_aload_n (pc := 161) X d_M_walk_161 rfl 0 rfl ?_
          refine kg_99 (a := a0) (pc := 162) X d_M_walk_162 x_1019 rfl f1 ?_
          refine kw_iconst (v := 1) (pc := 165) X d_M_walk_165 (by decide) ?_
          refine kcVp_i (n := 3) (As := [.int l8, .int (gi G 99 a0), .int (1 : Int32)]) (rest := []) (pc := 166) X (c_M_may l t G a0 l8 (gi G 99 a0) (1 : Int32) _) (cwV_of (C := "TreeServerModel") X x_1127 x_1124 x_1126 xp_45 x_13 (by decide +kernel) ⟨rfl, rfl⟩ (by decide)) (rv_10 X f1) rfl rfl (by decide) d_M_walk_166 hwp (fun v3 hwp => ?_)
          obtain ⟨b_v3, hwp⟩ := hwp
          refine kw_if_ne (tgt := 176) (pc := 169) X d_M_walk_169 (by decide) (fun h => ?_) (fun h => ?_)
          · have hwp := ite_t h hwp
            refine kw_aload_n (pc := 176) X d_M_walk_176 rfl 0 rfl ?_
            refine kw_iload (pc := 177) X d_M_walk_177 7 rfl ?_
            refine kcVp_i (n := 1) (As := [.int l9]) (rest := []) (pc := 179) X (c_M_isDots l t G a0 l9 _) (cwV_of (C := "TreeServerModel") X x_1264 x_1261 x_1263 xp_72 x_13 (by decide +kernel) ⟨rfl, rfl⟩ (by decide)) (rv_10 X f1) rfl rfl (by decide) d_M_walk_179 hwp (fun v4 hwp => ?_)
            obtain ⟨b_v4, hwp⟩ := hwp
            refine kw_if_eq (tgt := 209) (pc := 182) X d_M_walk_182 (by decide) (fun h => ?_) (fun h => ?_)
            · have hwp := ite_t h hwp
              refine kw_aload_n (pc := 209) X d_M_walk_209 rfl 0 rfl ?_
              refine kw_iload (pc := 210) X d_M_walk_210 6 rfl ?_
              refine kw_iload (pc := 212) X d_M_walk_212 7 rfl ?_
              refine kcVp_i (n := 2) (As := [.int l8, .int l9]) (rest := []) (pc := 214) X (c_M_named l t G a0 l8 l9 _) (cwV_of (C := "TreeServerModel") X x_1269 x_1266 x_1268 xp_73 x_13 (by decide +kernel) ⟨rfl, rfl⟩ (by decide)) (rv_10 X f1) rfl rfl (by decide) d_M_walk_214 hwp (fun v5 hwp => ?_)
              exact kW.sub [0, 1, 2, 3, 4, 5, 6, 7, 8, 9] rfl (k_M_walk_217 X hret hr_133 _ _ _ _ _ _ _ _ _ _ _ hwp)
            · have hwp := ite_f h hwp
              refine kw_iload (pc := 185) X d_M_walk_185 6 rfl ?_
              refine kw_if_ne (tgt := 194) (pc := 187) X d_M_walk_187 (by decide) (fun h => ?_) (fun h => ?_)
              · have hwp := ite_t h hwp
                refine kw_aload_n (pc := 194) X d_M_walk_194 rfl 0 rfl ?_
                refine kw_aload_n (pc := 195) X d_M_walk_195 rfl 0 rfl ?_
                refine kw_iload (pc := 196) X d_M_walk_196 6 rfl ?_
                refine kw_bipush (v := 8) (pc := 198) X d_M_walk_198 (by decide) ?_
                refine kcVp_i (n := 2) (As := [.int l8, .int (8 : Int32)]) (rest := [va_rf (some a0)]) (pc := 200) X (c_M_at l t G a0 l8 (8 : Int32) _) (cwV_of (C := "TreeServerModel") X x_1111 x_1108 x_1110 xp_41 x_13 (by decide +kernel) ⟨rfl, rfl⟩ (by decide)) (rv_10 X f1) rfl rfl (by simp [rf_cat, cat_i, cat_l, cat_r]) d_M_walk_200 hwp (fun v6 hwp => ?_)
                refine kcVp_i (n := 1) (As := [.int v6]) (rest := []) (pc := 203) X (c_M_find l t G a0 v6 _) (cwV_of (C := "TreeServerModel") X x_1107 x_1104 x_1106 xp_40 x_13 (by decide +kernel) ⟨rfl, rfl⟩ (by decide)) (rv_10 X f1) rfl rfl (by decide) d_M_walk_203 hwp (fun v7 hwp => ?_)
                refine kw_goto (tgt := 217) (pc := 206) X d_M_walk_206 (by decide) ?_
                exact kW.sub [0, 1, 2, 3, 4, 5, 6, 7, 8, 9] rfl (k_M_walk_217 X hret hr_133 _ _ _ _ _ _ _ _ _ _ _ hwp)
              · have hwp := ite_f (not_not_intro h) hwp
                refine kw_iconst (v := 0) (pc := 190) X d_M_walk_190 (by decide) ?_
                refine kw_goto (tgt := 217) (pc := 191) X d_M_walk_191 (by decide) ?_
                exact kW.sub [0, 1, 2, 3, 4, 5, 6, 7, 8, 9] rfl (k_M_walk_217 X hret hr_133 _ _ _ _ _ _ _ _ _ _ _ hwp)
          · have hwp := ite_f (not_not_intro h) hwp
            exact kW.sub [0, 1, 2, 3, 4, 5, 6, 7, 8, 9] rfl (k_M_walk_172 X hret hr_133 _ _ _ _ _ _ _ _ _ _ hwp)
set_option maxRecDepth 100000 in
set_option maxHeartbeats 4000000 in
theorem k_M_walk_94 {p : Program} {l : Launch} {e : Env} {s : State} {m : MethodId} {args : Array Value} {below : List Frame} {meth : Method} {c : Code} {t : TY} {a0 : Nat} {K : GS → Prop} (X : kX p s m args meth c b_M_walk 13 "TreeServerModel" t) (hret : meth.sig.returnType = none) (l1 : Int32) (l2 : Int32) (l3 : Int32) (l4 : Int64) (l6 : Int32) (G : GS) (hwp : w_M_walk_94 t a0 K l1 l2 l3 l4 l6 G) : kW p l e rm_M_walk s m args below meth c (MQ below (va_Qv (fun u : GS => K u) (fun u T => HB t u T.heap) (tA t)) args s 0 0 (tA t)) 13 t false 94 [(0, va_rf (some a0)), (1, .int l1), (2, .int l2), (3, .int l3), (4, .long l4), (6, .int l6)] [] G := by
  unfold w_M_walk_94 at hwp
  refine kw_aload_n (pc := 94) X d_M_walk_94 rfl 0 rfl ?_
  obtain ⟨f1, hwp⟩ := hwp
  refine kg_98 (a := a0) (pc := 95) X d_M_walk_95 x_1018 rfl f1 ?_
  refine kw_lconst (v := 0) (pc := 98) X d_M_walk_98 (by decide) ?_
  refine kw_lcmp_eq (tgt := 104) (pc := 99) X d_M_walk_99 d_M_walk_100 (by decide) (fun h => ?_) (fun h => ?_)
  · have hwp := ite_t h hwp
    refine kw_aload_n (pc := 104) X d_M_walk_104 rfl 0 rfl ?_
    refine kw_bipush (v := 15) (pc := 105) X d_M_walk_105 (by decide) ?_
    refine kw_iconst (v := 2) (pc := 107) X d_M_walk_107 (by decide) ?_
    refine kcVp_l (n := 2) (As := [.int (15 : Int32), .int (2 : Int32)]) (rest := []) (pc := 108) X (c_M_get l t G a0 (15 : Int32) (2 : Int32) _) (cwV_of (C := "TreeServerModel") X x_1175 x_1172 x_1174 xp_56 x_13 (by decide +kernel) ⟨rfl, rfl⟩ (by decide)) (rv_10 X f1) rfl rfl (by decide) d_M_walk_108 hwp (fun v2 hwp => ?_)
    refine kw_l2i (pc := 111) X d_M_walk_111 ?_
    obtain ⟨v3, e_v3⟩ : ∃ z, z = v2.toInt32 := ⟨_, rfl⟩
    have hwp := hwp v3 e_v3
    refine kW.st (st' := .int v3 :: _) (by rw [e_v3]) ?_
    refine kw_istore (i := 7) (lv' := [(7, .int v3), (0, va_rf (some a0)), (1, .int l1), (2, .int l2), (3, .int l3), (4, .long l4), (6, .int l6)]) (pc := 112) X d_M_walk_112 (by decide) rfl ?_
    refine kw_iload_n (pc := 114) X d_M_walk_114 rfl 4 rfl ?_
    refine kw_istore (i := 8) (lv' := [(8, .int l3), (7, .int v3), (0, va_rf (some a0)), (1, .int l1), (2, .int l2), (3, .int l3), (4, .long l4), (6, .int l6)]) (pc := 115) X d_M_walk_115 (by decide) rfl ?_
    refine kw_bipush (v := 17) (pc := 117) X d_M_walk_117 (by decide) ?_
    refine kw_istore (i := 9) (lv' := [(9, .int (17 : Int32)), (8, .int l3), (7, .int v3), (0, va_rf (some a0)), (1, .int l1), (2, .int l2), (3, .int l3), (4, .long l4), (6, .int l6)]) (pc := 119) X d_M_walk_119 (by decide) rfl ?_
    refine kw_aload_n (pc := 121) X d_M_walk_121 rfl 3 rfl ?_
    refine kw_lconst (v := 0) (pc := 122) X d_M_walk_122 (by decide) ?_
    refine kw_iconst (v := 2) (pc := 123) X d_M_walk_123 (by decide) ?_
    refine kcV_v (n := 2) (As := [.long (0 : Int64), .int (2 : Int32)]) (rest := []) (pc := 124) X rfl (c_M_put l t G a0 (0 : Int64) (2 : Int32) _) (cwV_of (C := "TreeServerModel") X x_1199 x_1196 x_1198 xp_60 x_13 (by decide +kernel) ⟨rfl, rfl⟩ (by decide)) (rv_10 X f1) rfl rfl (by decide) d_M_walk_124 hwp (fun G4 hwp => ?_)
    refine kw_iconst (v := 0) (pc := 127) X d_M_walk_127 (by decide) ?_
    refine kw_istore (i := 10) (lv' := [(10, .int (0 : Int32)), (9, .int (17 : Int32)), (8, .int l3), (7, .int v3), (0, va_rf (some a0)), (1, .int l1), (2, .int l2), (3, .int l3), (4, .long l4), (6, .int l6)]) (pc := 128) X d_M_walk_128 (by decide) rfl ?_
    refine kw_iconst (v := 0) (pc := 130) X d_M_walk_130 (by decide) ?_
    refine kw_istore (i := 11) (lv' := [(11, .int (0 : Int32)), (10, .int (0 : Int32)), (9, .int (17 : Int32)), (8, .int l3), (7, .int v3), (0, va_rf (some a0)), (1, .int l1), (2, .int l2), (3, .int l3), (4, .long l4), (6, .int l6)]) (pc := 131) X d_M_walk_131 (by decide) rfl ?_
    obtain ⟨n, hwp⟩ := hwp
    exact kW.sub [5, 6, 7, 9, 10, 4, 3, 2, 1, 0] rfl (k_M_walk_133 X hret  n _ _ _ _ _ _ _ _ _ _ hwp)
  · have hwp := ite_f h hwp
    exact kr_v (pc := 103) X hret d_M_walk_103 hwp
set_option maxRecDepth 100000 in
set_option maxHeartbeats 4000000 in
theorem k_M_walk_72 {p : Program} {l : Launch} {e : Env} {s : State} {m : MethodId} {args : Array Value} {below : List Frame} {meth : Method} {c : Code} {t : TY} {a0 : Nat} {K : GS → Prop} (X : kX p s m args meth c b_M_walk 13 "TreeServerModel" t) (hret : meth.sig.returnType = none) (l1 : Int32) (l2 : Int32) (l3 : Int32) (l4 : Int64) (l6 : Int32) (G : GS) (hwp : w_M_walk_72 t a0 K l1 l2 l3 l4 l6 G) : kW p l e rm_M_walk s m args below meth c (MQ below (va_Qv (fun u : GS => K u) (fun u T => HB t u T.heap) (tA t)) args s 0 0 (tA t)) 13 t false 72 [(0, va_rf (some a0)), (1, .int l1), (2, .int l2), (3, .int l3), (4, .long l4), (6, .int l6)] [] G := by
  unfold w_M_walk_72 at hwp
  refine kw_iload (pc := 72) X d_M_walk_72 5 rfl ?_
  refine kw_if_ne (tgt := 94) (pc := 74) X d_M_walk_74 (by decide) (fun h => ?_) (fun h => ?_)
  · have hwp := ite_t h hwp
    exact kW.sub [0, 1, 2, 3, 4, 5] rfl (k_M_walk_94 X hret  _ _ _ _ _ _ hwp)
  · have hwp := ite_f (not_not_intro h) hwp
    refine kw_aload_n (pc := 77) X d_M_walk_77 rfl 0 rfl ?_
    refine kw_iload_n (pc := 78) X d_M_walk_78 rfl 1 rfl ?_
    obtain ⟨f1, hwp⟩ := hwp
    refine kcVp_i (n := 1) (As := [.int l1]) (rest := []) (pc := 79) X (c_M_many l t G a0 l1 _) (cwV_of (C := "TreeServerModel") X x_1228 x_1225 x_1227 xp_65 x_13 (by decide +kernel) ⟨rfl, rfl⟩ (by decide)) (rv_10 X f1) rfl rfl (by decide) d_M_walk_79 hwp (fun v2 hwp => ?_)
    refine kw_bipush (v := 6) (pc := 82) X d_M_walk_82 (by decide) ?_
    refine kw_icmp_ne (tgt := 94) (pc := 84) X d_M_walk_84 (by decide) (fun h => ?_) (fun h => ?_)
    · have hwp := ite_t h hwp
      exact kW.sub [0, 1, 2, 3, 4, 5] rfl (k_M_walk_94 X hret  _ _ _ _ _ _ hwp)
    · have hwp := ite_f (not_not_intro h) hwp
      refine kw_aload_n (pc := 87) X d_M_walk_87 rfl 0 rfl ?_
      refine kw_ldc2 (v := 1935960422) (pc := 88) X d_M_walk_88 x_1229 ?_
      refine kp_98 (a := a0) (x := (1935960422 : Int64)) (pc := 91) X rfl d_M_walk_91 x_1018 rfl f1 ?_
      obtain ⟨G3, e_G3⟩ : ∃ g, g = sl G 98 a0 (1935960422 : Int64) := ⟨_, rfl⟩
      have hwp := hwp G3 e_G3
      refine kW.g e_G3.symm ?_
      exact kW.sub [0, 1, 2, 3, 4, 5] rfl (k_M_walk_94 X hret  _ _ _ _ _ _ hwp)
set_option maxRecDepth 100000 in
set_option maxHeartbeats 4000000 in
theorem k_M_walk_26 {p : Program} {l : Launch} {e : Env} {s : State} {m : MethodId} {args : Array Value} {below : List Frame} {meth : Method} {c : Code} {t : TY} {a0 : Nat} {K : GS → Prop} (X : kX p s m args meth c b_M_walk 13 "TreeServerModel" t) (hret : meth.sig.returnType = none) (l1 : Int32) (l2 : Int32) (l3 : Int32) (l4 : Int64) (s0 : Int32) (G : GS) (hwp : w_M_walk_26 t a0 K l1 l2 l3 l4 s0 G) : kW p l e rm_M_walk s m args below meth c (MQ below (va_Qv (fun u : GS => K u) (fun u T => HB t u T.heap) (tA t)) args s 0 0 (tA t)) 13 t false 26 [(0, va_rf (some a0)), (1, .int l1), (2, .int l2), (3, .int l3), (4, .long l4)] [.int s0] G := by
  unfold w_M_walk_26 at hwp
  refine kw_istore (i := 6) (lv' := [(6, .int s0), (0, va_rf (some a0)), (1, .int l1), (2, .int l2), (3, .int l3), (4, .long l4)]) (pc := 26) X d_M_walk_26 (by decide) rfl ?_
  refine kw_aload_n (pc := 28) X d_M_walk_28 rfl 1 rfl ?_
  obtain ⟨f1, hwp⟩ := hwp
  refine kg_90 (a := a0) (pc := 29) X d_M_walk_29 x_1010 rfl f1 ?_
  refine kw_iload_n (pc := 32) X d_M_walk_32 rfl 3 rfl ?_
  obtain ⟨a2, h_a2, hwp⟩ := hwp
  obtain ⟨f3, hwp⟩ := hwp
  obtain ⟨f4, hwp⟩ := hwp
  refine ka_iald (a := a2) (pc := 33) X d_M_walk_33 h_a2 f3 f4 ?_
  refine kw_if_lt (tgt := 47) (pc := 34) X d_M_walk_34 (by decide) (fun h => ?_) (fun h => ?_)
  · have hwp := ite_t h hwp
    refine kw_iload (pc := 47) X d_M_walk_47 0 rfl ?_
    refine kw_if_ne (tgt := 72) (pc := 49) X d_M_walk_49 (by decide) (fun h => ?_) (fun h => ?_)
    · have hwp := ite_t h hwp
      exact kW.sub [1, 2, 3, 4, 5, 0] rfl (k_M_walk_72 X hret  _ _ _ _ _ _ hwp)
    · have hwp := ite_f (not_not_intro h) hwp
      refine kw_aload_n (pc := 52) X d_M_walk_52 rfl 1 rfl ?_
      refine kw_iload_n (pc := 53) X d_M_walk_53 rfl 2 rfl ?_
      refine kw_lload (pc := 54) X d_M_walk_54 5 rfl ?_
      refine kcVp_i (n := 2) (As := [.int l1, .long l4]) (rest := []) (pc := 56) X (c_M_fid l t G a0 l1 l4 _) (cwV_of (C := "TreeServerModel") X x_1223 x_1220 x_1222 xp_64 x_13 (by decide +kernel) ⟨rfl, rfl⟩ (by decide)) (rv_10 X f1) rfl rfl (by decide) d_M_walk_56 hwp (fun v5 hwp => ?_)
      refine kw_if_lt (tgt := 72) (pc := 59) X d_M_walk_59 (by decide) (fun h => ?_) (fun h => ?_)
      · have hwp := ite_t h hwp
        exact kW.sub [1, 2, 3, 4, 5, 0] rfl (k_M_walk_72 X hret  _ _ _ _ _ _ hwp)
      · have hwp := ite_f h hwp
        refine kw_aload_n (pc := 62) X d_M_walk_62 rfl 1 rfl ?_
        refine kw_ldc2 (v := 435728772713) (pc := 63) X d_M_walk_63 x_1224 ?_
        refine kp_98 (a := a0) (x := (435728772713 : Int64)) (pc := 66) X rfl d_M_walk_66 x_1018 rfl f1 ?_
        obtain ⟨G6, e_G6⟩ : ∃ g, g = sl G 98 a0 (435728772713 : Int64) := ⟨_, rfl⟩
        have hwp := hwp G6 e_G6
        refine kW.g e_G6.symm ?_
        refine kw_goto (tgt := 94) (pc := 69) X d_M_walk_69 (by decide) ?_
        exact kW.sub [1, 2, 3, 4, 5, 0] rfl (k_M_walk_94 X hret  _ _ _ _ _ _ hwp)
  · have hwp := ite_f h hwp
    refine kw_aload_n (pc := 37) X d_M_walk_37 rfl 1 rfl ?_
    refine kw_ldc2 (v := 1852141679) (pc := 38) X d_M_walk_38 x_1260 ?_
    refine kp_98 (a := a0) (x := (1852141679 : Int64)) (pc := 41) X rfl d_M_walk_41 x_1018 rfl f1 ?_
    obtain ⟨G7, e_G7⟩ : ∃ g, g = sl G 98 a0 (1852141679 : Int64) := ⟨_, rfl⟩
    have hwp := hwp G7 e_G7
    refine kW.g e_G7.symm ?_
    refine kw_goto (tgt := 94) (pc := 44) X d_M_walk_44 (by decide) ?_
    exact kW.sub [1, 2, 3, 4, 5, 0] rfl (k_M_walk_94 X hret  _ _ _ _ _ _ hwp)
set_option maxRecDepth 100000 in
set_option maxHeartbeats 4000000 in
theorem k_M_walk {p : Program} {l : Launch} {e : Env} {s : State} {m : MethodId} {args : Array Value} {below : List Frame} {meth : Method} {c : Code} {t : TY} {a0 : Nat} {K : GS → Prop} (X : kX p s m args meth c b_M_walk 13 "TreeServerModel" t) (hret : meth.sig.returnType = none) (G : GS) (p1 : Int32) (p2 : Int32) (p3 : Int32) (hwp : w_M_walk t G a0 p1 p2 p3 K) : kW p l e rm_M_walk s m args below meth c (MQ below (va_Qv (fun u : GS => K u) (fun u T => HB t u T.heap) (tA t)) args s 0 0 (tA t)) 13 t false 0 [(0, va_rf (some a0)), (1, .int p1), (2, .int p2), (3, .int p3)] [] G := by
  unfold w_M_walk at hwp
  refine kw_aload_n (pc := 0) X d_M_walk_0 rfl 0 rfl ?_
  refine kw_bipush (v := 11) (pc := 1) X d_M_walk_1 (by decide) ?_
  refine kw_iconst (v := 4) (pc := 3) X d_M_walk_3 (by decide) ?_
  obtain ⟨f1, hwp⟩ := hwp
  refine kcVp_l (n := 2) (As := [.int (11 : Int32), .int (4 : Int32)]) (rest := []) (pc := 4) X (c_M_get l t G a0 (11 : Int32) (4 : Int32) _) (cwV_of (C := "TreeServerModel") X x_1175 x_1172 x_1174 xp_56 x_13 (by decide +kernel) ⟨rfl, rfl⟩ (by decide)) (rv_10 X f1) rfl rfl (by decide) d_M_walk_4 hwp (fun v2 hwp => ?_)
  refine kw_lstore (i := 4) (lv' := [(4, .long v2), (0, va_rf (some a0)), (1, .int p1), (2, .int p2), (3, .int p3)]) (pc := 7) X d_M_walk_7 (by decide) rfl ?_
  refine kw_lload (pc := 9) X d_M_walk_9 0 rfl ?_
  refine kw_aload_n (pc := 11) X d_M_walk_11 rfl 1 rfl ?_
  refine kg_87 (a := a0) (pc := 12) X d_M_walk_12 x_1007 rfl f1 ?_
  refine kw_iload_n (pc := 15) X d_M_walk_15 rfl 3 rfl ?_
  obtain ⟨a3, h_a3, hwp⟩ := hwp
  obtain ⟨f4, hwp⟩ := hwp
  obtain ⟨f5, hwp⟩ := hwp
  refine ka_lald (a := a3) (pc := 16) X d_M_walk_16 h_a3 f4 f5 ?_
  refine kw_lcmp_ne (tgt := 25) (pc := 17) X d_M_walk_17 d_M_walk_18 (by decide) (fun h => ?_) (fun h => ?_)
  · have hwp := ite_t h hwp
    refine kw_iconst (v := 0) (pc := 25) X d_M_walk_25 (by decide) ?_
    exact kW.sub [1, 2, 3, 4, 0] rfl (k_M_walk_26 X hret  _ _ _ _ _ _ hwp)
  · have hwp := ite_f (not_not_intro h) hwp
    refine kw_iconst (v := 1) (pc := 21) X d_M_walk_21 (by decide) ?_
    refine kw_goto (tgt := 26) (pc := 22) X d_M_walk_22 (by decide) ?_
    exact kW.sub [1, 2, 3, 4, 0] rfl (k_M_walk_26 X hret  _ _ _ _ _ _ hwp)
set_option maxRecDepth 100000 in
set_option maxHeartbeats 4000000 in
theorem c_M_walk (l : Launch) (t : TY) (G : GS) (a0 : Nat) (p1 : Int32) (p2 : Int32) (p3 : Int32) (K : GS → Prop) : Met l y_M_walk (Cond.code y_M_walk b_M_walk 13 (Option.none : Option Jvm.ClassFile.FieldType) :: GW) rm_M_walk (va_Pc [.ref a0, .int p1, .int p2, .int p3] (fun U => HB t G U.heap ∧ HK t U ∧ w_M_walk t G a0 p1 p2 p3 K)) (va_Qv (fun u : GS => K u) (fun u T => HB t u T.heap) (tA t)) 0 0 (tA t) := by
  refine Met.ofW (cc := b_M_walk) (maxL := 13) (ret := none) (by decide) rfl ?_
  intro p e s m args below meth c s₁ B hml hv
  obtain ⟨rfl, hB, hK, hwp⟩ := hv
  have hts := atoms_spec (ws := Cond.code y_M_walk b_M_walk 13 (Option.none : Option Jvm.ClassFile.FieldType) :: GW) B.pre
  have X : kX p s m _ meth c b_M_walk 13 "TreeServerModel" t := ⟨B.exec, B.bytes, hml, findClass_of_methodNamed B.named, fun w h => hts w (List.mem_cons_of_mem _ h), B.notSynchronized, hK⟩
  have hZ : kZ t false s G s.heap [] := ⟨hB, va_S.rf, fun _ => ⟨rfl, rfl⟩⟩
  rw [lg_entry_eq]
  have hl := lv_entry ([.ref a0, .int p1, .int p2, .int p3]) (n := 13) (by simp [lg_sl, rf_cat, cat_i, cat_l, cat_r])
  exact k_M_walk X B.returns _ _ _ _ hwp s.heap [] _ hl hZ
