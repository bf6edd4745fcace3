abbrev b_S_readContent : ByteArray := prog_1_method_37_code
def y_S_readContent : MethodName := ⟨"TreeServer", "readContent", "(LTreeServer$Node;JI)V"⟩
theorem d_S_readContent_0 : decode b_S_readContent 0 = .ok (.lload_n 2, 1) := by decide +kernel
theorem d_S_readContent_1 : decode b_S_readContent 1 = .ok (.lconst 0, 1) := by decide +kernel
theorem d_S_readContent_2 : decode b_S_readContent 2 = .ok (.lcmp, 1) := by decide +kernel
theorem d_S_readContent_3 : decode b_S_readContent 3 = .ok (.ifCond .lt 13, 3) := by decide +kernel
theorem d_S_readContent_6 : decode b_S_readContent 6 = .ok (.lload_n 2, 1) := by decide +kernel
theorem d_S_readContent_7 : decode b_S_readContent 7 = .ok (.aload_n 1, 1) := by decide +kernel
theorem d_S_readContent_8 : decode b_S_readContent 8 = .ok (.getfield 471, 3) := by decide +kernel
theorem d_S_readContent_11 : decode b_S_readContent 11 = .ok (.i2l, 1) := by decide +kernel
theorem d_S_readContent_12 : decode b_S_readContent 12 = .ok (.lcmp, 1) := by decide +kernel
theorem d_S_readContent_13 : decode b_S_readContent 13 = .ok (.ifCond .le 10, 3) := by decide +kernel
theorem d_S_readContent_16 : decode b_S_readContent 16 = .ok (.aload_n 1, 1) := by decide +kernel
theorem d_S_readContent_17 : decode b_S_readContent 17 = .ok (.getfield 471, 3) := by decide +kernel
theorem d_S_readContent_20 : decode b_S_readContent 20 = .ok (.goto 5, 3) := by decide +kernel
theorem d_S_readContent_23 : decode b_S_readContent 23 = .ok (.lload_n 2, 1) := by decide +kernel
theorem d_S_readContent_24 : decode b_S_readContent 24 = .ok (.l2i, 1) := by decide +kernel
theorem d_S_readContent_25 : decode b_S_readContent 25 = .ok (.istore 5, 2) := by decide +kernel
theorem d_S_readContent_27 : decode b_S_readContent 27 = .ok (.iload 4, 2) := by decide +kernel
theorem d_S_readContent_29 : decode b_S_readContent 29 = .ok (.aload_n 1, 1) := by decide +kernel
theorem d_S_readContent_30 : decode b_S_readContent 30 = .ok (.getfield 471, 3) := by decide +kernel
theorem d_S_readContent_33 : decode b_S_readContent 33 = .ok (.iload 5, 2) := by decide +kernel
theorem d_S_readContent_35 : decode b_S_readContent 35 = .ok (.isub, 1) := by decide +kernel
theorem d_S_readContent_36 : decode b_S_readContent 36 = .ok (.invokestatic 472, 3) := by decide +kernel
theorem d_S_readContent_39 : decode b_S_readContent 39 = .ok (.istore 6, 2) := by decide +kernel
theorem d_S_readContent_41 : decode b_S_readContent 41 = .ok (.aload_n 0, 1) := by decide +kernel
theorem d_S_readContent_42 : decode b_S_readContent 42 = .ok (.getfield 40, 3) := by decide +kernel
theorem d_S_readContent_45 : decode b_S_readContent 45 = .ok (.iload 6, 2) := by decide +kernel
theorem d_S_readContent_47 : decode b_S_readContent 47 = .ok (.i2l, 1) := by decide +kernel
theorem d_S_readContent_48 : decode b_S_readContent 48 = .ok (.iconst 4, 1) := by decide +kernel
theorem d_S_readContent_49 : decode b_S_readContent 49 = .ok (.invokevirtual 306, 3) := by decide +kernel
theorem d_S_readContent_52 : decode b_S_readContent 52 = .ok (.aload_n 0, 1) := by decide +kernel
theorem d_S_readContent_53 : decode b_S_readContent 53 = .ok (.getfield 40, 3) := by decide +kernel
theorem d_S_readContent_56 : decode b_S_readContent 56 = .ok (.aload_n 1, 1) := by decide +kernel
theorem d_S_readContent_57 : decode b_S_readContent 57 = .ok (.getfield 475, 3) := by decide +kernel
theorem d_S_readContent_60 : decode b_S_readContent 60 = .ok (.iload 5, 2) := by decide +kernel
theorem d_S_readContent_62 : decode b_S_readContent 62 = .ok (.iload 6, 2) := by decide +kernel
theorem d_S_readContent_64 : decode b_S_readContent 64 = .ok (.invokevirtual 478, 3) := by decide +kernel
theorem d_S_readContent_67 : decode b_S_readContent 67 = .ok (.return_, 1) := by decide +kernel
abbrev rm_S_readContent : Room := { frames := 2, cells := 0, slots := 0, locals := 48 }
set_option maxRecDepth 100000 in
set_option maxHeartbeats 4000000 in
theorem k_S_readContent_25 {p : Program} {l : Launch} {e : Env} {s : State} {m : MethodId} {args : Array Value} {below : List Frame} {meth : Method} {c : Code} {t : TY} {a0 : Nat} {K : GS → Prop} (X : kX p s m args meth c b_S_readContent 7 "TreeServer" t) (hret : meth.sig.returnType = none) (p1 : Nat) (l4 : Int32) (s0 : Int32) (G : GS) (hwp : w_S_readContent_25 t a0 K p1 l4 s0 G) : kW p l e rm_S_readContent s m args below meth c (MQ below (va_Qv (fun u : GS => K u) (fun u T => HB t u T.heap) (tA t)) args s 0 0 (tA t)) 7 t false 25 [(0, va_rf (some a0)), (1, va_rf (some p1)), (4, .int l4)] [.int s0] G := by
  unfold w_S_readContent_25 at hwp
  refine kw_istore (i := 5) (lv' := [(5, .int s0), (0, va_rf (some a0)), (1, va_rf (some p1)), (4, .int l4)]) (pc := 25) X d_S_readContent_25 (by decide) rfl ?_
  refine kw_iload (pc := 27) X d_S_readContent_27 3 rfl ?_
  refine kw_aload_n (pc := 29) X d_S_readContent_29 rfl 2 rfl ?_
  obtain ⟨f1, hwp⟩ := hwp
  refine kg_12 (a := p1) (pc := 30) X d_S_readContent_30 x_88 rfl f1 ?_
  refine kw_iload (pc := 33) X d_S_readContent_33 0 rfl ?_
  refine kw_isub (pc := 35) X d_S_readContent_35 ?_
  refine km_min (pc := 36) X d_S_readContent_36 x_846 x_806 x_15 x_807 (by decide) (by decide) ?_
  obtain ⟨v2, e_v2⟩ : ∃ z, z = (imin l4 ((gi G 12 p1) - s0)) := ⟨_, rfl⟩
  have hwp := hwp v2 e_v2
  refine kW.st (st' := .int v2 :: _) (by rw [e_v2]) ?_
  refine kw_istore (i := 6) (lv' := [(6, .int v2), (5, .int s0), (0, va_rf (some a0)), (1, va_rf (some p1)), (4, .int l4)]) (pc := 39) X d_S_readContent_39 (by decide) rfl ?_
  refine kw_aload_n (pc := 41) X d_S_readContent_41 rfl 2 rfl ?_
  obtain ⟨f3, hwp⟩ := hwp
  refine kg_67 (a := a0) (pc := 42) X d_S_readContent_42 x_368 rfl f3 ?_
  refine kw_iload (pc := 45) X d_S_readContent_45 0 rfl ?_
  refine kw_i2l (pc := 47) X d_S_readContent_47 ?_
  refine kw_iconst (v := 4) (pc := 48) X d_S_readContent_48 (by decide) ?_
  obtain ⟨a4, h_a4, hwp⟩ := hwp
  obtain ⟨f5, hwp⟩ := hwp
  refine kW.st (st' := [.int (4 : Int32), .long v2.toInt64, .ref a4]) (by simp only [h_a4]; rfl) ?_
  refine kcV_v (n := 2) (As := [.long v2.toInt64, .int (4 : Int32)]) (rest := []) (pc := 49) X rfl (c_Answer_put l t G a4 v2.toInt64 (4 : Int32) _) (cwV_of (C := "TreeServer$Answer") X x_549 x_640 x_547 x_548 x_10 (by decide +kernel) ⟨rfl, rfl⟩ (by decide)) (rv_6 X f5) rfl rfl (by decide) d_S_readContent_49 hwp (fun G6 hwp => ?_)
  refine kw_aload_n (pc := 52) X d_S_readContent_52 rfl 2 rfl ?_
  refine kg_67 (a := a0) (pc := 53) X d_S_readContent_53 x_368 rfl f3 ?_
  refine kw_aload_n (pc := 56) X d_S_readContent_56 rfl 3 rfl ?_
  refine kg_11 (a := p1) (pc := 57) X d_S_readContent_57 x_85 rfl f1 ?_
  refine kw_iload (pc := 60) X d_S_readContent_60 1 rfl ?_
  refine kw_iload (pc := 62) X d_S_readContent_62 0 rfl ?_
  obtain ⟨a7, h_a7, hwp⟩ := hwp
  obtain ⟨f8, hwp⟩ := hwp
  obtain ⟨a9, h_a9, hwp⟩ := hwp
  refine kW.st (st' := [.int v2, .int s0, .ref a9, .ref a7]) (by simp only [h_a9, h_a7]; rfl) ?_
  refine kcV_v (n := 3) (As := [.ref a9, .int s0, .int v2]) (rest := []) (pc := 64) X rfl (c_Answer_putBytes l t G6 a7 a9 s0 v2 _) (cwV_of (C := "TreeServer$Answer") X x_840 x_847 x_838 x_839 x_10 (by decide +kernel) ⟨rfl, rfl⟩ (by decide)) (rv_6 X f8) rfl rfl (by decide) d_S_readContent_64 hwp (fun G10 hwp => ?_)
  exact kr_v (pc := 67) X hret d_S_readContent_67 hwp
set_option maxRecDepth 100000 in
set_option maxHeartbeats 4000000 in
theorem k_S_readContent_16 {p : Program} {l : Launch} {e : Env} {s : State} {m : MethodId} {args : Array Value} {below : List Frame} {meth : Method} {c : Code} {t : TY} {a0 : Nat} {K : GS → Prop} (X : kX p s m args meth c b_S_readContent 7 "TreeServer" t) (hret : meth.sig.returnType = none) (p1 : Nat) (l4 : Int32) (G : GS) (hwp : w_S_readContent_16 t a0 K p1 l4 G) : kW p l e rm_S_readContent s m args below meth c (MQ below (va_Qv (fun u : GS => K u) (fun u T => HB t u T.heap) (tA t)) args s 0 0 (tA t)) 7 t false 16 [(0, va_rf (some a0)), (1, va_rf (some p1)), (4, .int l4)] [] G := by
  unfold w_S_readContent_16 at hwp
  refine kw_aload_n (pc := 16) X d_S_readContent_16 rfl 1 rfl ?_
  obtain ⟨f1, hwp⟩ := hwp
  refine kg_12 (a := p1) (pc := 17) X d_S_readContent_17 x_88 rfl f1 ?_
  refine kw_goto (tgt := 25) (pc := 20) X d_S_readContent_20 (by decide) ?_
  exact kW.sub [0, 1, 2] rfl (k_S_readContent_25 X hret  _ _ _ _ hwp)
set_option maxRecDepth 100000 in
set_option maxHeartbeats 4000000 in
theorem k_S_readContent {p : Program} {l : Launch} {e : Env} {s : State} {m : MethodId} {args : Array Value} {below : List Frame} {meth : Method} {c : Code} {t : TY} {a0 : Nat} {K : GS → Prop} (X : kX p s m args meth c b_S_readContent 7 "TreeServer" t) (hret : meth.sig.returnType = none) (G : GS) (p1 : Nat) (p2 : Int64) (p4 : Int32) (hwp : w_S_readContent t G a0 p1 p2 p4 K) : kW p l e rm_S_readContent s m args below meth c (MQ below (va_Qv (fun u : GS => K u) (fun u T => HB t u T.heap) (tA t)) args s 0 0 (tA t)) 7 t false 0 [(0, va_rf (some a0)), (1, va_rf (some p1)), (2, .long p2), (4, .int p4)] [] G := by
  unfold w_S_readContent at hwp
  refine kw_lload_n (pc := 0) X d_S_readContent_0 rfl 2 rfl ?_
  refine kw_lconst (v := 0) (pc := 1) X d_S_readContent_1 (by decide) ?_
  refine kw_lcmp_lt (tgt := 16) (pc := 2) X d_S_readContent_2 d_S_readContent_3 (by decide) (fun h => ?_) (fun h => ?_)
  · have hwp := ite_t h hwp
    exact kW.sub [0, 1, 3] rfl (k_S_readContent_16 X hret  _ _ _ hwp)
  · have hwp := ite_f h hwp
    refine kw_lload_n (pc := 6) X d_S_readContent_6 rfl 2 rfl ?_
    refine kw_aload_n (pc := 7) X d_S_readContent_7 rfl 1 rfl ?_
    obtain ⟨f1, hwp⟩ := hwp
    refine kg_12 (a := p1) (pc := 8) X d_S_readContent_8 x_88 rfl f1 ?_
    refine kw_i2l (pc := 11) X d_S_readContent_11 ?_
    refine kw_lcmp_le (tgt := 23) (pc := 12) X d_S_readContent_12 d_S_readContent_13 (by decide) (fun h => ?_) (fun h => ?_)
    · have hwp := ite_t h hwp
      refine kw_lload_n (pc := 23) X d_S_readContent_23 rfl 2 rfl ?_
      refine kw_l2i (pc := 24) X d_S_readContent_24 ?_
      exact kW.sub [0, 1, 3] rfl (k_S_readContent_25 X hret  _ _ _ _ hwp)
    · have hwp := ite_f h hwp
      exact kW.sub [0, 1, 3] rfl (k_S_readContent_16 X hret  _ _ _ hwp)
set_option maxRecDepth 100000 in
set_option maxHeartbeats 4000000 in
theorem c_S_readContent (l : Launch) (t : TY) (G : GS) (a0 : Nat) (p1 : Nat) (p2 : Int64) (p4 : Int32) (K : GS → Prop) : Met l y_S_readContent (Cond.code y_S_readContent b_S_readContent 7 (Option.none : Option Jvm.ClassFile.FieldType) :: GW) rm_S_readContent (va_Pc [.ref a0, .ref p1, .long p2, .int p4] (fun U => HB t G U.heap ∧ HK t U ∧ w_S_readContent t G a0 p1 p2 p4 K)) (va_Qv (fun u : GS => K u) (fun u T => HB t u T.heap) (tA t)) 0 0 (tA t) := by
  refine Met.ofW (cc := b_S_readContent) (maxL := 7) (ret := none) (by decide) rfl ?_
  intro p e s m args below meth c s₁ B hml hv
  obtain ⟨rfl, hB, hK, hwp⟩ := hv
  have hts := atoms_spec (ws := Cond.code y_S_readContent b_S_readContent 7 (Option.none : Option Jvm.ClassFile.FieldType) :: GW) B.pre
  have X : kX p s m _ meth c b_S_readContent 7 "TreeServer" t := ⟨B.exec, B.bytes, hml, findClass_of_methodNamed B.named, fun w h => hts w (List.mem_cons_of_mem _ h), B.notSynchronized, hK⟩
  have hZ : kZ t false s G s.heap [] := ⟨hB, va_S.rf, fun _ => ⟨rfl, rfl⟩⟩
  rw [lg_entry_eq]
  have hl := lv_entry ([.ref a0, .ref p1, .long p2, .int p4]) (n := 7) (by simp [lg_sl, rf_cat, cat_i, cat_l, cat_r])
  exact k_S_readContent X B.returns _ _ _ _ hwp s.heap [] _ hl hZ
abbrev b_S_read : ByteArray := prog_1_method_36_code
def y_S_read : MethodName := ⟨"TreeServer", "read", "(LTreeServer$Fid;I)Ljava/lang/String;"⟩
theorem d_S_read_0 : decode b_S_read 0 = .ok (.aload_n 1, 1) := by decide +kernel
theorem d_S_read_1 : decode b_S_read 1 = .ok (.getfield 340, 3) := by decide +kernel
theorem d_S_read_4 : decode b_S_read 4 = .ok (.iconst (-1), 1) := by decide +kernel
theorem d_S_read_5 : decode b_S_read 5 = .ok (.if_icmp .eq 11, 3) := by decide +kernel
theorem d_S_read_8 : decode b_S_read 8 = .ok (.aload_n 1, 1) := by decide +kernel
theorem d_S_read_9 : decode b_S_read 9 = .ok (.getfield 340, 3) := by decide +kernel
theorem d_S_read_12 : decode b_S_read 12 = .ok (.iconst 1, 1) := by decide +kernel
theorem d_S_read_13 : decode b_S_read 13 = .ok (.if_icmp .ne 7, 3) := by decide +kernel
theorem d_S_read_16 : decode b_S_read 16 = .ok (.ldc_w 343, 3) := by decide +kernel
theorem d_S_read_19 : decode b_S_read 19 = .ok (.areturn, 1) := by decide +kernel
theorem d_S_read_20 : decode b_S_read 20 = .ok (.aload_n 0, 1) := by decide +kernel
theorem d_S_read_21 : decode b_S_read 21 = .ok (.getfield 33, 3) := by decide +kernel
theorem d_S_read_24 : decode b_S_read 24 = .ok (.bipush 11, 2) := by decide +kernel
theorem d_S_read_26 : decode b_S_read 26 = .ok (.bipush 8, 2) := by decide +kernel
theorem d_S_read_28 : decode b_S_read 28 = .ok (.invokevirtual 178, 3) := by decide +kernel
theorem d_S_read_31 : decode b_S_read 31 = .ok (.lstore_n 3, 1) := by decide +kernel
theorem d_S_read_32 : decode b_S_read 32 = .ok (.aload_n 0, 1) := by decide +kernel
theorem d_S_read_33 : decode b_S_read 33 = .ok (.getfield 33, 3) := by decide +kernel
theorem d_S_read_36 : decode b_S_read 36 = .ok (.bipush 19, 2) := by decide +kernel
theorem d_S_read_38 : decode b_S_read 38 = .ok (.iconst 4, 1) := by decide +kernel
theorem d_S_read_39 : decode b_S_read 39 = .ok (.invokevirtual 178, 3) := by decide +kernel
theorem d_S_read_42 : decode b_S_read 42 = .ok (.iload_n 2, 1) := by decide +kernel
theorem d_S_read_43 : decode b_S_read 43 = .ok (.bipush 11, 2) := by decide +kernel
theorem d_S_read_45 : decode b_S_read 45 = .ok (.isub, 1) := by decide +kernel
theorem d_S_read_46 : decode b_S_read 46 = .ok (.i2l, 1) := by decide +kernel
theorem d_S_read_47 : decode b_S_read 47 = .ok (.invokestatic 294, 3) := by decide +kernel
theorem d_S_read_50 : decode b_S_read 50 = .ok (.l2i, 1) := by decide +kernel
theorem d_S_read_51 : decode b_S_read 51 = .ok (.istore 5, 2) := by decide +kernel
theorem d_S_read_53 : decode b_S_read 53 = .ok (.aload_n 1, 1) := by decide +kernel
theorem d_S_read_54 : decode b_S_read 54 = .ok (.getfield 232, 3) := by decide +kernel
theorem d_S_read_57 : decode b_S_read 57 = .ok (.invokevirtual 365, 3) := by decide +kernel
theorem d_S_read_60 : decode b_S_read 60 = .ok (.ifCond .eq 12, 3) := by decide +kernel
theorem d_S_read_63 : decode b_S_read 63 = .ok (.aload_n 0, 1) := by decide +kernel
theorem d_S_read_64 : decode b_S_read 64 = .ok (.aload_n 1, 1) := by decide +kernel
theorem d_S_read_65 : decode b_S_read 65 = .ok (.lload_n 3, 1) := by decide +kernel
theorem d_S_read_66 : decode b_S_read 66 = .ok (.iload 5, 2) := by decide +kernel
theorem d_S_read_68 : decode b_S_read 68 = .ok (.invokevirtual 463, 3) := by decide +kernel
theorem d_S_read_71 : decode b_S_read 71 = .ok (.areturn, 1) := by decide +kernel
theorem d_S_read_72 : decode b_S_read 72 = .ok (.aload_n 0, 1) := by decide +kernel
theorem d_S_read_73 : decode b_S_read 73 = .ok (.aload_n 1, 1) := by decide +kernel
theorem d_S_read_74 : decode b_S_read 74 = .ok (.getfield 232, 3) := by decide +kernel
theorem d_S_read_77 : decode b_S_read 77 = .ok (.lload_n 3, 1) := by decide +kernel
theorem d_S_read_78 : decode b_S_read 78 = .ok (.iload 5, 2) := by decide +kernel
theorem d_S_read_80 : decode b_S_read 80 = .ok (.invokevirtual 467, 3) := by decide +kernel
theorem d_S_read_83 : decode b_S_read 83 = .ok (.ldc 174, 2) := by decide +kernel
theorem d_S_read_85 : decode b_S_read 85 = .ok (.areturn, 1) := by decide +kernel
abbrev rm_S_read : Room := { frames := 7, cells := 0, slots := 0, locals := 171 }
set_option maxRecDepth 100000 in
set_option maxHeartbeats 4000000 in
theorem k_S_read {p : Program} {l : Launch} {e : Env} {s : State} {m : MethodId} {args : Array Value} {below : List Frame} {meth : Method} {c : Code} {t : TY} {a0 : Nat} {K : GS → Option Nat → Prop} (X : kX p s m args meth c b_S_read 6 "TreeServer" t) (hret : meth.sig.returnType = some (.object "java/lang/String")) (G : GS) (p1 : Nat) (p2 : Int32) (hwp : w_S_read t G a0 p1 p2 K) : kW p l e rm_S_read s m args below meth c (MQ below (va_Qq (fun r (u : GS) => K u r) (fun u T => HB t u T.heap) (tA t)) args s 0 0 (tA t)) 6 t false 0 [(0, va_rf (some a0)), (1, va_rf (some p1)), (2, .int p2)] [] G := by
  unfold w_S_read at hwp
  refine kw_aload_n (pc := 0) X d_S_read_0 rfl 1 rfl ?_
  obtain ⟨f1, hwp⟩ := hwp
  refine kg_51 (a := p1) (pc := 1) X d_S_read_1 x_306 rfl f1 ?_
  refine kw_iconst (v := -1) (pc := 4) X d_S_read_4 (by decide) ?_
  refine kw_icmp_eq (tgt := 16) (pc := 5) X d_S_read_5 (by decide) (fun h => ?_) (fun h => ?_)
  · have hwp := ite_t h hwp
    refine kw_ldcwS (j := 13) (pc := 16) X d_S_read_16 (by decide) rfl ?_
    exact kr_q (pc := 19) X hret d_S_read_19 (Or.inl ⟨_, rfl⟩) hwp
  · have hwp := ite_f h hwp
    refine kw_aload_n (pc := 8) X d_S_read_8 rfl 1 rfl ?_
    refine kg_51 (a := p1) (pc := 9) X d_S_read_9 x_306 rfl f1 ?_
    refine kw_iconst (v := 1) (pc := 12) X d_S_read_12 (by decide) ?_
    refine kw_icmp_ne (tgt := 20) (pc := 13) X d_S_read_13 (by decide) (fun h => ?_) (fun h => ?_)
    · have hwp := ite_t h hwp
      refine kw_aload_n (pc := 20) X d_S_read_20 rfl 0 rfl ?_
      obtain ⟨f2, hwp⟩ := hwp
      refine kg_66 (a := a0) (pc := 21) X d_S_read_21 x_367 rfl f2 ?_
      refine kw_bipush (v := 11) (pc := 24) X d_S_read_24 (by decide) ?_
      refine kw_bipush (v := 8) (pc := 26) X d_S_read_26 (by decide) ?_
      obtain ⟨a3, h_a3, hwp⟩ := hwp
      obtain ⟨f4, hwp⟩ := hwp
      refine kW.st (st' := [.int (8 : Int32), .int (11 : Int32), .ref a3]) (by simp only [h_a3]; rfl) ?_
      refine kcVp_l (n := 2) (As := [.int (11 : Int32), .int (8 : Int32)]) (rest := []) (pc := 28) X (c_Message_number l t G a3 (11 : Int32) (8 : Int32) _) (cwV_of (C := "TreeServer$Message") X x_541 x_578 x_539 x_540 x_9 (by decide +kernel) ⟨rfl, rfl⟩ (by decide)) (rv_5 X f4) rfl rfl (by decide) d_S_read_28 hwp (fun v5 hwp => ?_)
      refine kw_lstore_n (i := 3) (lv' := [(3, .long v5), (0, va_rf (some a0)), (1, va_rf (some p1)), (2, .int p2)]) (pc := 31) X d_S_read_31 rfl (by decide) rfl ?_
      refine kw_aload_n (pc := 32) X d_S_read_32 rfl 1 rfl ?_
      refine kg_66 (a := a0) (pc := 33) X d_S_read_33 x_367 rfl f2 ?_
      refine kw_bipush (v := 19) (pc := 36) X d_S_read_36 (by decide) ?_
      refine kw_iconst (v := 4) (pc := 38) X d_S_read_38 (by decide) ?_
      refine kW.st (st' := [.int (4 : Int32), .int (19 : Int32), .ref a3]) (by simp only [h_a3]; rfl) ?_
      refine kcVp_l (n := 2) (As := [.int (19 : Int32), .int (4 : Int32)]) (rest := []) (pc := 39) X (c_Message_number l t G a3 (19 : Int32) (4 : Int32) _) (cwV_of (C := "TreeServer$Message") X x_541 x_578 x_539 x_540 x_9 (by decide +kernel) ⟨rfl, rfl⟩ (by decide)) (rv_5 X f4) rfl rfl (by decide) d_S_read_39 hwp (fun v6 hwp => ?_)
      refine kw_iload_n (pc := 42) X d_S_read_42 rfl 3 rfl ?_
      refine kw_bipush (v := 11) (pc := 43) X d_S_read_43 (by decide) ?_
      refine kw_isub (pc := 45) X d_S_read_45 ?_
      refine kw_i2l (pc := 46) X d_S_read_46 ?_
      refine km_minl (pc := 47) X d_S_read_47 x_586 x_530 x_15 x_531 (by decide) (by decide) ?_
      refine kw_l2i (pc := 50) X d_S_read_50 ?_
      obtain ⟨v7, e_v7⟩ : ∃ z, z = (lmin v6 ((p2 - (11 : Int32)).toInt64)).toInt32 := ⟨_, rfl⟩
      have hwp := hwp v7 e_v7
      refine kW.st (st' := .int v7 :: _) (by rw [e_v7]) ?_
      refine kw_istore (i := 5) (lv' := [(5, .int v7), (3, .long v5), (0, va_rf (some a0)), (1, va_rf (some p1)), (2, .int p2)]) (pc := 51) X d_S_read_51 (by decide) rfl ?_
      refine kw_aload_n (pc := 53) X d_S_read_53 rfl 3 rfl ?_
      refine kg_48 (a := p1) (pc := 54) X d_S_read_54 x_300 rfl f1 ?_
      obtain ⟨a8, h_a8, hwp⟩ := hwp
      obtain ⟨f9, hwp⟩ := hwp
      refine kW.st (st' := [.ref a8]) (by simp only [h_a8]; rfl) ?_
      refine kcVp_i (n := 0) (As := []) (rest := []) (pc := 57) X (c_Node_isDirectory l t G a8 _) (cwV_of (C := "TreeServer$Node") X x_697 x_694 x_695 x_696 x_3 (by decide +kernel) ⟨rfl, rfl⟩ (by decide)) (rv_1 X f9) rfl rfl (by decide) d_S_read_57 hwp (fun v10 hwp => ?_)
      obtain ⟨b_v10, hwp⟩ := hwp
      refine kw_if_eq (tgt := 72) (pc := 60) X d_S_read_60 (by decide) (fun h => ?_) (fun h => ?_)
      · have hwp := ite_t h hwp
        refine kw_aload_n (pc := 72) X d_S_read_72 rfl 2 rfl ?_
        refine kw_aload_n (pc := 73) X d_S_read_73 rfl 3 rfl ?_
        refine kg_48 (a := p1) (pc := 74) X d_S_read_74 x_300 rfl f1 ?_
        refine kw_lload_n (pc := 77) X d_S_read_77 rfl 1 rfl ?_
        refine kw_iload (pc := 78) X d_S_read_78 0 rfl ?_
        refine kW.st (st' := [.int v7, .long v5, .ref a8, .ref a0]) (by simp only [h_a8]; rfl) ?_
        refine kcV_v (n := 3) (As := [.ref a8, .long v5, .int v7]) (rest := []) (pc := 80) X rfl (c_S_readContent l t G a0 a8 v5 v7 _) (cwV_of (C := "TreeServer") X x_845 x_842 x_844 xp_26 x_1 (by decide +kernel) ⟨rfl, rfl⟩ (by decide)) (rv_9 X f2) rfl rfl (by decide) d_S_read_80 hwp (fun G11 hwp => ?_)
        refine kw_ldcS (tx := "") (j := 2) (pc := 83) X d_S_read_83 (by decide) rfl ?_
        exact kr_q (pc := 85) X hret d_S_read_85 (Or.inl ⟨_, rfl⟩) hwp
      · have hwp := ite_f h hwp
        refine kw_aload_n (pc := 63) X d_S_read_63 rfl 2 rfl ?_
        refine kw_aload_n (pc := 64) X d_S_read_64 rfl 3 rfl ?_
        refine kw_lload_n (pc := 65) X d_S_read_65 rfl 1 rfl ?_
        refine kw_iload (pc := 66) X d_S_read_66 0 rfl ?_
        refine kcV_q (n := 3) (As := [.ref p1, .long v5, .int v7]) (rest := []) (pc := 68) X rfl (c_S_readEntries l t G a0 p1 v5 v7 _) (cwV_of (C := "TreeServer") X x_823 x_820 x_822 xp_25 x_1 (by decide +kernel) ⟨rfl, rfl⟩ (by decide)) (rv_9 X f2) rfl rfl (by decide) d_S_read_68 hwp (fun x13 G12 hwp => ?_)
        exact kr_q (pc := 71) X hret d_S_read_71 (Or.inl ⟨_, rfl⟩) hwp
    · have hwp := ite_f (not_not_intro h) hwp
      refine kw_ldcwS (j := 13) (pc := 16) X d_S_read_16 (by decide) rfl ?_
      exact kr_q (pc := 19) X hret d_S_read_19 (Or.inl ⟨_, rfl⟩) hwp
set_option maxRecDepth 100000 in
set_option maxHeartbeats 4000000 in
theorem c_S_read (l : Launch) (t : TY) (G : GS) (a0 : Nat) (p1 : Nat) (p2 : Int32) (K : GS → Option Nat → Prop) : Met l y_S_read (Cond.code y_S_read b_S_read 6 (Option.some (Jvm.ClassFile.FieldType.object "java/lang/String")) :: GW) rm_S_read (va_Pc [.ref a0, .ref p1, .int p2] (fun U => HB t G U.heap ∧ HK t U ∧ w_S_read t G a0 p1 p2 K)) (va_Qq (fun r (u : GS) => K u r) (fun u T => HB t u T.heap) (tA t)) 0 0 (tA t) := by
  refine Met.ofW (cc := b_S_read) (maxL := 6) (ret := some (.object "java/lang/String")) (by decide) rfl ?_
  intro p e s m args below meth c s₁ B hml hv
  obtain ⟨rfl, hB, hK, hwp⟩ := hv
  have hts := atoms_spec (ws := Cond.code y_S_read b_S_read 6 (Option.some (Jvm.ClassFile.FieldType.object "java/lang/String")) :: GW) B.pre
  have X : kX p s m _ meth c b_S_read 6 "TreeServer" t := ⟨B.exec, B.bytes, hml, findClass_of_methodNamed B.named, fun w h => hts w (List.mem_cons_of_mem _ h), B.notSynchronized, hK⟩
  have hZ : kZ t false s G s.heap [] := ⟨hB, va_S.rf, fun _ => ⟨rfl, rfl⟩⟩
  rw [lg_entry_eq]
  have hl := lv_entry ([.ref a0, .ref p1, .int p2]) (n := 6) (by simp [lg_sl, rf_cat, cat_i, cat_l, cat_r])
  exact k_S_read X B.returns _ _ _ hwp s.heap [] _ hl hZ
abbrev b_Tree_hasRoomForContent : ByteArray := prog_10_method_4_code
def y_Tree_hasRoomForContent : MethodName := ⟨"TreeServer$Tree", "hasRoomForContent", "(LTreeServer$Node;J)Z"⟩
theorem d_Tree_hasRoomForContent_0 : decode b_Tree_hasRoomForContent 0 = .ok (.lload_n 2, 1) := by decide +kernel
theorem d_Tree_hasRoomForContent_1 : decode b_Tree_hasRoomForContent 1 = .ok (.ldc2_w 53, 3) := by decide +kernel
theorem d_Tree_hasRoomForContent_4 : decode b_Tree_hasRoomForContent 4 = .ok (.lcmp, 1) := by decide +kernel
theorem d_Tree_hasRoomForContent_5 : decode b_Tree_hasRoomForContent 5 = .ok (.ifCond .le 5, 3) := by decide +kernel
theorem d_Tree_hasRoomForContent_8 : decode b_Tree_hasRoomForContent 8 = .ok (.iconst 0, 1) := by decide +kernel
theorem d_Tree_hasRoomForContent_9 : decode b_Tree_hasRoomForContent 9 = .ok (.ireturn, 1) := by decide +kernel
theorem d_Tree_hasRoomForContent_10 : decode b_Tree_hasRoomForContent 10 = .ok (.lload_n 2, 1) := by decide +kernel
theorem d_Tree_hasRoomForContent_11 : decode b_Tree_hasRoomForContent 11 = .ok (.ldc2_w 55, 3) := by decide +kernel
theorem d_Tree_hasRoomForContent_14 : decode b_Tree_hasRoomForContent 14 = .ok (.ladd, 1) := by decide +kernel
theorem d_Tree_hasRoomForContent_15 : decode b_Tree_hasRoomForContent 15 = .ok (.ldc2_w 57, 3) := by decide +kernel
theorem d_Tree_hasRoomForContent_18 : decode b_Tree_hasRoomForContent 18 = .ok (.ldiv, 1) := by decide +kernel
theorem d_Tree_hasRoomForContent_19 : decode b_Tree_hasRoomForContent 19 = .ok (.aload_n 1, 1) := by decide +kernel
theorem d_Tree_hasRoomForContent_20 : decode b_Tree_hasRoomForContent 20 = .ok (.invokevirtual 40, 3) := by decide +kernel
theorem d_Tree_hasRoomForContent_23 : decode b_Tree_hasRoomForContent 23 = .ok (.i2l, 1) := by decide +kernel
theorem d_Tree_hasRoomForContent_24 : decode b_Tree_hasRoomForContent 24 = .ok (.lsub, 1) := by decide +kernel
theorem d_Tree_hasRoomForContent_25 : decode b_Tree_hasRoomForContent 25 = .ok (.lstore 4, 2) := by decide +kernel
theorem d_Tree_hasRoomForContent_27 : decode b_Tree_hasRoomForContent 27 = .ok (.lload 4, 2) := by decide +kernel
theorem d_Tree_hasRoomForContent_29 : decode b_Tree_hasRoomForContent 29 = .ok (.aload_n 0, 1) := by decide +kernel
theorem d_Tree_hasRoomForContent_30 : decode b_Tree_hasRoomForContent 30 = .ok (.invokevirtual 50, 3) := by decide +kernel
theorem d_Tree_hasRoomForContent_33 : decode b_Tree_hasRoomForContent 33 = .ok (.i2l, 1) := by decide +kernel
theorem d_Tree_hasRoomForContent_34 : decode b_Tree_hasRoomForContent 34 = .ok (.lcmp, 1) := by decide +kernel
theorem d_Tree_hasRoomForContent_35 : decode b_Tree_hasRoomForContent 35 = .ok (.ifCond .gt 7, 3) := by decide +kernel
theorem d_Tree_hasRoomForContent_38 : decode b_Tree_hasRoomForContent 38 = .ok (.iconst 1, 1) := by decide +kernel
theorem d_Tree_hasRoomForContent_39 : decode b_Tree_hasRoomForContent 39 = .ok (.goto 4, 3) := by decide +kernel
theorem d_Tree_hasRoomForContent_42 : decode b_Tree_hasRoomForContent 42 = .ok (.iconst 0, 1) := by decide +kernel
theorem d_Tree_hasRoomForContent_43 : decode b_Tree_hasRoomForContent 43 = .ok (.ireturn, 1) := by decide +kernel
abbrev rm_Tree_hasRoomForContent : Room := { frames := 2, cells := 0, slots := 0, locals := 42 }
set_option maxRecDepth 100000 in
set_option maxHeartbeats 4000000 in
theorem k_Tree_hasRoomForContent {p : Program} {l : Launch} {e : Env} {s : State} {m : MethodId} {args : Array Value} {below : List Frame} {meth : Method} {c : Code} {t : TY} {a0 : Nat} {G : GS} {K : Int32 → Prop} (X : kX p s m args meth c b_Tree_hasRoomForContent 6 "TreeServer$Tree" t) (hret : meth.sig.returnType = some .boolean) (p1 : Nat) (p2 : Int64) (hwp : w_Tree_hasRoomForContent t G a0 p1 p2 K) : kW p l e rm_Tree_hasRoomForContent s m args below meth c (MQ below (vp_Si (fun r => isB r ∧ K r)) args s 0 0 (fun _ => False)) 6 t true 0 [(0, va_rf (some a0)), (1, va_rf (some p1)), (2, .long p2)] [] G := by
  unfold w_Tree_hasRoomForContent at hwp
  refine kw_lload_n (pc := 0) X d_Tree_hasRoomForContent_0 rfl 2 rfl ?_
  refine kw_ldc2 (v := 64) (pc := 1) X d_Tree_hasRoomForContent_1 x_857 ?_
  refine kw_lcmp_le (tgt := 10) (pc := 4) X d_Tree_hasRoomForContent_4 d_Tree_hasRoomForContent_5 (by decide) (fun h => ?_) (fun h => ?_)
  · have hwp := ite_t h hwp
    refine kw_lload_n (pc := 10) X d_Tree_hasRoomForContent_10 rfl 2 rfl ?_
    refine kw_ldc2 (v := 15) (pc := 11) X d_Tree_hasRoomForContent_11 x_858 ?_
    refine kw_ladd (pc := 14) X d_Tree_hasRoomForContent_14 ?_
    refine kw_ldc2 (v := 16) (pc := 15) X d_Tree_hasRoomForContent_15 x_859 ?_
    refine kw_ldiv (pc := 18) X d_Tree_hasRoomForContent_18 (by decide) ?_
    refine kw_aload_n (pc := 19) X d_Tree_hasRoomForContent_19 rfl 1 rfl ?_
    obtain ⟨f1, hwp⟩ := hwp
    refine kcVp_i (n := 0) (As := []) (rest := [.long ((p2 + (15 : Int64)) / (16 : Int64))]) (pc := 20) X (c_Node_blocks l t G p1 _) (cwV_of (C := "TreeServer$Node") X x_790 x_787 x_788 x_789 x_3 (by decide +kernel) ⟨rfl, rfl⟩ (by decide)) (rv_1 X f1) rfl rfl (by simp [rf_cat, cat_i, cat_l, cat_r]) d_Tree_hasRoomForContent_20 hwp (fun v2 hwp => ?_)
    refine kw_i2l (pc := 23) X d_Tree_hasRoomForContent_23 ?_
    refine kw_lsub (pc := 24) X d_Tree_hasRoomForContent_24 ?_
    obtain ⟨v3, e_v3⟩ : ∃ z, z = (((p2 + (15 : Int64)) / (16 : Int64)) - v2.toInt64) := ⟨_, rfl⟩
    have hwp := hwp v3 e_v3
    refine kW.st (st' := .long v3 :: _) (by rw [e_v3]) ?_
    refine kw_lstore (i := 4) (lv' := [(4, .long v3), (0, va_rf (some a0)), (1, va_rf (some p1)), (2, .long p2)]) (pc := 25) X d_Tree_hasRoomForContent_25 (by decide) rfl ?_
    refine kw_lload (pc := 27) X d_Tree_hasRoomForContent_27 0 rfl ?_
    refine kw_aload_n (pc := 29) X d_Tree_hasRoomForContent_29 rfl 1 rfl ?_
    obtain ⟨f4, hwp⟩ := hwp
    refine kcVp_i (n := 0) (As := []) (rest := [.long v3]) (pc := 30) X (c_Tree_spareBlocks l t G a0 _) (cwV_of (C := "TreeServer$Tree") X x_794 x_791 x_792 x_793 x_2 (by decide +kernel) ⟨rfl, rfl⟩ (by decide)) (rv_2 X f4) rfl rfl (by simp [rf_cat, cat_i, cat_l, cat_r]) d_Tree_hasRoomForContent_30 hwp (fun v5 hwp => ?_)
    refine kw_i2l (pc := 33) X d_Tree_hasRoomForContent_33 ?_
    refine kw_lcmp_gt (tgt := 42) (pc := 34) X d_Tree_hasRoomForContent_34 d_Tree_hasRoomForContent_35 (by decide) (fun h => ?_) (fun h => ?_)
    · have hwp := ite_t h hwp
      refine kw_iconst (v := 0) (pc := 42) X d_Tree_hasRoomForContent_42 (by decide) ?_
      exact krp_z (pc := 43) X hret d_Tree_hasRoomForContent_43 (Or.inl rfl) hwp
    · have hwp := ite_f h hwp
      refine kw_iconst (v := 1) (pc := 38) X d_Tree_hasRoomForContent_38 (by decide) ?_
      refine kw_goto (tgt := 43) (pc := 39) X d_Tree_hasRoomForContent_39 (by decide) ?_
      exact krp_z (pc := 43) X hret d_Tree_hasRoomForContent_43 (Or.inr rfl) hwp
  · have hwp := ite_f h hwp
    refine kw_iconst (v := 0) (pc := 8) X d_Tree_hasRoomForContent_8 (by decide) ?_
    exact krp_z (pc := 9) X hret d_Tree_hasRoomForContent_9 (Or.inl rfl) hwp
set_option maxRecDepth 100000 in
set_option maxHeartbeats 4000000 in
theorem c_Tree_hasRoomForContent (l : Launch) (t : TY) (G : GS) (a0 : Nat) (p1 : Nat) (p2 : Int64) (K : Int32 → Prop) : Met l y_Tree_hasRoomForContent (Cond.code y_Tree_hasRoomForContent b_Tree_hasRoomForContent 6 (Option.some Jvm.ClassFile.FieldType.boolean) :: GW) rm_Tree_hasRoomForContent (va_Pc [.ref a0, .ref p1, .long p2] (fun U => HB t G U.heap ∧ HK t U ∧ w_Tree_hasRoomForContent t G a0 p1 p2 K)) (vp_Si (fun r => isB r ∧ K r)) 0 0 (fun _ => False) := by
  refine Met.ofW (cc := b_Tree_hasRoomForContent) (maxL := 6) (ret := some .boolean) (by decide) rfl ?_
  intro p e s m args below meth c s₁ B hml hv
  obtain ⟨rfl, hB, hK, hwp⟩ := hv
  have hts := atoms_spec (ws := Cond.code y_Tree_hasRoomForContent b_Tree_hasRoomForContent 6 (Option.some Jvm.ClassFile.FieldType.boolean) :: GW) B.pre
  have X : kX p s m _ meth c b_Tree_hasRoomForContent 6 "TreeServer$Tree" t := ⟨B.exec, B.bytes, hml, findClass_of_methodNamed B.named, fun w h => hts w (List.mem_cons_of_mem _ h), B.notSynchronized, hK⟩
  have hZ : kZ t true s G s.heap [] := ⟨hB, va_S.rf, fun _ => ⟨rfl, rfl⟩⟩
  rw [lg_entry_eq]
  have hl := lv_entry ([.ref a0, .ref p1, .long p2]) (n := 6) (by simp [lg_sl, rf_cat, cat_i, cat_l, cat_r])
  exact k_Tree_hasRoomForContent X B.returns _ _ hwp s.heap [] _ hl hZ
abbrev b_S_write : ByteArray := prog_1_method_39_code
def y_S_write : MethodName := ⟨"TreeServer", "write", "(LTreeServer$Fid;)Ljava/lang/String;"⟩
theorem d_S_write_0 : decode b_S_write 0 = .ok (.aload_n 1, 1) := by decide +kernel
theorem d_S_write_1 : decode b_S_write 1 = .ok (.getfield 340, 3) := by decide +kernel
theorem d_S_write_4 : decode b_S_write 4 = .ok (.iconst 1, 1) := by decide +kernel
theorem d_S_write_5 : decode b_S_write 5 = .ok (.if_icmp .eq 15, 3) := by decide +kernel
theorem d_S_write_8 : decode b_S_write 8 = .ok (.aload_n 1, 1) := by decide +kernel
theorem d_S_write_9 : decode b_S_write 9 = .ok (.getfield 340, 3) := by decide +kernel
theorem d_S_write_12 : decode b_S_write 12 = .ok (.iconst 2, 1) := by decide +kernel
theorem d_S_write_13 : decode b_S_write 13 = .ok (.if_icmp .eq 7, 3) := by decide +kernel
theorem d_S_write_16 : decode b_S_write 16 = .ok (.ldc_w 343, 3) := by decide +kernel
theorem d_S_write_19 : decode b_S_write 19 = .ok (.areturn, 1) := by decide +kernel
theorem d_S_write_20 : decode b_S_write 20 = .ok (.aload_n 0, 1) := by decide +kernel
theorem d_S_write_21 : decode b_S_write 21 = .ok (.getfield 33, 3) := by decide +kernel
theorem d_S_write_24 : decode b_S_write 24 = .ok (.getfield 413, 3) := by decide +kernel
theorem d_S_write_27 : decode b_S_write 27 = .ok (.bipush 23, 2) := by decide +kernel
theorem d_S_write_29 : decode b_S_write 29 = .ok (.isub, 1) := by decide +kernel
theorem d_S_write_30 : decode b_S_write 30 = .ok (.istore_n 2, 1) := by decide +kernel
theorem d_S_write_31 : decode b_S_write 31 = .ok (.iload_n 2, 1) := by decide +kernel
theorem d_S_write_32 : decode b_S_write 32 = .ok (.ifCond .le 139, 3) := by decide +kernel
theorem d_S_write_35 : decode b_S_write 35 = .ok (.aload_n 1, 1) := by decide +kernel
theorem d_S_write_36 : decode b_S_write 36 = .ok (.getfield 232, 3) := by decide +kernel
theorem d_S_write_39 : decode b_S_write 39 = .ok (.astore_n 3, 1) := by decide +kernel
theorem d_S_write_40 : decode b_S_write 40 = .ok (.aload_n 3, 1) := by decide +kernel
theorem d_S_write_41 : decode b_S_write 41 = .ok (.ldc_w 407, 3) := by decide +kernel
theorem d_S_write_44 : decode b_S_write 44 = .ok (.invokevirtual 396, 3) := by decide +kernel
theorem d_S_write_47 : decode b_S_write 47 = .ok (.ifCond .eq 11, 3) := by decide +kernel
theorem d_S_write_50 : decode b_S_write 50 = .ok (.aload_n 3, 1) := by decide +kernel
theorem d_S_write_51 : decode b_S_write 51 = .ok (.getfield 471, 3) := by decide +kernel
theorem d_S_write_54 : decode b_S_write 54 = .ok (.i2l, 1) := by decide +kernel
theorem d_S_write_55 : decode b_S_write 55 = .ok (.goto 14, 3) := by decide +kernel
theorem d_S_write_58 : decode b_S_write 58 = .ok (.aload_n 0, 1) := by decide +kernel
theorem d_S_write_59 : decode b_S_write 59 = .ok (.getfield 33, 3) := by decide +kernel
theorem d_S_write_62 : decode b_S_write 62 = .ok (.bipush 11, 2) := by decide +kernel
theorem d_S_write_64 : decode b_S_write 64 = .ok (.bipush 8, 2) := by decide +kernel
theorem d_S_write_66 : decode b_S_write 66 = .ok (.invokevirtual 178, 3) := by decide +kernel
theorem d_S_write_69 : decode b_S_write 69 = .ok (.lstore 4, 2) := by decide +kernel
theorem d_S_write_71 : decode b_S_write 71 = .ok (.lload 4, 2) := by decide +kernel
theorem d_S_write_73 : decode b_S_write 73 = .ok (.lconst 0, 1) := by decide +kernel
theorem d_S_write_74 : decode b_S_write 74 = .ok (.lcmp, 1) := by decide +kernel
theorem d_S_write_75 : decode b_S_write 75 = .ok (.ifCond .lt 28, 3) := by decide +kernel
theorem d_S_write_78 : decode b_S_write 78 = .ok (.lload 4, 2) := by decide +kernel
theorem d_S_write_80 : decode b_S_write 80 = .ok (.ldc2_w 503, 3) := by decide +kernel
theorem d_S_write_83 : decode b_S_write 83 = .ok (.lcmp, 1) := by decide +kernel
theorem d_S_write_84 : decode b_S_write 84 = .ok (.ifCond .gt 19, 3) := by decide +kernel
theorem d_S_write_87 : decode b_S_write 87 = .ok (.aload_n 0, 1) := by decide +kernel
theorem d_S_write_88 : decode b_S_write 88 = .ok (.getfield 10, 3) := by decide +kernel
theorem d_S_write_91 : decode b_S_write 91 = .ok (.aload_n 3, 1) := by decide +kernel
theorem d_S_write_92 : decode b_S_write 92 = .ok (.lload 4, 2) := by decide +kernel
theorem d_S_write_94 : decode b_S_write 94 = .ok (.iload_n 2, 1) := by decide +kernel
theorem d_S_write_95 : decode b_S_write 95 = .ok (.i2l, 1) := by decide +kernel
theorem d_S_write_96 : decode b_S_write 96 = .ok (.ladd, 1) := by decide +kernel
theorem d_S_write_97 : decode b_S_write 97 = .ok (.invokevirtual 505, 3) := by decide +kernel
theorem d_S_write_100 : decode b_S_write 100 = .ok (.ifCond .ne 7, 3) := by decide +kernel
theorem d_S_write_103 : decode b_S_write 103 = .ok (.ldc_w 434, 3) := by decide +kernel
theorem d_S_write_106 : decode b_S_write 106 = .ok (.areturn, 1) := by decide +kernel
theorem d_S_write_107 : decode b_S_write 107 = .ok (.aload_n 0, 1) := by decide +kernel
theorem d_S_write_108 : decode b_S_write 108 = .ok (.getfield 26, 3) := by decide +kernel
theorem d_S_write_111 : decode b_S_write 111 = .ok (.getstatic 509, 3) := by decide +kernel
theorem d_S_write_114 : decode b_S_write 114 = .ok (.aload_n 3, 1) := by decide +kernel
theorem d_S_write_115 : decode b_S_write 115 = .ok (.aload_n 1, 1) := by decide +kernel
theorem d_S_write_116 : decode b_S_write 116 = .ok (.getfield 275, 3) := by decide +kernel
theorem d_S_write_119 : decode b_S_write 119 = .ok (.aload_n 0, 1) := by decide +kernel
theorem d_S_write_120 : decode b_S_write 120 = .ok (.getfield 95, 3) := by decide +kernel
theorem d_S_write_123 : decode b_S_write 123 = .ok (.invokevirtual 289, 3) := by decide +kernel
theorem d_S_write_126 : decode b_S_write 126 = .ok (.aload_n 0, 1) := by decide +kernel
theorem d_S_write_127 : decode b_S_write 127 = .ok (.getfield 26, 3) := by decide +kernel
theorem d_S_write_130 : decode b_S_write 130 = .ok (.lload 4, 2) := by decide +kernel
theorem d_S_write_132 : decode b_S_write 132 = .ok (.l2i, 1) := by decide +kernel
theorem d_S_write_133 : decode b_S_write 133 = .ok (.putfield 512, 3) := by decide +kernel
theorem d_S_write_136 : decode b_S_write 136 = .ok (.aload_n 0, 1) := by decide +kernel
theorem d_S_write_137 : decode b_S_write 137 = .ok (.getfield 26, 3) := by decide +kernel
theorem d_S_write_140 : decode b_S_write 140 = .ok (.aload_n 0, 1) := by decide +kernel
theorem d_S_write_141 : decode b_S_write 141 = .ok (.getfield 33, 3) := by decide +kernel
theorem d_S_write_144 : decode b_S_write 144 = .ok (.bipush 23, 2) := by decide +kernel
theorem d_S_write_146 : decode b_S_write 146 = .ok (.iload_n 2, 1) := by decide +kernel
theorem d_S_write_147 : decode b_S_write 147 = .ok (.aload_n 0, 1) := by decide +kernel
theorem d_S_write_148 : decode b_S_write 148 = .ok (.getfield 26, 3) := by decide +kernel
theorem d_S_write_151 : decode b_S_write 151 = .ok (.getfield 515, 3) := by decide +kernel
theorem d_S_write_154 : decode b_S_write 154 = .ok (.invokevirtual 518, 3) := by decide +kernel
theorem d_S_write_157 : decode b_S_write 157 = .ok (.putfield 522, 3) := by decide +kernel
theorem d_S_write_160 : decode b_S_write 160 = .ok (.aload_n 0, 1) := by decide +kernel
theorem d_S_write_161 : decode b_S_write 161 = .ok (.aload_n 0, 1) := by decide +kernel
theorem d_S_write_162 : decode b_S_write 162 = .ok (.getfield 33, 3) := by decide +kernel
theorem d_S_write_165 : decode b_S_write 165 = .ok (.getfield 413, 3) := by decide +kernel
theorem d_S_write_168 : decode b_S_write 168 = .ok (.invokevirtual 257, 3) := by decide +kernel
theorem d_S_write_171 : decode b_S_write 171 = .ok (.aload_n 0, 1) := by decide +kernel
theorem d_S_write_172 : decode b_S_write 172 = .ok (.getfield 40, 3) := by decide +kernel
theorem d_S_write_175 : decode b_S_write 175 = .ok (.iload_n 2, 1) := by decide +kernel
theorem d_S_write_176 : decode b_S_write 176 = .ok (.i2l, 1) := by decide +kernel
theorem d_S_write_177 : decode b_S_write 177 = .ok (.iconst 4, 1) := by decide +kernel
theorem d_S_write_178 : decode b_S_write 178 = .ok (.invokevirtual 306, 3) := by decide +kernel
theorem d_S_write_181 : decode b_S_write 181 = .ok (.ldc 174, 2) := by decide +kernel
theorem d_S_write_183 : decode b_S_write 183 = .ok (.areturn, 1) := by decide +kernel
abbrev rm_S_write : Room := { frames := 4, cells := 0, slots := 0, locals := 92 }
set_option maxRecDepth 100000 in
set_option maxHeartbeats 4000000 in
theorem k_S_write_171 {p : Program} {l : Launch} {e : Env} {s : State} {m : MethodId} {args : Array Value} {below : List Frame} {meth : Method} {c : Code} {t : TY} {a0 : Nat} {K : GS → Option Nat → Prop} (X : kX p s m args meth c b_S_write 6 "TreeServer" t) (hret : meth.sig.returnType = some (.object "java/lang/String")) (l2 : Int32) (G : GS) (hwp : w_S_write_171 t a0 K l2 G) : kW p l e rm_S_write s m args below meth c (MQ below (va_Qq (fun r (u : GS) => K u r) (fun u T => HB t u T.heap) (tA t)) args s 0 0 (tA t)) 6 t false 171 [(0, va_rf (some a0)), (2, .int l2)] [] G := by
  unfold w_S_write_171 at hwp
  refine kw_aload_n (pc := 171) X d_S_write_171 rfl 0 rfl ?_
  obtain ⟨f1, hwp⟩ := hwp
  refine kg_67 (a := a0) (pc := 172) X d_S_write_172 x_368 rfl f1 ?_
  refine kw_iload_n (pc := 175) X d_S_write_175 rfl 1 rfl ?_
  refine kw_i2l (pc := 176) X d_S_write_176 ?_
  refine kw_iconst (v := 4) (pc := 177) X d_S_write_177 (by decide) ?_
  obtain ⟨a2, h_a2, hwp⟩ := hwp
  obtain ⟨f3, hwp⟩ := hwp
  refine kW.st (st' := [.int (4 : Int32), .long l2.toInt64, .ref a2]) (by simp only [h_a2]; rfl) ?_
  refine kcV_v (n := 2) (As := [.long l2.toInt64, .int (4 : Int32)]) (rest := []) (pc := 178) X rfl (c_Answer_put l t G a2 l2.toInt64 (4 : Int32) _) (cwV_of (C := "TreeServer$Answer") X x_549 x_640 x_547 x_548 x_10 (by decide +kernel) ⟨rfl, rfl⟩ (by decide)) (rv_6 X f3) rfl rfl (by decide) d_S_write_178 hwp (fun G4 hwp => ?_)
  refine kw_ldcS (tx := "") (j := 2) (pc := 181) X d_S_write_181 (by decide) rfl ?_
  exact kr_q (pc := 183) X hret d_S_write_183 (Or.inl ⟨_, rfl⟩) hwp
set_option maxRecDepth 100000 in
set_option maxHeartbeats 4000000 in
theorem k_S_write_69 {p : Program} {l : Launch} {e : Env} {s : State} {m : MethodId} {args : Array Value} {below : List Frame} {meth : Method} {c : Code} {t : TY} {a0 : Nat} {K : GS → Option Nat → Prop} (X : kX p s m args meth c b_S_write 6 "TreeServer" t) (hret : meth.sig.returnType = some (.object "java/lang/String")) (p1 : Nat) (l2 : Int32) (l3 : Option Nat) (s0 : Int64) (G : GS) (hwp : w_S_write_69 t a0 K p1 l2 l3 s0 G) : kW p l e rm_S_write s m args below meth c (MQ below (va_Qq (fun r (u : GS) => K u r) (fun u T => HB t u T.heap) (tA t)) args s 0 0 (tA t)) 6 t false 69 [(0, va_rf (some a0)), (1, va_rf (some p1)), (2, .int l2), (3, va_rf l3)] [.long s0] G := by
  unfold w_S_write_69 at hwp
  refine kw_lstore (i := 4) (lv' := [(4, .long s0), (0, va_rf (some a0)), (1, va_rf (some p1)), (2, .int l2), (3, va_rf l3)]) (pc := 69) X d_S_write_69 (by decide) (by simp [rf_cat, cat_i, cat_l, cat_r]) ?_
  refine kw_lload (pc := 71) X d_S_write_71 0 rfl ?_
  refine kw_lconst (v := 0) (pc := 73) X d_S_write_73 (by decide) ?_
  refine kw_lcmp_lt (tgt := 103) (pc := 74) X d_S_write_74 d_S_write_75 (by decide) (fun h => ?_) (fun h => ?_)
  · have hwp := ite_t h hwp
    refine kw_ldcwS (j := 23) (pc := 103) X d_S_write_103 (by decide) rfl ?_
    exact kr_q (pc := 106) X hret d_S_write_106 (Or.inl ⟨_, rfl⟩) hwp
  · have hwp := ite_f h hwp
    refine kw_lload (pc := 78) X d_S_write_78 0 rfl ?_
    refine kw_ldc2 (v := 64) (pc := 80) X d_S_write_80 x_852 ?_
    refine kw_lcmp_gt (tgt := 103) (pc := 83) X d_S_write_83 d_S_write_84 (by decide) (fun h => ?_) (fun h => ?_)
    · have hwp := ite_t h hwp
      refine kw_ldcwS (j := 23) (pc := 103) X d_S_write_103 (by decide) rfl ?_
      exact kr_q (pc := 106) X hret d_S_write_106 (Or.inl ⟨_, rfl⟩) hwp
    · have hwp := ite_f h hwp
      refine kw_aload_n (pc := 87) X d_S_write_87 rfl 1 rfl ?_
      obtain ⟨f1, hwp⟩ := hwp
      refine kg_63 (a := a0) (pc := 88) X d_S_write_88 x_364 rfl f1 ?_
      refine kw_aload_n (pc := 91) X d_S_write_91 rfl 4 rfl ?_
      refine kw_lload (pc := 92) X d_S_write_92 0 rfl ?_
      refine kw_iload_n (pc := 94) X d_S_write_94 rfl 3 rfl ?_
      refine kw_i2l (pc := 95) X d_S_write_95 ?_
      refine kw_ladd (pc := 96) X d_S_write_96 ?_
      obtain ⟨a2, h_a2, hwp⟩ := hwp
      obtain ⟨f3, hwp⟩ := hwp
      obtain ⟨a4, h_a4, hwp⟩ := hwp
      refine kW.st (st' := [.long (s0 + l2.toInt64), .ref a4, .ref a2]) (by simp only [h_a4, h_a2]; rfl) ?_
      refine kcVp_i (n := 2) (As := [.ref a4, .long (s0 + l2.toInt64)]) (rest := []) (pc := 97) X (c_Tree_hasRoomForContent l t G a2 a4 (s0 + l2.toInt64) _) (cwV_of (C := "TreeServer$Tree") X x_856 x_853 x_854 x_855 x_2 (by decide +kernel) ⟨rfl, rfl⟩ (by decide)) (rv_2 X f3) rfl rfl (by decide) d_S_write_97 hwp (fun v5 hwp => ?_)
      obtain ⟨b_v5, hwp⟩ := hwp
      refine kw_if_ne (tgt := 107) (pc := 100) X d_S_write_100 (by decide) (fun h => ?_) (fun h => ?_)
      · have hwp := ite_t h hwp
        refine kw_aload_n (pc := 107) X d_S_write_107 rfl 1 rfl ?_
        refine kg_65 (a := a0) (pc := 108) X d_S_write_108 x_366 rfl f1 ?_
        refine ks_4 (pc := 111) X d_S_write_111 x_860 ?_
        refine kw_aload_n (pc := 114) X d_S_write_114 rfl 4 rfl ?_
        refine kw_aload_n (pc := 115) X d_S_write_115 rfl 2 rfl ?_
        obtain ⟨f6, hwp⟩ := hwp
        refine kg_50 (a := p1) (pc := 116) X d_S_write_116 x_303 rfl f6 ?_
        refine kw_aload_n (pc := 119) X d_S_write_119 rfl 1 rfl ?_
        refine kg_69 (a := a0) (pc := 120) X d_S_write_120 x_370 rfl f1 ?_
        obtain ⟨a7, h_a7, hwp⟩ := hwp
        obtain ⟨f8, hwp⟩ := hwp
        refine kW.st (st' := [.int (gi G 69 a0), va_rf (gr G 50 p1), .ref a4, va_rf (some (tad t 4)), .ref a7]) (by simp only [h_a4, h_a7]; rfl) ?_
        refine kcV_v (n := 4) (As := [va_rf (some (tad t 4)), .ref a4, va_rf (gr G 50 p1), .int (gi G 69 a0)]) (rest := []) (pc := 123) X rfl (c_Change_begin l t G a7 (some (tad t 4)) a4 (gr G 50 p1) (gi G 69 a0) _) (cwV_of (C := "TreeServer$Change") X x_452 x_449 x_450 x_451 x_7 (by decide +kernel) ⟨rfl, rfl⟩ (by decide)) (rv_4 X f8) rfl rfl (by decide) d_S_write_123 hwp (fun G9 hwp => ?_)
        refine kw_aload_n (pc := 126) X d_S_write_126 rfl 1 rfl ?_
        refine kg_65 (a := a0) (pc := 127) X d_S_write_127 x_366 rfl f1 ?_
        refine kw_lload (pc := 130) X d_S_write_130 0 rfl ?_
        refine kw_l2i (pc := 132) X d_S_write_132 ?_
        obtain ⟨a10, h_a10, hwp⟩ := hwp
        obtain ⟨f11, hwp⟩ := hwp
        refine kp_34 (a := a10) (x := s0.toInt32) (pc := 133) X rfl d_S_write_133 x_190 h_a10 f11 ?_
        obtain ⟨G12, e_G12⟩ : ∃ g, g = si G9 34 a10 s0.toInt32 := ⟨_, rfl⟩
        have hwp := hwp G12 e_G12
        refine kW.g e_G12.symm ?_
        refine kw_aload_n (pc := 136) X d_S_write_136 rfl 1 rfl ?_
        refine kg_65 (a := a0) (pc := 137) X d_S_write_137 x_366 rfl f1 ?_
        refine kw_aload_n (pc := 140) X d_S_write_140 rfl 1 rfl ?_
        refine kg_66 (a := a0) (pc := 141) X d_S_write_141 x_367 rfl f1 ?_
        refine kw_bipush (v := 23) (pc := 144) X d_S_write_144 (by decide) ?_
        refine kw_iload_n (pc := 146) X d_S_write_146 rfl 3 rfl ?_
        refine kw_aload_n (pc := 147) X d_S_write_147 rfl 1 rfl ?_
        refine kg_65 (a := a0) (pc := 148) X d_S_write_148 x_366 rfl f1 ?_
        obtain ⟨a13, h_a13, hwp⟩ := hwp
        obtain ⟨f14, hwp⟩ := hwp
        refine kg_33 (a := a13) (pc := 151) X d_S_write_151 x_188 h_a13 f14 ?_
        obtain ⟨a15, h_a15, hwp⟩ := hwp
        obtain ⟨f16, hwp⟩ := hwp
        obtain ⟨a17, h_a17, hwp⟩ := hwp
        refine kW.st (st' := [.ref a17, .int l2, .int (23 : Int32), .ref a15, va_rf (gr G12 65 a0)]) (by simp only [h_a17, h_a15]; rfl) ?_
        refine kcV_i (n := 3) (As := [.int (23 : Int32), .int l2, .ref a17]) (rest := [va_rf (gr G12 65 a0)]) (pc := 154) X rfl (c_Message_copyBytes l t G12 a15 (23 : Int32) l2 a17 _) (cwV_of (C := "TreeServer$Message") X x_804 x_861 x_802 x_803 x_9 (by decide +kernel) ⟨rfl, rfl⟩ (by decide)) (rv_5 X f16) rfl rfl (by simp [rf_cat, cat_i, cat_l, cat_r]) d_S_write_154 hwp (fun v19 G18 hwp => ?_)
        refine kp_35 (a := a13) (x := v19) (pc := 157) X rfl d_S_write_157 x_192 h_a13 f14 ?_
        obtain ⟨G20, e_G20⟩ : ∃ g, g = si G18 35 a13 v19 := ⟨_, rfl⟩
        have hwp := hwp G20 e_G20
        refine kW.g e_G20.symm ?_
        refine kw_aload_n (pc := 160) X d_S_write_160 rfl 1 rfl ?_
        refine kw_aload_n (pc := 161) X d_S_write_161 rfl 1 rfl ?_
        refine kg_66 (a := a0) (pc := 162) X d_S_write_162 x_367 rfl f1 ?_
        obtain ⟨a21, h_a21, hwp⟩ := hwp
        obtain ⟨f22, hwp⟩ := hwp
        refine kg_37 (a := a21) (pc := 165) X d_S_write_165 x_232 h_a21 f22 ?_
        refine kcV_v (n := 1) (As := [.int (gi G20 37 a21)]) (rest := []) (pc := 168) X rfl (c_S_carryOut l t G20 a0 (gi G20 37 a21) _) (cwV_of (C := "TreeServer") X x_456 x_453 x_455 xp_5 x_1 (by decide +kernel) ⟨rfl, rfl⟩ (by decide)) (rv_9 X f1) rfl rfl (by decide) d_S_write_168 hwp (fun G23 hwp => ?_)
        exact kW.sub [1, 3] rfl (k_S_write_171 X hret  _ _ hwp)
      · have hwp := ite_f (not_not_intro h) hwp
        refine kw_ldcwS (j := 23) (pc := 103) X d_S_write_103 (by decide) rfl ?_
        exact kr_q (pc := 106) X hret d_S_write_106 (Or.inl ⟨_, rfl⟩) hwp
set_option maxRecDepth 100000 in
set_option maxHeartbeats 4000000 in
theorem k_S_write_20 {p : Program} {l : Launch} {e : Env} {s : State} {m : MethodId} {args : Array Value} {below : List Frame} {meth : Method} {c : Code} {t : TY} {a0 : Nat} {K : GS → Option Nat → Prop} (X : kX p s m args meth c b_S_write 6 "TreeServer" t) (hret : meth.sig.returnType = some (.object "java/lang/String")) (p1 : Nat) (G : GS) (hwp : w_S_write_20 t a0 K p1 G) : kW p l e rm_S_write s m args below meth c (MQ below (va_Qq (fun r (u : GS) => K u r) (fun u T => HB t u T.heap) (tA t)) args s 0 0 (tA t)) 6 t false 20 [(0, va_rf (some a0)), (1, va_rf (some p1))] [] G := by
  unfold w_S_write_20 at hwp
  refine kw_aload_n (pc := 20) X d_S_write_20 rfl 0 rfl ?_
  obtain ⟨f1, hwp⟩ := hwp
  refine kg_66 (a := a0) (pc := 21) X d_S_write_21 x_367 rfl f1 ?_
  obtain ⟨a2, h_a2, hwp⟩ := hwp
  obtain ⟨f3, hwp⟩ := hwp
  refine kg_37 (a := a2) (pc := 24) X d_S_write_24 x_232 h_a2 f3 ?_
  refine kw_bipush (v := 23) (pc := 27) X d_S_write_27 (by decide) ?_
  refine kw_isub (pc := 29) X d_S_write_29 ?_
  obtain ⟨v4, e_v4⟩ : ∃ z, z = ((gi G 37 a2) - (23 : Int32)) := ⟨_, rfl⟩
  have hwp := hwp v4 e_v4
  refine kW.st (st' := .int v4 :: _) (by rw [e_v4]) ?_
  refine kw_istore_n (i := 2) (lv' := [(2, .int v4), (0, va_rf (some a0)), (1, va_rf (some p1))]) (pc := 30) X d_S_write_30 rfl (by decide) rfl ?_
  refine kw_iload_n (pc := 31) X d_S_write_31 rfl 0 rfl ?_
  refine kw_if_le (tgt := 171) (pc := 32) X d_S_write_32 (by decide) (fun h => ?_) (fun h => ?_)
  · have hwp := ite_t h hwp
    exact kW.sub [1, 0] rfl (k_S_write_171 X hret  _ _ hwp)
  · have hwp := ite_f h hwp
    refine kw_aload_n (pc := 35) X d_S_write_35 rfl 2 rfl ?_
    obtain ⟨f5, hwp⟩ := hwp
    refine kg_48 (a := p1) (pc := 36) X d_S_write_36 x_300 rfl f5 ?_
    refine kw_astore_n (i := 3) (lv' := [(3, va_rf (gr G 48 p1)), (2, .int v4), (0, va_rf (some a0)), (1, va_rf (some p1))]) (pc := 39) X d_S_write_39 rfl (by decide) rfl ?_
    refine kw_aload_n (pc := 40) X d_S_write_40 rfl 0 rfl ?_
    refine kw_ldcw (v := 1073741824) (pc := 41) X d_S_write_41 x_765 ?_
    obtain ⟨a6, h_a6, hwp⟩ := hwp
    obtain ⟨f7, hwp⟩ := hwp
    refine kW.st (st' := [.int (1073741824 : Int32), .ref a6]) (by simp only [h_a6]; rfl) ?_
    refine kcVp_i (n := 1) (As := [.int (1073741824 : Int32)]) (rest := []) (pc := 44) X (c_Node_has l t G a6 (1073741824 : Int32) _) (cwV_of (C := "TreeServer$Node") X x_750 x_747 x_748 x_749 x_3 (by decide +kernel) ⟨rfl, rfl⟩ (by decide)) (rv_1 X f7) rfl rfl (by decide) d_S_write_44 hwp (fun v8 hwp => ?_)
    obtain ⟨b_v8, hwp⟩ := hwp
    refine kw_if_eq (tgt := 58) (pc := 47) X d_S_write_47 (by decide) (fun h => ?_) (fun h => ?_)
    · have hwp := ite_t h hwp
      refine kw_aload_n (pc := 58) X d_S_write_58 rfl 2 rfl ?_
      refine kg_66 (a := a0) (pc := 59) X d_S_write_59 x_367 rfl f1 ?_
      refine kw_bipush (v := 11) (pc := 62) X d_S_write_62 (by decide) ?_
      refine kw_bipush (v := 8) (pc := 64) X d_S_write_64 (by decide) ?_
      refine kW.st (st' := [.int (8 : Int32), .int (11 : Int32), .ref a2]) (by simp only [h_a2]; rfl) ?_
      refine kcVp_l (n := 2) (As := [.int (11 : Int32), .int (8 : Int32)]) (rest := []) (pc := 66) X (c_Message_number l t G a2 (11 : Int32) (8 : Int32) _) (cwV_of (C := "TreeServer$Message") X x_541 x_578 x_539 x_540 x_9 (by decide +kernel) ⟨rfl, rfl⟩ (by decide)) (rv_5 X f3) rfl rfl (by decide) d_S_write_66 hwp (fun v9 hwp => ?_)
      exact kW.sub [2, 3, 1, 0] rfl (k_S_write_69 X hret  _ _ _ _ _ hwp)
    · have hwp := ite_f h hwp
      refine kw_aload_n (pc := 50) X d_S_write_50 rfl 0 rfl ?_
      refine kg_12 (a := a6) (pc := 51) X d_S_write_51 x_88 h_a6 f7 ?_
      refine kw_i2l (pc := 54) X d_S_write_54 ?_
      refine kw_goto (tgt := 69) (pc := 55) X d_S_write_55 (by decide) ?_
      exact kW.sub [2, 3, 1, 0] rfl (k_S_write_69 X hret  _ _ _ _ _ hwp)
set_option maxRecDepth 100000 in
set_option maxHeartbeats 4000000 in
theorem k_S_write {p : Program} {l : Launch} {e : Env} {s : State} {m : MethodId} {args : Array Value} {below : List Frame} {meth : Method} {c : Code} {t : TY} {a0 : Nat} {K : GS → Option Nat → Prop} (X : kX p s m args meth c b_S_write 6 "TreeServer" t) (hret : meth.sig.returnType = some (.object "java/lang/String")) (G : GS) (p1 : Nat) (hwp : w_S_write t G a0 p1 K) : kW p l e rm_S_write s m args below meth c (MQ below (va_Qq (fun r (u : GS) => K u r) (fun u T => HB t u T.heap) (tA t)) args s 0 0 (tA t)) 6 t false 0 [(0, va_rf (some a0)), (1, va_rf (some p1))] [] G := by
  unfold w_S_write at hwp
  refine kw_aload_n (pc := 0) X d_S_write_0 rfl 1 rfl ?_
  obtain ⟨f1, hwp⟩ := hwp
  refine kg_51 (a := p1) (pc := 1) X d_S_write_1 x_306 rfl f1 ?_
  refine kw_iconst (v := 1) (pc := 4) X d_S_write_4 (by decide) ?_
  refine kw_icmp_eq (tgt := 20) (pc := 5) X d_S_write_5 (by decide) (fun h => ?_) (fun h => ?_)
  · have hwp := ite_t h hwp
    exact kW.sub [0, 1] rfl (k_S_write_20 X hret  _ _ hwp)
  · have hwp := ite_f h hwp
    refine kw_aload_n (pc := 8) X d_S_write_8 rfl 1 rfl ?_
    refine kg_51 (a := p1) (pc := 9) X d_S_write_9 x_306 rfl f1 ?_
    refine kw_iconst (v := 2) (pc := 12) X d_S_write_12 (by decide) ?_
    refine kw_icmp_eq (tgt := 20) (pc := 13) X d_S_write_13 (by decide) (fun h => ?_) (fun h => ?_)
    · have hwp := ite_t h hwp
      exact kW.sub [0, 1] rfl (k_S_write_20 X hret  _ _ hwp)
    · have hwp := ite_f h hwp
      refine kw_ldcwS (j := 13) (pc := 16) X d_S_write_16 (by decide) rfl ?_
      exact kr_q (pc := 19) X hret d_S_write_19 (Or.inl ⟨_, rfl⟩) hwp
set_option maxRecDepth 100000 in
set_option maxHeartbeats 4000000 in
theorem c_S_write (l : Launch) (t : TY) (G : GS) (a0 : Nat) (p1 : Nat) (K : GS → Option Nat → Prop) : Met l y_S_write (Cond.code y_S_write b_S_write 6 (Option.some (Jvm.ClassFile.FieldType.object "java/lang/String")) :: GW) rm_S_write (va_Pc [.ref a0, .ref p1] (fun U => HB t G U.heap ∧ HK t U ∧ w_S_write t G a0 p1 K)) (va_Qq (fun r (u : GS) => K u r) (fun u T => HB t u T.heap) (tA t)) 0 0 (tA t) := by
  refine Met.ofW (cc := b_S_write) (maxL := 6) (ret := some (.object "java/lang/String")) (by decide) rfl ?_
  intro p e s m args below meth c s₁ B hml hv
  obtain ⟨rfl, hB, hK, hwp⟩ := hv
  have hts := atoms_spec (ws := Cond.code y_S_write b_S_write 6 (Option.some (Jvm.ClassFile.FieldType.object "java/lang/String")) :: GW) B.pre
  have X : kX p s m _ meth c b_S_write 6 "TreeServer" t := ⟨B.exec, B.bytes, hml, findClass_of_methodNamed B.named, fun w h => hts w (List.mem_cons_of_mem _ h), B.notSynchronized, hK⟩
  have hZ : kZ t false s G s.heap [] := ⟨hB, va_S.rf, fun _ => ⟨rfl, rfl⟩⟩
  rw [lg_entry_eq]
  have hl := lv_entry ([.ref a0, .ref p1]) (n := 6) (by simp [lg_sl, rf_cat, cat_i, cat_l, cat_r])
  exact k_S_write X B.returns _ _ hwp s.heap [] _ hl hZ
abbrev b_S_tell : ByteArray := prog_1_method_42_code
def y_S_tell : MethodName := ⟨"TreeServer", "tell", "(LTreeServer$Node;)Ljava/lang/String;"⟩
theorem d_S_tell_0 : decode b_S_tell 0 = .ok (.aload_n 0, 1) := by decide +kernel
theorem d_S_tell_1 : decode b_S_tell 1 = .ok (.getfield 40, 3) := by decide +kernel
theorem d_S_tell_4 : decode b_S_tell 4 = .ok (.aload_n 1, 1) := by decide +kernel
theorem d_S_tell_5 : decode b_S_tell 5 = .ok (.invokevirtual 497, 3) := by decide +kernel
theorem d_S_tell_8 : decode b_S_tell 8 = .ok (.i2l, 1) := by decide +kernel
theorem d_S_tell_9 : decode b_S_tell 9 = .ok (.iconst 2, 1) := by decide +kernel
theorem d_S_tell_10 : decode b_S_tell 10 = .ok (.invokevirtual 306, 3) := by decide +kernel
theorem d_S_tell_13 : decode b_S_tell 13 = .ok (.aload_n 0, 1) := by decide +kernel
theorem d_S_tell_14 : decode b_S_tell 14 = .ok (.getfield 40, 3) := by decide +kernel
theorem d_S_tell_17 : decode b_S_tell 17 = .ok (.aload_n 1, 1) := by decide +kernel
theorem d_S_tell_18 : decode b_S_tell 18 = .ok (.invokevirtual 500, 3) := by decide +kernel
theorem d_S_tell_21 : decode b_S_tell 21 = .ok (.ldc 174, 2) := by decide +kernel
theorem d_S_tell_23 : decode b_S_tell 23 = .ok (.areturn, 1) := by decide +kernel
abbrev rm_S_tell : Room := { frames := 6, cells := 0, slots := 0, locals := 143 }
set_option maxRecDepth 100000 in
set_option maxHeartbeats 4000000 in
theorem k_S_tell {p : Program} {l : Launch} {e : Env} {s : State} {m : MethodId} {args : Array Value} {below : List Frame} {meth : Method} {c : Code} {t : TY} {a0 : Nat} {K : GS → Option Nat → Prop} (X : kX p s m args meth c b_S_tell 2 "TreeServer" t) (hret : meth.sig.returnType = some (.object "java/lang/String")) (G : GS) (p1 : Nat) (hwp : w_S_tell t G a0 p1 K) : kW p l e rm_S_tell s m args below meth c (MQ below (va_Qq (fun r (u : GS) => K u r) (fun u T => HB t u T.heap) (tA t)) args s 0 0 (tA t)) 2 t false 0 [(0, va_rf (some a0)), (1, va_rf (some p1))] [] G := by
  unfold w_S_tell at hwp
  refine kw_aload_n (pc := 0) X d_S_tell_0 rfl 0 rfl ?_
  obtain ⟨f1, hwp⟩ := hwp
  refine kg_67 (a := a0) (pc := 1) X d_S_tell_1 x_368 rfl f1 ?_
  refine kw_aload_n (pc := 4) X d_S_tell_4 rfl 1 rfl ?_
  obtain ⟨f2, hwp⟩ := hwp
  refine kcVp_i (n := 0) (As := []) (rest := [va_rf (gr G 67 a0)]) (pc := 5) X (c_Node_statSize l t G p1 _) (cwV_of (C := "TreeServer$Node") X x_828 x_825 x_826 x_827 x_3 (by decide +kernel) ⟨rfl, rfl⟩ (by decide)) (rv_1 X f2) rfl rfl (by simp [rf_cat, cat_i, cat_l, cat_r]) d_S_tell_5 hwp (fun v3 hwp => ?_)
  refine kw_i2l (pc := 8) X d_S_tell_8 ?_
  refine kw_iconst (v := 2) (pc := 9) X d_S_tell_9 (by decide) ?_
  obtain ⟨a4, h_a4, hwp⟩ := hwp
  obtain ⟨f5, hwp⟩ := hwp
  refine kW.st (st' := [.int (2 : Int32), .long v3.toInt64, .ref a4]) (by simp only [h_a4]; rfl) ?_
  refine kcV_v (n := 2) (As := [.long v3.toInt64, .int (2 : Int32)]) (rest := []) (pc := 10) X rfl (c_Answer_put l t G a4 v3.toInt64 (2 : Int32) _) (cwV_of (C := "TreeServer$Answer") X x_549 x_640 x_547 x_548 x_10 (by decide +kernel) ⟨rfl, rfl⟩ (by decide)) (rv_6 X f5) rfl rfl (by decide) d_S_tell_10 hwp (fun G6 hwp => ?_)
  refine kw_aload_n (pc := 13) X d_S_tell_13 rfl 0 rfl ?_
  refine kg_67 (a := a0) (pc := 14) X d_S_tell_14 x_368 rfl f1 ?_
  refine kw_aload_n (pc := 17) X d_S_tell_17 rfl 1 rfl ?_
  obtain ⟨a7, h_a7, hwp⟩ := hwp
  obtain ⟨f8, hwp⟩ := hwp
  refine kW.st (st' := [.ref p1, .ref a7]) (by simp only [h_a7]; rfl) ?_
  refine kcV_v (n := 1) (As := [.ref p1]) (rest := []) (pc := 18) X rfl (c_Answer_putStat l t G6 a7 p1 _) (cwV_of (C := "TreeServer$Answer") X x_833 x_830 x_831 x_832 x_10 (by decide +kernel) ⟨rfl, rfl⟩ (by decide)) (rv_6 X f8) rfl rfl (by decide) d_S_tell_18 hwp (fun G9 hwp => ?_)
  refine kw_ldcS (tx := "") (j := 2) (pc := 21) X d_S_tell_21 (by decide) rfl ?_
  exact kr_q (pc := 23) X hret d_S_tell_23 (Or.inl ⟨_, rfl⟩) hwp
set_option maxRecDepth 100000 in
set_option maxHeartbeats 4000000 in
theorem c_S_tell (l : Launch) (t : TY) (G : GS) (a0 : Nat) (p1 : Nat) (K : GS → Option Nat → Prop) : Met l y_S_tell (Cond.code y_S_tell b_S_tell 2 (Option.some (Jvm.ClassFile.FieldType.object "java/lang/String")) :: GW) rm_S_tell (va_Pc [.ref a0, .ref p1] (fun U => HB t G U.heap ∧ HK t U ∧ w_S_tell t G a0 p1 K)) (va_Qq (fun r (u : GS) => K u r) (fun u T => HB t u T.heap) (tA t)) 0 0 (tA t) := by
  refine Met.ofW (cc := b_S_tell) (maxL := 2) (ret := some (.object "java/lang/String")) (by decide) rfl ?_
  intro p e s m args below meth c s₁ B hml hv
  obtain ⟨rfl, hB, hK, hwp⟩ := hv
  have hts := atoms_spec (ws := Cond.code y_S_tell b_S_tell 2 (Option.some (Jvm.ClassFile.FieldType.object "java/lang/String")) :: GW) B.pre
  have X : kX p s m _ meth c b_S_tell 2 "TreeServer" t := ⟨B.exec, B.bytes, hml, findClass_of_methodNamed B.named, fun w h => hts w (List.mem_cons_of_mem _ h), B.notSynchronized, hK⟩
  have hZ : kZ t false s G s.heap [] := ⟨hB, va_S.rf, fun _ => ⟨rfl, rfl⟩⟩
  rw [lg_entry_eq]
  have hl := lv_entry ([.ref a0, .ref p1]) (n := 2) (by simp [lg_sl, rf_cat, cat_i, cat_l, cat_r])
  exact k_S_tell X B.returns _ _ hwp s.heap [] _ hl hZ
abbrev b_Message_gives : ByteArray := prog_8_method_8_code
def y_Message_gives : MethodName := ⟨"TreeServer$Message", "gives", "(II)Z"⟩
theorem d_Message_gives_0 : decode b_Message_gives 0 = .ok (.iconst 0, 1) := by decide +kernel
theorem d_Message_gives_1 : decode b_Message_gives 1 = .ok (.istore_n 3, 1) := by decide +kernel
theorem d_Message_gives_2 : decode b_Message_gives 2 = .ok (.iload_n 3, 1) := by decide +kernel
theorem d_Message_gives_3 : decode b_Message_gives 3 = .ok (.iload_n 2, 1) := by decide +kernel
theorem d_Message_gives_4 : decode b_Message_gives 4 = .ok (.if_icmp .ge 26, 3) := by decide +kernel
theorem d_Message_gives_7 : decode b_Message_gives 7 = .ok (.aload_n 0, 1) := by decide +kernel
theorem d_Message_gives_8 : decode b_Message_gives 8 = .ok (.iload_n 1, 1) := by decide +kernel
theorem d_Message_gives_9 : decode b_Message_gives 9 = .ok (.iload_n 3, 1) := by decide +kernel
theorem d_Message_gives_10 : decode b_Message_gives 10 = .ok (.iadd, 1) := by decide +kernel
theorem d_Message_gives_11 : decode b_Message_gives 11 = .ok (.iconst 1, 1) := by decide +kernel
theorem d_Message_gives_12 : decode b_Message_gives 12 = .ok (.invokevirtual 53, 3) := by decide +kernel
theorem d_Message_gives_15 : decode b_Message_gives 15 = .ok (.ldc2_w 73, 3) := by decide +kernel
theorem d_Message_gives_18 : decode b_Message_gives 18 = .ok (.lcmp, 1) := by decide +kernel
theorem d_Message_gives_19 : decode b_Message_gives 19 = .ok (.ifCond .eq 5, 3) := by decide +kernel
theorem d_Message_gives_22 : decode b_Message_gives 22 = .ok (.iconst 1, 1) := by decide +kernel
theorem d_Message_gives_23 : decode b_Message_gives 23 = .ok (.ireturn, 1) := by decide +kernel
theorem d_Message_gives_24 : decode b_Message_gives 24 = .ok (.iinc 3 1, 3) := by decide +kernel
theorem d_Message_gives_27 : decode b_Message_gives 27 = .ok (.goto (-25), 3) := by decide +kernel
theorem d_Message_gives_30 : decode b_Message_gives 30 = .ok (.iconst 0, 1) := by decide +kernel
theorem d_Message_gives_31 : decode b_Message_gives 31 = .ok (.ireturn, 1) := by decide +kernel
abbrev rm_Message_gives : Room := { frames := 1, cells := 0, slots := 0, locals := 26 }
set_option maxRecDepth 100000 in
set_option maxHeartbeats 4000000 in
theorem k_Message_gives_2 {p : Program} {l : Launch} {e : Env} {s : State} {m : MethodId} {args : Array Value} {below : List Frame} {meth : Method} {c : Code} {t : TY} {a0 : Nat} {G : GS} {K : Int32 → Prop} (X : kX p s m args meth c b_Message_gives 4 "TreeServer$Message" t) (hret : meth.sig.returnType = some .boolean) : ∀ (n : Nat) (l1 : Int32) (l2 : Int32) (l3 : Int32), w_Message_gives_2 t G a0 K n l1 l2 l3 → kW p l e rm_Message_gives s m args below meth c (MQ below (vp_Si (fun r => isB r ∧ K r)) args s 0 0 (fun _ => False)) 4 t true 2 [(0, va_rf (some a0)), (1, .int l1), (2, .int l2), (3, .int l3)] [] G := by
  intro n
  induction n with
  | zero => intro l1 l2 l3 hwp; exact hwp.elim
  | succ n hr_2 =>
    intro l1 l2 l3 hwp
    unfold w_Message_gives_2 at hwp
    dsimp only at hwp
    refine kw_iload_n (pc := 2) X d_Message_gives_2 rfl 3 rfl ?_
    refine kw_iload_n (pc := 3) X d_Message_gives_3 rfl 2 rfl ?_
    refine kw_icmp_ge (tgt := 30) (pc := 4) X d_Message_gives_4 (by decide) (fun h => ?_) (fun h => ?_)
    · have hwp := ite_t h hwp
      refine kw_iconst (v := 0) (pc := 30) X d_Message_gives_30 (by decide) ?_
      exact krp_z (pc := 31) X hret d_Message_gives_31 (Or.inl rfl) hwp
    · have hwp := ite_f h hwp
      refine kw_aload_n (pc := 7) X d_Message_gives_7 rfl 0 rfl ?_
      refine kw_iload_n (pc := 8) X d_Message_gives_8 rfl 1 rfl ?_
      refine kw_iload_n (pc := 9) X d_Message_gives_9 rfl 3 rfl ?_
      refine kw_iadd (pc := 10) X d_Message_gives_10 ?_
      refine kw_iconst (v := 1) (pc := 11) X d_Message_gives_11 (by decide) ?_
      obtain ⟨f1, hwp⟩ := hwp
      refine kcVp_l (n := 2) (As := [.int (l1 + l3), .int (1 : Int32)]) (rest := []) (pc := 12) X (c_Message_number l t G a0 (l1 + l3) (1 : Int32) _) (cwV_of (C := "TreeServer$Message") X x_541 x_538 x_539 x_540 x_9 (by decide +kernel) ⟨rfl, rfl⟩ (by decide)) (rv_5 X f1) rfl rfl (by decide) d_Message_gives_12 hwp (fun v2 hwp => ?_)
      refine kw_ldc2 (v := 255) (pc := 15) X d_Message_gives_15 x_878 ?_
      refine kw_lcmp_eq (tgt := 24) (pc := 18) X d_Message_gives_18 d_Message_gives_19 (by decide) (fun h => ?_) (fun h => ?_)
      · have hwp := ite_t h hwp
        obtain ⟨v3, e_v3⟩ : ∃ z, z = (l3 + (1 : Int32)) := ⟨_, rfl⟩
        have hwp := hwp v3 e_v3
        refine kw_iinc (v := v3) (lv' := [(3, .int v3), (0, va_rf (some a0)), (1, .int l1), (2, .int l2)]) (pc := 24) X d_Message_gives_24 3 rfl (by rw [e_v3]; rfl) (by decide) rfl ?_
        refine kw_goto (tgt := 2) (pc := 27) X d_Message_gives_27 (by decide) ?_
        exact kW.sub [1, 2, 3, 0] rfl (hr_2 _ _ _ hwp)
      · have hwp := ite_f h hwp
        refine kw_iconst (v := 1) (pc := 22) X d_Message_gives_22 (by decide) ?_
        exact krp_z (pc := 23) X hret d_Message_gives_23 (Or.inr rfl) hwp
set_option maxRecDepth 100000 in
set_option maxHeartbeats 4000000 in
theorem k_Message_gives {p : Program} {l : Launch} {e : Env} {s : State} {m : MethodId} {args : Array Value} {below : List Frame} {meth : Method} {c : Code} {t : TY} {a0 : Nat} {G : GS} {K : Int32 → Prop} (X : kX p s m args meth c b_Message_gives 4 "TreeServer$Message" t) (hret : meth.sig.returnType = some .boolean) (p1 : Int32) (p2 : Int32) (hwp : w_Message_gives t G a0 p1 p2 K) : kW p l e rm_Message_gives s m args below meth c (MQ below (vp_Si (fun r => isB r ∧ K r)) args s 0 0 (fun _ => False)) 4 t true 0 [(0, va_rf (some a0)), (1, .int p1), (2, .int p2)] [] G := by
  unfold w_Message_gives at hwp
  refine kw_iconst (v := 0) (pc := 0) X d_Message_gives_0 (by decide) ?_
  refine kw_istore_n (i := 3) (lv' := [(3, .int (0 : Int32)), (0, va_rf (some a0)), (1, .int p1), (2, .int p2)]) (pc := 1) X d_Message_gives_1 rfl (by decide) rfl ?_
  obtain ⟨n, hwp⟩ := hwp
  exact kW.sub [1, 2, 3, 0] rfl (k_Message_gives_2 X hret  n _ _ _ hwp)
set_option maxRecDepth 100000 in
set_option maxHeartbeats 4000000 in
theorem c_Message_gives (l : Launch) (t : TY) (G : GS) (a0 : Nat) (p1 : Int32) (p2 : Int32) (K : Int32 → Prop) : Met l y_Message_gives (Cond.code y_Message_gives b_Message_gives 4 (Option.some Jvm.ClassFile.FieldType.boolean) :: GW) rm_Message_gives (va_Pc [.ref a0, .int p1, .int p2] (fun U => HB t G U.heap ∧ HK t U ∧ w_Message_gives t G a0 p1 p2 K)) (vp_Si (fun r => isB r ∧ K r)) 0 0 (fun _ => False) := by
  refine Met.ofW (cc := b_Message_gives) (maxL := 4) (ret := some .boolean) (by decide) rfl ?_
  intro p e s m args below meth c s₁ B hml hv
  obtain ⟨rfl, hB, hK, hwp⟩ := hv
  have hts := atoms_spec (ws := Cond.code y_Message_gives b_Message_gives 4 (Option.some Jvm.ClassFile.FieldType.boolean) :: GW) B.pre
  have X : kX p s m _ meth c b_Message_gives 4 "TreeServer$Message" t := ⟨B.exec, B.bytes, hml, findClass_of_methodNamed B.named, fun w h => hts w (List.mem_cons_of_mem _ h), B.notSynchronized, hK⟩
  have hZ : kZ t true s G s.heap [] := ⟨hB, va_S.rf, fun _ => ⟨rfl, rfl⟩⟩
  rw [lg_entry_eq]
  have hl := lv_entry ([.ref a0, .int p1, .int p2]) (n := 4) (by simp [lg_sl, rf_cat, cat_i, cat_l, cat_r])
  exact k_Message_gives X B.returns _ _ hwp s.heap [] _ hl hZ
abbrev b_Message_givesText : ByteArray := prog_8_method_7_code
def y_Message_givesText : MethodName := ⟨"TreeServer$Message", "givesText", "(I)Z"⟩
theorem d_Message_givesText_0 : decode b_Message_givesText 0 = .ok (.aload_n 0, 1) := by decide +kernel
theorem d_Message_givesText_1 : decode b_Message_givesText 1 = .ok (.getfield 19, 3) := by decide +kernel
theorem d_Message_givesText_4 : decode b_Message_givesText 4 = .ok (.iload_n 1, 1) := by decide +kernel
theorem d_Message_givesText_5 : decode b_Message_givesText 5 = .ok (.iaload, 1) := by decide +kernel
theorem d_Message_givesText_6 : decode b_Message_givesText 6 = .ok (.ifCond .le 7, 3) := by decide +kernel
theorem d_Message_givesText_9 : decode b_Message_givesText 9 = .ok (.iconst 1, 1) := by decide +kernel
theorem d_Message_givesText_10 : decode b_Message_givesText 10 = .ok (.goto 4, 3) := by decide +kernel
theorem d_Message_givesText_13 : decode b_Message_givesText 13 = .ok (.iconst 0, 1) := by decide +kernel
theorem d_Message_givesText_14 : decode b_Message_givesText 14 = .ok (.ireturn, 1) := by decide +kernel
abbrev rm_Message_givesText : Room := { frames := 0, cells := 0, slots := 0, locals := 0 }
set_option maxRecDepth 100000 in
set_option maxHeartbeats 4000000 in
theorem k_Message_givesText {p : Program} {l : Launch} {e : Env} {s : State} {m : MethodId} {args : Array Value} {below : List Frame} {meth : Method} {c : Code} {t : TY} {a0 : Nat} {G : GS} {K : Int32 → Prop} (X : kX p s m args meth c b_Message_givesText 2 "TreeServer$Message" t) (hret : meth.sig.returnType = some .boolean) (p1 : Int32) (hwp : w_Message_givesText t G a0 p1 K) : kW p l e rm_Message_givesText s m args below meth c (MQ below (vp_Si (fun r => isB r ∧ K r)) args s 0 0 (fun _ => False)) 2 t true 0 [(0, va_rf (some a0)), (1, .int p1)] [] G := by
  unfold w_Message_givesText at hwp
  refine kw_aload_n (pc := 0) X d_Message_givesText_0 rfl 0 rfl ?_
  obtain ⟨f1, hwp⟩ := hwp
  refine kg_41 (a := a0) (pc := 1) X d_Message_givesText_1 x_238 rfl f1 ?_
  refine kw_iload_n (pc := 4) X d_Message_givesText_4 rfl 1 rfl ?_
  obtain ⟨a2, h_a2, hwp⟩ := hwp
  obtain ⟨f3, hwp⟩ := hwp
  obtain ⟨f4, hwp⟩ := hwp
  refine ka_iald (a := a2) (pc := 5) X d_Message_givesText_5 h_a2 f3 f4 ?_
  refine kw_if_le (tgt := 13) (pc := 6) X d_Message_givesText_6 (by decide) (fun h => ?_) (fun h => ?_)
  · have hwp := ite_t h hwp
    refine kw_iconst (v := 0) (pc := 13) X d_Message_givesText_13 (by decide) ?_
    exact krp_z (pc := 14) X hret d_Message_givesText_14 (Or.inl rfl) hwp
  · have hwp := ite_f h hwp
    refine kw_iconst (v := 1) (pc := 9) X d_Message_givesText_9 (by decide) ?_
    refine kw_goto (tgt := 14) (pc := 10) X d_Message_givesText_10 (by decide) ?_
    exact krp_z (pc := 14) X hret d_Message_givesText_14 (Or.inr rfl) hwp
set_option maxRecDepth 100000 in
set_option maxHeartbeats 4000000 in
theorem c_Message_givesText (l : Launch) (t : TY) (G : GS) (a0 : Nat) (p1 : Int32) (K : Int32 → Prop) : Met l y_Message_givesText (Cond.code y_Message_givesText b_Message_givesText 2 (Option.some Jvm.ClassFile.FieldType.boolean) :: GW) rm_Message_givesText (va_Pc [.ref a0, .int p1] (fun U => HB t G U.heap ∧ HK t U ∧ w_Message_givesText t G a0 p1 K)) (vp_Si (fun r => isB r ∧ K r)) 0 0 (fun _ => False) := by
  refine Met.ofW (cc := b_Message_givesText) (maxL := 2) (ret := some .boolean) (by decide) rfl ?_
  intro p e s m args below meth c s₁ B hml hv
  obtain ⟨rfl, hB, hK, hwp⟩ := hv
  have hts := atoms_spec (ws := Cond.code y_Message_givesText b_Message_givesText 2 (Option.some Jvm.ClassFile.FieldType.boolean) :: GW) B.pre
  have X : kX p s m _ meth c b_Message_givesText 2 "TreeServer$Message" t := ⟨B.exec, B.bytes, hml, findClass_of_methodNamed B.named, fun w h => hts w (List.mem_cons_of_mem _ h), B.notSynchronized, hK⟩
  have hZ : kZ t true s G s.heap [] := ⟨hB, va_S.rf, fun _ => ⟨rfl, rfl⟩⟩
  rw [lg_entry_eq]
  have hl := lv_entry ([.ref a0, .int p1]) (n := 2) (by simp [lg_sl, rf_cat, cat_i, cat_l, cat_r])
  exact k_Message_givesText X B.returns _ hwp s.heap [] _ hl hZ
abbrev b_S_givesFixedPart : ByteArray := prog_1_method_44_code
def y_S_givesFixedPart : MethodName := ⟨"TreeServer", "givesFixedPart", "()Z"⟩
theorem d_S_givesFixedPart_0 : decode b_S_givesFixedPart 0 = .ok (.aload_n 0, 1) := by decide +kernel
theorem d_S_givesFixedPart_1 : decode b_S_givesFixedPart 1 = .ok (.getfield 33, 3) := by decide +kernel
theorem d_S_givesFixedPart_4 : decode b_S_givesFixedPart 4 = .ok (.bipush 15, 2) := by decide +kernel
theorem d_S_givesFixedPart_6 : decode b_S_givesFixedPart 6 = .ok (.iconst 2, 1) := by decide +kernel
theorem d_S_givesFixedPart_7 : decode b_S_givesFixedPart 7 = .ok (.invokevirtual 548, 3) := by decide +kernel
theorem d_S_givesFixedPart_10 : decode b_S_givesFixedPart 10 = .ok (.ifCond .ne 65, 3) := by decide +kernel
theorem d_S_givesFixedPart_13 : decode b_S_givesFixedPart 13 = .ok (.aload_n 0, 1) := by decide +kernel
theorem d_S_givesFixedPart_14 : decode b_S_givesFixedPart 14 = .ok (.getfield 33, 3) := by decide +kernel
theorem d_S_givesFixedPart_17 : decode b_S_givesFixedPart 17 = .ok (.bipush 17, 2) := by decide +kernel
theorem d_S_givesFixedPart_19 : decode b_S_givesFixedPart 19 = .ok (.iconst 4, 1) := by decide +kernel
theorem d_S_givesFixedPart_20 : decode b_S_givesFixedPart 20 = .ok (.invokevirtual 548, 3) := by decide +kernel
theorem d_S_givesFixedPart_23 : decode b_S_givesFixedPart 23 = .ok (.ifCond .ne 52, 3) := by decide +kernel
theorem d_S_givesFixedPart_26 : decode b_S_givesFixedPart 26 = .ok (.aload_n 0, 1) := by decide +kernel
theorem d_S_givesFixedPart_27 : decode b_S_givesFixedPart 27 = .ok (.getfield 33, 3) := by decide +kernel
theorem d_S_givesFixedPart_30 : decode b_S_givesFixedPart 30 = .ok (.bipush 21, 2) := by decide +kernel
theorem d_S_givesFixedPart_32 : decode b_S_givesFixedPart 32 = .ok (.bipush 13, 2) := by decide +kernel
theorem d_S_givesFixedPart_34 : decode b_S_givesFixedPart 34 = .ok (.invokevirtual 548, 3) := by decide +kernel
theorem d_S_givesFixedPart_37 : decode b_S_givesFixedPart 37 = .ok (.ifCond .ne 38, 3) := by decide +kernel
theorem d_S_givesFixedPart_40 : decode b_S_givesFixedPart 40 = .ok (.aload_n 0, 1) := by decide +kernel
theorem d_S_givesFixedPart_41 : decode b_S_givesFixedPart 41 = .ok (.getfield 33, 3) := by decide +kernel
theorem d_S_givesFixedPart_44 : decode b_S_givesFixedPart 44 = .ok (.bipush 38, 2) := by decide +kernel
theorem d_S_givesFixedPart_46 : decode b_S_givesFixedPart 46 = .ok (.iconst 4, 1) := by decide +kernel
theorem d_S_givesFixedPart_47 : decode b_S_givesFixedPart 47 = .ok (.invokevirtual 548, 3) := by decide +kernel
theorem d_S_givesFixedPart_50 : decode b_S_givesFixedPart 50 = .ok (.ifCond .ne 25, 3) := by decide +kernel
theorem d_S_givesFixedPart_53 : decode b_S_givesFixedPart 53 = .ok (.aload_n 0, 1) := by decide +kernel
theorem d_S_givesFixedPart_54 : decode b_S_givesFixedPart 54 = .ok (.getfield 33, 3) := by decide +kernel
theorem d_S_givesFixedPart_57 : decode b_S_givesFixedPart 57 = .ok (.iconst 1, 1) := by decide +kernel
theorem d_S_givesFixedPart_58 : decode b_S_givesFixedPart 58 = .ok (.invokevirtual 552, 3) := by decide +kernel
theorem d_S_givesFixedPart_61 : decode b_S_givesFixedPart 61 = .ok (.ifCond .ne 14, 3) := by decide +kernel
theorem d_S_givesFixedPart_64 : decode b_S_givesFixedPart 64 = .ok (.aload_n 0, 1) := by decide +kernel
theorem d_S_givesFixedPart_65 : decode b_S_givesFixedPart 65 = .ok (.getfield 33, 3) := by decide +kernel
theorem d_S_givesFixedPart_68 : decode b_S_givesFixedPart 68 = .ok (.iconst 3, 1) := by decide +kernel
theorem d_S_givesFixedPart_69 : decode b_S_givesFixedPart 69 = .ok (.invokevirtual 552, 3) := by decide +kernel
theorem d_S_givesFixedPart_72 : decode b_S_givesFixedPart 72 = .ok (.ifCond .eq 7, 3) := by decide +kernel
theorem d_S_givesFixedPart_75 : decode b_S_givesFixedPart 75 = .ok (.iconst 1, 1) := by decide +kernel
theorem d_S_givesFixedPart_76 : decode b_S_givesFixedPart 76 = .ok (.goto 4, 3) := by decide +kernel
theorem d_S_givesFixedPart_79 : decode b_S_givesFixedPart 79 = .ok (.iconst 0, 1) := by decide +kernel
theorem d_S_givesFixedPart_80 : decode b_S_givesFixedPart 80 = .ok (.ireturn, 1) := by decide +kernel
abbrev rm_S_givesFixedPart : Room := { frames := 2, cells := 0, slots := 0, locals := 49 }
set_option maxRecDepth 100000 in
set_option maxHeartbeats 4000000 in
theorem k_S_givesFixedPart {p : Program} {l : Launch} {e : Env} {s : State} {m : MethodId} {args : Array Value} {below : List Frame} {meth : Method} {c : Code} {t : TY} {a0 : Nat} {G : GS} {K : Int32 → Prop} (X : kX p s m args meth c b_S_givesFixedPart 1 "TreeServer" t) (hret : meth.sig.returnType = some .boolean)  (hwp : w_S_givesFixedPart t G a0 K) : kW p l e rm_S_givesFixedPart s m args below meth c (MQ below (vp_Si (fun r => isB r ∧ K r)) args s 0 0 (fun _ => False)) 1 t true 0 [(0, va_rf (some a0))] [] G := by
  unfold w_S_givesFixedPart at hwp
  refine kw_aload_n (pc := 0) X d_S_givesFixedPart_0 rfl 0 rfl ?_
  obtain ⟨f1, hwp⟩ := hwp
  refine kg_66 (a := a0) (pc := 1) X d_S_givesFixedPart_1 x_367 rfl f1 ?_
  refine kw_bipush (v := 15) (pc := 4) X d_S_givesFixedPart_4 (by decide) ?_
  refine kw_iconst (v := 2) (pc := 6) X d_S_givesFixedPart_6 (by decide) ?_
  obtain ⟨a2, h_a2, hwp⟩ := hwp
  obtain ⟨f3, hwp⟩ := hwp
  refine kW.st (st' := [.int (2 : Int32), .int (15 : Int32), .ref a2]) (by simp only [h_a2]; rfl) ?_
  refine kcVp_i (n := 2) (As := [.int (15 : Int32), .int (2 : Int32)]) (rest := []) (pc := 7) X (c_Message_gives l t G a2 (15 : Int32) (2 : Int32) _) (cwV_of (C := "TreeServer$Message") X x_877 x_874 x_875 x_876 x_9 (by decide +kernel) ⟨rfl, rfl⟩ (by decide)) (rv_5 X f3) rfl rfl (by decide) d_S_givesFixedPart_7 hwp (fun v4 hwp => ?_)
  obtain ⟨b_v4, hwp⟩ := hwp
  refine kw_if_ne (tgt := 75) (pc := 10) X d_S_givesFixedPart_10 (by decide) (fun h => ?_) (fun h => ?_)
  · have hwp := ite_t h hwp
    refine kw_iconst (v := 1) (pc := 75) X d_S_givesFixedPart_75 (by decide) ?_
    refine kw_goto (tgt := 80) (pc := 76) X d_S_givesFixedPart_76 (by decide) ?_
    exact krp_z (pc := 80) X hret d_S_givesFixedPart_80 (Or.inr rfl) hwp
  · have hwp := ite_f (not_not_intro h) hwp
    refine kw_aload_n (pc := 13) X d_S_givesFixedPart_13 rfl 0 rfl ?_
    refine kg_66 (a := a0) (pc := 14) X d_S_givesFixedPart_14 x_367 rfl f1 ?_
    refine kw_bipush (v := 17) (pc := 17) X d_S_givesFixedPart_17 (by decide) ?_
    refine kw_iconst (v := 4) (pc := 19) X d_S_givesFixedPart_19 (by decide) ?_
    refine kW.st (st' := [.int (4 : Int32), .int (17 : Int32), .ref a2]) (by simp only [h_a2]; rfl) ?_
    refine kcVp_i (n := 2) (As := [.int (17 : Int32), .int (4 : Int32)]) (rest := []) (pc := 20) X (c_Message_gives l t G a2 (17 : Int32) (4 : Int32) _) (cwV_of (C := "TreeServer$Message") X x_877 x_874 x_875 x_876 x_9 (by decide +kernel) ⟨rfl, rfl⟩ (by decide)) (rv_5 X f3) rfl rfl (by decide) d_S_givesFixedPart_20 hwp (fun v5 hwp => ?_)
    obtain ⟨b_v5, hwp⟩ := hwp
    refine kw_if_ne (tgt := 75) (pc := 23) X d_S_givesFixedPart_23 (by decide) (fun h => ?_) (fun h => ?_)
    · have hwp := ite_t h hwp
      refine kw_iconst (v := 1) (pc := 75) X d_S_givesFixedPart_75 (by decide) ?_
      refine kw_goto (tgt := 80) (pc := 76) X d_S_givesFixedPart_76 (by decide) ?_
      exact krp_z (pc := 80) X hret d_S_givesFixedPart_80 (Or.inr rfl) hwp
    · have hwp := ite_f (not_not_intro h) hwp
      refine kw_aload_n (pc := 26) X d_S_givesFixedPart_26 rfl 0 rfl ?_
      refine kg_66 (a := a0) (pc := 27) X d_S_givesFixedPart_27 x_367 rfl f1 ?_
      refine kw_bipush (v := 21) (pc := 30) X d_S_givesFixedPart_30 (by decide) ?_
      refine kw_bipush (v := 13) (pc := 32) X d_S_givesFixedPart_32 (by decide) ?_
      refine kW.st (st' := [.int (13 : Int32), .int (21 : Int32), .ref a2]) (by simp only [h_a2]; rfl) ?_
      refine kcVp_i (n := 2) (As := [.int (21 : Int32), .int (13 : Int32)]) (rest := []) (pc := 34) X (c_Message_gives l t G a2 (21 : Int32) (13 : Int32) _) (cwV_of (C := "TreeServer$Message") X x_877 x_874 x_875 x_876 x_9 (by decide +kernel) ⟨rfl, rfl⟩ (by decide)) (rv_5 X f3) rfl rfl (by decide) d_S_givesFixedPart_34 hwp (fun v6 hwp => ?_)
      obtain ⟨b_v6, hwp⟩ := hwp
      refine kw_if_ne (tgt := 75) (pc := 37) X d_S_givesFixedPart_37 (by decide) (fun h => ?_) (fun h => ?_)
      · have hwp := ite_t h hwp
        refine kw_iconst (v := 1) (pc := 75) X d_S_givesFixedPart_75 (by decide) ?_
        refine kw_goto (tgt := 80) (pc := 76) X d_S_givesFixedPart_76 (by decide) ?_
        exact krp_z (pc := 80) X hret d_S_givesFixedPart_80 (Or.inr rfl) hwp
      · have hwp := ite_f (not_not_intro h) hwp
        refine kw_aload_n (pc := 40) X d_S_givesFixedPart_40 rfl 0 rfl ?_
        refine kg_66 (a := a0) (pc := 41) X d_S_givesFixedPart_41 x_367 rfl f1 ?_
        refine kw_bipush (v := 38) (pc := 44) X d_S_givesFixedPart_44 (by decide) ?_
        refine kw_iconst (v := 4) (pc := 46) X d_S_givesFixedPart_46 (by decide) ?_
        refine kW.st (st' := [.int (4 : Int32), .int (38 : Int32), .ref a2]) (by simp only [h_a2]; rfl) ?_
        refine kcVp_i (n := 2) (As := [.int (38 : Int32), .int (4 : Int32)]) (rest := []) (pc := 47) X (c_Message_gives l t G a2 (38 : Int32) (4 : Int32) _) (cwV_of (C := "TreeServer$Message") X x_877 x_874 x_875 x_876 x_9 (by decide +kernel) ⟨rfl, rfl⟩ (by decide)) (rv_5 X f3) rfl rfl (by decide) d_S_givesFixedPart_47 hwp (fun v7 hwp => ?_)
        obtain ⟨b_v7, hwp⟩ := hwp
        refine kw_if_ne (tgt := 75) (pc := 50) X d_S_givesFixedPart_50 (by decide) (fun h => ?_) (fun h => ?_)
        · have hwp := ite_t h hwp
          refine kw_iconst (v := 1) (pc := 75) X d_S_givesFixedPart_75 (by decide) ?_
          refine kw_goto (tgt := 80) (pc := 76) X d_S_givesFixedPart_76 (by decide) ?_
          exact krp_z (pc := 80) X hret d_S_givesFixedPart_80 (Or.inr rfl) hwp
        · have hwp := ite_f (not_not_intro h) hwp
          refine kw_aload_n (pc := 53) X d_S_givesFixedPart_53 rfl 0 rfl ?_
          refine kg_66 (a := a0) (pc := 54) X d_S_givesFixedPart_54 x_367 rfl f1 ?_
          refine kw_iconst (v := 1) (pc := 57) X d_S_givesFixedPart_57 (by decide) ?_
          refine kW.st (st' := [.int (1 : Int32), .ref a2]) (by simp only [h_a2]; rfl) ?_
          refine kcVp_i (n := 1) (As := [.int (1 : Int32)]) (rest := []) (pc := 58) X (c_Message_givesText l t G a2 (1 : Int32) _) (cwV_of (C := "TreeServer$Message") X x_882 x_879 x_880 x_881 x_9 (by decide +kernel) ⟨rfl, rfl⟩ (by decide)) (rv_5 X f3) rfl rfl (by decide) d_S_givesFixedPart_58 hwp (fun v8 hwp => ?_)
          obtain ⟨b_v8, hwp⟩ := hwp
          refine kw_if_ne (tgt := 75) (pc := 61) X d_S_givesFixedPart_61 (by decide) (fun h => ?_) (fun h => ?_)
          · have hwp := ite_t h hwp
            refine kw_iconst (v := 1) (pc := 75) X d_S_givesFixedPart_75 (by decide) ?_
            refine kw_goto (tgt := 80) (pc := 76) X d_S_givesFixedPart_76 (by decide) ?_
            exact krp_z (pc := 80) X hret d_S_givesFixedPart_80 (Or.inr rfl) hwp
          · have hwp := ite_f (not_not_intro h) hwp
            refine kw_aload_n (pc := 64) X d_S_givesFixedPart_64 rfl 0 rfl ?_
            refine kg_66 (a := a0) (pc := 65) X d_S_givesFixedPart_65 x_367 rfl f1 ?_
            refine kw_iconst (v := 3) (pc := 68) X d_S_givesFixedPart_68 (by decide) ?_
            refine kW.st (st' := [.int (3 : Int32), .ref a2]) (by simp only [h_a2]; rfl) ?_
            refine kcVp_i (n := 1) (As := [.int (3 : Int32)]) (rest := []) (pc := 69) X (c_Message_givesText l t G a2 (3 : Int32) _) (cwV_of (C := "TreeServer$Message") X x_882 x_879 x_880 x_881 x_9 (by decide +kernel) ⟨rfl, rfl⟩ (by decide)) (rv_5 X f3) rfl rfl (by decide) d_S_givesFixedPart_69 hwp (fun v9 hwp => ?_)
            obtain ⟨b_v9, hwp⟩ := hwp
            refine kw_if_eq (tgt := 79) (pc := 72) X d_S_givesFixedPart_72 (by decide) (fun h => ?_) (fun h => ?_)
            · have hwp := ite_t h hwp
              refine kw_iconst (v := 0) (pc := 79) X d_S_givesFixedPart_79 (by decide) ?_
              exact krp_z (pc := 80) X hret d_S_givesFixedPart_80 (Or.inl rfl) hwp
            · have hwp := ite_f h hwp
              refine kw_iconst (v := 1) (pc := 75) X d_S_givesFixedPart_75 (by decide) ?_
              refine kw_goto (tgt := 80) (pc := 76) X d_S_givesFixedPart_76 (by decide) ?_
              exact krp_z (pc := 80) X hret d_S_givesFixedPart_80 (Or.inr rfl) hwp
set_option maxRecDepth 100000 in
set_option maxHeartbeats 4000000 in
theorem c_S_givesFixedPart (l : Launch) (t : TY) (G : GS) (a0 : Nat) (K : Int32 → Prop) : Met l y_S_givesFixedPart (Cond.code y_S_givesFixedPart b_S_givesFixedPart 1 (Option.some Jvm.ClassFile.FieldType.boolean) :: GW) rm_S_givesFixedPart (va_Pc [.ref a0] (fun U => HB t G U.heap ∧ HK t U ∧ w_S_givesFixedPart t G a0 K)) (vp_Si (fun r => isB r ∧ K r)) 0 0 (fun _ => False) := by
  refine Met.ofW (cc := b_S_givesFixedPart) (maxL := 1) (ret := some .boolean) (by decide) rfl ?_
  intro p e s m args below meth c s₁ B hml hv
  obtain ⟨rfl, hB, hK, hwp⟩ := hv
  have hts := atoms_spec (ws := Cond.code y_S_givesFixedPart b_S_givesFixedPart 1 (Option.some Jvm.ClassFile.FieldType.boolean) :: GW) B.pre
  have X : kX p s m _ meth c b_S_givesFixedPart 1 "TreeServer" t := ⟨B.exec, B.bytes, hml, findClass_of_methodNamed B.named, fun w h => hts w (List.mem_cons_of_mem _ h), B.notSynchronized, hK⟩
  have hZ : kZ t true s G s.heap [] := ⟨hB, va_S.rf, fun _ => ⟨rfl, rfl⟩⟩
  rw [lg_entry_eq]
  have hl := lv_entry ([.ref a0]) (n := 1) (by simp [lg_sl, rf_cat, cat_i, cat_l, cat_r])
  exact k_S_givesFixedPart X B.returns hwp s.heap [] _ hl hZ
abbrev b_S_stageLength : ByteArray := prog_1_method_45_code
def y_S_stageLength : MethodName := ⟨"TreeServer", "stageLength", "(LTreeServer$Node;LTreeServer$User;)Ljava/lang/String;"⟩
theorem d_S_stageLength_0 : decode b_S_stageLength 0 = .ok (.aload_n 0, 1) := by decide +kernel
theorem d_S_stageLength_1 : decode b_S_stageLength 1 = .ok (.getfield 33, 3) := by decide +kernel
theorem d_S_stageLength_4 : decode b_S_stageLength 4 = .ok (.bipush 46, 2) := by decide +kernel
theorem d_S_stageLength_6 : decode b_S_stageLength 6 = .ok (.bipush 8, 2) := by decide +kernel
theorem d_S_stageLength_8 : decode b_S_stageLength 8 = .ok (.invokevirtual 548, 3) := by decide +kernel
theorem d_S_stageLength_11 : decode b_S_stageLength 11 = .ok (.ifCond .ne 6, 3) := by decide +kernel
theorem d_S_stageLength_14 : decode b_S_stageLength 14 = .ok (.ldc 174, 2) := by decide +kernel
theorem d_S_stageLength_16 : decode b_S_stageLength 16 = .ok (.areturn, 1) := by decide +kernel
theorem d_S_stageLength_17 : decode b_S_stageLength 17 = .ok (.aload_n 0, 1) := by decide +kernel
theorem d_S_stageLength_18 : decode b_S_stageLength 18 = .ok (.getfield 33, 3) := by decide +kernel
theorem d_S_stageLength_21 : decode b_S_stageLength 21 = .ok (.bipush 46, 2) := by decide +kernel
theorem d_S_stageLength_23 : decode b_S_stageLength 23 = .ok (.bipush 8, 2) := by decide +kernel
theorem d_S_stageLength_25 : decode b_S_stageLength 25 = .ok (.invokevirtual 178, 3) := by decide +kernel
theorem d_S_stageLength_28 : decode b_S_stageLength 28 = .ok (.lstore_n 3, 1) := by decide +kernel
theorem d_S_stageLength_29 : decode b_S_stageLength 29 = .ok (.aload_n 1, 1) := by decide +kernel
theorem d_S_stageLength_30 : decode b_S_stageLength 30 = .ok (.invokevirtual 365, 3) := by decide +kernel
theorem d_S_stageLength_33 : decode b_S_stageLength 33 = .ok (.ifCond .eq 7, 3) := by decide +kernel
theorem d_S_stageLength_36 : decode b_S_stageLength 36 = .ok (.ldc_w 528, 3) := by decide +kernel
theorem d_S_stageLength_39 : decode b_S_stageLength 39 = .ok (.areturn, 1) := by decide +kernel
theorem d_S_stageLength_40 : decode b_S_stageLength 40 = .ok (.aload_n 1, 1) := by decide +kernel
theorem d_S_stageLength_41 : decode b_S_stageLength 41 = .ok (.aload_n 2, 1) := by decide +kernel
theorem d_S_stageLength_42 : decode b_S_stageLength 42 = .ok (.iconst 2, 1) := by decide +kernel
theorem d_S_stageLength_43 : decode b_S_stageLength 43 = .ok (.invokevirtual 279, 3) := by decide +kernel
theorem d_S_stageLength_46 : decode b_S_stageLength 46 = .ok (.ifCond .ne 7, 3) := by decide +kernel
theorem d_S_stageLength_49 : decode b_S_stageLength 49 = .ok (.ldc_w 370, 3) := by decide +kernel
theorem d_S_stageLength_52 : decode b_S_stageLength 52 = .ok (.areturn, 1) := by decide +kernel
theorem d_S_stageLength_53 : decode b_S_stageLength 53 = .ok (.lload_n 3, 1) := by decide +kernel
theorem d_S_stageLength_54 : decode b_S_stageLength 54 = .ok (.lconst 0, 1) := by decide +kernel
theorem d_S_stageLength_55 : decode b_S_stageLength 55 = .ok (.lcmp, 1) := by decide +kernel
theorem d_S_stageLength_56 : decode b_S_stageLength 56 = .ok (.ifCond .lt 15, 3) := by decide +kernel
theorem d_S_stageLength_59 : decode b_S_stageLength 59 = .ok (.aload_n 0, 1) := by decide +kernel
theorem d_S_stageLength_60 : decode b_S_stageLength 60 = .ok (.getfield 10, 3) := by decide +kernel
theorem d_S_stageLength_63 : decode b_S_stageLength 63 = .ok (.aload_n 1, 1) := by decide +kernel
theorem d_S_stageLength_64 : decode b_S_stageLength 64 = .ok (.lload_n 3, 1) := by decide +kernel
theorem d_S_stageLength_65 : decode b_S_stageLength 65 = .ok (.invokevirtual 505, 3) := by decide +kernel
theorem d_S_stageLength_68 : decode b_S_stageLength 68 = .ok (.ifCond .ne 7, 3) := by decide +kernel
theorem d_S_stageLength_71 : decode b_S_stageLength 71 = .ok (.ldc_w 434, 3) := by decide +kernel
theorem d_S_stageLength_74 : decode b_S_stageLength 74 = .ok (.areturn, 1) := by decide +kernel
theorem d_S_stageLength_75 : decode b_S_stageLength 75 = .ok (.aload_n 0, 1) := by decide +kernel
theorem d_S_stageLength_76 : decode b_S_stageLength 76 = .ok (.getfield 26, 3) := by decide +kernel
theorem d_S_stageLength_79 : decode b_S_stageLength 79 = .ok (.lload_n 3, 1) := by decide +kernel
theorem d_S_stageLength_80 : decode b_S_stageLength 80 = .ok (.l2i, 1) := by decide +kernel
theorem d_S_stageLength_81 : decode b_S_stageLength 81 = .ok (.putfield 411, 3) := by decide +kernel
theorem d_S_stageLength_84 : decode b_S_stageLength 84 = .ok (.ldc 174, 2) := by decide +kernel
theorem d_S_stageLength_86 : decode b_S_stageLength 86 = .ok (.areturn, 1) := by decide +kernel
abbrev rm_S_stageLength : Room := { frames := 3, cells := 0, slots := 0, locals := 67 }
set_option maxRecDepth 100000 in
set_option maxHeartbeats 4000000 in
theorem k_S_stageLength {p : Program} {l : Launch} {e : Env} {s : State} {m : MethodId} {args : Array Value} {below : List Frame} {meth : Method} {c : Code} {t : TY} {a0 : Nat} {K : GS → Option Nat → Prop} (X : kX p s m args meth c b_S_stageLength 5 "TreeServer" t) (hret : meth.sig.returnType = some (.object "java/lang/String")) (G : GS) (p1 : Nat) (p2 : Option Nat) (hwp : w_S_stageLength t G a0 p1 p2 K) : kW p l e rm_S_stageLength s m args below meth c (MQ below (va_Qq (fun r (u : GS) => K u r) (fun u T => HB t u T.heap) (tA t)) args s 0 0 (tA t)) 5 t false 0 [(0, va_rf (some a0)), (1, va_rf (some p1)), (2, va_rf p2)] [] G := by
  unfold w_S_stageLength at hwp
  refine kw_aload_n (pc := 0) X d_S_stageLength_0 rfl 0 rfl ?_
  obtain ⟨f1, hwp⟩ := hwp
  refine kg_66 (a := a0) (pc := 1) X d_S_stageLength_1 x_367 rfl f1 ?_
  refine kw_bipush (v := 46) (pc := 4) X d_S_stageLength_4 (by decide) ?_
  refine kw_bipush (v := 8) (pc := 6) X d_S_stageLength_6 (by decide) ?_
  obtain ⟨a2, h_a2, hwp⟩ := hwp
  obtain ⟨f3, hwp⟩ := hwp
  refine kW.st (st' := [.int (8 : Int32), .int (46 : Int32), .ref a2]) (by simp only [h_a2]; rfl) ?_
  refine kcVp_i (n := 2) (As := [.int (46 : Int32), .int (8 : Int32)]) (rest := []) (pc := 8) X (c_Message_gives l t G a2 (46 : Int32) (8 : Int32) _) (cwV_of (C := "TreeServer$Message") X x_877 x_874 x_875 x_876 x_9 (by decide +kernel) ⟨rfl, rfl⟩ (by decide)) (rv_5 X f3) rfl rfl (by decide) d_S_stageLength_8 hwp (fun v4 hwp => ?_)
  obtain ⟨b_v4, hwp⟩ := hwp
  refine kw_if_ne (tgt := 17) (pc := 11) X d_S_stageLength_11 (by decide) (fun h => ?_) (fun h => ?_)
  · have hwp := ite_t h hwp
    refine kw_aload_n (pc := 17) X d_S_stageLength_17 rfl 0 rfl ?_
    refine kg_66 (a := a0) (pc := 18) X d_S_stageLength_18 x_367 rfl f1 ?_
    refine kw_bipush (v := 46) (pc := 21) X d_S_stageLength_21 (by decide) ?_
    refine kw_bipush (v := 8) (pc := 23) X d_S_stageLength_23 (by decide) ?_
    refine kW.st (st' := [.int (8 : Int32), .int (46 : Int32), .ref a2]) (by simp only [h_a2]; rfl) ?_
    refine kcVp_l (n := 2) (As := [.int (46 : Int32), .int (8 : Int32)]) (rest := []) (pc := 25) X (c_Message_number l t G a2 (46 : Int32) (8 : Int32) _) (cwV_of (C := "TreeServer$Message") X x_541 x_578 x_539 x_540 x_9 (by decide +kernel) ⟨rfl, rfl⟩ (by decide)) (rv_5 X f3) rfl rfl (by decide) d_S_stageLength_25 hwp (fun v5 hwp => ?_)
    refine kw_lstore_n (i := 3) (lv' := [(3, .long v5), (0, va_rf (some a0)), (1, va_rf (some p1)), (2, va_rf p2)]) (pc := 28) X d_S_stageLength_28 rfl (by decide) (by simp [rf_cat, cat_i, cat_l, cat_r]) ?_
    refine kw_aload_n (pc := 29) X d_S_stageLength_29 rfl 2 rfl ?_
    obtain ⟨f6, hwp⟩ := hwp
    refine kcVp_i (n := 0) (As := []) (rest := []) (pc := 30) X (c_Node_isDirectory l t G p1 _) (cwV_of (C := "TreeServer$Node") X x_697 x_694 x_695 x_696 x_3 (by decide +kernel) ⟨rfl, rfl⟩ (by decide)) (rv_1 X f6) rfl rfl (by decide) d_S_stageLength_30 hwp (fun v7 hwp => ?_)
    obtain ⟨b_v7, hwp⟩ := hwp
    refine kw_if_eq (tgt := 40) (pc := 33) X d_S_stageLength_33 (by decide) (fun h => ?_) (fun h => ?_)
    · have hwp := ite_t h hwp
      refine kw_aload_n (pc := 40) X d_S_stageLength_40 rfl 2 rfl ?_
      refine kw_aload_n (pc := 41) X d_S_stageLength_41 rfl 3 rfl ?_
      refine kw_iconst (v := 2) (pc := 42) X d_S_stageLength_42 (by decide) ?_
      refine kcVp_i (n := 2) (As := [va_rf p2, .int (2 : Int32)]) (rest := []) (pc := 43) X (c_Node_lets l t G p1 p2 (2 : Int32) _) (cwV_of (C := "TreeServer$Node") X x_439 x_436 x_437 x_438 x_3 (by decide +kernel) ⟨rfl, rfl⟩ (by decide)) (rv_1 X f6) rfl rfl (by decide) d_S_stageLength_43 hwp (fun v8 hwp => ?_)
      obtain ⟨b_v8, hwp⟩ := hwp
      refine kw_if_ne (tgt := 53) (pc := 46) X d_S_stageLength_46 (by decide) (fun h => ?_) (fun h => ?_)
      · have hwp := ite_t h hwp
        refine kw_lload_n (pc := 53) X d_S_stageLength_53 rfl 0 rfl ?_
        refine kw_lconst (v := 0) (pc := 54) X d_S_stageLength_54 (by decide) ?_
        refine kw_lcmp_lt (tgt := 71) (pc := 55) X d_S_stageLength_55 d_S_stageLength_56 (by decide) (fun h => ?_) (fun h => ?_)
        · have hwp := ite_t h hwp
          refine kw_ldcwS (j := 23) (pc := 71) X d_S_stageLength_71 (by decide) rfl ?_
          exact kr_q (pc := 74) X hret d_S_stageLength_74 (Or.inl ⟨_, rfl⟩) hwp
        · have hwp := ite_f h hwp
          refine kw_aload_n (pc := 59) X d_S_stageLength_59 rfl 1 rfl ?_
          refine kg_63 (a := a0) (pc := 60) X d_S_stageLength_60 x_364 rfl f1 ?_
          refine kw_aload_n (pc := 63) X d_S_stageLength_63 rfl 2 rfl ?_
          refine kw_lload_n (pc := 64) X d_S_stageLength_64 rfl 0 rfl ?_
          obtain ⟨a9, h_a9, hwp⟩ := hwp
          obtain ⟨f10, hwp⟩ := hwp
          refine kW.st (st' := [.long v5, .ref p1, .ref a9]) (by simp only [h_a9]; rfl) ?_
          refine kcVp_i (n := 2) (As := [.ref p1, .long v5]) (rest := []) (pc := 65) X (c_Tree_hasRoomForContent l t G a9 p1 v5 _) (cwV_of (C := "TreeServer$Tree") X x_856 x_853 x_854 x_855 x_2 (by decide +kernel) ⟨rfl, rfl⟩ (by decide)) (rv_2 X f10) rfl rfl (by decide) d_S_stageLength_65 hwp (fun v11 hwp => ?_)
          obtain ⟨b_v11, hwp⟩ := hwp
          refine kw_if_ne (tgt := 75) (pc := 68) X d_S_stageLength_68 (by decide) (fun h => ?_) (fun h => ?_)
          · have hwp := ite_t h hwp
            refine kw_aload_n (pc := 75) X d_S_stageLength_75 rfl 1 rfl ?_
            refine kg_65 (a := a0) (pc := 76) X d_S_stageLength_76 x_366 rfl f1 ?_
            refine kw_lload_n (pc := 79) X d_S_stageLength_79 rfl 0 rfl ?_
            refine kw_l2i (pc := 80) X d_S_stageLength_80 ?_
            obtain ⟨a12, h_a12, hwp⟩ := hwp
            obtain ⟨f13, hwp⟩ := hwp
            refine kp_25 (a := a12) (x := v5.toInt32) (pc := 81) X rfl d_S_stageLength_81 x_172 h_a12 f13 ?_
            obtain ⟨G14, e_G14⟩ : ∃ g, g = si G 25 a12 v5.toInt32 := ⟨_, rfl⟩
            have hwp := hwp G14 e_G14
            refine kW.g e_G14.symm ?_
            refine kw_ldcS (tx := "") (j := 2) (pc := 84) X d_S_stageLength_84 (by decide) rfl ?_
            exact kr_q (pc := 86) X hret d_S_stageLength_86 (Or.inl ⟨_, rfl⟩) hwp
          · have hwp := ite_f (not_not_intro h) hwp
            refine kw_ldcwS (j := 23) (pc := 71) X d_S_stageLength_71 (by decide) rfl ?_
            exact kr_q (pc := 74) X hret d_S_stageLength_74 (Or.inl ⟨_, rfl⟩) hwp
      · have hwp := ite_f (not_not_intro h) hwp
        refine kw_ldcwS (j := 15) (pc := 49) X d_S_stageLength_49 (by decide) rfl ?_
        exact kr_q (pc := 52) X hret d_S_stageLength_52 (Or.inl ⟨_, rfl⟩) hwp
    · have hwp := ite_f h hwp
      refine kw_ldcwS (j := 25) (pc := 36) X d_S_stageLength_36 (by decide) rfl ?_
      exact kr_q (pc := 39) X hret d_S_stageLength_39 (Or.inl ⟨_, rfl⟩) hwp
  · have hwp := ite_f (not_not_intro h) hwp
    refine kw_ldcS (tx := "") (j := 2) (pc := 14) X d_S_stageLength_14 (by decide) rfl ?_
    exact kr_q (pc := 16) X hret d_S_stageLength_16 (Or.inl ⟨_, rfl⟩) hwp
set_option maxRecDepth 100000 in
set_option maxHeartbeats 4000000 in
theorem c_S_stageLength (l : Launch) (t : TY) (G : GS) (a0 : Nat) (p1 : Nat) (p2 : Option Nat) (K : GS → Option Nat → Prop) : Met l y_S_stageLength (Cond.code y_S_stageLength b_S_stageLength 5 (Option.some (Jvm.ClassFile.FieldType.object "java/lang/String")) :: GW) rm_S_stageLength (va_Pc [.ref a0, .ref p1, va_rf p2] (fun U => HB t G U.heap ∧ HK t U ∧ w_S_stageLength t G a0 p1 p2 K)) (va_Qq (fun r (u : GS) => K u r) (fun u T => HB t u T.heap) (tA t)) 0 0 (tA t) := by
  refine Met.ofW (cc := b_S_stageLength) (maxL := 5) (ret := some (.object "java/lang/String")) (by decide) rfl ?_
  intro p e s m args below meth c s₁ B hml hv
  obtain ⟨rfl, hB, hK, hwp⟩ := hv
  have hts := atoms_spec (ws := Cond.code y_S_stageLength b_S_stageLength 5 (Option.some (Jvm.ClassFile.FieldType.object "java/lang/String")) :: GW) B.pre
  have X : kX p s m _ meth c b_S_stageLength 5 "TreeServer" t := ⟨B.exec, B.bytes, hml, findClass_of_methodNamed B.named, fun w h => hts w (List.mem_cons_of_mem _ h), B.notSynchronized, hK⟩
  have hZ : kZ t false s G s.heap [] := ⟨hB, va_S.rf, fun _ => ⟨rfl, rfl⟩⟩
  rw [lg_entry_eq]
  have hl := lv_entry ([.ref a0, .ref p1, va_rf p2]) (n := 5) (by simp [lg_sl, rf_cat, cat_i, cat_l, cat_r])
  rw [show lv_args 0 [.ref a0, .ref p1, va_rf p2] = [(0, .ref a0), (1, .ref p1), (2, va_rf p2)] from by simp [lv_args, rf_cat, cat_i, cat_l, cat_r]] at hl
  exact k_S_stageLength X B.returns _ _ _ hwp s.heap [] _ hl hZ
abbrev b_S_stageMode : ByteArray := prog_1_method_46_code
def y_S_stageMode : MethodName := ⟨"TreeServer", "stageMode", "(LTreeServer$Node;LTreeServer$User;)Ljava/lang/String;"⟩
theorem d_S_stageMode_0 : decode b_S_stageMode 0 = .ok (.aload_n 0, 1) := by decide +kernel
theorem d_S_stageMode_1 : decode b_S_stageMode 1 = .ok (.getfield 33, 3) := by decide +kernel
theorem d_S_stageMode_4 : decode b_S_stageMode 4 = .ok (.bipush 34, 2) := by decide +kernel
theorem d_S_stageMode_6 : decode b_S_stageMode 6 = .ok (.iconst 4, 1) := by decide +kernel
theorem d_S_stageMode_7 : decode b_S_stageMode 7 = .ok (.invokevirtual 548, 3) := by decide +kernel
theorem d_S_stageMode_10 : decode b_S_stageMode 10 = .ok (.ifCond .ne 6, 3) := by decide +kernel
theorem d_S_stageMode_13 : decode b_S_stageMode 13 = .ok (.ldc 174, 2) := by decide +kernel
theorem d_S_stageMode_15 : decode b_S_stageMode 15 = .ok (.areturn, 1) := by decide +kernel
theorem d_S_stageMode_16 : decode b_S_stageMode 16 = .ok (.aload_n 0, 1) := by decide +kernel
theorem d_S_stageMode_17 : decode b_S_stageMode 17 = .ok (.getfield 33, 3) := by decide +kernel
theorem d_S_stageMode_20 : decode b_S_stageMode 20 = .ok (.bipush 34, 2) := by decide +kernel
theorem d_S_stageMode_22 : decode b_S_stageMode 22 = .ok (.iconst 4, 1) := by decide +kernel
theorem d_S_stageMode_23 : decode b_S_stageMode 23 = .ok (.invokevirtual 178, 3) := by decide +kernel
theorem d_S_stageMode_26 : decode b_S_stageMode 26 = .ok (.l2i, 1) := by decide +kernel
theorem d_S_stageMode_27 : decode b_S_stageMode 27 = .ok (.istore_n 3, 1) := by decide +kernel
theorem d_S_stageMode_28 : decode b_S_stageMode 28 = .ok (.aload_n 2, 1) := by decide +kernel
theorem d_S_stageMode_29 : decode b_S_stageMode 29 = .ok (.aload_n 1, 1) := by decide +kernel
theorem d_S_stageMode_30 : decode b_S_stageMode 30 = .ok (.getfield 555, 3) := by decide +kernel
theorem d_S_stageMode_33 : decode b_S_stageMode 33 = .ok (.if_acmp .eq 7, 3) := by decide +kernel
theorem d_S_stageMode_36 : decode b_S_stageMode 36 = .ok (.ldc_w 370, 3) := by decide +kernel
theorem d_S_stageMode_39 : decode b_S_stageMode 39 = .ok (.areturn, 1) := by decide +kernel
theorem d_S_stageMode_40 : decode b_S_stageMode 40 = .ok (.iload_n 3, 1) := by decide +kernel
theorem d_S_stageMode_41 : decode b_S_stageMode 41 = .ok (.ldc_w 428, 3) := by decide +kernel
theorem d_S_stageMode_44 : decode b_S_stageMode 44 = .ok (.iand, 1) := by decide +kernel
theorem d_S_stageMode_45 : decode b_S_stageMode 45 = .ok (.ifCond .ne 19, 3) := by decide +kernel
theorem d_S_stageMode_48 : decode b_S_stageMode 48 = .ok (.iload_n 3, 1) := by decide +kernel
theorem d_S_stageMode_49 : decode b_S_stageMode 49 = .ok (.ldc_w 427, 3) := by decide +kernel
theorem d_S_stageMode_52 : decode b_S_stageMode 52 = .ok (.iand, 1) := by decide +kernel
theorem d_S_stageMode_53 : decode b_S_stageMode 53 = .ok (.aload_n 1, 1) := by decide +kernel
theorem d_S_stageMode_54 : decode b_S_stageMode 54 = .ok (.getfield 439, 3) := by decide +kernel
theorem d_S_stageMode_57 : decode b_S_stageMode 57 = .ok (.ldc_w 427, 3) := by decide +kernel
theorem d_S_stageMode_60 : decode b_S_stageMode 60 = .ok (.iand, 1) := by decide +kernel
theorem d_S_stageMode_61 : decode b_S_stageMode 61 = .ok (.if_icmp .eq 7, 3) := by decide +kernel
theorem d_S_stageMode_64 : decode b_S_stageMode 64 = .ok (.ldc_w 385, 3) := by decide +kernel
theorem d_S_stageMode_67 : decode b_S_stageMode 67 = .ok (.areturn, 1) := by decide +kernel
theorem d_S_stageMode_68 : decode b_S_stageMode 68 = .ok (.aload_n 0, 1) := by decide +kernel
theorem d_S_stageMode_69 : decode b_S_stageMode 69 = .ok (.getfield 26, 3) := by decide +kernel
theorem d_S_stageMode_72 : decode b_S_stageMode 72 = .ok (.iconst 1, 1) := by decide +kernel
theorem d_S_stageMode_73 : decode b_S_stageMode 73 = .ok (.putfield 558, 3) := by decide +kernel
theorem d_S_stageMode_76 : decode b_S_stageMode 76 = .ok (.aload_n 0, 1) := by decide +kernel
theorem d_S_stageMode_77 : decode b_S_stageMode 77 = .ok (.getfield 26, 3) := by decide +kernel
theorem d_S_stageMode_80 : decode b_S_stageMode 80 = .ok (.iload_n 3, 1) := by decide +kernel
theorem d_S_stageMode_81 : decode b_S_stageMode 81 = .ok (.putfield 441, 3) := by decide +kernel
theorem d_S_stageMode_84 : decode b_S_stageMode 84 = .ok (.ldc 174, 2) := by decide +kernel
theorem d_S_stageMode_86 : decode b_S_stageMode 86 = .ok (.areturn, 1) := by decide +kernel
abbrev rm_S_stageMode : Room := { frames := 2, cells := 0, slots := 0, locals := 49 }
set_option maxRecDepth 100000 in
set_option maxHeartbeats 4000000 in
theorem k_S_stageMode {p : Program} {l : Launch} {e : Env} {s : State} {m : MethodId} {args : Array Value} {below : List Frame} {meth : Method} {c : Code} {t : TY} {a0 : Nat} {K : GS → Option Nat → Prop} (X : kX p s m args meth c b_S_stageMode 4 "TreeServer" t) (hret : meth.sig.returnType = some (.object "java/lang/String")) (G : GS) (p1 : Nat) (p2 : Option Nat) (hwp : w_S_stageMode t G a0 p1 p2 K) : kW p l e rm_S_stageMode s m args below meth c (MQ below (va_Qq (fun r (u : GS) => K u r) (fun u T => HB t u T.heap) (tA t)) args s 0 0 (tA t)) 4 t false 0 [(0, va_rf (some a0)), (1, va_rf (some p1)), (2, va_rf p2)] [] G := by
  unfold w_S_stageMode at hwp
  refine kw_aload_n (pc := 0) X d_S_stageMode_0 rfl 0 rfl ?_
  obtain ⟨f1, hwp⟩ := hwp
  refine kg_66 (a := a0) (pc := 1) X d_S_stageMode_1 x_367 rfl f1 ?_
  refine kw_bipush (v := 34) (pc := 4) X d_S_stageMode_4 (by decide) ?_
  refine kw_iconst (v := 4) (pc := 6) X d_S_stageMode_6 (by decide) ?_
  obtain ⟨a2, h_a2, hwp⟩ := hwp
  obtain ⟨f3, hwp⟩ := hwp
  refine kW.st (st' := [.int (4 : Int32), .int (34 : Int32), .ref a2]) (by simp only [h_a2]; rfl) ?_
  refine kcVp_i (n := 2) (As := [.int (34 : Int32), .int (4 : Int32)]) (rest := []) (pc := 7) X (c_Message_gives l t G a2 (34 : Int32) (4 : Int32) _) (cwV_of (C := "TreeServer$Message") X x_877 x_874 x_875 x_876 x_9 (by decide +kernel) ⟨rfl, rfl⟩ (by decide)) (rv_5 X f3) rfl rfl (by decide) d_S_stageMode_7 hwp (fun v4 hwp => ?_)
  obtain ⟨b_v4, hwp⟩ := hwp
  refine kw_if_ne (tgt := 16) (pc := 10) X d_S_stageMode_10 (by decide) (fun h => ?_) (fun h => ?_)
  · have hwp := ite_t h hwp
    refine kw_aload_n (pc := 16) X d_S_stageMode_16 rfl 0 rfl ?_
    refine kg_66 (a := a0) (pc := 17) X d_S_stageMode_17 x_367 rfl f1 ?_
    refine kw_bipush (v := 34) (pc := 20) X d_S_stageMode_20 (by decide) ?_
    refine kw_iconst (v := 4) (pc := 22) X d_S_stageMode_22 (by decide) ?_
    refine kW.st (st' := [.int (4 : Int32), .int (34 : Int32), .ref a2]) (by simp only [h_a2]; rfl) ?_
    refine kcVp_l (n := 2) (As := [.int (34 : Int32), .int (4 : Int32)]) (rest := []) (pc := 23) X (c_Message_number l t G a2 (34 : Int32) (4 : Int32) _) (cwV_of (C := "TreeServer$Message") X x_541 x_578 x_539 x_540 x_9 (by decide +kernel) ⟨rfl, rfl⟩ (by decide)) (rv_5 X f3) rfl rfl (by decide) d_S_stageMode_23 hwp (fun v5 hwp => ?_)
    refine kw_l2i (pc := 26) X d_S_stageMode_26 ?_
    obtain ⟨v6, e_v6⟩ : ∃ z, z = v5.toInt32 := ⟨_, rfl⟩
    have hwp := hwp v6 e_v6
    refine kW.st (st' := .int v6 :: _) (by rw [e_v6]) ?_
    refine kw_istore_n (i := 3) (lv' := [(3, .int v6), (0, va_rf (some a0)), (1, va_rf (some p1)), (2, va_rf p2)]) (pc := 27) X d_S_stageMode_27 rfl (by decide) (by simp [rf_cat, cat_i, cat_l, cat_r]) ?_
    refine kw_aload_n (pc := 28) X d_S_stageMode_28 rfl 3 rfl ?_
    refine kw_aload_n (pc := 29) X d_S_stageMode_29 rfl 2 rfl ?_
    obtain ⟨f7, hwp⟩ := hwp
    refine kg_4 (a := p1) (pc := 30) X d_S_stageMode_30 x_61 rfl f7 ?_
    refine kw_acmp_eq (tgt := 40) (pc := 33) X d_S_stageMode_33 (by decide) (fun h => ?_) (fun h => ?_)
    · have hwp := ite_t h hwp
      refine kw_iload_n (pc := 40) X d_S_stageMode_40 rfl 0 rfl ?_
      refine kw_ldcw (v := 536870400) (pc := 41) X d_S_stageMode_41 x_781 ?_
      refine kw_iand (pc := 44) X d_S_stageMode_44 ?_
      refine kw_if_ne (tgt := 64) (pc := 45) X d_S_stageMode_45 (by decide) (fun h => ?_) (fun h => ?_)
      · have hwp := ite_t h hwp
        refine kw_ldcwS (j := 19) (pc := 64) X d_S_stageMode_64 (by decide) rfl ?_
        exact kr_q (pc := 67) X hret d_S_stageMode_67 (Or.inl ⟨_, rfl⟩) hwp
      · have hwp := ite_f (not_not_intro h) hwp
        refine kw_iload_n (pc := 48) X d_S_stageMode_48 rfl 0 rfl ?_
        refine kw_ldcw (v := -2147483648) (pc := 49) X d_S_stageMode_49 x_780 ?_
        refine kw_iand (pc := 52) X d_S_stageMode_52 ?_
        refine kw_aload_n (pc := 53) X d_S_stageMode_53 rfl 2 rfl ?_
        refine kg_2 (a := p1) (pc := 54) X d_S_stageMode_54 x_54 rfl f7 ?_
        refine kw_ldcw (v := -2147483648) (pc := 57) X d_S_stageMode_57 x_780 ?_
        refine kw_iand (pc := 60) X d_S_stageMode_60 ?_
        refine kw_icmp_eq (tgt := 68) (pc := 61) X d_S_stageMode_61 (by decide) (fun h => ?_) (fun h => ?_)
        · have hwp := ite_t h hwp
          refine kw_aload_n (pc := 68) X d_S_stageMode_68 rfl 1 rfl ?_
          refine kg_65 (a := a0) (pc := 69) X d_S_stageMode_69 x_366 rfl f1 ?_
          refine kw_iconst (v := 1) (pc := 72) X d_S_stageMode_72 (by decide) ?_
          obtain ⟨a8, h_a8, hwp⟩ := hwp
          obtain ⟨f9, hwp⟩ := hwp
          refine kp_26 (a := a8) (x := (1 : Int32)) (pc := 73) X rfl d_S_stageMode_73 x_174 h_a8 f9 (Or.inr rfl) ?_
          obtain ⟨G10, e_G10⟩ : ∃ g, g = si G 26 a8 (1 : Int32) := ⟨_, rfl⟩
          have hwp := hwp G10 e_G10
          refine kW.g e_G10.symm ?_
          refine kw_aload_n (pc := 76) X d_S_stageMode_76 rfl 1 rfl ?_
          refine kg_65 (a := a0) (pc := 77) X d_S_stageMode_77 x_366 rfl f1 ?_
          refine kw_iload_n (pc := 80) X d_S_stageMode_80 rfl 0 rfl ?_
          obtain ⟨a11, h_a11, hwp⟩ := hwp
          obtain ⟨f12, hwp⟩ := hwp
          refine kp_27 (a := a11) (x := v6) (pc := 81) X rfl d_S_stageMode_81 x_176 h_a11 f12 ?_
          obtain ⟨G13, e_G13⟩ : ∃ g, g = si G10 27 a11 v6 := ⟨_, rfl⟩
          have hwp := hwp G13 e_G13
          refine kW.g e_G13.symm ?_
          refine kw_ldcS (tx := "") (j := 2) (pc := 84) X d_S_stageMode_84 (by decide) rfl ?_
          exact kr_q (pc := 86) X hret d_S_stageMode_86 (Or.inl ⟨_, rfl⟩) hwp
        · have hwp := ite_f h hwp
          refine kw_ldcwS (j := 19) (pc := 64) X d_S_stageMode_64 (by decide) rfl ?_
          exact kr_q (pc := 67) X hret d_S_stageMode_67 (Or.inl ⟨_, rfl⟩) hwp
    · have hwp := ite_f h hwp
      refine kw_ldcwS (j := 15) (pc := 36) X d_S_stageMode_36 (by decide) rfl ?_
      exact kr_q (pc := 39) X hret d_S_stageMode_39 (Or.inl ⟨_, rfl⟩) hwp
  · have hwp := ite_f (not_not_intro h) hwp
    refine kw_ldcS (tx := "") (j := 2) (pc := 13) X d_S_stageMode_13 (by decide) rfl ?_
    exact kr_q (pc := 15) X hret d_S_stageMode_15 (Or.inl ⟨_, rfl⟩) hwp
set_option maxRecDepth 100000 in
set_option maxHeartbeats 4000000 in
theorem c_S_stageMode (l : Launch) (t : TY) (G : GS) (a0 : Nat) (p1 : Nat) (p2 : Option Nat) (K : GS → Option Nat → Prop) : Met l y_S_stageMode (Cond.code y_S_stageMode b_S_stageMode 4 (Option.some (Jvm.ClassFile.FieldType.object "java/lang/String")) :: GW) rm_S_stageMode (va_Pc [.ref a0, .ref p1, va_rf p2] (fun U => HB t G U.heap ∧ HK t U ∧ w_S_stageMode t G a0 p1 p2 K)) (va_Qq (fun r (u : GS) => K u r) (fun u T => HB t u T.heap) (tA t)) 0 0 (tA t) := by
  refine Met.ofW (cc := b_S_stageMode) (maxL := 4) (ret := some (.object "java/lang/String")) (by decide) rfl ?_
  intro p e s m args below meth c s₁ B hml hv
  obtain ⟨rfl, hB, hK, hwp⟩ := hv
  have hts := atoms_spec (ws := Cond.code y_S_stageMode b_S_stageMode 4 (Option.some (Jvm.ClassFile.FieldType.object "java/lang/String")) :: GW) B.pre
  have X : kX p s m _ meth c b_S_stageMode 4 "TreeServer" t := ⟨B.exec, B.bytes, hml, findClass_of_methodNamed B.named, fun w h => hts w (List.mem_cons_of_mem _ h), B.notSynchronized, hK⟩
  have hZ : kZ t false s G s.heap [] := ⟨hB, va_S.rf, fun _ => ⟨rfl, rfl⟩⟩
  rw [lg_entry_eq]
  have hl := lv_entry ([.ref a0, .ref p1, va_rf p2]) (n := 4) (by simp [lg_sl, rf_cat, cat_i, cat_l, cat_r])
  rw [show lv_args 0 [.ref a0, .ref p1, va_rf p2] = [(0, .ref a0), (1, .ref p1), (2, va_rf p2)] from by simp [lv_args, rf_cat, cat_i, cat_l, cat_r]] at hl
  exact k_S_stageMode X B.returns _ _ _ hwp s.heap [] _ hl hZ
abbrev b_S_stageMtime : ByteArray := prog_1_method_47_code
def y_S_stageMtime : MethodName := ⟨"TreeServer", "stageMtime", "(LTreeServer$Node;LTreeServer$User;)Ljava/lang/String;"⟩
theorem d_S_stageMtime_0 : decode b_S_stageMtime 0 = .ok (.aload_n 0, 1) := by decide +kernel
theorem d_S_stageMtime_1 : decode b_S_stageMtime 1 = .ok (.getfield 33, 3) := by decide +kernel
theorem d_S_stageMtime_4 : decode b_S_stageMtime 4 = .ok (.bipush 42, 2) := by decide +kernel
theorem d_S_stageMtime_6 : decode b_S_stageMtime 6 = .ok (.iconst 4, 1) := by decide +kernel
theorem d_S_stageMtime_7 : decode b_S_stageMtime 7 = .ok (.invokevirtual 548, 3) := by decide +kernel
theorem d_S_stageMtime_10 : decode b_S_stageMtime 10 = .ok (.ifCond .ne 6, 3) := by decide +kernel
theorem d_S_stageMtime_13 : decode b_S_stageMtime 13 = .ok (.ldc 174, 2) := by decide +kernel
theorem d_S_stageMtime_15 : decode b_S_stageMtime 15 = .ok (.areturn, 1) := by decide +kernel
theorem d_S_stageMtime_16 : decode b_S_stageMtime 16 = .ok (.aload_n 2, 1) := by decide +kernel
theorem d_S_stageMtime_17 : decode b_S_stageMtime 17 = .ok (.aload_n 1, 1) := by decide +kernel
theorem d_S_stageMtime_18 : decode b_S_stageMtime 18 = .ok (.getfield 555, 3) := by decide +kernel
theorem d_S_stageMtime_21 : decode b_S_stageMtime 21 = .ok (.if_acmp .eq 7, 3) := by decide +kernel
theorem d_S_stageMtime_24 : decode b_S_stageMtime 24 = .ok (.ldc_w 370, 3) := by decide +kernel
theorem d_S_stageMtime_27 : decode b_S_stageMtime 27 = .ok (.areturn, 1) := by decide +kernel
theorem d_S_stageMtime_28 : decode b_S_stageMtime 28 = .ok (.aload_n 0, 1) := by decide +kernel
theorem d_S_stageMtime_29 : decode b_S_stageMtime 29 = .ok (.getfield 26, 3) := by decide +kernel
theorem d_S_stageMtime_32 : decode b_S_stageMtime 32 = .ok (.iconst 1, 1) := by decide +kernel
theorem d_S_stageMtime_33 : decode b_S_stageMtime 33 = .ok (.putfield 561, 3) := by decide +kernel
theorem d_S_stageMtime_36 : decode b_S_stageMtime 36 = .ok (.aload_n 0, 1) := by decide +kernel
theorem d_S_stageMtime_37 : decode b_S_stageMtime 37 = .ok (.getfield 26, 3) := by decide +kernel
theorem d_S_stageMtime_40 : decode b_S_stageMtime 40 = .ok (.aload_n 0, 1) := by decide +kernel
theorem d_S_stageMtime_41 : decode b_S_stageMtime 41 = .ok (.getfield 33, 3) := by decide +kernel
theorem d_S_stageMtime_44 : decode b_S_stageMtime 44 = .ok (.bipush 42, 2) := by decide +kernel
theorem d_S_stageMtime_46 : decode b_S_stageMtime 46 = .ok (.iconst 4, 1) := by decide +kernel
theorem d_S_stageMtime_47 : decode b_S_stageMtime 47 = .ok (.invokevirtual 178, 3) := by decide +kernel
theorem d_S_stageMtime_50 : decode b_S_stageMtime 50 = .ok (.l2i, 1) := by decide +kernel
theorem d_S_stageMtime_51 : decode b_S_stageMtime 51 = .ok (.putfield 564, 3) := by decide +kernel
theorem d_S_stageMtime_54 : decode b_S_stageMtime 54 = .ok (.ldc 174, 2) := by decide +kernel
theorem d_S_stageMtime_56 : decode b_S_stageMtime 56 = .ok (.areturn, 1) := by decide +kernel
abbrev rm_S_stageMtime : Room := { frames := 2, cells := 0, slots := 0, locals := 49 }
set_option maxRecDepth 100000 in
set_option maxHeartbeats 4000000 in
theorem k_S_stageMtime {p : Program} {l : Launch} {e : Env} {s : State} {m : MethodId} {args : Array Value} {below : List Frame} {meth : Method} {c : Code} {t : TY} {a0 : Nat} {K : GS → Option Nat → Prop} (X : kX p s m args meth c b_S_stageMtime 3 "TreeServer" t) (hret : meth.sig.returnType = some (.object "java/lang/String")) (G : GS) (p1 : Nat) (p2 : Option Nat) (hwp : w_S_stageMtime t G a0 p1 p2 K) : kW p l e rm_S_stageMtime s m args below meth c (MQ below (va_Qq (fun r (u : GS) => K u r) (fun u T => HB t u T.heap) (tA t)) args s 0 0 (tA t)) 3 t false 0 [(0, va_rf (some a0)), (1, va_rf (some p1)), (2, va_rf p2)] [] G := by
  unfold w_S_stageMtime at hwp
  refine kw_aload_n (pc := 0) X d_S_stageMtime_0 rfl 0 rfl ?_
  obtain ⟨f1, hwp⟩ := hwp
  refine kg_66 (a := a0) (pc := 1) X d_S_stageMtime_1 x_367 rfl f1 ?_
  refine kw_bipush (v := 42) (pc := 4) X d_S_stageMtime_4 (by decide) ?_
  refine kw_iconst (v := 4) (pc := 6) X d_S_stageMtime_6 (by decide) ?_
  obtain ⟨a2, h_a2, hwp⟩ := hwp
  obtain ⟨f3, hwp⟩ := hwp
  refine kW.st (st' := [.int (4 : Int32), .int (42 : Int32), .ref a2]) (by simp only [h_a2]; rfl) ?_
  refine kcVp_i (n := 2) (As := [.int (42 : Int32), .int (4 : Int32)]) (rest := []) (pc := 7) X (c_Message_gives l t G a2 (42 : Int32) (4 : Int32) _) (cwV_of (C := "TreeServer$Message") X x_877 x_874 x_875 x_876 x_9 (by decide +kernel) ⟨rfl, rfl⟩ (by decide)) (rv_5 X f3) rfl rfl (by decide) d_S_stageMtime_7 hwp (fun v4 hwp => ?_)
  obtain ⟨b_v4, hwp⟩ := hwp
  refine kw_if_ne (tgt := 16) (pc := 10) X d_S_stageMtime_10 (by decide) (fun h => ?_) (fun h => ?_)
  · have hwp := ite_t h hwp
    refine kw_aload_n (pc := 16) X d_S_stageMtime_16 rfl 2 rfl ?_
    refine kw_aload_n (pc := 17) X d_S_stageMtime_17 rfl 1 rfl ?_
    obtain ⟨f5, hwp⟩ := hwp
    refine kg_4 (a := p1) (pc := 18) X d_S_stageMtime_18 x_61 rfl f5 ?_
    refine kw_acmp_eq (tgt := 28) (pc := 21) X d_S_stageMtime_21 (by decide) (fun h => ?_) (fun h => ?_)
    · have hwp := ite_t h hwp
      refine kw_aload_n (pc := 28) X d_S_stageMtime_28 rfl 0 rfl ?_
      refine kg_65 (a := a0) (pc := 29) X d_S_stageMtime_29 x_366 rfl f1 ?_
      refine kw_iconst (v := 1) (pc := 32) X d_S_stageMtime_32 (by decide) ?_
      obtain ⟨a6, h_a6, hwp⟩ := hwp
      obtain ⟨f7, hwp⟩ := hwp
      refine kp_28 (a := a6) (x := (1 : Int32)) (pc := 33) X rfl d_S_stageMtime_33 x_178 h_a6 f7 (Or.inr rfl) ?_
      obtain ⟨G8, e_G8⟩ : ∃ g, g = si G 28 a6 (1 : Int32) := ⟨_, rfl⟩
      have hwp := hwp G8 e_G8
      refine kW.g e_G8.symm ?_
      refine kw_aload_n (pc := 36) X d_S_stageMtime_36 rfl 0 rfl ?_
      refine kg_65 (a := a0) (pc := 37) X d_S_stageMtime_37 x_366 rfl f1 ?_
      refine kw_aload_n (pc := 40) X d_S_stageMtime_40 rfl 0 rfl ?_
      refine kg_66 (a := a0) (pc := 41) X d_S_stageMtime_41 x_367 rfl f1 ?_
      refine kw_bipush (v := 42) (pc := 44) X d_S_stageMtime_44 (by decide) ?_
      refine kw_iconst (v := 4) (pc := 46) X d_S_stageMtime_46 (by decide) ?_
      obtain ⟨a9, h_a9, hwp⟩ := hwp
      obtain ⟨f10, hwp⟩ := hwp
      refine kW.st (st' := [.int (4 : Int32), .int (42 : Int32), .ref a9, va_rf (gr G8 65 a0)]) (by simp only [h_a9]; rfl) ?_
      refine kcVp_l (n := 2) (As := [.int (42 : Int32), .int (4 : Int32)]) (rest := [va_rf (gr G8 65 a0)]) (pc := 47) X (c_Message_number l t G8 a9 (42 : Int32) (4 : Int32) _) (cwV_of (C := "TreeServer$Message") X x_541 x_578 x_539 x_540 x_9 (by decide +kernel) ⟨rfl, rfl⟩ (by decide)) (rv_5 X f10) rfl rfl (by simp [rf_cat, cat_i, cat_l, cat_r]) d_S_stageMtime_47 hwp (fun v11 hwp => ?_)
      refine kw_l2i (pc := 50) X d_S_stageMtime_50 ?_
      obtain ⟨a12, h_a12, hwp⟩ := hwp
      obtain ⟨f13, hwp⟩ := hwp
      refine kp_29 (a := a12) (x := v11.toInt32) (pc := 51) X rfl d_S_stageMtime_51 x_180 h_a12 f13 ?_
      obtain ⟨G14, e_G14⟩ : ∃ g, g = si G8 29 a12 v11.toInt32 := ⟨_, rfl⟩
      have hwp := hwp G14 e_G14
      refine kW.g e_G14.symm ?_
      refine kw_ldcS (tx := "") (j := 2) (pc := 54) X d_S_stageMtime_54 (by decide) rfl ?_
      exact kr_q (pc := 56) X hret d_S_stageMtime_56 (Or.inl ⟨_, rfl⟩) hwp
    · have hwp := ite_f h hwp
      refine kw_ldcwS (j := 15) (pc := 24) X d_S_stageMtime_24 (by decide) rfl ?_
      exact kr_q (pc := 27) X hret d_S_stageMtime_27 (Or.inl ⟨_, rfl⟩) hwp
  · have hwp := ite_f (not_not_intro h) hwp
    refine kw_ldcS (tx := "") (j := 2) (pc := 13) X d_S_stageMtime_13 (by decide) rfl ?_
    exact kr_q (pc := 15) X hret d_S_stageMtime_15 (Or.inl ⟨_, rfl⟩) hwp
set_option maxRecDepth 100000 in
set_option maxHeartbeats 4000000 in
theorem c_S_stageMtime (l : Launch) (t : TY) (G : GS) (a0 : Nat) (p1 : Nat) (p2 : Option Nat) (K : GS → Option Nat → Prop) : Met l y_S_stageMtime (Cond.code y_S_stageMtime b_S_stageMtime 3 (Option.some (Jvm.ClassFile.FieldType.object "java/lang/String")) :: GW) rm_S_stageMtime (va_Pc [.ref a0, .ref p1, va_rf p2] (fun U => HB t G U.heap ∧ HK t U ∧ w_S_stageMtime t G a0 p1 p2 K)) (va_Qq (fun r (u : GS) => K u r) (fun u T => HB t u T.heap) (tA t)) 0 0 (tA t) := by
  refine Met.ofW (cc := b_S_stageMtime) (maxL := 3) (ret := some (.object "java/lang/String")) (by decide) rfl ?_
  intro p e s m args below meth c s₁ B hml hv
  obtain ⟨rfl, hB, hK, hwp⟩ := hv
  have hts := atoms_spec (ws := Cond.code y_S_stageMtime b_S_stageMtime 3 (Option.some (Jvm.ClassFile.FieldType.object "java/lang/String")) :: GW) B.pre
  have X : kX p s m _ meth c b_S_stageMtime 3 "TreeServer" t := ⟨B.exec, B.bytes, hml, findClass_of_methodNamed B.named, fun w h => hts w (List.mem_cons_of_mem _ h), B.notSynchronized, hK⟩
  have hZ : kZ t false s G s.heap [] := ⟨hB, va_S.rf, fun _ => ⟨rfl, rfl⟩⟩
  rw [lg_entry_eq]
  have hl := lv_entry ([.ref a0, .ref p1, va_rf p2]) (n := 3) (by simp [lg_sl, rf_cat, cat_i, cat_l, cat_r])
  rw [show lv_args 0 [.ref a0, .ref p1, va_rf p2] = [(0, .ref a0), (1, .ref p1), (2, va_rf p2)] from by simp [lv_args, rf_cat, cat_i, cat_l, cat_r]] at hl
  exact k_S_stageMtime X B.returns _ _ _ hwp s.heap [] _ hl hZ
abbrev b_S_stageGroup : ByteArray := prog_1_method_48_code
def y_S_stageGroup : MethodName := ⟨"TreeServer", "stageGroup", "(LTreeServer$Node;LTreeServer$User;)Ljava/lang/String;"⟩
theorem d_S_stageGroup_0 : decode b_S_stageGroup 0 = .ok (.aload_n 0, 1) := by decide +kernel
theorem d_S_stageGroup_1 : decode b_S_stageGroup 1 = .ok (.getfield 33, 3) := by decide +kernel
theorem d_S_stageGroup_4 : decode b_S_stageGroup 4 = .ok (.iconst 2, 1) := by decide +kernel
theorem d_S_stageGroup_5 : decode b_S_stageGroup 5 = .ok (.invokevirtual 552, 3) := by decide +kernel
theorem d_S_stageGroup_8 : decode b_S_stageGroup 8 = .ok (.ifCond .ne 6, 3) := by decide +kernel
theorem d_S_stageGroup_11 : decode b_S_stageGroup 11 = .ok (.ldc 174, 2) := by decide +kernel
theorem d_S_stageGroup_13 : decode b_S_stageGroup 13 = .ok (.areturn, 1) := by decide +kernel
theorem d_S_stageGroup_14 : decode b_S_stageGroup 14 = .ok (.aload_n 0, 1) := by decide +kernel
theorem d_S_stageGroup_15 : decode b_S_stageGroup 15 = .ok (.getfield 33, 3) := by decide +kernel
theorem d_S_stageGroup_18 : decode b_S_stageGroup 18 = .ok (.iconst 2, 1) := by decide +kernel
theorem d_S_stageGroup_19 : decode b_S_stageGroup 19 = .ok (.invokevirtual 324, 3) := by decide +kernel
theorem d_S_stageGroup_22 : decode b_S_stageGroup 22 = .ok (.astore_n 3, 1) := by decide +kernel
theorem d_S_stageGroup_23 : decode b_S_stageGroup 23 = .ok (.aload_n 3, 1) := by decide +kernel
theorem d_S_stageGroup_24 : decode b_S_stageGroup 24 = .ok (.ifnonnull 7, 3) := by decide +kernel
theorem d_S_stageGroup_27 : decode b_S_stageGroup 27 = .ok (.ldc_w 328, 3) := by decide +kernel
theorem d_S_stageGroup_30 : decode b_S_stageGroup 30 = .ok (.areturn, 1) := by decide +kernel
theorem d_S_stageGroup_31 : decode b_S_stageGroup 31 = .ok (.aload_n 2, 1) := by decide +kernel
theorem d_S_stageGroup_32 : decode b_S_stageGroup 32 = .ok (.aload_n 1, 1) := by decide +kernel
theorem d_S_stageGroup_33 : decode b_S_stageGroup 33 = .ok (.getfield 555, 3) := by decide +kernel
theorem d_S_stageGroup_36 : decode b_S_stageGroup 36 = .ok (.if_acmp .ne 11, 3) := by decide +kernel
theorem d_S_stageGroup_39 : decode b_S_stageGroup 39 = .ok (.aload_n 2, 1) := by decide +kernel
theorem d_S_stageGroup_40 : decode b_S_stageGroup 40 = .ok (.aload_n 3, 1) := by decide +kernel
theorem d_S_stageGroup_41 : decode b_S_stageGroup 41 = .ok (.invokevirtual 567, 3) := by decide +kernel
theorem d_S_stageGroup_44 : decode b_S_stageGroup 44 = .ok (.ifCond .ne 7, 3) := by decide +kernel
theorem d_S_stageGroup_47 : decode b_S_stageGroup 47 = .ok (.ldc_w 370, 3) := by decide +kernel
theorem d_S_stageGroup_50 : decode b_S_stageGroup 50 = .ok (.areturn, 1) := by decide +kernel
theorem d_S_stageGroup_51 : decode b_S_stageGroup 51 = .ok (.aload_n 0, 1) := by decide +kernel
theorem d_S_stageGroup_52 : decode b_S_stageGroup 52 = .ok (.getfield 26, 3) := by decide +kernel
theorem d_S_stageGroup_55 : decode b_S_stageGroup 55 = .ok (.aload_n 3, 1) := by decide +kernel
theorem d_S_stageGroup_56 : decode b_S_stageGroup 56 = .ok (.putfield 572, 3) := by decide +kernel
theorem d_S_stageGroup_59 : decode b_S_stageGroup 59 = .ok (.ldc 174, 2) := by decide +kernel
theorem d_S_stageGroup_61 : decode b_S_stageGroup 61 = .ok (.areturn, 1) := by decide +kernel
abbrev rm_S_stageGroup : Room := { frames := 6, cells := 0, slots := 0, locals := 146 }
set_option maxRecDepth 100000 in
set_option maxHeartbeats 4000000 in
theorem k_S_stageGroup {p : Program} {l : Launch} {e : Env} {s : State} {m : MethodId} {args : Array Value} {below : List Frame} {meth : Method} {c : Code} {t : TY} {a0 : Nat} {K : GS → Option Nat → Prop} (X : kX p s m args meth c b_S_stageGroup 4 "TreeServer" t) (hret : meth.sig.returnType = some (.object "java/lang/String")) (G : GS) (p1 : Nat) (p2 : Option Nat) (hwp : w_S_stageGroup t G a0 p1 p2 K) : kW p l e rm_S_stageGroup s m args below meth c (MQ below (va_Qq (fun r (u : GS) => K u r) (fun u T => HB t u T.heap) (tA t)) args s 0 0 (tA t)) 4 t false 0 [(0, va_rf (some a0)), (1, va_rf (some p1)), (2, va_rf p2)] [] G := by
  unfold w_S_stageGroup at hwp
  refine kw_aload_n (pc := 0) X d_S_stageGroup_0 rfl 0 rfl ?_
  obtain ⟨f1, hwp⟩ := hwp
  refine kg_66 (a := a0) (pc := 1) X d_S_stageGroup_1 x_367 rfl f1 ?_
  refine kw_iconst (v := 2) (pc := 4) X d_S_stageGroup_4 (by decide) ?_
  obtain ⟨a2, h_a2, hwp⟩ := hwp
  obtain ⟨f3, hwp⟩ := hwp
  refine kW.st (st' := [.int (2 : Int32), .ref a2]) (by simp only [h_a2]; rfl) ?_
  refine kcVp_i (n := 1) (As := [.int (2 : Int32)]) (rest := []) (pc := 5) X (c_Message_givesText l t G a2 (2 : Int32) _) (cwV_of (C := "TreeServer$Message") X x_882 x_879 x_880 x_881 x_9 (by decide +kernel) ⟨rfl, rfl⟩ (by decide)) (rv_5 X f3) rfl rfl (by decide) d_S_stageGroup_5 hwp (fun v4 hwp => ?_)
  obtain ⟨b_v4, hwp⟩ := hwp
  refine kw_if_ne (tgt := 14) (pc := 8) X d_S_stageGroup_8 (by decide) (fun h => ?_) (fun h => ?_)
  · have hwp := ite_t h hwp
    refine kw_aload_n (pc := 14) X d_S_stageGroup_14 rfl 0 rfl ?_
    refine kg_66 (a := a0) (pc := 15) X d_S_stageGroup_15 x_367 rfl f1 ?_
    refine kw_iconst (v := 2) (pc := 18) X d_S_stageGroup_18 (by decide) ?_
    refine kW.st (st' := [.int (2 : Int32), .ref a2]) (by simp only [h_a2]; rfl) ?_
    refine kcVp_q (n := 1) (As := [.int (2 : Int32)]) (rest := []) (pc := 19) X (c_Message_userNamed l t G a2 (2 : Int32) _) (cwV_of (C := "TreeServer$Message") X x_667 x_664 x_665 x_666 x_9 (by decide +kernel) ⟨rfl, rfl⟩ (by decide)) (rv_5 X f3) rfl rfl (by decide) d_S_stageGroup_19 hwp (fun x5 hwp => ?_)
    refine kw_astore_n (i := 3) (lv' := [(3, va_rf x5), (0, va_rf (some a0)), (1, va_rf (some p1)), (2, va_rf p2)]) (pc := 22) X d_S_stageGroup_22 rfl (by decide) (by simp [rf_cat, cat_i, cat_l, cat_r]) ?_
    refine kw_aload_n (pc := 23) X d_S_stageGroup_23 rfl 0 rfl ?_
    refine kw_ifnonnull (tgt := 31) (pc := 24) X d_S_stageGroup_24 (by decide) (fun h => ?_) (fun h => ?_)
    · have hwp := ite_t h hwp
      refine kw_aload_n (pc := 31) X d_S_stageGroup_31 rfl 3 rfl ?_
      refine kw_aload_n (pc := 32) X d_S_stageGroup_32 rfl 2 rfl ?_
      obtain ⟨f6, hwp⟩ := hwp
      refine kg_4 (a := p1) (pc := 33) X d_S_stageGroup_33 x_61 rfl f6 ?_
      refine kw_acmp_ne (tgt := 47) (pc := 36) X d_S_stageGroup_36 (by decide) (fun h => ?_) (fun h => ?_)
      · have hwp := ite_t h hwp
        refine kw_ldcwS (j := 15) (pc := 47) X d_S_stageGroup_47 (by decide) rfl ?_
        exact kr_q (pc := 50) X hret d_S_stageGroup_50 (Or.inl ⟨_, rfl⟩) hwp
      · have hwp := ite_f (not_not_intro h) hwp
        refine kw_aload_n (pc := 39) X d_S_stageGroup_39 rfl 3 rfl ?_
        refine kw_aload_n (pc := 40) X d_S_stageGroup_40 rfl 0 rfl ?_
        obtain ⟨a7, h_a7, hwp⟩ := hwp
        obtain ⟨f8, hwp⟩ := hwp
        refine kW.st (st' := [va_rf x5, .ref a7]) (by simp only [h_a7]; rfl) ?_
        refine kcVp_i (n := 1) (As := [va_rf x5]) (rest := []) (pc := 41) X (c_User_isIn l t G a7 x5 _) (cwV_of (C := "TreeServer$User") X x_443 x_900 x_441 x_442 x_5 (by decide +kernel) ⟨rfl, rfl⟩ (by decide)) (rv_U X f8) rfl rfl (by decide) d_S_stageGroup_41 hwp (fun v9 hwp => ?_)
        obtain ⟨b_v9, hwp⟩ := hwp
        refine kw_if_ne (tgt := 51) (pc := 44) X d_S_stageGroup_44 (by decide) (fun h => ?_) (fun h => ?_)
        · have hwp := ite_t h hwp
          refine kw_aload_n (pc := 51) X d_S_stageGroup_51 rfl 1 rfl ?_
          refine kg_65 (a := a0) (pc := 52) X d_S_stageGroup_52 x_366 rfl f1 ?_
          refine kw_aload_n (pc := 55) X d_S_stageGroup_55 rfl 0 rfl ?_
          obtain ⟨a10, h_a10, hwp⟩ := hwp
          obtain ⟨f11, hwp⟩ := hwp
          refine kp_30 (a := a10) (x := x5) (pc := 56) X rfl d_S_stageGroup_56 x_182 h_a10 f11 ?_
          obtain ⟨G12, e_G12⟩ : ∃ g, g = sr G 30 a10 x5 := ⟨_, rfl⟩
          have hwp := hwp G12 e_G12
          refine kW.g e_G12.symm ?_
          refine kw_ldcS (tx := "") (j := 2) (pc := 59) X d_S_stageGroup_59 (by decide) rfl ?_
          exact kr_q (pc := 61) X hret d_S_stageGroup_61 (Or.inl ⟨_, rfl⟩) hwp
        · have hwp := ite_f (not_not_intro h) hwp
          refine kw_ldcwS (j := 15) (pc := 47) X d_S_stageGroup_47 (by decide) rfl ?_
          exact kr_q (pc := 50) X hret d_S_stageGroup_50 (Or.inl ⟨_, rfl⟩) hwp
    · have hwp := ite_f (not_not_intro h) hwp
      refine kw_ldcwS (j := 10) (pc := 27) X d_S_stageGroup_27 (by decide) rfl ?_
      exact kr_q (pc := 30) X hret d_S_stageGroup_30 (Or.inl ⟨_, rfl⟩) hwp
  · have hwp := ite_f (not_not_intro h) hwp
    refine kw_ldcS (tx := "") (j := 2) (pc := 11) X d_S_stageGroup_11 (by decide) rfl ?_
    exact kr_q (pc := 13) X hret d_S_stageGroup_13 (Or.inl ⟨_, rfl⟩) hwp
set_option maxRecDepth 100000 in
set_option maxHeartbeats 4000000 in
theorem c_S_stageGroup (l : Launch) (t : TY) (G : GS) (a0 : Nat) (p1 : Nat) (p2 : Option Nat) (K : GS → Option Nat → Prop) : Met l y_S_stageGroup (Cond.code y_S_stageGroup b_S_stageGroup 4 (Option.some (Jvm.ClassFile.FieldType.object "java/lang/String")) :: GW) rm_S_stageGroup (va_Pc [.ref a0, .ref p1, va_rf p2] (fun U => HB t G U.heap ∧ HK t U ∧ w_S_stageGroup t G a0 p1 p2 K)) (va_Qq (fun r (u : GS) => K u r) (fun u T => HB t u T.heap) (tA t)) 0 0 (tA t) := by
  refine Met.ofW (cc := b_S_stageGroup) (maxL := 4) (ret := some (.object "java/lang/String")) (by decide) rfl ?_
  intro p e s m args below meth c s₁ B hml hv
  obtain ⟨rfl, hB, hK, hwp⟩ := hv
  have hts := atoms_spec (ws := Cond.code y_S_stageGroup b_S_stageGroup 4 (Option.some (Jvm.ClassFile.FieldType.object "java/lang/String")) :: GW) B.pre
  have X : kX p s m _ meth c b_S_stageGroup 4 "TreeServer" t := ⟨B.exec, B.bytes, hml, findClass_of_methodNamed B.named, fun w h => hts w (List.mem_cons_of_mem _ h), B.notSynchronized, hK⟩
  have hZ : kZ t false s G s.heap [] := ⟨hB, va_S.rf, fun _ => ⟨rfl, rfl⟩⟩
  rw [lg_entry_eq]
  have hl := lv_entry ([.ref a0, .ref p1, va_rf p2]) (n := 4) (by simp [lg_sl, rf_cat, cat_i, cat_l, cat_r])
  rw [show lv_args 0 [.ref a0, .ref p1, va_rf p2] = [(0, .ref a0), (1, .ref p1), (2, va_rf p2)] from by simp [lv_args, rf_cat, cat_i, cat_l, cat_r]] at hl
  exact k_S_stageGroup X B.returns _ _ _ hwp s.heap [] _ hl hZ
abbrev b_S_stageName : ByteArray := prog_1_method_49_code
def y_S_stageName : MethodName := ⟨"TreeServer", "stageName", "(LTreeServer$Node;LTreeServer$User;)Ljava/lang/String;"⟩
theorem d_S_stageName_0 : decode b_S_stageName 0 = .ok (.aload_n 0, 1) := by decide +kernel
theorem d_S_stageName_1 : decode b_S_stageName 1 = .ok (.getfield 33, 3) := by decide +kernel
theorem d_S_stageName_4 : decode b_S_stageName 4 = .ok (.iconst 0, 1) := by decide +kernel
theorem d_S_stageName_5 : decode b_S_stageName 5 = .ok (.invokevirtual 552, 3) := by decide +kernel
theorem d_S_stageName_8 : decode b_S_stageName 8 = .ok (.ifCond .ne 6, 3) := by decide +kernel
theorem d_S_stageName_11 : decode b_S_stageName 11 = .ok (.ldc 174, 2) := by decide +kernel
theorem d_S_stageName_13 : decode b_S_stageName 13 = .ok (.areturn, 1) := by decide +kernel
theorem d_S_stageName_14 : decode b_S_stageName 14 = .ok (.aload_n 1, 1) := by decide +kernel
theorem d_S_stageName_15 : decode b_S_stageName 15 = .ok (.getfield 267, 3) := by decide +kernel
theorem d_S_stageName_18 : decode b_S_stageName 18 = .ok (.ifnonnull 7, 3) := by decide +kernel
theorem d_S_stageName_21 : decode b_S_stageName 21 = .ok (.ldc_w 370, 3) := by decide +kernel
theorem d_S_stageName_24 : decode b_S_stageName 24 = .ok (.areturn, 1) := by decide +kernel
theorem d_S_stageName_25 : decode b_S_stageName 25 = .ok (.aload_n 0, 1) := by decide +kernel
theorem d_S_stageName_26 : decode b_S_stageName 26 = .ok (.getfield 33, 3) := by decide +kernel
theorem d_S_stageName_29 : decode b_S_stageName 29 = .ok (.iconst 0, 1) := by decide +kernel
theorem d_S_stageName_30 : decode b_S_stageName 30 = .ok (.invokevirtual 422, 3) := by decide +kernel
theorem d_S_stageName_33 : decode b_S_stageName 33 = .ok (.ifCond .ne 7, 3) := by decide +kernel
theorem d_S_stageName_36 : decode b_S_stageName 36 = .ok (.ldc_w 425, 3) := by decide +kernel
theorem d_S_stageName_39 : decode b_S_stageName 39 = .ok (.areturn, 1) := by decide +kernel
theorem d_S_stageName_40 : decode b_S_stageName 40 = .ok (.aload_n 1, 1) := by decide +kernel
theorem d_S_stageName_41 : decode b_S_stageName 41 = .ok (.getfield 267, 3) := by decide +kernel
theorem d_S_stageName_44 : decode b_S_stageName 44 = .ok (.aload_n 2, 1) := by decide +kernel
theorem d_S_stageName_45 : decode b_S_stageName 45 = .ok (.iconst 2, 1) := by decide +kernel
theorem d_S_stageName_46 : decode b_S_stageName 46 = .ok (.invokevirtual 279, 3) := by decide +kernel
theorem d_S_stageName_49 : decode b_S_stageName 49 = .ok (.ifCond .ne 7, 3) := by decide +kernel
theorem d_S_stageName_52 : decode b_S_stageName 52 = .ok (.ldc_w 370, 3) := by decide +kernel
theorem d_S_stageName_55 : decode b_S_stageName 55 = .ok (.areturn, 1) := by decide +kernel
theorem d_S_stageName_56 : decode b_S_stageName 56 = .ok (.aload_n 0, 1) := by decide +kernel
theorem d_S_stageName_57 : decode b_S_stageName 57 = .ok (.getfield 10, 3) := by decide +kernel
theorem d_S_stageName_60 : decode b_S_stageName 60 = .ok (.aload_n 1, 1) := by decide +kernel
theorem d_S_stageName_61 : decode b_S_stageName 61 = .ok (.getfield 267, 3) := by decide +kernel
theorem d_S_stageName_64 : decode b_S_stageName 64 = .ok (.aload_n 0, 1) := by decide +kernel
theorem d_S_stageName_65 : decode b_S_stageName 65 = .ok (.getfield 33, 3) := by decide +kernel
theorem d_S_stageName_68 : decode b_S_stageName 68 = .ok (.iconst 0, 1) := by decide +kernel
theorem d_S_stageName_69 : decode b_S_stageName 69 = .ok (.invokevirtual 381, 3) := by decide +kernel
theorem d_S_stageName_72 : decode b_S_stageName 72 = .ok (.astore_n 3, 1) := by decide +kernel
theorem d_S_stageName_73 : decode b_S_stageName 73 = .ok (.aload_n 3, 1) := by decide +kernel
theorem d_S_stageName_74 : decode b_S_stageName 74 = .ok (.ifnull 12, 3) := by decide +kernel
theorem d_S_stageName_77 : decode b_S_stageName 77 = .ok (.aload_n 3, 1) := by decide +kernel
theorem d_S_stageName_78 : decode b_S_stageName 78 = .ok (.aload_n 1, 1) := by decide +kernel
theorem d_S_stageName_79 : decode b_S_stageName 79 = .ok (.if_acmp .eq 7, 3) := by decide +kernel
theorem d_S_stageName_82 : decode b_S_stageName 82 = .ok (.ldc_w 429, 3) := by decide +kernel
theorem d_S_stageName_85 : decode b_S_stageName 85 = .ok (.areturn, 1) := by decide +kernel
theorem d_S_stageName_86 : decode b_S_stageName 86 = .ok (.aload_n 0, 1) := by decide +kernel
theorem d_S_stageName_87 : decode b_S_stageName 87 = .ok (.getfield 26, 3) := by decide +kernel
theorem d_S_stageName_90 : decode b_S_stageName 90 = .ok (.aload_n 0, 1) := by decide +kernel
theorem d_S_stageName_91 : decode b_S_stageName 91 = .ok (.getfield 33, 3) := by decide +kernel
theorem d_S_stageName_94 : decode b_S_stageName 94 = .ok (.iconst 0, 1) := by decide +kernel
theorem d_S_stageName_95 : decode b_S_stageName 95 = .ok (.aload_n 0, 1) := by decide +kernel
theorem d_S_stageName_96 : decode b_S_stageName 96 = .ok (.getfield 26, 3) := by decide +kernel
theorem d_S_stageName_99 : decode b_S_stageName 99 = .ok (.getfield 442, 3) := by decide +kernel
theorem d_S_stageName_102 : decode b_S_stageName 102 = .ok (.invokevirtual 445, 3) := by decide +kernel
theorem d_S_stageName_105 : decode b_S_stageName 105 = .ok (.putfield 449, 3) := by decide +kernel
theorem d_S_stageName_108 : decode b_S_stageName 108 = .ok (.ldc 174, 2) := by decide +kernel
theorem d_S_stageName_110 : decode b_S_stageName 110 = .ok (.areturn, 1) := by decide +kernel
abbrev rm_S_stageName : Room := { frames := 3, cells := 0, slots := 0, locals := 73 }
set_option maxRecDepth 100000 in
set_option maxHeartbeats 4000000 in
theorem k_S_stageName_86 {p : Program} {l : Launch} {e : Env} {s : State} {m : MethodId} {args : Array Value} {below : List Frame} {meth : Method} {c : Code} {t : TY} {a0 : Nat} {K : GS → Option Nat → Prop} (X : kX p s m args meth c b_S_stageName 4 "TreeServer" t) (hret : meth.sig.returnType = some (.object "java/lang/String"))  (G : GS) (hwp : w_S_stageName_86 t a0 K G) : kW p l e rm_S_stageName s m args below meth c (MQ below (va_Qq (fun r (u : GS) => K u r) (fun u T => HB t u T.heap) (tA t)) args s 0 0 (tA t)) 4 t false 86 [(0, va_rf (some a0))] [] G := by
  unfold w_S_stageName_86 at hwp
  refine kw_aload_n (pc := 86) X d_S_stageName_86 rfl 0 rfl ?_
  obtain ⟨f1, hwp⟩ := hwp
  refine kg_65 (a := a0) (pc := 87) X d_S_stageName_87 x_366 rfl f1 ?_
  refine kw_aload_n (pc := 90) X d_S_stageName_90 rfl 0 rfl ?_
  refine kg_66 (a := a0) (pc := 91) X d_S_stageName_91 x_367 rfl f1 ?_
  refine kw_iconst (v := 0) (pc := 94) X d_S_stageName_94 (by decide) ?_
  refine kw_aload_n (pc := 95) X d_S_stageName_95 rfl 0 rfl ?_
  refine kg_65 (a := a0) (pc := 96) X d_S_stageName_96 x_366 rfl f1 ?_
  obtain ⟨a2, h_a2, hwp⟩ := hwp
  obtain ⟨f3, hwp⟩ := hwp
  refine kg_31 (a := a2) (pc := 99) X d_S_stageName_99 x_184 h_a2 f3 ?_
  obtain ⟨a4, h_a4, hwp⟩ := hwp
  obtain ⟨f5, hwp⟩ := hwp
  obtain ⟨a6, h_a6, hwp⟩ := hwp
  refine kW.st (st' := [.ref a6, .int (0 : Int32), .ref a4, va_rf (gr G 65 a0)]) (by simp only [h_a6, h_a4]; rfl) ?_
  refine kcV_i (n := 2) (As := [.int (0 : Int32), .ref a6]) (rest := [va_rf (gr G 65 a0)]) (pc := 102) X rfl (c_Message_copyText l t G a4 (0 : Int32) a6 _) (cwV_of (C := "TreeServer$Message") X x_800 x_797 x_798 x_799 x_9 (by decide +kernel) ⟨rfl, rfl⟩ (by decide)) (rv_5 X f5) rfl rfl (by simp [rf_cat, cat_i, cat_l, cat_r]) d_S_stageName_102 hwp (fun v8 G7 hwp => ?_)
  refine kp_32 (a := a2) (x := v8) (pc := 105) X rfl d_S_stageName_105 x_186 h_a2 f3 ?_
  obtain ⟨G9, e_G9⟩ : ∃ g, g = si G7 32 a2 v8 := ⟨_, rfl⟩
  have hwp := hwp G9 e_G9
  refine kW.g e_G9.symm ?_
  refine kw_ldcS (tx := "") (j := 2) (pc := 108) X d_S_stageName_108 (by decide) rfl ?_
  exact kr_q (pc := 110) X hret d_S_stageName_110 (Or.inl ⟨_, rfl⟩) hwp
set_option maxRecDepth 100000 in
set_option maxHeartbeats 4000000 in
theorem k_S_stageName {p : Program} {l : Launch} {e : Env} {s : State} {m : MethodId} {args : Array Value} {below : List Frame} {meth : Method} {c : Code} {t : TY} {a0 : Nat} {K : GS → Option Nat → Prop} (X : kX p s m args meth c b_S_stageName 4 "TreeServer" t) (hret : meth.sig.returnType = some (.object "java/lang/String")) (G : GS) (p1 : Nat) (p2 : Option Nat) (hwp : w_S_stageName t G a0 p1 p2 K) : kW p l e rm_S_stageName s m args below meth c (MQ below (va_Qq (fun r (u : GS) => K u r) (fun u T => HB t u T.heap) (tA t)) args s 0 0 (tA t)) 4 t false 0 [(0, va_rf (some a0)), (1, va_rf (some p1)), (2, va_rf p2)] [] G := by
  unfold w_S_stageName at hwp
  refine kw_aload_n (pc := 0) X d_S_stageName_0 rfl 0 rfl ?_
  obtain ⟨f1, hwp⟩ := hwp
  refine kg_66 (a := a0) (pc := 1) X d_S_stageName_1 x_367 rfl f1 ?_
  refine kw_iconst (v := 0) (pc := 4) X d_S_stageName_4 (by decide) ?_
  obtain ⟨a2, h_a2, hwp⟩ := hwp
  obtain ⟨f3, hwp⟩ := hwp
  refine kW.st (st' := [.int (0 : Int32), .ref a2]) (by simp only [h_a2]; rfl) ?_
  refine kcVp_i (n := 1) (As := [.int (0 : Int32)]) (rest := []) (pc := 5) X (c_Message_givesText l t G a2 (0 : Int32) _) (cwV_of (C := "TreeServer$Message") X x_882 x_879 x_880 x_881 x_9 (by decide +kernel) ⟨rfl, rfl⟩ (by decide)) (rv_5 X f3) rfl rfl (by decide) d_S_stageName_5 hwp (fun v4 hwp => ?_)
  obtain ⟨b_v4, hwp⟩ := hwp
  refine kw_if_ne (tgt := 14) (pc := 8) X d_S_stageName_8 (by decide) (fun h => ?_) (fun h => ?_)
  · have hwp := ite_t h hwp
    refine kw_aload_n (pc := 14) X d_S_stageName_14 rfl 1 rfl ?_
    obtain ⟨f5, hwp⟩ := hwp
    refine kg_7 (a := p1) (pc := 15) X d_S_stageName_15 x_71 rfl f5 ?_
    refine kw_ifnonnull (tgt := 25) (pc := 18) X d_S_stageName_18 (by decide) (fun h => ?_) (fun h => ?_)
    · have hwp := ite_t h hwp
      refine kw_aload_n (pc := 25) X d_S_stageName_25 rfl 0 rfl ?_
      refine kg_66 (a := a0) (pc := 26) X d_S_stageName_26 x_367 rfl f1 ?_
      refine kw_iconst (v := 0) (pc := 29) X d_S_stageName_29 (by decide) ?_
      refine kW.st (st' := [.int (0 : Int32), .ref a2]) (by simp only [h_a2]; rfl) ?_
      refine kcVp_i (n := 1) (As := [.int (0 : Int32)]) (rest := []) (pc := 30) X (c_Message_nameFits l t G a2 (0 : Int32) _) (cwV_of (C := "TreeServer$Message") X x_774 x_771 x_772 x_773 x_9 (by decide +kernel) ⟨rfl, rfl⟩ (by decide)) (rv_5 X f3) rfl rfl (by decide) d_S_stageName_30 hwp (fun v6 hwp => ?_)
      obtain ⟨b_v6, hwp⟩ := hwp
      refine kw_if_ne (tgt := 40) (pc := 33) X d_S_stageName_33 (by decide) (fun h => ?_) (fun h => ?_)
      · have hwp := ite_t h hwp
        refine kw_aload_n (pc := 40) X d_S_stageName_40 rfl 1 rfl ?_
        refine kg_7 (a := p1) (pc := 41) X d_S_stageName_41 x_71 rfl f5 ?_
        refine kw_aload_n (pc := 44) X d_S_stageName_44 rfl 2 rfl ?_
        refine kw_iconst (v := 2) (pc := 45) X d_S_stageName_45 (by decide) ?_
        obtain ⟨a7, h_a7, hwp⟩ := hwp
        obtain ⟨f8, hwp⟩ := hwp
        refine kW.st (st' := [.int (2 : Int32), va_rf p2, .ref a7]) (by simp only [h_a7]; rfl) ?_
        refine kcVp_i (n := 2) (As := [va_rf p2, .int (2 : Int32)]) (rest := []) (pc := 46) X (c_Node_lets l t G a7 p2 (2 : Int32) _) (cwV_of (C := "TreeServer$Node") X x_439 x_436 x_437 x_438 x_3 (by decide +kernel) ⟨rfl, rfl⟩ (by decide)) (rv_1 X f8) rfl rfl (by decide) d_S_stageName_46 hwp (fun v9 hwp => ?_)
        obtain ⟨b_v9, hwp⟩ := hwp
        refine kw_if_ne (tgt := 56) (pc := 49) X d_S_stageName_49 (by decide) (fun h => ?_) (fun h => ?_)
        · have hwp := ite_t h hwp
          refine kw_aload_n (pc := 56) X d_S_stageName_56 rfl 0 rfl ?_
          refine kg_63 (a := a0) (pc := 57) X d_S_stageName_57 x_364 rfl f1 ?_
          refine kw_aload_n (pc := 60) X d_S_stageName_60 rfl 1 rfl ?_
          refine kg_7 (a := p1) (pc := 61) X d_S_stageName_61 x_71 rfl f5 ?_
          refine kw_aload_n (pc := 64) X d_S_stageName_64 rfl 0 rfl ?_
          refine kg_66 (a := a0) (pc := 65) X d_S_stageName_65 x_367 rfl f1 ?_
          refine kw_iconst (v := 0) (pc := 68) X d_S_stageName_68 (by decide) ?_
          obtain ⟨a10, h_a10, hwp⟩ := hwp
          obtain ⟨f11, hwp⟩ := hwp
          refine kW.st (st' := [.int (0 : Int32), .ref a2, .ref a7, .ref a10]) (by simp only [h_a7, h_a2, h_a10]; rfl) ?_
          refine kcVp_q (n := 3) (As := [.ref a7, .ref a2, .int (0 : Int32)]) (rest := []) (pc := 69) X (c_Tree_entry l t G a10 a7 a2 (0 : Int32) _) (cwV_of (C := "TreeServer$Tree") X x_710 x_707 x_708 x_709 x_2 (by decide +kernel) ⟨rfl, rfl⟩ (by decide)) (rv_2 X f11) rfl rfl (by decide) d_S_stageName_69 hwp (fun x12 hwp => ?_)
          refine kw_astore_n (i := 3) (lv' := [(3, va_rf x12), (0, va_rf (some a0)), (1, va_rf (some p1)), (2, va_rf p2)]) (pc := 72) X d_S_stageName_72 rfl (by decide) (by simp [rf_cat, cat_i, cat_l, cat_r]) ?_
          refine kw_aload_n (pc := 73) X d_S_stageName_73 rfl 0 rfl ?_
          refine kw_ifnull (tgt := 86) (pc := 74) X d_S_stageName_74 (by decide) (fun h => ?_) (fun h => ?_)
          · have hwp := ite_t h hwp
            exact kW.sub [1] rfl (k_S_stageName_86 X hret  _ hwp)
          · have hwp := ite_f h hwp
            refine kw_aload_n (pc := 77) X d_S_stageName_77 rfl 0 rfl ?_
            refine kw_aload_n (pc := 78) X d_S_stageName_78 rfl 2 rfl ?_
            refine kw_acmp_eq (tgt := 86) (pc := 79) X d_S_stageName_79 (by decide) (fun h => ?_) (fun h => ?_)
            · have hwp := ite_t h hwp
              exact kW.sub [1] rfl (k_S_stageName_86 X hret  _ hwp)
            · have hwp := ite_f h hwp
              refine kw_ldcwS (j := 22) (pc := 82) X d_S_stageName_82 (by decide) rfl ?_
              exact kr_q (pc := 85) X hret d_S_stageName_85 (Or.inl ⟨_, rfl⟩) hwp
        · have hwp := ite_f (not_not_intro h) hwp
          refine kw_ldcwS (j := 15) (pc := 52) X d_S_stageName_52 (by decide) rfl ?_
          exact kr_q (pc := 55) X hret d_S_stageName_55 (Or.inl ⟨_, rfl⟩) hwp
      · have hwp := ite_f (not_not_intro h) hwp
        refine kw_ldcwS (j := 21) (pc := 36) X d_S_stageName_36 (by decide) rfl ?_
        exact kr_q (pc := 39) X hret d_S_stageName_39 (Or.inl ⟨_, rfl⟩) hwp
    · have hwp := ite_f (not_not_intro h) hwp
      refine kw_ldcwS (j := 15) (pc := 21) X d_S_stageName_21 (by decide) rfl ?_
      exact kr_q (pc := 24) X hret d_S_stageName_24 (Or.inl ⟨_, rfl⟩) hwp
  · have hwp := ite_f (not_not_intro h) hwp
    refine kw_ldcS (tx := "") (j := 2) (pc := 11) X d_S_stageName_11 (by decide) rfl ?_
    exact kr_q (pc := 13) X hret d_S_stageName_13 (Or.inl ⟨_, rfl⟩) hwp
set_option maxRecDepth 100000 in
set_option maxHeartbeats 4000000 in
theorem c_S_stageName (l : Launch) (t : TY) (G : GS) (a0 : Nat) (p1 : Nat) (p2 : Option Nat) (K : GS → Option Nat → Prop) : Met l y_S_stageName (Cond.code y_S_stageName b_S_stageName 4 (Option.some (Jvm.ClassFile.FieldType.object "java/lang/String")) :: GW) rm_S_stageName (va_Pc [.ref a0, .ref p1, va_rf p2] (fun U => HB t G U.heap ∧ HK t U ∧ w_S_stageName t G a0 p1 p2 K)) (va_Qq (fun r (u : GS) => K u r) (fun u T => HB t u T.heap) (tA t)) 0 0 (tA t) := by
  refine Met.ofW (cc := b_S_stageName) (maxL := 4) (ret := some (.object "java/lang/String")) (by decide) rfl ?_
  intro p e s m args below meth c s₁ B hml hv
  obtain ⟨rfl, hB, hK, hwp⟩ := hv
  have hts := atoms_spec (ws := Cond.code y_S_stageName b_S_stageName 4 (Option.some (Jvm.ClassFile.FieldType.object "java/lang/String")) :: GW) B.pre
  have X : kX p s m _ meth c b_S_stageName 4 "TreeServer" t := ⟨B.exec, B.bytes, hml, findClass_of_methodNamed B.named, fun w h => hts w (List.mem_cons_of_mem _ h), B.notSynchronized, hK⟩
  have hZ : kZ t false s G s.heap [] := ⟨hB, va_S.rf, fun _ => ⟨rfl, rfl⟩⟩
  rw [lg_entry_eq]
  have hl := lv_entry ([.ref a0, .ref p1, va_rf p2]) (n := 4) (by simp [lg_sl, rf_cat, cat_i, cat_l, cat_r])
  rw [show lv_args 0 [.ref a0, .ref p1, va_rf p2] = [(0, .ref a0), (1, .ref p1), (2, va_rf p2)] from by simp [lv_args, rf_cat, cat_i, cat_l, cat_r]] at hl
  exact k_S_stageName X B.returns _ _ _ hwp s.heap [] _ hl hZ
abbrev b_Change_altersSomething : ByteArray := prog_3_method_3_code
def y_Change_altersSomething : MethodName := ⟨"TreeServer$Change", "altersSomething", "()Z"⟩
theorem d_Change_altersSomething_0 : decode b_Change_altersSomething 0 = .ok (.aload_n 0, 1) := by decide +kernel
theorem d_Change_altersSomething_1 : decode b_Change_altersSomething 1 = .ok (.getfield 44, 3) := by decide +kernel
theorem d_Change_altersSomething_4 : decode b_Change_altersSomething 4 = .ok (.ifCond .ge 31, 3) := by decide +kernel
theorem d_Change_altersSomething_7 : decode b_Change_altersSomething 7 = .ok (.aload_n 0, 1) := by decide +kernel
theorem d_Change_altersSomething_8 : decode b_Change_altersSomething 8 = .ok (.getfield 47, 3) := by decide +kernel
theorem d_Change_altersSomething_11 : decode b_Change_altersSomething 11 = .ok (.ifCond .ne 24, 3) := by decide +kernel
theorem d_Change_altersSomething_14 : decode b_Change_altersSomething 14 = .ok (.aload_n 0, 1) := by decide +kernel
theorem d_Change_altersSomething_15 : decode b_Change_altersSomething 15 = .ok (.getfield 51, 3) := by decide +kernel
theorem d_Change_altersSomething_18 : decode b_Change_altersSomething 18 = .ok (.ifCond .ne 17, 3) := by decide +kernel
theorem d_Change_altersSomething_21 : decode b_Change_altersSomething 21 = .ok (.aload_n 0, 1) := by decide +kernel
theorem d_Change_altersSomething_22 : decode b_Change_altersSomething 22 = .ok (.getfield 54, 3) := by decide +kernel
theorem d_Change_altersSomething_25 : decode b_Change_altersSomething 25 = .ok (.ifnonnull 10, 3) := by decide +kernel
theorem d_Change_altersSomething_28 : decode b_Change_altersSomething 28 = .ok (.aload_n 0, 1) := by decide +kernel
theorem d_Change_altersSomething_29 : decode b_Change_altersSomething 29 = .ok (.getfield 57, 3) := by decide +kernel
theorem d_Change_altersSomething_32 : decode b_Change_altersSomething 32 = .ok (.ifCond .le 7, 3) := by decide +kernel
theorem d_Change_altersSomething_35 : decode b_Change_altersSomething 35 = .ok (.iconst 1, 1) := by decide +kernel
theorem d_Change_altersSomething_36 : decode b_Change_altersSomething 36 = .ok (.goto 4, 3) := by decide +kernel
theorem d_Change_altersSomething_39 : decode b_Change_altersSomething 39 = .ok (.iconst 0, 1) := by decide +kernel
theorem d_Change_altersSomething_40 : decode b_Change_altersSomething 40 = .ok (.ireturn, 1) := by decide +kernel
abbrev rm_Change_altersSomething : Room := { frames := 0, cells := 0, slots := 0, locals := 0 }
set_option maxRecDepth 100000 in
set_option maxHeartbeats 4000000 in
theorem k_Change_altersSomething {p : Program} {l : Launch} {e : Env} {s : State} {m : MethodId} {args : Array Value} {below : List Frame} {meth : Method} {c : Code} {t : TY} {a0 : Nat} {G : GS} {K : Int32 → Prop} (X : kX p s m args meth c b_Change_altersSomething 1 "TreeServer$Change" t) (hret : meth.sig.returnType = some .boolean)  (hwp : w_Change_altersSomething t G a0 K) : kW p l e rm_Change_altersSomething s m args below meth c (MQ below (vp_Si (fun r => isB r ∧ K r)) args s 0 0 (fun _ => False)) 1 t true 0 [(0, va_rf (some a0))] [] G := by
  unfold w_Change_altersSomething at hwp
  refine kw_aload_n (pc := 0) X d_Change_altersSomething_0 rfl 0 rfl ?_
  obtain ⟨f1, hwp⟩ := hwp
  refine kg_25 (a := a0) (pc := 1) X d_Change_altersSomething_1 x_171 rfl f1 ?_
  refine kw_if_ge (tgt := 35) (pc := 4) X d_Change_altersSomething_4 (by decide) (fun h => ?_) (fun h => ?_)
  · have hwp := ite_t h hwp
    refine kw_iconst (v := 1) (pc := 35) X d_Change_altersSomething_35 (by decide) ?_
    refine kw_goto (tgt := 40) (pc := 36) X d_Change_altersSomething_36 (by decide) ?_
    exact krp_z (pc := 40) X hret d_Change_altersSomething_40 (Or.inr rfl) hwp
  · have hwp := ite_f h hwp
    refine kw_aload_n (pc := 7) X d_Change_altersSomething_7 rfl 0 rfl ?_
    refine kg_26 (a := a0) (pc := 8) X d_Change_altersSomething_8 x_173 rfl f1 ?_
    refine kw_if_ne (tgt := 35) (pc := 11) X d_Change_altersSomething_11 (by decide) (fun h => ?_) (fun h => ?_)
    · have hwp := ite_t h hwp
      refine kw_iconst (v := 1) (pc := 35) X d_Change_altersSomething_35 (by decide) ?_
      refine kw_goto (tgt := 40) (pc := 36) X d_Change_altersSomething_36 (by decide) ?_
      exact krp_z (pc := 40) X hret d_Change_altersSomething_40 (Or.inr rfl) hwp
    · have hwp := ite_f (not_not_intro h) hwp
      refine kw_aload_n (pc := 14) X d_Change_altersSomething_14 rfl 0 rfl ?_
      refine kg_28 (a := a0) (pc := 15) X d_Change_altersSomething_15 x_177 rfl f1 ?_
      refine kw_if_ne (tgt := 35) (pc := 18) X d_Change_altersSomething_18 (by decide) (fun h => ?_) (fun h => ?_)
      · have hwp := ite_t h hwp
        refine kw_iconst (v := 1) (pc := 35) X d_Change_altersSomething_35 (by decide) ?_
        refine kw_goto (tgt := 40) (pc := 36) X d_Change_altersSomething_36 (by decide) ?_
        exact krp_z (pc := 40) X hret d_Change_altersSomething_40 (Or.inr rfl) hwp
      · have hwp := ite_f (not_not_intro h) hwp
        refine kw_aload_n (pc := 21) X d_Change_altersSomething_21 rfl 0 rfl ?_
        refine kg_30 (a := a0) (pc := 22) X d_Change_altersSomething_22 x_181 rfl f1 ?_
        refine kw_ifnonnull (tgt := 35) (pc := 25) X d_Change_altersSomething_25 (by decide) (fun h => ?_) (fun h => ?_)
        · have hwp := ite_t h hwp
          refine kw_iconst (v := 1) (pc := 35) X d_Change_altersSomething_35 (by decide) ?_
          refine kw_goto (tgt := 40) (pc := 36) X d_Change_altersSomething_36 (by decide) ?_
          exact krp_z (pc := 40) X hret d_Change_altersSomething_40 (Or.inr rfl) hwp
        · have hwp := ite_f (not_not_intro h) hwp
          refine kw_aload_n (pc := 28) X d_Change_altersSomething_28 rfl 0 rfl ?_
          refine kg_32 (a := a0) (pc := 29) X d_Change_altersSomething_29 x_185 rfl f1 ?_
          refine kw_if_le (tgt := 39) (pc := 32) X d_Change_altersSomething_32 (by decide) (fun h => ?_) (fun h => ?_)
          · have hwp := ite_t h hwp
            refine kw_iconst (v := 0) (pc := 39) X d_Change_altersSomething_39 (by decide) ?_
            exact krp_z (pc := 40) X hret d_Change_altersSomething_40 (Or.inl rfl) hwp
          · have hwp := ite_f h hwp
            refine kw_iconst (v := 1) (pc := 35) X d_Change_altersSomething_35 (by decide) ?_
            refine kw_goto (tgt := 40) (pc := 36) X d_Change_altersSomething_36 (by decide) ?_
            exact krp_z (pc := 40) X hret d_Change_altersSomething_40 (Or.inr rfl) hwp
set_option maxRecDepth 100000 in
set_option maxHeartbeats 4000000 in
theorem c_Change_altersSomething (l : Launch) (t : TY) (G : GS) (a0 : Nat) (K : Int32 → Prop) : Met l y_Change_altersSomething (Cond.code y_Change_altersSomething b_Change_altersSomething 1 (Option.some Jvm.ClassFile.FieldType.boolean) :: GW) rm_Change_altersSomething (va_Pc [.ref a0] (fun U => HB t G U.heap ∧ HK t U ∧ w_Change_altersSomething t G a0 K)) (vp_Si (fun r => isB r ∧ K r)) 0 0 (fun _ => False) := by
  refine Met.ofW (cc := b_Change_altersSomething) (maxL := 1) (ret := some .boolean) (by decide) rfl ?_
  intro p e s m args below meth c s₁ B hml hv
  obtain ⟨rfl, hB, hK, hwp⟩ := hv
  have hts := atoms_spec (ws := Cond.code y_Change_altersSomething b_Change_altersSomething 1 (Option.some Jvm.ClassFile.FieldType.boolean) :: GW) B.pre
  have X : kX p s m _ meth c b_Change_altersSomething 1 "TreeServer$Change" t := ⟨B.exec, B.bytes, hml, findClass_of_methodNamed B.named, fun w h => hts w (List.mem_cons_of_mem _ h), B.notSynchronized, hK⟩
  have hZ : kZ t true s G s.heap [] := ⟨hB, va_S.rf, fun _ => ⟨rfl, rfl⟩⟩
  rw [lg_entry_eq]
  have hl := lv_entry ([.ref a0]) (n := 1) (by simp [lg_sl, rf_cat, cat_i, cat_l, cat_r])
  exact k_Change_altersSomething X B.returns hwp s.heap [] _ hl hZ
abbrev b_S_alter : ByteArray := prog_1_method_43_code
def y_S_alter : MethodName := ⟨"TreeServer", "alter", "(LTreeServer$Fid;)Ljava/lang/String;"⟩
theorem d_S_alter_0 : decode b_S_alter 0 = .ok (.aload_n 1, 1) := by decide +kernel
theorem d_S_alter_1 : decode b_S_alter 1 = .ok (.getfield 232, 3) := by decide +kernel
theorem d_S_alter_4 : decode b_S_alter 4 = .ok (.astore_n 2, 1) := by decide +kernel
theorem d_S_alter_5 : decode b_S_alter 5 = .ok (.aload_n 1, 1) := by decide +kernel
theorem d_S_alter_6 : decode b_S_alter 6 = .ok (.getfield 275, 3) := by decide +kernel
theorem d_S_alter_9 : decode b_S_alter 9 = .ok (.astore_n 3, 1) := by decide +kernel
theorem d_S_alter_10 : decode b_S_alter 10 = .ok (.aload_n 0, 1) := by decide +kernel
theorem d_S_alter_11 : decode b_S_alter 11 = .ok (.invokevirtual 525, 3) := by decide +kernel
theorem d_S_alter_14 : decode b_S_alter 14 = .ok (.ifCond .eq 7, 3) := by decide +kernel
theorem d_S_alter_17 : decode b_S_alter 17 = .ok (.ldc_w 528, 3) := by decide +kernel
theorem d_S_alter_20 : decode b_S_alter 20 = .ok (.areturn, 1) := by decide +kernel
theorem d_S_alter_21 : decode b_S_alter 21 = .ok (.aload_n 0, 1) := by decide +kernel
theorem d_S_alter_22 : decode b_S_alter 22 = .ok (.getfield 26, 3) := by decide +kernel
theorem d_S_alter_25 : decode b_S_alter 25 = .ok (.getstatic 408, 3) := by decide +kernel
theorem d_S_alter_28 : decode b_S_alter 28 = .ok (.aload_n 2, 1) := by decide +kernel
theorem d_S_alter_29 : decode b_S_alter 29 = .ok (.aload_n 3, 1) := by decide +kernel
theorem d_S_alter_30 : decode b_S_alter 30 = .ok (.aload_n 0, 1) := by decide +kernel
theorem d_S_alter_31 : decode b_S_alter 31 = .ok (.getfield 95, 3) := by decide +kernel
theorem d_S_alter_34 : decode b_S_alter 34 = .ok (.invokevirtual 289, 3) := by decide +kernel
theorem d_S_alter_37 : decode b_S_alter 37 = .ok (.aload_n 0, 1) := by decide +kernel
theorem d_S_alter_38 : decode b_S_alter 38 = .ok (.aload_n 2, 1) := by decide +kernel
theorem d_S_alter_39 : decode b_S_alter 39 = .ok (.aload_n 3, 1) := by decide +kernel
theorem d_S_alter_40 : decode b_S_alter 40 = .ok (.invokevirtual 530, 3) := by decide +kernel
theorem d_S_alter_43 : decode b_S_alter 43 = .ok (.astore 4, 2) := by decide +kernel
theorem d_S_alter_45 : decode b_S_alter 45 = .ok (.aload 4, 2) := by decide +kernel
theorem d_S_alter_47 : decode b_S_alter 47 = .ok (.invokevirtual 144, 3) := by decide +kernel
theorem d_S_alter_50 : decode b_S_alter 50 = .ok (.ifCond .eq 11, 3) := by decide +kernel
theorem d_S_alter_53 : decode b_S_alter 53 = .ok (.aload_n 0, 1) := by decide +kernel
theorem d_S_alter_54 : decode b_S_alter 54 = .ok (.aload_n 2, 1) := by decide +kernel
theorem d_S_alter_55 : decode b_S_alter 55 = .ok (.aload_n 3, 1) := by decide +kernel
theorem d_S_alter_56 : decode b_S_alter 56 = .ok (.invokevirtual 533, 3) := by decide +kernel
theorem d_S_alter_59 : decode b_S_alter 59 = .ok (.astore 4, 2) := by decide +kernel
theorem d_S_alter_61 : decode b_S_alter 61 = .ok (.aload 4, 2) := by decide +kernel
theorem d_S_alter_63 : decode b_S_alter 63 = .ok (.invokevirtual 144, 3) := by decide +kernel
theorem d_S_alter_66 : decode b_S_alter 66 = .ok (.ifCond .eq 11, 3) := by decide +kernel
theorem d_S_alter_69 : decode b_S_alter 69 = .ok (.aload_n 0, 1) := by decide +kernel
theorem d_S_alter_70 : decode b_S_alter 70 = .ok (.aload_n 2, 1) := by decide +kernel
theorem d_S_alter_71 : decode b_S_alter 71 = .ok (.aload_n 3, 1) := by decide +kernel
theorem d_S_alter_72 : decode b_S_alter 72 = .ok (.invokevirtual 536, 3) := by decide +kernel
theorem d_S_alter_75 : decode b_S_alter 75 = .ok (.astore 4, 2) := by decide +kernel
theorem d_S_alter_77 : decode b_S_alter 77 = .ok (.aload 4, 2) := by decide +kernel
theorem d_S_alter_79 : decode b_S_alter 79 = .ok (.invokevirtual 144, 3) := by decide +kernel
theorem d_S_alter_82 : decode b_S_alter 82 = .ok (.ifCond .eq 11, 3) := by decide +kernel
theorem d_S_alter_85 : decode b_S_alter 85 = .ok (.aload_n 0, 1) := by decide +kernel
theorem d_S_alter_86 : decode b_S_alter 86 = .ok (.aload_n 2, 1) := by decide +kernel
theorem d_S_alter_87 : decode b_S_alter 87 = .ok (.aload_n 3, 1) := by decide +kernel
theorem d_S_alter_88 : decode b_S_alter 88 = .ok (.invokevirtual 539, 3) := by decide +kernel
theorem d_S_alter_91 : decode b_S_alter 91 = .ok (.astore 4, 2) := by decide +kernel
theorem d_S_alter_93 : decode b_S_alter 93 = .ok (.aload 4, 2) := by decide +kernel
theorem d_S_alter_95 : decode b_S_alter 95 = .ok (.invokevirtual 144, 3) := by decide +kernel
theorem d_S_alter_98 : decode b_S_alter 98 = .ok (.ifCond .eq 11, 3) := by decide +kernel
theorem d_S_alter_101 : decode b_S_alter 101 = .ok (.aload_n 0, 1) := by decide +kernel
theorem d_S_alter_102 : decode b_S_alter 102 = .ok (.aload_n 2, 1) := by decide +kernel
theorem d_S_alter_103 : decode b_S_alter 103 = .ok (.aload_n 3, 1) := by decide +kernel
theorem d_S_alter_104 : decode b_S_alter 104 = .ok (.invokevirtual 542, 3) := by decide +kernel
theorem d_S_alter_107 : decode b_S_alter 107 = .ok (.astore 4, 2) := by decide +kernel
theorem d_S_alter_109 : decode b_S_alter 109 = .ok (.aload 4, 2) := by decide +kernel
theorem d_S_alter_111 : decode b_S_alter 111 = .ok (.invokevirtual 144, 3) := by decide +kernel
theorem d_S_alter_114 : decode b_S_alter 114 = .ok (.ifCond .eq 24, 3) := by decide +kernel
theorem d_S_alter_117 : decode b_S_alter 117 = .ok (.aload_n 0, 1) := by decide +kernel
theorem d_S_alter_118 : decode b_S_alter 118 = .ok (.getfield 26, 3) := by decide +kernel
theorem d_S_alter_121 : decode b_S_alter 121 = .ok (.invokevirtual 545, 3) := by decide +kernel
theorem d_S_alter_124 : decode b_S_alter 124 = .ok (.ifCond .eq 14, 3) := by decide +kernel
theorem d_S_alter_127 : decode b_S_alter 127 = .ok (.aload_n 0, 1) := by decide +kernel
theorem d_S_alter_128 : decode b_S_alter 128 = .ok (.aload_n 0, 1) := by decide +kernel
theorem d_S_alter_129 : decode b_S_alter 129 = .ok (.getfield 33, 3) := by decide +kernel
theorem d_S_alter_132 : decode b_S_alter 132 = .ok (.getfield 413, 3) := by decide +kernel
theorem d_S_alter_135 : decode b_S_alter 135 = .ok (.invokevirtual 257, 3) := by decide +kernel
theorem d_S_alter_138 : decode b_S_alter 138 = .ok (.aload 4, 2) := by decide +kernel
theorem d_S_alter_140 : decode b_S_alter 140 = .ok (.areturn, 1) := by decide +kernel
abbrev rm_S_alter : Room := { frames := 7, cells := 0, slots := 0, locals := 169 }
set_option maxRecDepth 100000 in
set_option maxHeartbeats 4000000 in
theorem k_S_alter_109 {p : Program} {l : Launch} {e : Env} {s : State} {m : MethodId} {args : Array Value} {below : List Frame} {meth : Method} {c : Code} {t : TY} {a0 : Nat} {K : GS → Option Nat → Prop} (X : kX p s m args meth c b_S_alter 5 "TreeServer" t) (hret : meth.sig.returnType = some (.object "java/lang/String")) (l4 : Option Nat) (G : GS) (hwp : w_S_alter_109 t a0 K l4 G) : kW p l e rm_S_alter s m args below meth c (MQ below (va_Qq (fun r (u : GS) => K u r) (fun u T => HB t u T.heap) (tA t)) args s 0 0 (tA t)) 5 t false 109 [(0, va_rf (some a0)), (4, va_rf l4)] [] G := by
  unfold w_S_alter_109 at hwp
  refine kw_aload (pc := 109) X d_S_alter_109 1 rfl ?_
  obtain ⟨j2, g_j2, h_j2, hwp⟩ := hwp
  refine kc_str_isEmpty (j := j2) (pc := 111) X d_S_alter_111 x_570 g_j2 h_j2 (by decide) (by decide) ?_
  obtain ⟨v1, e_v1⟩ : ∃ z, z = (if slen j2 = 0 then (1 : Int32) else 0) := ⟨_, rfl⟩
  rw [← e_v1] at hwp ⊢
  have b_v1 : isB v1 := by rw [e_v1]; unfold isB; split <;> simp
  refine kw_if_eq (tgt := 138) (pc := 114) X d_S_alter_114 (by decide) (fun h => ?_) (fun h => ?_)
  · have hwp := ite_t h hwp
    refine kw_aload (pc := 138) X d_S_alter_138 1 rfl ?_
    exact kr_q (pc := 140) X hret d_S_alter_140 (Or.inl ⟨_, rfl⟩) hwp
  · have hwp := ite_f h hwp
    refine kw_aload_n (pc := 117) X d_S_alter_117 rfl 0 rfl ?_
    obtain ⟨f3, hwp⟩ := hwp
    refine kg_65 (a := a0) (pc := 118) X d_S_alter_118 x_366 rfl f3 ?_
    obtain ⟨a4, h_a4, hwp⟩ := hwp
    obtain ⟨f5, hwp⟩ := hwp
    refine kW.st (st' := [.ref a4]) (by simp only [h_a4]; rfl) ?_
    refine kcVp_i (n := 0) (As := []) (rest := []) (pc := 121) X (c_Change_altersSomething l t G a4 _) (cwV_of (C := "TreeServer$Change") X x_908 x_905 x_906 x_907 x_7 (by decide +kernel) ⟨rfl, rfl⟩ (by decide)) (rv_4 X f5) rfl rfl (by decide) d_S_alter_121 hwp (fun v6 hwp => ?_)
    obtain ⟨b_v6, hwp⟩ := hwp
    refine kw_if_eq (tgt := 138) (pc := 124) X d_S_alter_124 (by decide) (fun h => ?_) (fun h => ?_)
    · have hwp := ite_t h hwp
      refine kw_aload (pc := 138) X d_S_alter_138 1 rfl ?_
      exact kr_q (pc := 140) X hret d_S_alter_140 (Or.inl ⟨_, rfl⟩) hwp
    · have hwp := ite_f h hwp
      refine kw_aload_n (pc := 127) X d_S_alter_127 rfl 0 rfl ?_
      refine kw_aload_n (pc := 128) X d_S_alter_128 rfl 0 rfl ?_
      refine kg_66 (a := a0) (pc := 129) X d_S_alter_129 x_367 rfl f3 ?_
      obtain ⟨a7, h_a7, hwp⟩ := hwp
      obtain ⟨f8, hwp⟩ := hwp
      refine kg_37 (a := a7) (pc := 132) X d_S_alter_132 x_232 h_a7 f8 ?_
      refine kcV_v (n := 1) (As := [.int (gi G 37 a7)]) (rest := []) (pc := 135) X rfl (c_S_carryOut l t G a0 (gi G 37 a7) _) (cwV_of (C := "TreeServer") X x_456 x_453 x_455 xp_5 x_1 (by decide +kernel) ⟨rfl, rfl⟩ (by decide)) (rv_9 X f3) rfl rfl (by decide) d_S_alter_135 hwp (fun G9 hwp => ?_)
      refine kw_aload (pc := 138) X d_S_alter_138 1 rfl ?_
      exact kr_q (pc := 140) X hret d_S_alter_140 (Or.inl ⟨_, rfl⟩) hwp
set_option maxRecDepth 100000 in
set_option maxHeartbeats 4000000 in
theorem k_S_alter_93 {p : Program} {l : Launch} {e : Env} {s : State} {m : MethodId} {args : Array Value} {below : List Frame} {meth : Method} {c : Code} {t : TY} {a0 : Nat} {K : GS → Option Nat → Prop} (X : kX p s m args meth c b_S_alter 5 "TreeServer" t) (hret : meth.sig.returnType = some (.object "java/lang/String")) (l2 : Option Nat) (l3 : Option Nat) (l4 : Option Nat) (G : GS) (hwp : w_S_alter_93 t a0 K l2 l3 l4 G) : kW p l e rm_S_alter s m args below meth c (MQ below (va_Qq (fun r (u : GS) => K u r) (fun u T => HB t u T.heap) (tA t)) args s 0 0 (tA t)) 5 t false 93 [(0, va_rf (some a0)), (2, va_rf l2), (3, va_rf l3), (4, va_rf l4)] [] G := by
  unfold w_S_alter_93 at hwp
  refine kw_aload (pc := 93) X d_S_alter_93 3 rfl ?_
  obtain ⟨j2, g_j2, h_j2, hwp⟩ := hwp
  refine kc_str_isEmpty (j := j2) (pc := 95) X d_S_alter_95 x_570 g_j2 h_j2 (by decide) (by decide) ?_
  obtain ⟨v1, e_v1⟩ : ∃ z, z = (if slen j2 = 0 then (1 : Int32) else 0) := ⟨_, rfl⟩
  rw [← e_v1] at hwp ⊢
  have b_v1 : isB v1 := by rw [e_v1]; unfold isB; split <;> simp
  refine kw_if_eq (tgt := 109) (pc := 98) X d_S_alter_98 (by decide) (fun h => ?_) (fun h => ?_)
  · have hwp := ite_t h hwp
    exact kW.sub [0, 3] rfl (k_S_alter_109 X hret  _ _ hwp)
  · have hwp := ite_f h hwp
    refine kw_aload_n (pc := 101) X d_S_alter_101 rfl 0 rfl ?_
    refine kw_aload_n (pc := 102) X d_S_alter_102 rfl 1 rfl ?_
    refine kw_aload_n (pc := 103) X d_S_alter_103 rfl 2 rfl ?_
    obtain ⟨f3, hwp⟩ := hwp
    obtain ⟨a4, h_a4, hwp⟩ := hwp
    refine kW.st (st' := [va_rf l3, .ref a4, .ref a0]) (by simp only [h_a4]; rfl) ?_
    refine kcV_q (n := 2) (As := [.ref a4, va_rf l3]) (rest := []) (pc := 104) X rfl (c_S_stageName l t G a0 a4 l3 _) (cwV_of (C := "TreeServer") X x_904 x_901 x_903 xp_35 x_1 (by decide +kernel) ⟨rfl, rfl⟩ (by decide)) (rv_9 X f3) rfl rfl (by decide) d_S_alter_104 hwp (fun x6 G5 hwp => ?_)
    refine kw_astore (i := 4) (lv' := [(4, va_rf x6), (0, va_rf (some a0)), (2, va_rf l2), (3, va_rf l3)]) (pc := 107) X d_S_alter_107 (by decide) (by simp [rf_cat, cat_i, cat_l, cat_r]) ?_
    exact kW.sub [1, 0] rfl (k_S_alter_109 X hret  _ _ hwp)
set_option maxRecDepth 100000 in
set_option maxHeartbeats 4000000 in
theorem k_S_alter_77 {p : Program} {l : Launch} {e : Env} {s : State} {m : MethodId} {args : Array Value} {below : List Frame} {meth : Method} {c : Code} {t : TY} {a0 : Nat} {K : GS → Option Nat → Prop} (X : kX p s m args meth c b_S_alter 5 "TreeServer" t) (hret : meth.sig.returnType = some (.object "java/lang/String")) (l2 : Option Nat) (l3 : Option Nat) (l4 : Option Nat) (G : GS) (hwp : w_S_alter_77 t a0 K l2 l3 l4 G) : kW p l e rm_S_alter s m args below meth c (MQ below (va_Qq (fun r (u : GS) => K u r) (fun u T => HB t u T.heap) (tA t)) args s 0 0 (tA t)) 5 t false 77 [(0, va_rf (some a0)), (2, va_rf l2), (3, va_rf l3), (4, va_rf l4)] [] G := by
  unfold w_S_alter_77 at hwp
  refine kw_aload (pc := 77) X d_S_alter_77 3 rfl ?_
  obtain ⟨j2, g_j2, h_j2, hwp⟩ := hwp
  refine kc_str_isEmpty (j := j2) (pc := 79) X d_S_alter_79 x_570 g_j2 h_j2 (by decide) (by decide) ?_
  obtain ⟨v1, e_v1⟩ : ∃ z, z = (if slen j2 = 0 then (1 : Int32) else 0) := ⟨_, rfl⟩
  rw [← e_v1] at hwp ⊢
  have b_v1 : isB v1 := by rw [e_v1]; unfold isB; split <;> simp
  refine kw_if_eq (tgt := 93) (pc := 82) X d_S_alter_82 (by decide) (fun h => ?_) (fun h => ?_)
  · have hwp := ite_t h hwp
    exact kW.sub [0, 1, 2, 3] rfl (k_S_alter_93 X hret  _ _ _ _ hwp)
  · have hwp := ite_f h hwp
    refine kw_aload_n (pc := 85) X d_S_alter_85 rfl 0 rfl ?_
    refine kw_aload_n (pc := 86) X d_S_alter_86 rfl 1 rfl ?_
    refine kw_aload_n (pc := 87) X d_S_alter_87 rfl 2 rfl ?_
    obtain ⟨f3, hwp⟩ := hwp
    obtain ⟨a4, h_a4, hwp⟩ := hwp
    refine kW.st (st' := [va_rf l3, .ref a4, .ref a0]) (by simp only [h_a4]; rfl) ?_
    refine kcV_q (n := 2) (As := [.ref a4, va_rf l3]) (rest := []) (pc := 88) X rfl (c_S_stageGroup l t G a0 a4 l3 _) (cwV_of (C := "TreeServer") X x_899 x_896 x_898 xp_34 x_1 (by decide +kernel) ⟨rfl, rfl⟩ (by decide)) (rv_9 X f3) rfl rfl (by decide) d_S_alter_88 hwp (fun x6 G5 hwp => ?_)
    refine kw_astore (i := 4) (lv' := [(4, va_rf x6), (0, va_rf (some a0)), (2, va_rf l2), (3, va_rf l3)]) (pc := 91) X d_S_alter_91 (by decide) (by simp [rf_cat, cat_i, cat_l, cat_r]) ?_
    exact kW.sub [1, 2, 3, 0] rfl (k_S_alter_93 X hret  _ _ _ _ hwp)
set_option maxRecDepth 100000 in
set_option maxHeartbeats 4000000 in
theorem k_S_alter_61 {p : Program} {l : Launch} {e : Env} {s : State} {m : MethodId} {args : Array Value} {below : List Frame} {meth : Method} {c : Code} {t : TY} {a0 : Nat} {K : GS → Option Nat → Prop} (X : kX p s m args meth c b_S_alter 5 "TreeServer" t) (hret : meth.sig.returnType = some (.object "java/lang/String")) (l2 : Option Nat) (l3 : Option Nat) (l4 : Option Nat) (G : GS) (hwp : w_S_alter_61 t a0 K l2 l3 l4 G) : kW p l e rm_S_alter s m args below meth c (MQ below (va_Qq (fun r (u : GS) => K u r) (fun u T => HB t u T.heap) (tA t)) args s 0 0 (tA t)) 5 t false 61 [(0, va_rf (some a0)), (2, va_rf l2), (3, va_rf l3), (4, va_rf l4)] [] G := by
  unfold w_S_alter_61 at hwp
  refine kw_aload (pc := 61) X d_S_alter_61 3 rfl ?_
  obtain ⟨j2, g_j2, h_j2, hwp⟩ := hwp
  refine kc_str_isEmpty (j := j2) (pc := 63) X d_S_alter_63 x_570 g_j2 h_j2 (by decide) (by decide) ?_
  obtain ⟨v1, e_v1⟩ : ∃ z, z = (if slen j2 = 0 then (1 : Int32) else 0) := ⟨_, rfl⟩
  rw [← e_v1] at hwp ⊢
  have b_v1 : isB v1 := by rw [e_v1]; unfold isB; split <;> simp
  refine kw_if_eq (tgt := 77) (pc := 66) X d_S_alter_66 (by decide) (fun h => ?_) (fun h => ?_)
  · have hwp := ite_t h hwp
    exact kW.sub [0, 1, 2, 3] rfl (k_S_alter_77 X hret  _ _ _ _ hwp)
  · have hwp := ite_f h hwp
    refine kw_aload_n (pc := 69) X d_S_alter_69 rfl 0 rfl ?_
    refine kw_aload_n (pc := 70) X d_S_alter_70 rfl 1 rfl ?_
    refine kw_aload_n (pc := 71) X d_S_alter_71 rfl 2 rfl ?_
    obtain ⟨f3, hwp⟩ := hwp
    obtain ⟨a4, h_a4, hwp⟩ := hwp
    refine kW.st (st' := [va_rf l3, .ref a4, .ref a0]) (by simp only [h_a4]; rfl) ?_
    refine kcV_q (n := 2) (As := [.ref a4, va_rf l3]) (rest := []) (pc := 72) X rfl (c_S_stageMtime l t G a0 a4 l3 _) (cwV_of (C := "TreeServer") X x_895 x_892 x_894 xp_33 x_1 (by decide +kernel) ⟨rfl, rfl⟩ (by decide)) (rv_9 X f3) rfl rfl (by decide) d_S_alter_72 hwp (fun x6 G5 hwp => ?_)
    refine kw_astore (i := 4) (lv' := [(4, va_rf x6), (0, va_rf (some a0)), (2, va_rf l2), (3, va_rf l3)]) (pc := 75) X d_S_alter_75 (by decide) (by simp [rf_cat, cat_i, cat_l, cat_r]) ?_
    exact kW.sub [1, 2, 3, 0] rfl (k_S_alter_77 X hret  _ _ _ _ hwp)
set_option maxRecDepth 100000 in
set_option maxHeartbeats 4000000 in
theorem k_S_alter {p : Program} {l : Launch} {e : Env} {s : State} {m : MethodId} {args : Array Value} {below : List Frame} {meth : Method} {c : Code} {t : TY} {a0 : Nat} {K : GS → Option Nat → Prop} (X : kX p s m args meth c b_S_alter 5 "TreeServer" t) (hret : meth.sig.returnType = some (.object "java/lang/String")) (G : GS) (p1 : Nat) (hwp : w_S_alter t G a0 p1 K) : kW p l e rm_S_alter s m args below meth c (MQ below (va_Qq (fun r (u : GS) => K u r) (fun u T => HB t u T.heap) (tA t)) args s 0 0 (tA t)) 5 t false 0 [(0, va_rf (some a0)), (1, va_rf (some p1))] [] G := by
  unfold w_S_alter at hwp
  refine kw_aload_n (pc := 0) X d_S_alter_0 rfl 1 rfl ?_
  obtain ⟨f1, hwp⟩ := hwp
  refine kg_48 (a := p1) (pc := 1) X d_S_alter_1 x_300 rfl f1 ?_
  refine kw_astore_n (i := 2) (lv' := [(2, va_rf (gr G 48 p1)), (0, va_rf (some a0)), (1, va_rf (some p1))]) (pc := 4) X d_S_alter_4 rfl (by decide) rfl ?_
  refine kw_aload_n (pc := 5) X d_S_alter_5 rfl 2 rfl ?_
  refine kg_50 (a := p1) (pc := 6) X d_S_alter_6 x_303 rfl f1 ?_
  refine kw_astore_n (i := 3) (lv' := [(3, va_rf (gr G 50 p1)), (2, va_rf (gr G 48 p1)), (0, va_rf (some a0)), (1, va_rf (some p1))]) (pc := 9) X d_S_alter_9 rfl (by decide) (by simp [rf_cat, cat_i, cat_l, cat_r]) ?_
  refine kw_aload_n (pc := 10) X d_S_alter_10 rfl 2 rfl ?_
  obtain ⟨f2, hwp⟩ := hwp
  refine kcVp_i (n := 0) (As := []) (rest := []) (pc := 11) X (c_S_givesFixedPart l t G a0 _) (cwV_of (C := "TreeServer") X x_873 x_870 x_872 xp_30 x_1 (by decide +kernel) ⟨rfl, rfl⟩ (by decide)) (rv_9 X f2) rfl rfl (by decide) d_S_alter_11 hwp (fun v3 hwp => ?_)
  obtain ⟨b_v3, hwp⟩ := hwp
  refine kw_if_eq (tgt := 21) (pc := 14) X d_S_alter_14 (by decide) (fun h => ?_) (fun h => ?_)
  · have hwp := ite_t h hwp
    refine kw_aload_n (pc := 21) X d_S_alter_21 rfl 2 rfl ?_
    refine kg_65 (a := a0) (pc := 22) X d_S_alter_22 x_366 rfl f2 ?_
    refine ks_6 (pc := 25) X d_S_alter_25 x_766 ?_
    refine kw_aload_n (pc := 28) X d_S_alter_28 rfl 1 rfl ?_
    refine kw_aload_n (pc := 29) X d_S_alter_29 rfl 0 rfl ?_
    refine kw_aload_n (pc := 30) X d_S_alter_30 rfl 2 rfl ?_
    refine kg_69 (a := a0) (pc := 31) X d_S_alter_31 x_370 rfl f2 ?_
    obtain ⟨a4, h_a4, hwp⟩ := hwp
    obtain ⟨f5, hwp⟩ := hwp
    obtain ⟨a6, h_a6, hwp⟩ := hwp
    refine kW.st (st' := [.int (gi G 69 a0), va_rf (gr G 50 p1), .ref a6, va_rf (some (tad t 6)), .ref a4]) (by simp only [h_a6, h_a4]; rfl) ?_
    refine kcV_v (n := 4) (As := [va_rf (some (tad t 6)), .ref a6, va_rf (gr G 50 p1), .int (gi G 69 a0)]) (rest := []) (pc := 34) X rfl (c_Change_begin l t G a4 (some (tad t 6)) a6 (gr G 50 p1) (gi G 69 a0) _) (cwV_of (C := "TreeServer$Change") X x_452 x_449 x_450 x_451 x_7 (by decide +kernel) ⟨rfl, rfl⟩ (by decide)) (rv_4 X f5) rfl rfl (by decide) d_S_alter_34 hwp (fun G7 hwp => ?_)
    refine kw_aload_n (pc := 37) X d_S_alter_37 rfl 2 rfl ?_
    refine kw_aload_n (pc := 38) X d_S_alter_38 rfl 1 rfl ?_
    refine kw_aload_n (pc := 39) X d_S_alter_39 rfl 0 rfl ?_
    refine kW.st (st' := [va_rf (gr G 50 p1), .ref a6, .ref a0]) (by simp only [h_a6]; rfl) ?_
    refine kcV_q (n := 2) (As := [.ref a6, va_rf (gr G 50 p1)]) (rest := []) (pc := 40) X rfl (c_S_stageLength l t G7 a0 a6 (gr G 50 p1) _) (cwV_of (C := "TreeServer") X x_887 x_884 x_886 xp_31 x_1 (by decide +kernel) ⟨rfl, rfl⟩ (by decide)) (rv_9 X f2) rfl rfl (by decide) d_S_alter_40 hwp (fun x9 G8 hwp => ?_)
    refine kw_astore (i := 4) (lv' := [(4, va_rf x9), (3, va_rf (gr G 50 p1)), (2, va_rf (gr G 48 p1)), (0, va_rf (some a0)), (1, va_rf (some p1))]) (pc := 43) X d_S_alter_43 (by decide) (by simp [rf_cat, cat_i, cat_l, cat_r]) ?_
    refine kw_aload (pc := 45) X d_S_alter_45 0 rfl ?_
    obtain ⟨j11, g_j11, h_j11, hwp⟩ := hwp
    refine kc_str_isEmpty (j := j11) (pc := 47) X d_S_alter_47 x_570 g_j11 h_j11 (by decide) (by decide) ?_
    obtain ⟨v10, e_v10⟩ : ∃ z, z = (if slen j11 = 0 then (1 : Int32) else 0) := ⟨_, rfl⟩
    rw [← e_v10] at hwp ⊢
    have b_v10 : isB v10 := by rw [e_v10]; unfold isB; split <;> simp
    refine kw_if_eq (tgt := 61) (pc := 50) X d_S_alter_50 (by decide) (fun h => ?_) (fun h => ?_)
    · have hwp := ite_t h hwp
      exact kW.sub [3, 2, 1, 0] rfl (k_S_alter_61 X hret  _ _ _ _ hwp)
    · have hwp := ite_f h hwp
      refine kw_aload_n (pc := 53) X d_S_alter_53 rfl 3 rfl ?_
      refine kw_aload_n (pc := 54) X d_S_alter_54 rfl 2 rfl ?_
      refine kw_aload_n (pc := 55) X d_S_alter_55 rfl 1 rfl ?_
      refine kW.st (st' := [va_rf (gr G 50 p1), .ref a6, .ref a0]) (by simp only [h_a6]; rfl) ?_
      refine kcV_q (n := 2) (As := [.ref a6, va_rf (gr G 50 p1)]) (rest := []) (pc := 56) X rfl (c_S_stageMode l t G8 a0 a6 (gr G 50 p1) _) (cwV_of (C := "TreeServer") X x_891 x_888 x_890 xp_32 x_1 (by decide +kernel) ⟨rfl, rfl⟩ (by decide)) (rv_9 X f2) rfl rfl (by decide) d_S_alter_56 hwp (fun x13 G12 hwp => ?_)
      refine kw_astore (i := 4) (lv' := [(4, va_rf x13), (3, va_rf (gr G 50 p1)), (2, va_rf (gr G 48 p1)), (0, va_rf (some a0)), (1, va_rf (some p1))]) (pc := 59) X d_S_alter_59 (by decide) (by simp [rf_cat, cat_i, cat_l, cat_r]) ?_
      exact kW.sub [3, 2, 1, 0] rfl (k_S_alter_61 X hret  _ _ _ _ hwp)
  · have hwp := ite_f h hwp
    refine kw_ldcwS (j := 25) (pc := 17) X d_S_alter_17 (by decide) rfl ?_
    exact kr_q (pc := 20) X hret d_S_alter_20 (Or.inl ⟨_, rfl⟩) hwp
set_option maxRecDepth 100000 in
set_option maxHeartbeats 4000000 in
theorem c_S_alter (l : Launch) (t : TY) (G : GS) (a0 : Nat) (p1 : Nat) (K : GS → Option Nat → Prop) : Met l y_S_alter (Cond.code y_S_alter b_S_alter 5 (Option.some (Jvm.ClassFile.FieldType.object "java/lang/String")) :: GW) rm_S_alter (va_Pc [.ref a0, .ref p1] (fun U => HB t G U.heap ∧ HK t U ∧ w_S_alter t G a0 p1 K)) (va_Qq (fun r (u : GS) => K u r) (fun u T => HB t u T.heap) (tA t)) 0 0 (tA t) := by
  refine Met.ofW (cc := b_S_alter) (maxL := 5) (ret := some (.object "java/lang/String")) (by decide) rfl ?_
  intro p e s m args below meth c s₁ B hml hv
  obtain ⟨rfl, hB, hK, hwp⟩ := hv
  have hts := atoms_spec (ws := Cond.code y_S_alter b_S_alter 5 (Option.some (Jvm.ClassFile.FieldType.object "java/lang/String")) :: GW) B.pre
  have X : kX p s m _ meth c b_S_alter 5 "TreeServer" t := ⟨B.exec, B.bytes, hml, findClass_of_methodNamed B.named, fun w h => hts w (List.mem_cons_of_mem _ h), B.notSynchronized, hK⟩
  have hZ : kZ t false s G s.heap [] := ⟨hB, va_S.rf, fun _ => ⟨rfl, rfl⟩⟩
  rw [lg_entry_eq]
  have hl := lv_entry ([.ref a0, .ref p1]) (n := 5) (by simp [lg_sl, rf_cat, cat_i, cat_l, cat_r])
  exact k_S_alter X B.returns _ _ hwp s.heap [] _ hl hZ
abbrev b_S_handleWithFid : ByteArray := prog_1_method_20_code
def y_S_handleWithFid : MethodName := ⟨"TreeServer", "handleWithFid", "(LTreeServer$Link;)Ljava/lang/String;"⟩
theorem d_S_handleWithFid_0 : decode b_S_handleWithFid 0 = .ok (.aload_n 1, 1) := by decide +kernel
theorem d_S_handleWithFid_1 : decode b_S_handleWithFid 1 = .ok (.aload_n 0, 1) := by decide +kernel
theorem d_S_handleWithFid_2 : decode b_S_handleWithFid 2 = .ok (.getfield 33, 3) := by decide +kernel
theorem d_S_handleWithFid_5 : decode b_S_handleWithFid 5 = .ok (.bipush 7, 2) := by decide +kernel
theorem d_S_handleWithFid_7 : decode b_S_handleWithFid 7 = .ok (.iconst 4, 1) := by decide +kernel
theorem d_S_handleWithFid_8 : decode b_S_handleWithFid 8 = .ok (.invokevirtual 178, 3) := by decide +kernel
theorem d_S_handleWithFid_11 : decode b_S_handleWithFid 11 = .ok (.invokevirtual 197, 3) := by decide +kernel
theorem d_S_handleWithFid_14 : decode b_S_handleWithFid 14 = .ok (.astore_n 2, 1) := by decide +kernel
theorem d_S_handleWithFid_15 : decode b_S_handleWithFid 15 = .ok (.aload_n 2, 1) := by decide +kernel
theorem d_S_handleWithFid_16 : decode b_S_handleWithFid 16 = .ok (.ifnonnull 6, 3) := by decide +kernel
theorem d_S_handleWithFid_19 : decode b_S_handleWithFid 19 = .ok (.ldc 201, 2) := by decide +kernel
theorem d_S_handleWithFid_21 : decode b_S_handleWithFid 21 = .ok (.areturn, 1) := by decide +kernel
theorem d_S_handleWithFid_22 : decode b_S_handleWithFid 22 = .ok (.aload_n 0, 1) := by decide +kernel
theorem d_S_handleWithFid_23 : decode b_S_handleWithFid 23 = .ok (.getfield 33, 3) := by decide +kernel
theorem d_S_handleWithFid_26 : decode b_S_handleWithFid 26 = .ok (.getfield 130, 3) := by decide +kernel
theorem d_S_handleWithFid_29 : decode b_S_handleWithFid 29 = .ok (.bipush 120, 2) := by decide +kernel
theorem d_S_handleWithFid_31 : decode b_S_handleWithFid 31 = .ok (.if_icmp .ne 9, 3) := by decide +kernel
theorem d_S_handleWithFid_34 : decode b_S_handleWithFid 34 = .ok (.aload_n 0, 1) := by decide +kernel
theorem d_S_handleWithFid_35 : decode b_S_handleWithFid 35 = .ok (.aload_n 2, 1) := by decide +kernel
theorem d_S_handleWithFid_36 : decode b_S_handleWithFid 36 = .ok (.invokevirtual 203, 3) := by decide +kernel
theorem d_S_handleWithFid_39 : decode b_S_handleWithFid 39 = .ok (.areturn, 1) := by decide +kernel
theorem d_S_handleWithFid_40 : decode b_S_handleWithFid 40 = .ok (.aload_n 0, 1) := by decide +kernel
theorem d_S_handleWithFid_41 : decode b_S_handleWithFid 41 = .ok (.getfield 33, 3) := by decide +kernel
theorem d_S_handleWithFid_44 : decode b_S_handleWithFid 44 = .ok (.getfield 130, 3) := by decide +kernel
theorem d_S_handleWithFid_47 : decode b_S_handleWithFid 47 = .ok (.bipush 122, 2) := by decide +kernel
theorem d_S_handleWithFid_49 : decode b_S_handleWithFid 49 = .ok (.if_icmp .ne 9, 3) := by decide +kernel
theorem d_S_handleWithFid_52 : decode b_S_handleWithFid 52 = .ok (.aload_n 0, 1) := by decide +kernel
theorem d_S_handleWithFid_53 : decode b_S_handleWithFid 53 = .ok (.aload_n 2, 1) := by decide +kernel
theorem d_S_handleWithFid_54 : decode b_S_handleWithFid 54 = .ok (.invokevirtual 207, 3) := by decide +kernel
theorem d_S_handleWithFid_57 : decode b_S_handleWithFid 57 = .ok (.areturn, 1) := by decide +kernel
theorem d_S_handleWithFid_58 : decode b_S_handleWithFid 58 = .ok (.aload_n 2, 1) := by decide +kernel
theorem d_S_handleWithFid_59 : decode b_S_handleWithFid 59 = .ok (.invokevirtual 210, 3) := by decide +kernel
theorem d_S_handleWithFid_62 : decode b_S_handleWithFid 62 = .ok (.ifCond .eq 6, 3) := by decide +kernel
theorem d_S_handleWithFid_65 : decode b_S_handleWithFid 65 = .ok (.ldc 215, 2) := by decide +kernel
theorem d_S_handleWithFid_67 : decode b_S_handleWithFid 67 = .ok (.areturn, 1) := by decide +kernel
theorem d_S_handleWithFid_68 : decode b_S_handleWithFid 68 = .ok (.aload_n 0, 1) := by decide +kernel
theorem d_S_handleWithFid_69 : decode b_S_handleWithFid 69 = .ok (.getfield 33, 3) := by decide +kernel
theorem d_S_handleWithFid_72 : decode b_S_handleWithFid 72 = .ok (.getfield 130, 3) := by decide +kernel
theorem d_S_handleWithFid_75 : decode b_S_handleWithFid 75 = .ok (.tableswitch 102 112 124 #[65, 102, 71, 102, 77, 102, 87, 102, 102, 102, 102, 102, 93], 65) := by decide +kernel
theorem d_S_handleWithFid_140 : decode b_S_handleWithFid 140 = .ok (.aload_n 0, 1) := by decide +kernel
theorem d_S_handleWithFid_141 : decode b_S_handleWithFid 141 = .ok (.aload_n 2, 1) := by decide +kernel
theorem d_S_handleWithFid_142 : decode b_S_handleWithFid 142 = .ok (.invokevirtual 217, 3) := by decide +kernel
theorem d_S_handleWithFid_145 : decode b_S_handleWithFid 145 = .ok (.areturn, 1) := by decide +kernel
theorem d_S_handleWithFid_146 : decode b_S_handleWithFid 146 = .ok (.aload_n 0, 1) := by decide +kernel
theorem d_S_handleWithFid_147 : decode b_S_handleWithFid 147 = .ok (.aload_n 2, 1) := by decide +kernel
theorem d_S_handleWithFid_148 : decode b_S_handleWithFid 148 = .ok (.invokevirtual 220, 3) := by decide +kernel
theorem d_S_handleWithFid_151 : decode b_S_handleWithFid 151 = .ok (.areturn, 1) := by decide +kernel
theorem d_S_handleWithFid_152 : decode b_S_handleWithFid 152 = .ok (.aload_n 0, 1) := by decide +kernel
theorem d_S_handleWithFid_153 : decode b_S_handleWithFid 153 = .ok (.aload_n 2, 1) := by decide +kernel
theorem d_S_handleWithFid_154 : decode b_S_handleWithFid 154 = .ok (.aload_n 1, 1) := by decide +kernel
theorem d_S_handleWithFid_155 : decode b_S_handleWithFid 155 = .ok (.getfield 223, 3) := by decide +kernel
theorem d_S_handleWithFid_158 : decode b_S_handleWithFid 158 = .ok (.invokevirtual 225, 3) := by decide +kernel
theorem d_S_handleWithFid_161 : decode b_S_handleWithFid 161 = .ok (.areturn, 1) := by decide +kernel
theorem d_S_handleWithFid_162 : decode b_S_handleWithFid 162 = .ok (.aload_n 0, 1) := by decide +kernel
theorem d_S_handleWithFid_163 : decode b_S_handleWithFid 163 = .ok (.aload_n 2, 1) := by decide +kernel
theorem d_S_handleWithFid_164 : decode b_S_handleWithFid 164 = .ok (.invokevirtual 229, 3) := by decide +kernel
theorem d_S_handleWithFid_167 : decode b_S_handleWithFid 167 = .ok (.areturn, 1) := by decide +kernel
theorem d_S_handleWithFid_168 : decode b_S_handleWithFid 168 = .ok (.aload_n 0, 1) := by decide +kernel
theorem d_S_handleWithFid_169 : decode b_S_handleWithFid 169 = .ok (.aload_n 2, 1) := by decide +kernel
theorem d_S_handleWithFid_170 : decode b_S_handleWithFid 170 = .ok (.getfield 232, 3) := by decide +kernel
theorem d_S_handleWithFid_173 : decode b_S_handleWithFid 173 = .ok (.invokevirtual 236, 3) := by decide +kernel
theorem d_S_handleWithFid_176 : decode b_S_handleWithFid 176 = .ok (.areturn, 1) := by decide +kernel
theorem d_S_handleWithFid_177 : decode b_S_handleWithFid 177 = .ok (.aload_n 0, 1) := by decide +kernel
theorem d_S_handleWithFid_178 : decode b_S_handleWithFid 178 = .ok (.aload_n 2, 1) := by decide +kernel
theorem d_S_handleWithFid_179 : decode b_S_handleWithFid 179 = .ok (.invokevirtual 240, 3) := by decide +kernel
theorem d_S_handleWithFid_182 : decode b_S_handleWithFid 182 = .ok (.areturn, 1) := by decide +kernel
abbrev rm_S_handleWithFid : Room := { frames := 8, cells := 0, slots := 0, locals := 196 }
set_option maxRecDepth 100000 in
set_option maxHeartbeats 4000000 in
theorem k_S_handleWithFid_177 {p : Program} {l : Launch} {e : Env} {s : State} {m : MethodId} {args : Array Value} {below : List Frame} {meth : Method} {c : Code} {t : TY} {a0 : Nat} {K : GS → Option Nat → Prop} (X : kX p s m args meth c b_S_handleWithFid 3 "TreeServer" t) (hret : meth.sig.returnType = some (.object "java/lang/String")) (l2 : Option Nat) (G : GS) (hwp : w_S_handleWithFid_177 t a0 K l2 G) : kW p l e rm_S_handleWithFid s m args below meth c (MQ below (va_Qq (fun r (u : GS) => K u r) (fun u T => HB t u T.heap) (tA t)) args s 0 0 (tA t)) 3 t false 177 [(0, va_rf (some a0)), (2, va_rf l2)] [] G := by
  unfold w_S_handleWithFid_177 at hwp
  refine kw_aload_n (pc := 177) X d_S_handleWithFid_177 rfl 0 rfl ?_
  refine kw_aload_n (pc := 178) X d_S_handleWithFid_178 rfl 1 rfl ?_
  obtain ⟨f1, hwp⟩ := hwp
  obtain ⟨a2, h_a2, hwp⟩ := hwp
  refine kW.st (st' := [.ref a2, .ref a0]) (by simp only [h_a2]; rfl) ?_
  refine kcV_q (n := 1) (As := [.ref a2]) (rest := []) (pc := 179) X rfl (c_S_alter l t G a0 a2 _) (cwV_of (C := "TreeServer") X x_869 x_866 x_868 xp_29 x_1 (by decide +kernel) ⟨rfl, rfl⟩ (by decide)) (rv_9 X f1) rfl rfl (by decide) d_S_handleWithFid_179 hwp (fun x4 G3 hwp => ?_)
  exact kr_q (pc := 182) X hret d_S_handleWithFid_182 (Or.inl ⟨_, rfl⟩) hwp
set_option maxRecDepth 100000 in
set_option maxHeartbeats 4000000 in
theorem k_S_handleWithFid {p : Program} {l : Launch} {e : Env} {s : State} {m : MethodId} {args : Array Value} {below : List Frame} {meth : Method} {c : Code} {t : TY} {a0 : Nat} {K : GS → Option Nat → Prop} (X : kX p s m args meth c b_S_handleWithFid 3 "TreeServer" t) (hret : meth.sig.returnType = some (.object "java/lang/String")) (G : GS) (p1 : Nat) (hwp : w_S_handleWithFid t G a0 p1 K) : kW p l e rm_S_handleWithFid s m args below meth c (MQ below (va_Qq (fun r (u : GS) => K u r) (fun u T => HB t u T.heap) (tA t)) args s 0 0 (tA t)) 3 t false 0 [(0, va_rf (some a0)), (1, va_rf (some p1))] [] G := by
  unfold w_S_handleWithFid at hwp
  refine kw_aload_n (pc := 0) X d_S_handleWithFid_0 rfl 1 rfl ?_
  refine kw_aload_n (pc := 1) X d_S_handleWithFid_1 rfl 0 rfl ?_
  obtain ⟨f1, hwp⟩ := hwp
  refine kg_66 (a := a0) (pc := 2) X d_S_handleWithFid_2 x_367 rfl f1 ?_
  refine kw_bipush (v := 7) (pc := 5) X d_S_handleWithFid_5 (by decide) ?_
  refine kw_iconst (v := 4) (pc := 7) X d_S_handleWithFid_7 (by decide) ?_
  obtain ⟨a2, h_a2, hwp⟩ := hwp
  obtain ⟨f3, hwp⟩ := hwp
  refine kW.st (st' := [.int (4 : Int32), .int (7 : Int32), .ref a2, va_rf (some p1)]) (by simp only [h_a2]; rfl) ?_
  refine kcVp_l (n := 2) (As := [.int (7 : Int32), .int (4 : Int32)]) (rest := [va_rf (some p1)]) (pc := 8) X (c_Message_number l t G a2 (7 : Int32) (4 : Int32) _) (cwV_of (C := "TreeServer$Message") X x_541 x_578 x_539 x_540 x_9 (by decide +kernel) ⟨rfl, rfl⟩ (by decide)) (rv_5 X f3) rfl rfl (by simp [rf_cat, cat_i, cat_l, cat_r]) d_S_handleWithFid_8 hwp (fun v4 hwp => ?_)
  obtain ⟨f5, hwp⟩ := hwp
  refine kcVp_q (n := 1) (As := [.long v4]) (rest := []) (pc := 11) X (c_Link_find l t G p1 v4 _) (cwV_of (C := "TreeServer$Link") X x_656 x_653 x_654 x_655 x_11 (by decide +kernel) ⟨rfl, rfl⟩ (by decide)) (rv_8 X f5) rfl rfl (by decide) d_S_handleWithFid_11 hwp (fun x6 hwp => ?_)
  refine kw_astore_n (i := 2) (lv' := [(2, va_rf x6), (0, va_rf (some a0)), (1, va_rf (some p1))]) (pc := 14) X d_S_handleWithFid_14 rfl (by decide) rfl ?_
  refine kw_aload_n (pc := 15) X d_S_handleWithFid_15 rfl 0 rfl ?_
  refine kw_ifnonnull (tgt := 22) (pc := 16) X d_S_handleWithFid_16 (by decide) (fun h => ?_) (fun h => ?_)
  · have hwp := ite_t h hwp
    refine kw_aload_n (pc := 22) X d_S_handleWithFid_22 rfl 1 rfl ?_
    refine kg_66 (a := a0) (pc := 23) X d_S_handleWithFid_23 x_367 rfl f1 ?_
    refine kg_38 (a := a2) (pc := 26) X d_S_handleWithFid_26 x_234 h_a2 f3 ?_
    refine kw_bipush (v := 120) (pc := 29) X d_S_handleWithFid_29 (by decide) ?_
    refine kw_icmp_ne (tgt := 40) (pc := 31) X d_S_handleWithFid_31 (by decide) (fun h => ?_) (fun h => ?_)
    · have hwp := ite_t h hwp
      refine kw_aload_n (pc := 40) X d_S_handleWithFid_40 rfl 1 rfl ?_
      refine kg_66 (a := a0) (pc := 41) X d_S_handleWithFid_41 x_367 rfl f1 ?_
      refine kg_38 (a := a2) (pc := 44) X d_S_handleWithFid_44 x_234 h_a2 f3 ?_
      refine kw_bipush (v := 122) (pc := 47) X d_S_handleWithFid_47 (by decide) ?_
      refine kw_icmp_ne (tgt := 58) (pc := 49) X d_S_handleWithFid_49 (by decide) (fun h => ?_) (fun h => ?_)
      · have hwp := ite_t h hwp
        refine kw_aload_n (pc := 58) X d_S_handleWithFid_58 rfl 0 rfl ?_
        obtain ⟨a7, h_a7, hwp⟩ := hwp
        obtain ⟨f8, hwp⟩ := hwp
        refine kW.st (st' := [.ref a7]) (by simp only [h_a7]; rfl) ?_
        refine kcVp_i (n := 0) (As := []) (rest := []) (pc := 59) X (c_Fid_isGone l t G a7 _) (cwV_of (C := "TreeServer$Fid") X x_435 x_432 x_433 x_434 x_12 (by decide +kernel) ⟨rfl, rfl⟩ (by decide)) (rv_7 X f8) rfl rfl (by decide) d_S_handleWithFid_59 hwp (fun v9 hwp => ?_)
        obtain ⟨b_v9, hwp⟩ := hwp
        refine kw_if_eq (tgt := 68) (pc := 62) X d_S_handleWithFid_62 (by decide) (fun h => ?_) (fun h => ?_)
        · have hwp := ite_t h hwp
          refine kw_aload_n (pc := 68) X d_S_handleWithFid_68 rfl 1 rfl ?_
          refine kg_66 (a := a0) (pc := 69) X d_S_handleWithFid_69 x_367 rfl f1 ?_
          refine kg_38 (a := a2) (pc := 72) X d_S_handleWithFid_72 x_234 h_a2 f3 ?_
          obtain ⟨v10, e_v10⟩ : ∃ z, z = (gi G 38 a2) := ⟨_, rfl⟩
          have hwp := hwp v10 e_v10
          refine kW.st (st' := .int v10 :: _) (by rw [e_v10]) ?_
          by_cases q112 : v10 = (112 : Int32)
          · have hwp := ite_t q112 hwp
            refine kW.st (st' := .int (112 : Int32) :: _) (by rw [q112]) ?_
            refine kw_tableIn (off := 65) (tgt := 140) (pc := 75) X d_S_handleWithFid_75 (by decide) (by decide) (by decide) (by decide) ?_
            refine kw_aload_n (pc := 140) X d_S_handleWithFid_140 rfl 1 rfl ?_
            refine kw_aload_n (pc := 141) X d_S_handleWithFid_141 rfl 0 rfl ?_
            refine kW.st (st' := [.ref a7, .ref a0]) (by simp only [h_a7]; rfl) ?_
            refine kcV_q (n := 1) (As := [.ref a7]) (rest := []) (pc := 142) X rfl (c_S_open l t G a0 a7 _) (cwV_of (C := "TreeServer") X x_741 x_738 x_740 xp_20 x_1 (by decide +kernel) ⟨rfl, rfl⟩ (by decide)) (rv_9 X f1) rfl rfl (by decide) d_S_handleWithFid_142 hwp (fun x12 G11 hwp => ?_)
            exact kr_q (pc := 145) X hret d_S_handleWithFid_145 (Or.inl ⟨_, rfl⟩) hwp
          have hwp := ite_f q112 hwp
          by_cases q114 : v10 = (114 : Int32)
          · have hwp := ite_t q114 hwp
            refine kW.st (st' := .int (114 : Int32) :: _) (by rw [q114]) ?_
            refine kw_tableIn (off := 71) (tgt := 146) (pc := 75) X d_S_handleWithFid_75 (by decide) (by decide) (by decide) (by decide) ?_
            refine kw_aload_n (pc := 146) X d_S_handleWithFid_146 rfl 1 rfl ?_
            refine kw_aload_n (pc := 147) X d_S_handleWithFid_147 rfl 0 rfl ?_
            refine kW.st (st' := [.ref a7, .ref a0]) (by simp only [h_a7]; rfl) ?_
            refine kcV_q (n := 1) (As := [.ref a7]) (rest := []) (pc := 148) X rfl (c_S_create l t G a0 a7 _) (cwV_of (C := "TreeServer") X x_770 x_767 x_769 xp_22 x_1 (by decide +kernel) ⟨rfl, rfl⟩ (by decide)) (rv_9 X f1) rfl rfl (by decide) d_S_handleWithFid_148 hwp (fun x14 G13 hwp => ?_)
            exact kr_q (pc := 151) X hret d_S_handleWithFid_151 (Or.inl ⟨_, rfl⟩) hwp
          have hwp := ite_f q114 hwp
          by_cases q116 : v10 = (116 : Int32)
          · have hwp := ite_t q116 hwp
            refine kW.st (st' := .int (116 : Int32) :: _) (by rw [q116]) ?_
            refine kw_tableIn (off := 77) (tgt := 152) (pc := 75) X d_S_handleWithFid_75 (by decide) (by decide) (by decide) (by decide) ?_
            refine kw_aload_n (pc := 152) X d_S_handleWithFid_152 rfl 1 rfl ?_
            refine kw_aload_n (pc := 153) X d_S_handleWithFid_153 rfl 0 rfl ?_
            refine kw_aload_n (pc := 154) X d_S_handleWithFid_154 rfl 2 rfl ?_
            refine kg_59 (a := p1) (pc := 155) X d_S_handleWithFid_155 x_341 rfl f5 ?_
            refine kW.st (st' := [.int (gi G 59 p1), .ref a7, .ref a0]) (by simp only [h_a7]; rfl) ?_
            refine kcV_q (n := 2) (As := [.ref a7, .int (gi G 59 p1)]) (rest := []) (pc := 158) X rfl (c_S_read l t G a0 a7 (gi G 59 p1) _) (cwV_of (C := "TreeServer") X x_819 x_816 x_818 xp_24 x_1 (by decide +kernel) ⟨rfl, rfl⟩ (by decide)) (rv_9 X f1) rfl rfl (by decide) d_S_handleWithFid_158 hwp (fun x16 G15 hwp => ?_)
            exact kr_q (pc := 161) X hret d_S_handleWithFid_161 (Or.inl ⟨_, rfl⟩) hwp
          have hwp := ite_f q116 hwp
          by_cases q118 : v10 = (118 : Int32)
          · have hwp := ite_t q118 hwp
            refine kW.st (st' := .int (118 : Int32) :: _) (by rw [q118]) ?_
            refine kw_tableIn (off := 87) (tgt := 162) (pc := 75) X d_S_handleWithFid_75 (by decide) (by decide) (by decide) (by decide) ?_
            refine kw_aload_n (pc := 162) X d_S_handleWithFid_162 rfl 1 rfl ?_
            refine kw_aload_n (pc := 163) X d_S_handleWithFid_163 rfl 0 rfl ?_
            refine kW.st (st' := [.ref a7, .ref a0]) (by simp only [h_a7]; rfl) ?_
            refine kcV_q (n := 1) (As := [.ref a7]) (rest := []) (pc := 164) X rfl (c_S_write l t G a0 a7 _) (cwV_of (C := "TreeServer") X x_851 x_848 x_850 xp_27 x_1 (by decide +kernel) ⟨rfl, rfl⟩ (by decide)) (rv_9 X f1) rfl rfl (by decide) d_S_handleWithFid_164 hwp (fun x18 G17 hwp => ?_)
            exact kr_q (pc := 167) X hret d_S_handleWithFid_167 (Or.inl ⟨_, rfl⟩) hwp
          have hwp := ite_f q118 hwp
          by_cases q124 : v10 = (124 : Int32)
          · have hwp := ite_t q124 hwp
            refine kW.st (st' := .int (124 : Int32) :: _) (by rw [q124]) ?_
            refine kw_tableIn (off := 93) (tgt := 168) (pc := 75) X d_S_handleWithFid_75 (by decide) (by decide) (by decide) (by decide) ?_
            refine kw_aload_n (pc := 168) X d_S_handleWithFid_168 rfl 1 rfl ?_
            refine kw_aload_n (pc := 169) X d_S_handleWithFid_169 rfl 0 rfl ?_
            refine kg_48 (a := a7) (pc := 170) X d_S_handleWithFid_170 x_300 h_a7 f8 ?_
            obtain ⟨a19, h_a19, hwp⟩ := hwp
            refine kW.st (st' := [.ref a19, .ref a0]) (by simp only [h_a19]; rfl) ?_
            refine kcV_q (n := 1) (As := [.ref a19]) (rest := []) (pc := 173) X rfl (c_S_tell l t G a0 a19 _) (cwV_of (C := "TreeServer") X x_865 x_862 x_864 xp_28 x_1 (by decide +kernel) ⟨rfl, rfl⟩ (by decide)) (rv_9 X f1) rfl rfl (by decide) d_S_handleWithFid_173 hwp (fun x21 G20 hwp => ?_)
            exact kr_q (pc := 176) X hret d_S_handleWithFid_176 (Or.inl ⟨_, rfl⟩) hwp
          have hwp := ite_f q124 hwp
          refine kw_tableDef [(112 : Int32), (114 : Int32), (116 : Int32), (118 : Int32), (124 : Int32)] (tgt := 177) (pc := 75) X d_S_handleWithFid_75 (by decide +kernel) (by simp only [List.mem_cons, List.not_mem_nil, or_false, not_or]; exact ⟨q112, q114, q116, q118, q124⟩) (by decide) ?_
          exact kW.sub [1, 0] rfl (k_S_handleWithFid_177 X hret  _ _ hwp)
        · have hwp := ite_f h hwp
          refine kw_ldcS (tx := "") (j := 12) (pc := 65) X d_S_handleWithFid_65 (by decide) rfl ?_
          exact kr_q (pc := 67) X hret d_S_handleWithFid_67 (Or.inl ⟨_, rfl⟩) hwp
      · have hwp := ite_f (not_not_intro h) hwp
        refine kw_aload_n (pc := 52) X d_S_handleWithFid_52 rfl 1 rfl ?_
        refine kw_aload_n (pc := 53) X d_S_handleWithFid_53 rfl 0 rfl ?_
        obtain ⟨a22, h_a22, hwp⟩ := hwp
        refine kW.st (st' := [.ref a22, .ref a0]) (by simp only [h_a22]; rfl) ?_
        refine kcV_q (n := 1) (As := [.ref a22]) (rest := []) (pc := 54) X rfl (c_S_remove l t G a0 a22 _) (cwV_of (C := "TreeServer") X x_731 x_728 x_730 xp_19 x_1 (by decide +kernel) ⟨rfl, rfl⟩ (by decide)) (rv_9 X f1) rfl rfl (by decide) d_S_handleWithFid_54 hwp (fun x24 G23 hwp => ?_)
        exact kr_q (pc := 57) X hret d_S_handleWithFid_57 (Or.inl ⟨_, rfl⟩) hwp
    · have hwp := ite_f (not_not_intro h) hwp
      refine kw_aload_n (pc := 34) X d_S_handleWithFid_34 rfl 1 rfl ?_
      refine kw_aload_n (pc := 35) X d_S_handleWithFid_35 rfl 0 rfl ?_
      obtain ⟨a25, h_a25, hwp⟩ := hwp
      refine kW.st (st' := [.ref a25, .ref a0]) (by simp only [h_a25]; rfl) ?_
      refine kcV_q (n := 1) (As := [.ref a25]) (rest := []) (pc := 36) X rfl (c_S_clunk l t G a0 a25 _) (cwV_of (C := "TreeServer") X x_727 x_724 x_726 xp_18 x_1 (by decide +kernel) ⟨rfl, rfl⟩ (by decide)) (rv_9 X f1) rfl rfl (by decide) d_S_handleWithFid_36 hwp (fun x27 G26 hwp => ?_)
      exact kr_q (pc := 39) X hret d_S_handleWithFid_39 (Or.inl ⟨_, rfl⟩) hwp
  · have hwp := ite_f (not_not_intro h) hwp
    refine kw_ldcS (tx := "") (j := 11) (pc := 19) X d_S_handleWithFid_19 (by decide) rfl ?_
    exact kr_q (pc := 21) X hret d_S_handleWithFid_21 (Or.inl ⟨_, rfl⟩) hwp
set_option maxRecDepth 100000 in
set_option maxHeartbeats 4000000 in
theorem c_S_handleWithFid (l : Launch) (t : TY) (G : GS) (a0 : Nat) (p1 : Nat) (K : GS → Option Nat → Prop) : Met l y_S_handleWithFid (Cond.code y_S_handleWithFid b_S_handleWithFid 3 (Option.some (Jvm.ClassFile.FieldType.object "java/lang/String")) :: GW) rm_S_handleWithFid (va_Pc [.ref a0, .ref p1] (fun U => HB t G U.heap ∧ HK t U ∧ w_S_handleWithFid t G a0 p1 K)) (va_Qq (fun r (u : GS) => K u r) (fun u T => HB t u T.heap) (tA t)) 0 0 (tA t) := by
  refine Met.ofW (cc := b_S_handleWithFid) (maxL := 3) (ret := some (.object "java/lang/String")) (by decide) rfl ?_
  intro p e s m args below meth c s₁ B hml hv
  obtain ⟨rfl, hB, hK, hwp⟩ := hv
  have hts := atoms_spec (ws := Cond.code y_S_handleWithFid b_S_handleWithFid 3 (Option.some (Jvm.ClassFile.FieldType.object "java/lang/String")) :: GW) B.pre
  have X : kX p s m _ meth c b_S_handleWithFid 3 "TreeServer" t := ⟨B.exec, B.bytes, hml, findClass_of_methodNamed B.named, fun w h => hts w (List.mem_cons_of_mem _ h), B.notSynchronized, hK⟩
  have hZ : kZ t false s G s.heap [] := ⟨hB, va_S.rf, fun _ => ⟨rfl, rfl⟩⟩
  rw [lg_entry_eq]
  have hl := lv_entry ([.ref a0, .ref p1]) (n := 3) (by simp [lg_sl, rf_cat, cat_i, cat_l, cat_r])
  exact k_S_handleWithFid X B.returns _ _ hwp s.heap [] _ hl hZ
abbrev b_Answer_finish : ByteArray := prog_2_method_3_code
def y_Answer_finish : MethodName := ⟨"TreeServer$Answer", "finish", "(Ljava/lang/String;LTreeServer$Link;)V"⟩
theorem d_Answer_finish_0 : decode b_Answer_finish 0 = .ok (.aload_n 1, 1) := by decide +kernel
theorem d_Answer_finish_1 : decode b_Answer_finish 1 = .ok (.invokevirtual 23, 3) := by decide +kernel
theorem d_Answer_finish_4 : decode b_Answer_finish 4 = .ok (.ifCond .ne 23, 3) := by decide +kernel
theorem d_Answer_finish_7 : decode b_Answer_finish 7 = .ok (.aload_n 0, 1) := by decide +kernel
theorem d_Answer_finish_8 : decode b_Answer_finish 8 = .ok (.iconst 4, 1) := by decide +kernel
theorem d_Answer_finish_9 : decode b_Answer_finish 9 = .ok (.ldc2_w 29, 3) := by decide +kernel
theorem d_Answer_finish_12 : decode b_Answer_finish 12 = .ok (.iconst 1, 1) := by decide +kernel
theorem d_Answer_finish_13 : decode b_Answer_finish 13 = .ok (.invokevirtual 31, 3) := by decide +kernel
theorem d_Answer_finish_16 : decode b_Answer_finish 16 = .ok (.aload_n 0, 1) := by decide +kernel
theorem d_Answer_finish_17 : decode b_Answer_finish 17 = .ok (.bipush 7, 2) := by decide +kernel
theorem d_Answer_finish_19 : decode b_Answer_finish 19 = .ok (.putfield 15, 3) := by decide +kernel
theorem d_Answer_finish_22 : decode b_Answer_finish 22 = .ok (.aload_n 0, 1) := by decide +kernel
theorem d_Answer_finish_23 : decode b_Answer_finish 23 = .ok (.aload_n 1, 1) := by decide +kernel
theorem d_Answer_finish_24 : decode b_Answer_finish 24 = .ok (.invokevirtual 35, 3) := by decide +kernel
theorem d_Answer_finish_27 : decode b_Answer_finish 27 = .ok (.aload_n 0, 1) := by decide +kernel
theorem d_Answer_finish_28 : decode b_Answer_finish 28 = .ok (.iconst 0, 1) := by decide +kernel
theorem d_Answer_finish_29 : decode b_Answer_finish 29 = .ok (.aload_n 0, 1) := by decide +kernel
theorem d_Answer_finish_30 : decode b_Answer_finish 30 = .ok (.getfield 15, 3) := by decide +kernel
theorem d_Answer_finish_33 : decode b_Answer_finish 33 = .ok (.i2l, 1) := by decide +kernel
theorem d_Answer_finish_34 : decode b_Answer_finish 34 = .ok (.iconst 4, 1) := by decide +kernel
theorem d_Answer_finish_35 : decode b_Answer_finish 35 = .ok (.invokevirtual 31, 3) := by decide +kernel
theorem d_Answer_finish_38 : decode b_Answer_finish 38 = .ok (.aload_n 2, 1) := by decide +kernel
theorem d_Answer_finish_39 : decode b_Answer_finish 39 = .ok (.getfield 39, 3) := by decide +kernel
theorem d_Answer_finish_42 : decode b_Answer_finish 42 = .ok (.aload_n 0, 1) := by decide +kernel
theorem d_Answer_finish_43 : decode b_Answer_finish 43 = .ok (.getfield 15, 3) := by decide +kernel
theorem d_Answer_finish_46 : decode b_Answer_finish 46 = .ok (.iadd, 1) := by decide +kernel
theorem d_Answer_finish_47 : decode b_Answer_finish 47 = .ok (.aload_n 2, 1) := by decide +kernel
theorem d_Answer_finish_48 : decode b_Answer_finish 48 = .ok (.getfield 44, 3) := by decide +kernel
theorem d_Answer_finish_51 : decode b_Answer_finish 51 = .ok (.arraylength, 1) := by decide +kernel
theorem d_Answer_finish_52 : decode b_Answer_finish 52 = .ok (.if_icmp .gt 36, 3) := by decide +kernel
theorem d_Answer_finish_55 : decode b_Answer_finish 55 = .ok (.aload_n 0, 1) := by decide +kernel
theorem d_Answer_finish_56 : decode b_Answer_finish 56 = .ok (.getfield 9, 3) := by decide +kernel
theorem d_Answer_finish_59 : decode b_Answer_finish 59 = .ok (.iconst 0, 1) := by decide +kernel
theorem d_Answer_finish_60 : decode b_Answer_finish 60 = .ok (.aload_n 2, 1) := by decide +kernel
theorem d_Answer_finish_61 : decode b_Answer_finish 61 = .ok (.getfield 44, 3) := by decide +kernel
theorem d_Answer_finish_64 : decode b_Answer_finish 64 = .ok (.aload_n 2, 1) := by decide +kernel
theorem d_Answer_finish_65 : decode b_Answer_finish 65 = .ok (.getfield 39, 3) := by decide +kernel
theorem d_Answer_finish_68 : decode b_Answer_finish 68 = .ok (.aload_n 0, 1) := by decide +kernel
theorem d_Answer_finish_69 : decode b_Answer_finish 69 = .ok (.getfield 15, 3) := by decide +kernel
theorem d_Answer_finish_72 : decode b_Answer_finish 72 = .ok (.invokestatic 47, 3) := by decide +kernel
theorem d_Answer_finish_75 : decode b_Answer_finish 75 = .ok (.aload_n 2, 1) := by decide +kernel
theorem d_Answer_finish_76 : decode b_Answer_finish 76 = .ok (.dup, 1) := by decide +kernel
theorem d_Answer_finish_77 : decode b_Answer_finish 77 = .ok (.getfield 39, 3) := by decide +kernel
theorem d_Answer_finish_80 : decode b_Answer_finish 80 = .ok (.aload_n 0, 1) := by decide +kernel
theorem d_Answer_finish_81 : decode b_Answer_finish 81 = .ok (.getfield 15, 3) := by decide +kernel
theorem d_Answer_finish_84 : decode b_Answer_finish 84 = .ok (.iadd, 1) := by decide +kernel
theorem d_Answer_finish_85 : decode b_Answer_finish 85 = .ok (.putfield 39, 3) := by decide +kernel
theorem d_Answer_finish_88 : decode b_Answer_finish 88 = .ok (.return_, 1) := by decide +kernel
abbrev rm_Answer_finish : Room := { frames := 5, cells := 0, slots := 0, locals := 122 }
set_option maxRecDepth 100000 in
set_option maxHeartbeats 4000000 in
theorem k_Answer_finish_27 {p : Program} {l : Launch} {e : Env} {s : State} {m : MethodId} {args : Array Value} {below : List Frame} {meth : Method} {c : Code} {t : TY} {a0 : Nat} {K : GS → Prop} (X : kX p s m args meth c b_Answer_finish 3 "TreeServer$Answer" t) (hret : meth.sig.returnType = none) (p2 : Nat) (G : GS) (hwp : w_Answer_finish_27 t a0 K p2 G) : kW p l e rm_Answer_finish s m args below meth c (MQ below (va_Qv (fun u : GS => K u) (fun u T => HB t u T.heap) (tA t)) args s 0 0 (tA t)) 3 t false 27 [(0, va_rf (some a0)), (2, va_rf (some p2))] [] G := by
  unfold w_Answer_finish_27 at hwp
  refine kw_aload_n (pc := 27) X d_Answer_finish_27 rfl 0 rfl ?_
  refine kw_iconst (v := 0) (pc := 28) X d_Answer_finish_28 (by decide) ?_
  refine kw_aload_n (pc := 29) X d_Answer_finish_29 rfl 0 rfl ?_
  obtain ⟨f1, hwp⟩ := hwp
  refine kg_45 (a := a0) (pc := 30) X d_Answer_finish_30 x_269 rfl f1 ?_
  refine kw_i2l (pc := 33) X d_Answer_finish_33 ?_
  refine kw_iconst (v := 4) (pc := 34) X d_Answer_finish_34 (by decide) ?_
  refine kcV_v (n := 3) (As := [.int (0 : Int32), .long ((gi G 45 a0).toInt64), .int (4 : Int32)]) (rest := []) (pc := 35) X rfl (c_Answer_set l t G a0 (0 : Int32) ((gi G 45 a0).toInt64) (4 : Int32) _) (cwV_of (C := "TreeServer$Answer") X x_719 x_915 x_717 x_718 x_10 (by decide +kernel) ⟨rfl, rfl⟩ (by decide)) (rv_6 X f1) rfl rfl (by decide) d_Answer_finish_35 hwp (fun G2 hwp => ?_)
  refine kw_aload_n (pc := 38) X d_Answer_finish_38 rfl 1 rfl ?_
  obtain ⟨f3, hwp⟩ := hwp
  refine kg_58 (a := p2) (pc := 39) X d_Answer_finish_39 x_339 rfl f3 ?_
  refine kw_aload_n (pc := 42) X d_Answer_finish_42 rfl 0 rfl ?_
  refine kg_45 (a := a0) (pc := 43) X d_Answer_finish_43 x_269 rfl f1 ?_
  refine kw_iadd (pc := 46) X d_Answer_finish_46 ?_
  refine kw_aload_n (pc := 47) X d_Answer_finish_47 rfl 1 rfl ?_
  refine kg_57 (a := p2) (pc := 48) X d_Answer_finish_48 x_336 rfl f3 ?_
  obtain ⟨a4, h_a4, hwp⟩ := hwp
  obtain ⟨f5, hwp⟩ := hwp
  refine ka_len51 (a := a4) (pc := 51) X d_Answer_finish_51 h_a4 f5 ?_
  refine kw_icmp_gt (tgt := 88) (pc := 52) X d_Answer_finish_52 (by decide) (fun h => ?_) (fun h => ?_)
  · have hwp := ite_t h hwp
    exact kr_v (pc := 88) X hret d_Answer_finish_88 hwp
  · have hwp := ite_f h hwp
    refine kw_aload_n (pc := 55) X d_Answer_finish_55 rfl 0 rfl ?_
    refine kg_44 (a := a0) (pc := 56) X d_Answer_finish_56 x_268 rfl f1 ?_
    refine kw_iconst (v := 0) (pc := 59) X d_Answer_finish_59 (by decide) ?_
    refine kw_aload_n (pc := 60) X d_Answer_finish_60 rfl 1 rfl ?_
    refine kg_57 (a := p2) (pc := 61) X d_Answer_finish_61 x_336 rfl f3 ?_
    refine kw_aload_n (pc := 64) X d_Answer_finish_64 rfl 1 rfl ?_
    refine kg_58 (a := p2) (pc := 65) X d_Answer_finish_65 x_339 rfl f3 ?_
    refine kw_aload_n (pc := 68) X d_Answer_finish_68 rfl 0 rfl ?_
    refine kg_45 (a := a0) (pc := 69) X d_Answer_finish_69 x_269 rfl f1 ?_
    obtain ⟨a6, h_a6, hwp⟩ := hwp
    obtain ⟨f7, hwp⟩ := hwp
    obtain ⟨f8, hwp⟩ := hwp
    refine ka_copy (a := a6) (b := a4) (pc := 72) X rfl d_Answer_finish_72 x_916 x_495 x_494 x_14 (by decide) (by decide) h_a6 h_a4 f7 f5 f8 ?_
    obtain ⟨G9, e_G9⟩ : ∃ g, g = acB G2 a6 a4 (0 : Int32) (gi G2 58 p2) (gi G2 45 a0) := ⟨_, rfl⟩
    have hwp := hwp G9 e_G9
    refine kW.g e_G9.symm ?_
    refine kw_aload_n (pc := 75) X d_Answer_finish_75 rfl 1 rfl ?_
    refine kw_dup (pc := 76) X d_Answer_finish_76 rfl ?_
    refine kg_58 (a := p2) (pc := 77) X d_Answer_finish_77 x_339 rfl f3 ?_
    refine kw_aload_n (pc := 80) X d_Answer_finish_80 rfl 0 rfl ?_
    refine kg_45 (a := a0) (pc := 81) X d_Answer_finish_81 x_269 rfl f1 ?_
    refine kw_iadd (pc := 84) X d_Answer_finish_84 ?_
    refine kp_58 (a := p2) (x := ((gi G9 58 p2) + (gi G9 45 a0))) (pc := 85) X rfl d_Answer_finish_85 x_339 rfl f3 ?_
    obtain ⟨G10, e_G10⟩ : ∃ g, g = si G9 58 p2 ((gi G9 58 p2) + (gi G9 45 a0)) := ⟨_, rfl⟩
    have hwp := hwp G10 e_G10
    refine kW.g e_G10.symm ?_
    exact kr_v (pc := 88) X hret d_Answer_finish_88 hwp
set_option maxRecDepth 100000 in
set_option maxHeartbeats 4000000 in
theorem k_Answer_finish {p : Program} {l : Launch} {e : Env} {s : State} {m : MethodId} {args : Array Value} {below : List Frame} {meth : Method} {c : Code} {t : TY} {a0 : Nat} {K : GS → Prop} (X : kX p s m args meth c b_Answer_finish 3 "TreeServer$Answer" t) (hret : meth.sig.returnType = none) (G : GS) (p1 : Option Nat) (p2 : Nat) (hwp : w_Answer_finish t G a0 p1 p2 K) : kW p l e rm_Answer_finish s m args below meth c (MQ below (va_Qv (fun u : GS => K u) (fun u T => HB t u T.heap) (tA t)) args s 0 0 (tA t)) 3 t false 0 [(0, va_rf (some a0)), (1, va_rf p1), (2, va_rf (some p2))] [] G := by
  unfold w_Answer_finish at hwp
  refine kw_aload_n (pc := 0) X d_Answer_finish_0 rfl 1 rfl ?_
  obtain ⟨j2, g_j2, h_j2, hwp⟩ := hwp
  refine kc_str_isEmpty (j := j2) (pc := 1) X d_Answer_finish_1 x_913 g_j2 h_j2 (by decide) (by decide) ?_
  obtain ⟨v1, e_v1⟩ : ∃ z, z = (if slen j2 = 0 then (1 : Int32) else 0) := ⟨_, rfl⟩
  rw [← e_v1] at hwp ⊢
  have b_v1 : isB v1 := by rw [e_v1]; unfold isB; split <;> simp
  refine kw_if_ne (tgt := 27) (pc := 4) X d_Answer_finish_4 (by decide) (fun h => ?_) (fun h => ?_)
  · have hwp := ite_t h hwp
    exact kW.sub [0, 2] rfl (k_Answer_finish_27 X hret  _ _ hwp)
  · have hwp := ite_f (not_not_intro h) hwp
    refine kw_aload_n (pc := 7) X d_Answer_finish_7 rfl 0 rfl ?_
    refine kw_iconst (v := 4) (pc := 8) X d_Answer_finish_8 (by decide) ?_
    refine kw_ldc2 (v := 107) (pc := 9) X d_Answer_finish_9 x_914 ?_
    refine kw_iconst (v := 1) (pc := 12) X d_Answer_finish_12 (by decide) ?_
    obtain ⟨f3, hwp⟩ := hwp
    refine kcV_v (n := 3) (As := [.int (4 : Int32), .long (107 : Int64), .int (1 : Int32)]) (rest := []) (pc := 13) X rfl (c_Answer_set l t G a0 (4 : Int32) (107 : Int64) (1 : Int32) _) (cwV_of (C := "TreeServer$Answer") X x_719 x_915 x_717 x_718 x_10 (by decide +kernel) ⟨rfl, rfl⟩ (by decide)) (rv_6 X f3) rfl rfl (by decide) d_Answer_finish_13 hwp (fun G4 hwp => ?_)
    refine kw_aload_n (pc := 16) X d_Answer_finish_16 rfl 0 rfl ?_
    refine kw_bipush (v := 7) (pc := 17) X d_Answer_finish_17 (by decide) ?_
    refine kp_45 (a := a0) (x := (7 : Int32)) (pc := 19) X rfl d_Answer_finish_19 x_269 rfl f3 ?_
    obtain ⟨G5, e_G5⟩ : ∃ g, g = si G4 45 a0 (7 : Int32) := ⟨_, rfl⟩
    have hwp := hwp G5 e_G5
    refine kW.g e_G5.symm ?_
    refine kw_aload_n (pc := 22) X d_Answer_finish_22 rfl 0 rfl ?_
    refine kw_aload_n (pc := 23) X d_Answer_finish_23 rfl 1 rfl ?_
    refine kcV_v (n := 1) (As := [va_rf p1]) (rest := []) (pc := 24) X rfl (c_Answer_putText l t G5 a0 p1 _) (cwV_of (C := "TreeServer$Answer") X x_645 x_841 x_643 x_644 x_10 (by decide +kernel) ⟨rfl, rfl⟩ (by decide)) (rv_6 X f3) rfl rfl (by decide) d_Answer_finish_24 hwp (fun G6 hwp => ?_)
    exact kW.sub [0, 2] rfl (k_Answer_finish_27 X hret  _ _ hwp)
set_option maxRecDepth 100000 in
set_option maxHeartbeats 4000000 in
theorem c_Answer_finish (l : Launch) (t : TY) (G : GS) (a0 : Nat) (p1 : Option Nat) (p2 : Nat) (K : GS → Prop) : Met l y_Answer_finish (Cond.code y_Answer_finish b_Answer_finish 3 (Option.none : Option Jvm.ClassFile.FieldType) :: GW) rm_Answer_finish (va_Pc [.ref a0, va_rf p1, .ref p2] (fun U => HB t G U.heap ∧ HK t U ∧ w_Answer_finish t G a0 p1 p2 K)) (va_Qv (fun u : GS => K u) (fun u T => HB t u T.heap) (tA t)) 0 0 (tA t) := by
  refine Met.ofW (cc := b_Answer_finish) (maxL := 3) (ret := none) (by decide) rfl ?_
  intro p e s m args below meth c s₁ B hml hv
  obtain ⟨rfl, hB, hK, hwp⟩ := hv
  have hts := atoms_spec (ws := Cond.code y_Answer_finish b_Answer_finish 3 (Option.none : Option Jvm.ClassFile.FieldType) :: GW) B.pre
  have X : kX p s m _ meth c b_Answer_finish 3 "TreeServer$Answer" t := ⟨B.exec, B.bytes, hml, findClass_of_methodNamed B.named, fun w h => hts w (List.mem_cons_of_mem _ h), B.notSynchronized, hK⟩
  have hZ : kZ t false s G s.heap [] := ⟨hB, va_S.rf, fun _ => ⟨rfl, rfl⟩⟩
  rw [lg_entry_eq]
  have hl := lv_entry ([.ref a0, va_rf p1, .ref p2]) (n := 3) (by simp [lg_sl, rf_cat, cat_i, cat_l, cat_r])
  rw [show lv_args 0 [.ref a0, va_rf p1, .ref p2] = [(0, .ref a0), (1, va_rf p1), (2, .ref p2)] from by simp [lv_args, rf_cat, cat_i, cat_l, cat_r]] at hl
  exact k_Answer_finish X B.returns _ _ _ hwp s.heap [] _ hl hZ
