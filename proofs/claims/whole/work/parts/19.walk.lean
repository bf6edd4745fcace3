abbrev b_M_show : ByteArray := prog_13_method_47_code
def y_M_show : MethodName := ⟨"TreeServerModel", "show", "(I)V"⟩
theorem d_M_show_0 : decode b_M_show 0 = .ok (.aload_n 0, 1) := by decide +kernel
theorem d_M_show_1 : decode b_M_show 1 = .ok (.aload_n 0, 1) := by decide +kernel
theorem d_M_show_2 : decode b_M_show 2 = .ok (.iload_n 1, 1) := by decide +kernel
theorem d_M_show_3 : decode b_M_show 3 = .ok (.invokevirtual 153, 3) := by decide +kernel
theorem d_M_show_6 : decode b_M_show 6 = .ok (.i2l, 1) := by decide +kernel
theorem d_M_show_7 : decode b_M_show 7 = .ok (.iconst 2, 1) := by decide +kernel
theorem d_M_show_8 : decode b_M_show 8 = .ok (.invokevirtual 137, 3) := by decide +kernel
theorem d_M_show_11 : decode b_M_show 11 = .ok (.aload_n 0, 1) := by decide +kernel
theorem d_M_show_12 : decode b_M_show 12 = .ok (.iload_n 1, 1) := by decide +kernel
theorem d_M_show_13 : decode b_M_show 13 = .ok (.invokevirtual 300, 3) := by decide +kernel
theorem d_M_show_16 : decode b_M_show 16 = .ok (.return_, 1) := by decide +kernel
abbrev rm_M_show : Room := { frames := 3, cells := 0, slots := 0, locals := 69 }
set_option maxRecDepth 100000 in
set_option maxHeartbeats 4000000 in
theorem k_M_show {p : Program} {l : Launch} {e : Env} {s : State} {m : MethodId} {args : Array Value} {below : List Frame} {meth : Method} {c : Code} {t : TY} {a0 : Nat} {K : GS → Prop} (X : kX p s m args meth c b_M_show 2 "TreeServerModel" t) (hret : meth.sig.returnType = none) (G : GS) (p1 : Int32) (hwp : w_M_show t G a0 p1 K) : kW p l e rm_M_show s m args below meth c (MQ below (va_Qv (fun u : GS => K u) (fun u T => HB t u T.heap) (tA t)) args s 0 0 (tA t)) 2 t false 0 [(0, va_rf (some a0)), (1, .int p1)] [] G := by
  unfold w_M_show at hwp
  refine kw_aload_n (pc := 0) X d_M_show_0 rfl 0 rfl ?_
  refine kw_aload_n (pc := 1) X d_M_show_1 rfl 0 rfl ?_
  refine kw_iload_n (pc := 2) X d_M_show_2 rfl 1 rfl ?_
  obtain ⟨f1, hwp⟩ := hwp
  refine kcVp_i (n := 1) (As := [.int p1]) (rest := [va_rf (some a0)]) (pc := 3) X (c_M_statSize l t G a0 p1 _) (cwV_of (C := "TreeServerModel") X x_1324 x_1321 x_1323 xp_84 x_13 (by decide +kernel) ⟨rfl, rfl⟩ (by decide)) (rv_10 X f1) rfl rfl (by simp [rf_cat, cat_i, cat_l, cat_r]) d_M_show_3 hwp (fun v2 hwp => ?_)
  refine kw_i2l (pc := 6) X d_M_show_6 ?_
  refine kw_iconst (v := 2) (pc := 7) X d_M_show_7 (by decide) ?_
  refine kcV_v (n := 2) (As := [.long v2.toInt64, .int (2 : Int32)]) (rest := []) (pc := 8) X rfl (c_M_put l t G a0 v2.toInt64 (2 : Int32) _) (cwV_of (C := "TreeServerModel") X x_1199 x_1196 x_1198 xp_60 x_13 (by decide +kernel) ⟨rfl, rfl⟩ (by decide)) (rv_10 X f1) rfl rfl (by decide) d_M_show_8 hwp (fun G3 hwp => ?_)
  refine kw_aload_n (pc := 11) X d_M_show_11 rfl 0 rfl ?_
  refine kw_iload_n (pc := 12) X d_M_show_12 rfl 1 rfl ?_
  refine kcV_v (n := 1) (As := [.int p1]) (rest := []) (pc := 13) X rfl (c_M_stat l t G3 a0 p1 _) (cwV_of (C := "TreeServerModel") X x_1331 x_1328 x_1330 xp_85 x_13 (by decide +kernel) ⟨rfl, rfl⟩ (by decide)) (rv_10 X f1) rfl rfl (by decide) d_M_show_13 hwp (fun G4 hwp => ?_)
  exact kr_v (pc := 16) X hret d_M_show_16 hwp
set_option maxRecDepth 100000 in
set_option maxHeartbeats 4000000 in
theorem c_M_show (l : Launch) (t : TY) (G : GS) (a0 : Nat) (p1 : Int32) (K : GS → Prop) : Met l y_M_show (Cond.code y_M_show b_M_show 2 (Option.none : Option Jvm.ClassFile.FieldType) :: GW) rm_M_show (va_Pc [.ref a0, .int p1] (fun U => HB t G U.heap ∧ HK t U ∧ w_M_show t G a0 p1 K)) (va_Qv (fun u : GS => K u) (fun u T => HB t u T.heap) (tA t)) 0 0 (tA t) := by
  refine Met.ofW (cc := b_M_show) (maxL := 2) (ret := none) (by decide) rfl ?_
  intro p e s m args below meth c s₁ B hml hv
  obtain ⟨rfl, hB, hK, hwp⟩ := hv
  have hts := atoms_spec (ws := Cond.code y_M_show b_M_show 2 (Option.none : Option Jvm.ClassFile.FieldType) :: GW) B.pre
  have X : kX p s m _ meth c b_M_show 2 "TreeServerModel" t := ⟨B.exec, B.bytes, hml, findClass_of_methodNamed B.named, fun w h => hts w (List.mem_cons_of_mem _ h), B.notSynchronized, hK⟩
  have hZ : kZ t false s G s.heap [] := ⟨hB, va_S.rf, fun _ => ⟨rfl, rfl⟩⟩
  rw [lg_entry_eq]
  have hl := lv_entry ([.ref a0, .int p1]) (n := 2) (by simp [lg_sl, rf_cat, cat_i, cat_l, cat_r])
  exact k_M_show X B.returns _ _ hwp s.heap [] _ hl hZ
abbrev b_M_given : ByteArray := prog_13_method_57_code
def y_M_given : MethodName := ⟨"TreeServerModel", "given", "(I)I"⟩
theorem d_M_given_0 : decode b_M_given 0 = .ok (.aload_n 0, 1) := by decide +kernel
theorem d_M_given_1 : decode b_M_given 1 = .ok (.bipush 46, 2) := by decide +kernel
theorem d_M_given_3 : decode b_M_given 3 = .ok (.bipush 8, 2) := by decide +kernel
theorem d_M_given_5 : decode b_M_given 5 = .ok (.invokevirtual 85, 3) := by decide +kernel
theorem d_M_given_8 : decode b_M_given 8 = .ok (.ldc2_w 364, 3) := by decide +kernel
theorem d_M_given_11 : decode b_M_given 11 = .ok (.lcmp, 1) := by decide +kernel
theorem d_M_given_12 : decode b_M_given 12 = .ok (.ifCond .eq 7, 3) := by decide +kernel
theorem d_M_given_15 : decode b_M_given 15 = .ok (.iconst 1, 1) := by decide +kernel
theorem d_M_given_16 : decode b_M_given 16 = .ok (.goto 4, 3) := by decide +kernel
theorem d_M_given_19 : decode b_M_given 19 = .ok (.iconst 0, 1) := by decide +kernel
theorem d_M_given_20 : decode b_M_given 20 = .ok (.istore_n 2, 1) := by decide +kernel
theorem d_M_given_21 : decode b_M_given 21 = .ok (.aload_n 0, 1) := by decide +kernel
theorem d_M_given_22 : decode b_M_given 22 = .ok (.bipush 34, 2) := by decide +kernel
theorem d_M_given_24 : decode b_M_given 24 = .ok (.iconst 4, 1) := by decide +kernel
theorem d_M_given_25 : decode b_M_given 25 = .ok (.invokevirtual 85, 3) := by decide +kernel
theorem d_M_given_28 : decode b_M_given 28 = .ok (.ldc2_w 261, 3) := by decide +kernel
theorem d_M_given_31 : decode b_M_given 31 = .ok (.lcmp, 1) := by decide +kernel
theorem d_M_given_32 : decode b_M_given 32 = .ok (.ifCond .eq 9, 3) := by decide +kernel
theorem d_M_given_35 : decode b_M_given 35 = .ok (.iload_n 2, 1) := by decide +kernel
theorem d_M_given_36 : decode b_M_given 36 = .ok (.iconst 2, 1) := by decide +kernel
theorem d_M_given_37 : decode b_M_given 37 = .ok (.ior, 1) := by decide +kernel
theorem d_M_given_38 : decode b_M_given 38 = .ok (.goto 4, 3) := by decide +kernel
theorem d_M_given_41 : decode b_M_given 41 = .ok (.iload_n 2, 1) := by decide +kernel
theorem d_M_given_42 : decode b_M_given 42 = .ok (.istore_n 2, 1) := by decide +kernel
theorem d_M_given_43 : decode b_M_given 43 = .ok (.aload_n 0, 1) := by decide +kernel
theorem d_M_given_44 : decode b_M_given 44 = .ok (.bipush 42, 2) := by decide +kernel
theorem d_M_given_46 : decode b_M_given 46 = .ok (.iconst 4, 1) := by decide +kernel
theorem d_M_given_47 : decode b_M_given 47 = .ok (.invokevirtual 85, 3) := by decide +kernel
theorem d_M_given_50 : decode b_M_given 50 = .ok (.ldc2_w 261, 3) := by decide +kernel
theorem d_M_given_53 : decode b_M_given 53 = .ok (.lcmp, 1) := by decide +kernel
theorem d_M_given_54 : decode b_M_given 54 = .ok (.ifCond .eq 9, 3) := by decide +kernel
theorem d_M_given_57 : decode b_M_given 57 = .ok (.iload_n 2, 1) := by decide +kernel
theorem d_M_given_58 : decode b_M_given 58 = .ok (.iconst 4, 1) := by decide +kernel
theorem d_M_given_59 : decode b_M_given 59 = .ok (.ior, 1) := by decide +kernel
theorem d_M_given_60 : decode b_M_given 60 = .ok (.goto 4, 3) := by decide +kernel
theorem d_M_given_63 : decode b_M_given 63 = .ok (.iload_n 2, 1) := by decide +kernel
theorem d_M_given_64 : decode b_M_given 64 = .ok (.istore_n 2, 1) := by decide +kernel
theorem d_M_given_65 : decode b_M_given 65 = .ok (.aload_n 0, 1) := by decide +kernel
theorem d_M_given_66 : decode b_M_given 66 = .ok (.iload_n 1, 1) := by decide +kernel
theorem d_M_given_67 : decode b_M_given 67 = .ok (.iconst 2, 1) := by decide +kernel
theorem d_M_given_68 : decode b_M_given 68 = .ok (.invokevirtual 85, 3) := by decide +kernel
theorem d_M_given_71 : decode b_M_given 71 = .ok (.lconst 0, 1) := by decide +kernel
theorem d_M_given_72 : decode b_M_given 72 = .ok (.lcmp, 1) := by decide +kernel
theorem d_M_given_73 : decode b_M_given 73 = .ok (.ifCond .eq 10, 3) := by decide +kernel
theorem d_M_given_76 : decode b_M_given 76 = .ok (.iload_n 2, 1) := by decide +kernel
theorem d_M_given_77 : decode b_M_given 77 = .ok (.bipush 8, 2) := by decide +kernel
theorem d_M_given_79 : decode b_M_given 79 = .ok (.ior, 1) := by decide +kernel
theorem d_M_given_80 : decode b_M_given 80 = .ok (.goto 4, 3) := by decide +kernel
theorem d_M_given_83 : decode b_M_given 83 = .ok (.iload_n 2, 1) := by decide +kernel
theorem d_M_given_84 : decode b_M_given 84 = .ok (.istore_n 2, 1) := by decide +kernel
theorem d_M_given_85 : decode b_M_given 85 = .ok (.aload_n 0, 1) := by decide +kernel
theorem d_M_given_86 : decode b_M_given 86 = .ok (.bipush 54, 2) := by decide +kernel
theorem d_M_given_88 : decode b_M_given 88 = .ok (.iconst 2, 1) := by decide +kernel
theorem d_M_given_89 : decode b_M_given 89 = .ok (.invokevirtual 85, 3) := by decide +kernel
theorem d_M_given_92 : decode b_M_given 92 = .ok (.lconst 0, 1) := by decide +kernel
theorem d_M_given_93 : decode b_M_given 93 = .ok (.lcmp, 1) := by decide +kernel
theorem d_M_given_94 : decode b_M_given 94 = .ok (.ifCond .eq 10, 3) := by decide +kernel
theorem d_M_given_97 : decode b_M_given 97 = .ok (.iload_n 2, 1) := by decide +kernel
theorem d_M_given_98 : decode b_M_given 98 = .ok (.bipush 16, 2) := by decide +kernel
theorem d_M_given_100 : decode b_M_given 100 = .ok (.ior, 1) := by decide +kernel
theorem d_M_given_101 : decode b_M_given 101 = .ok (.goto 4, 3) := by decide +kernel
theorem d_M_given_104 : decode b_M_given 104 = .ok (.iload_n 2, 1) := by decide +kernel
theorem d_M_given_105 : decode b_M_given 105 = .ok (.ireturn, 1) := by decide +kernel
abbrev rm_M_given : Room := { frames := 1, cells := 0, slots := 0, locals := 25 }
set_option maxRecDepth 100000 in
set_option maxHeartbeats 4000000 in
theorem k_M_given_84 {p : Program} {l : Launch} {e : Env} {s : State} {m : MethodId} {args : Array Value} {below : List Frame} {meth : Method} {c : Code} {t : TY} {a0 : Nat} {G : GS} {K : Int32 → Prop} (X : kX p s m args meth c b_M_given 3 "TreeServerModel" t) (hret : meth.sig.returnType = some .int) (s0 : Int32) (hwp : w_M_given_84 t G a0 K s0) : kW p l e rm_M_given s m args below meth c (MQ below (vp_Si K) args s 0 0 (fun _ => False)) 3 t true 84 [(0, va_rf (some a0))] [.int s0] G := by
  unfold w_M_given_84 at hwp
  refine kw_istore_n (i := 2) (lv' := [(2, .int s0), (0, va_rf (some a0))]) (pc := 84) X d_M_given_84 rfl (by decide) rfl ?_
  refine kw_aload_n (pc := 85) X d_M_given_85 rfl 1 rfl ?_
  refine kw_bipush (v := 54) (pc := 86) X d_M_given_86 (by decide) ?_
  refine kw_iconst (v := 2) (pc := 88) X d_M_given_88 (by decide) ?_
  obtain ⟨f1, hwp⟩ := hwp
  refine kcVp_l (n := 2) (As := [.int (54 : Int32), .int (2 : Int32)]) (rest := []) (pc := 89) X (c_M_get l t G a0 (54 : Int32) (2 : Int32) _) (cwV_of (C := "TreeServerModel") X x_1175 x_1172 x_1174 xp_56 x_13 (by decide +kernel) ⟨rfl, rfl⟩ (by decide)) (rv_10 X f1) rfl rfl (by decide) d_M_given_89 hwp (fun v2 hwp => ?_)
  refine kw_lconst (v := 0) (pc := 92) X d_M_given_92 (by decide) ?_
  refine kw_lcmp_eq (tgt := 104) (pc := 93) X d_M_given_93 d_M_given_94 (by decide) (fun h => ?_) (fun h => ?_)
  · have hwp := ite_t h hwp
    refine kw_iload_n (pc := 104) X d_M_given_104 rfl 0 rfl ?_
    exact krp_i (pc := 105) X hret d_M_given_105 hwp
  · have hwp := ite_f h hwp
    refine kw_iload_n (pc := 97) X d_M_given_97 rfl 0 rfl ?_
    refine kw_bipush (v := 16) (pc := 98) X d_M_given_98 (by decide) ?_
    refine kw_ior (pc := 100) X d_M_given_100 ?_
    refine kw_goto (tgt := 105) (pc := 101) X d_M_given_101 (by decide) ?_
    exact krp_i (pc := 105) X hret d_M_given_105 hwp
set_option maxRecDepth 100000 in
set_option maxHeartbeats 4000000 in
theorem k_M_given_64 {p : Program} {l : Launch} {e : Env} {s : State} {m : MethodId} {args : Array Value} {below : List Frame} {meth : Method} {c : Code} {t : TY} {a0 : Nat} {G : GS} {K : Int32 → Prop} (X : kX p s m args meth c b_M_given 3 "TreeServerModel" t) (hret : meth.sig.returnType = some .int) (l1 : Int32) (s0 : Int32) (hwp : w_M_given_64 t G a0 K l1 s0) : kW p l e rm_M_given s m args below meth c (MQ below (vp_Si K) args s 0 0 (fun _ => False)) 3 t true 64 [(0, va_rf (some a0)), (1, .int l1)] [.int s0] G := by
  unfold w_M_given_64 at hwp
  refine kw_istore_n (i := 2) (lv' := [(2, .int s0), (0, va_rf (some a0)), (1, .int l1)]) (pc := 64) X d_M_given_64 rfl (by decide) rfl ?_
  refine kw_aload_n (pc := 65) X d_M_given_65 rfl 1 rfl ?_
  refine kw_iload_n (pc := 66) X d_M_given_66 rfl 2 rfl ?_
  refine kw_iconst (v := 2) (pc := 67) X d_M_given_67 (by decide) ?_
  obtain ⟨f1, hwp⟩ := hwp
  refine kcVp_l (n := 2) (As := [.int l1, .int (2 : Int32)]) (rest := []) (pc := 68) X (c_M_get l t G a0 l1 (2 : Int32) _) (cwV_of (C := "TreeServerModel") X x_1175 x_1172 x_1174 xp_56 x_13 (by decide +kernel) ⟨rfl, rfl⟩ (by decide)) (rv_10 X f1) rfl rfl (by decide) d_M_given_68 hwp (fun v2 hwp => ?_)
  refine kw_lconst (v := 0) (pc := 71) X d_M_given_71 (by decide) ?_
  refine kw_lcmp_eq (tgt := 83) (pc := 72) X d_M_given_72 d_M_given_73 (by decide) (fun h => ?_) (fun h => ?_)
  · have hwp := ite_t h hwp
    refine kw_iload_n (pc := 83) X d_M_given_83 rfl 0 rfl ?_
    exact kW.sub [1] rfl (k_M_given_84 X hret  _ hwp)
  · have hwp := ite_f h hwp
    refine kw_iload_n (pc := 76) X d_M_given_76 rfl 0 rfl ?_
    refine kw_bipush (v := 8) (pc := 77) X d_M_given_77 (by decide) ?_
    refine kw_ior (pc := 79) X d_M_given_79 ?_
    refine kw_goto (tgt := 84) (pc := 80) X d_M_given_80 (by decide) ?_
    exact kW.sub [1] rfl (k_M_given_84 X hret  _ hwp)
set_option maxRecDepth 100000 in
set_option maxHeartbeats 4000000 in
theorem k_M_given_42 {p : Program} {l : Launch} {e : Env} {s : State} {m : MethodId} {args : Array Value} {below : List Frame} {meth : Method} {c : Code} {t : TY} {a0 : Nat} {G : GS} {K : Int32 → Prop} (X : kX p s m args meth c b_M_given 3 "TreeServerModel" t) (hret : meth.sig.returnType = some .int) (l1 : Int32) (s0 : Int32) (hwp : w_M_given_42 t G a0 K l1 s0) : kW p l e rm_M_given s m args below meth c (MQ below (vp_Si K) args s 0 0 (fun _ => False)) 3 t true 42 [(0, va_rf (some a0)), (1, .int l1)] [.int s0] G := by
  unfold w_M_given_42 at hwp
  refine kw_istore_n (i := 2) (lv' := [(2, .int s0), (0, va_rf (some a0)), (1, .int l1)]) (pc := 42) X d_M_given_42 rfl (by decide) rfl ?_
  refine kw_aload_n (pc := 43) X d_M_given_43 rfl 1 rfl ?_
  refine kw_bipush (v := 42) (pc := 44) X d_M_given_44 (by decide) ?_
  refine kw_iconst (v := 4) (pc := 46) X d_M_given_46 (by decide) ?_
  obtain ⟨f1, hwp⟩ := hwp
  refine kcVp_l (n := 2) (As := [.int (42 : Int32), .int (4 : Int32)]) (rest := []) (pc := 47) X (c_M_get l t G a0 (42 : Int32) (4 : Int32) _) (cwV_of (C := "TreeServerModel") X x_1175 x_1172 x_1174 xp_56 x_13 (by decide +kernel) ⟨rfl, rfl⟩ (by decide)) (rv_10 X f1) rfl rfl (by decide) d_M_given_47 hwp (fun v2 hwp => ?_)
  refine kw_ldc2 (v := 4294967295) (pc := 50) X d_M_given_50 x_1230 ?_
  refine kw_lcmp_eq (tgt := 63) (pc := 53) X d_M_given_53 d_M_given_54 (by decide) (fun h => ?_) (fun h => ?_)
  · have hwp := ite_t h hwp
    refine kw_iload_n (pc := 63) X d_M_given_63 rfl 0 rfl ?_
    exact kW.sub [1, 2] rfl (k_M_given_64 X hret  _ _ hwp)
  · have hwp := ite_f h hwp
    refine kw_iload_n (pc := 57) X d_M_given_57 rfl 0 rfl ?_
    refine kw_iconst (v := 4) (pc := 58) X d_M_given_58 (by decide) ?_
    refine kw_ior (pc := 59) X d_M_given_59 ?_
    refine kw_goto (tgt := 64) (pc := 60) X d_M_given_60 (by decide) ?_
    exact kW.sub [1, 2] rfl (k_M_given_64 X hret  _ _ hwp)
set_option maxRecDepth 100000 in
set_option maxHeartbeats 4000000 in
theorem k_M_given_20 {p : Program} {l : Launch} {e : Env} {s : State} {m : MethodId} {args : Array Value} {below : List Frame} {meth : Method} {c : Code} {t : TY} {a0 : Nat} {G : GS} {K : Int32 → Prop} (X : kX p s m args meth c b_M_given 3 "TreeServerModel" t) (hret : meth.sig.returnType = some .int) (l1 : Int32) (s0 : Int32) (hwp : w_M_given_20 t G a0 K l1 s0) : kW p l e rm_M_given s m args below meth c (MQ below (vp_Si K) args s 0 0 (fun _ => False)) 3 t true 20 [(0, va_rf (some a0)), (1, .int l1)] [.int s0] G := by
  unfold w_M_given_20 at hwp
  refine kw_istore_n (i := 2) (lv' := [(2, .int s0), (0, va_rf (some a0)), (1, .int l1)]) (pc := 20) X d_M_given_20 rfl (by decide) rfl ?_
  refine kw_aload_n (pc := 21) X d_M_given_21 rfl 1 rfl ?_
  refine kw_bipush (v := 34) (pc := 22) X d_M_given_22 (by decide) ?_
  refine kw_iconst (v := 4) (pc := 24) X d_M_given_24 (by decide) ?_
  obtain ⟨f1, hwp⟩ := hwp
  refine kcVp_l (n := 2) (As := [.int (34 : Int32), .int (4 : Int32)]) (rest := []) (pc := 25) X (c_M_get l t G a0 (34 : Int32) (4 : Int32) _) (cwV_of (C := "TreeServerModel") X x_1175 x_1172 x_1174 xp_56 x_13 (by decide +kernel) ⟨rfl, rfl⟩ (by decide)) (rv_10 X f1) rfl rfl (by decide) d_M_given_25 hwp (fun v2 hwp => ?_)
  refine kw_ldc2 (v := 4294967295) (pc := 28) X d_M_given_28 x_1230 ?_
  refine kw_lcmp_eq (tgt := 41) (pc := 31) X d_M_given_31 d_M_given_32 (by decide) (fun h => ?_) (fun h => ?_)
  · have hwp := ite_t h hwp
    refine kw_iload_n (pc := 41) X d_M_given_41 rfl 0 rfl ?_
    exact kW.sub [1, 2] rfl (k_M_given_42 X hret  _ _ hwp)
  · have hwp := ite_f h hwp
    refine kw_iload_n (pc := 35) X d_M_given_35 rfl 0 rfl ?_
    refine kw_iconst (v := 2) (pc := 36) X d_M_given_36 (by decide) ?_
    refine kw_ior (pc := 37) X d_M_given_37 ?_
    refine kw_goto (tgt := 42) (pc := 38) X d_M_given_38 (by decide) ?_
    exact kW.sub [1, 2] rfl (k_M_given_42 X hret  _ _ hwp)
set_option maxRecDepth 100000 in
set_option maxHeartbeats 4000000 in
theorem k_M_given {p : Program} {l : Launch} {e : Env} {s : State} {m : MethodId} {args : Array Value} {below : List Frame} {meth : Method} {c : Code} {t : TY} {a0 : Nat} {G : GS} {K : Int32 → Prop} (X : kX p s m args meth c b_M_given 3 "TreeServerModel" t) (hret : meth.sig.returnType = some .int) (p1 : Int32) (hwp : w_M_given t G a0 p1 K) : kW p l e rm_M_given s m args below meth c (MQ below (vp_Si K) args s 0 0 (fun _ => False)) 3 t true 0 [(0, va_rf (some a0)), (1, .int p1)] [] G := by
  unfold w_M_given at hwp
  refine kw_aload_n (pc := 0) X d_M_given_0 rfl 0 rfl ?_
  refine kw_bipush (v := 46) (pc := 1) X d_M_given_1 (by decide) ?_
  refine kw_bipush (v := 8) (pc := 3) X d_M_given_3 (by decide) ?_
  obtain ⟨f1, hwp⟩ := hwp
  refine kcVp_l (n := 2) (As := [.int (46 : Int32), .int (8 : Int32)]) (rest := []) (pc := 5) X (c_M_get l t G a0 (46 : Int32) (8 : Int32) _) (cwV_of (C := "TreeServerModel") X x_1175 x_1172 x_1174 xp_56 x_13 (by decide +kernel) ⟨rfl, rfl⟩ (by decide)) (rv_10 X f1) rfl rfl (by decide) d_M_given_5 hwp (fun v2 hwp => ?_)
  refine kw_ldc2 (v := -1) (pc := 8) X d_M_given_8 x_1348 ?_
  refine kw_lcmp_eq (tgt := 19) (pc := 11) X d_M_given_11 d_M_given_12 (by decide) (fun h => ?_) (fun h => ?_)
  · have hwp := ite_t h hwp
    refine kw_iconst (v := 0) (pc := 19) X d_M_given_19 (by decide) ?_
    exact kW.sub [0, 1] rfl (k_M_given_20 X hret  _ _ hwp)
  · have hwp := ite_f h hwp
    refine kw_iconst (v := 1) (pc := 15) X d_M_given_15 (by decide) ?_
    refine kw_goto (tgt := 20) (pc := 16) X d_M_given_16 (by decide) ?_
    exact kW.sub [0, 1] rfl (k_M_given_20 X hret  _ _ hwp)
set_option maxRecDepth 100000 in
set_option maxHeartbeats 4000000 in
theorem c_M_given (l : Launch) (t : TY) (G : GS) (a0 : Nat) (p1 : Int32) (K : Int32 → Prop) : Met l y_M_given (Cond.code y_M_given b_M_given 3 (Option.some Jvm.ClassFile.FieldType.int) :: GW) rm_M_given (va_Pc [.ref a0, .int p1] (fun U => HB t G U.heap ∧ HK t U ∧ w_M_given t G a0 p1 K)) (vp_Si K) 0 0 (fun _ => False) := by
  refine Met.ofW (cc := b_M_given) (maxL := 3) (ret := some .int) (by decide) rfl ?_
  intro p e s m args below meth c s₁ B hml hv
  obtain ⟨rfl, hB, hK, hwp⟩ := hv
  have hts := atoms_spec (ws := Cond.code y_M_given b_M_given 3 (Option.some Jvm.ClassFile.FieldType.int) :: GW) B.pre
  have X : kX p s m _ meth c b_M_given 3 "TreeServerModel" t := ⟨B.exec, B.bytes, hml, findClass_of_methodNamed B.named, fun w h => hts w (List.mem_cons_of_mem _ h), B.notSynchronized, hK⟩
  have hZ : kZ t true s G s.heap [] := ⟨hB, va_S.rf, fun _ => ⟨rfl, rfl⟩⟩
  rw [lg_entry_eq]
  have hl := lv_entry ([.ref a0, .int p1]) (n := 3) (by simp [lg_sl, rf_cat, cat_i, cat_l, cat_r])
  exact k_M_given X B.returns _ hwp s.heap [] _ hl hZ
abbrev b_M_checkLength : ByteArray := prog_13_method_60_code
def y_M_checkLength : MethodName := ⟨"TreeServerModel", "checkLength", "(I)V"⟩
theorem d_M_checkLength_0 : decode b_M_checkLength 0 = .ok (.aload_n 0, 1) := by decide +kernel
theorem d_M_checkLength_1 : decode b_M_checkLength 1 = .ok (.bipush 46, 2) := by decide +kernel
theorem d_M_checkLength_3 : decode b_M_checkLength 3 = .ok (.bipush 8, 2) := by decide +kernel
theorem d_M_checkLength_5 : decode b_M_checkLength 5 = .ok (.invokevirtual 85, 3) := by decide +kernel
theorem d_M_checkLength_8 : decode b_M_checkLength 8 = .ok (.lstore_n 2, 1) := by decide +kernel
theorem d_M_checkLength_9 : decode b_M_checkLength 9 = .ok (.aload_n 0, 1) := by decide +kernel
theorem d_M_checkLength_10 : decode b_M_checkLength 10 = .ok (.iload_n 1, 1) := by decide +kernel
theorem d_M_checkLength_11 : decode b_M_checkLength 11 = .ok (.invokevirtual 97, 3) := by decide +kernel
theorem d_M_checkLength_14 : decode b_M_checkLength 14 = .ok (.ifCond .eq 13, 3) := by decide +kernel
theorem d_M_checkLength_17 : decode b_M_checkLength 17 = .ok (.aload_n 0, 1) := by decide +kernel
theorem d_M_checkLength_18 : decode b_M_checkLength 18 = .ok (.ldc2_w 370, 3) := by decide +kernel
theorem d_M_checkLength_21 : decode b_M_checkLength 21 = .ok (.putfield 193, 3) := by decide +kernel
theorem d_M_checkLength_24 : decode b_M_checkLength 24 = .ok (.goto 83, 3) := by decide +kernel
theorem d_M_checkLength_27 : decode b_M_checkLength 27 = .ok (.aload_n 0, 1) := by decide +kernel
theorem d_M_checkLength_28 : decode b_M_checkLength 28 = .ok (.iload_n 1, 1) := by decide +kernel
theorem d_M_checkLength_29 : decode b_M_checkLength 29 = .ok (.aload_n 0, 1) := by decide +kernel
theorem d_M_checkLength_30 : decode b_M_checkLength 30 = .ok (.getfield 276, 3) := by decide +kernel
theorem d_M_checkLength_33 : decode b_M_checkLength 33 = .ok (.iconst 2, 1) := by decide +kernel
theorem d_M_checkLength_34 : decode b_M_checkLength 34 = .ok (.invokevirtual 93, 3) := by decide +kernel
theorem d_M_checkLength_37 : decode b_M_checkLength 37 = .ok (.ifCond .ne 13, 3) := by decide +kernel
theorem d_M_checkLength_40 : decode b_M_checkLength 40 = .ok (.aload_n 0, 1) := by decide +kernel
theorem d_M_checkLength_41 : decode b_M_checkLength 41 = .ok (.ldc2_w 303, 3) := by decide +kernel
theorem d_M_checkLength_44 : decode b_M_checkLength 44 = .ok (.putfield 193, 3) := by decide +kernel
theorem d_M_checkLength_47 : decode b_M_checkLength 47 = .ok (.goto 60, 3) := by decide +kernel
theorem d_M_checkLength_50 : decode b_M_checkLength 50 = .ok (.lload_n 2, 1) := by decide +kernel
theorem d_M_checkLength_51 : decode b_M_checkLength 51 = .ok (.lconst 0, 1) := by decide +kernel
theorem d_M_checkLength_52 : decode b_M_checkLength 52 = .ok (.lcmp, 1) := by decide +kernel
theorem d_M_checkLength_53 : decode b_M_checkLength 53 = .ok (.ifCond .lt 47, 3) := by decide +kernel
theorem d_M_checkLength_56 : decode b_M_checkLength 56 = .ok (.lload_n 2, 1) := by decide +kernel
theorem d_M_checkLength_57 : decode b_M_checkLength 57 = .ok (.ldc2_w 362, 3) := by decide +kernel
theorem d_M_checkLength_60 : decode b_M_checkLength 60 = .ok (.lcmp, 1) := by decide +kernel
theorem d_M_checkLength_61 : decode b_M_checkLength 61 = .ok (.ifCond .gt 39, 3) := by decide +kernel
theorem d_M_checkLength_64 : decode b_M_checkLength 64 = .ok (.aload_n 0, 1) := by decide +kernel
theorem d_M_checkLength_65 : decode b_M_checkLength 65 = .ok (.invokevirtual 339, 3) := by decide +kernel
theorem d_M_checkLength_68 : decode b_M_checkLength 68 = .ok (.aload_n 0, 1) := by decide +kernel
theorem d_M_checkLength_69 : decode b_M_checkLength 69 = .ok (.iload_n 1, 1) := by decide +kernel
theorem d_M_checkLength_70 : decode b_M_checkLength 70 = .ok (.bipush 18, 2) := by decide +kernel
theorem d_M_checkLength_72 : decode b_M_checkLength 72 = .ok (.invokevirtual 81, 3) := by decide +kernel
theorem d_M_checkLength_75 : decode b_M_checkLength 75 = .ok (.bipush 15, 2) := by decide +kernel
theorem d_M_checkLength_77 : decode b_M_checkLength 77 = .ok (.iadd, 1) := by decide +kernel
theorem d_M_checkLength_78 : decode b_M_checkLength 78 = .ok (.bipush 16, 2) := by decide +kernel
theorem d_M_checkLength_80 : decode b_M_checkLength 80 = .ok (.idiv, 1) := by decide +kernel
theorem d_M_checkLength_81 : decode b_M_checkLength 81 = .ok (.isub, 1) := by decide +kernel
theorem d_M_checkLength_82 : decode b_M_checkLength 82 = .ok (.i2l, 1) := by decide +kernel
theorem d_M_checkLength_83 : decode b_M_checkLength 83 = .ok (.lload_n 2, 1) := by decide +kernel
theorem d_M_checkLength_84 : decode b_M_checkLength 84 = .ok (.ldc2_w 384, 3) := by decide +kernel
theorem d_M_checkLength_87 : decode b_M_checkLength 87 = .ok (.ladd, 1) := by decide +kernel
theorem d_M_checkLength_88 : decode b_M_checkLength 88 = .ok (.ldc2_w 386, 3) := by decide +kernel
theorem d_M_checkLength_91 : decode b_M_checkLength 91 = .ok (.ldiv, 1) := by decide +kernel
theorem d_M_checkLength_92 : decode b_M_checkLength 92 = .ok (.ladd, 1) := by decide +kernel
theorem d_M_checkLength_93 : decode b_M_checkLength 93 = .ok (.ldc2_w 388, 3) := by decide +kernel
theorem d_M_checkLength_96 : decode b_M_checkLength 96 = .ok (.lcmp, 1) := by decide +kernel
theorem d_M_checkLength_97 : decode b_M_checkLength 97 = .ok (.ifCond .le 10, 3) := by decide +kernel
theorem d_M_checkLength_100 : decode b_M_checkLength 100 = .ok (.aload_n 0, 1) := by decide +kernel
theorem d_M_checkLength_101 : decode b_M_checkLength 101 = .ok (.ldc2_w 343, 3) := by decide +kernel
theorem d_M_checkLength_104 : decode b_M_checkLength 104 = .ok (.putfield 193, 3) := by decide +kernel
theorem d_M_checkLength_107 : decode b_M_checkLength 107 = .ok (.return_, 1) := by decide +kernel
abbrev rm_M_checkLength : Room := { frames := 3, cells := 0, slots := 0, locals := 67 }
set_option maxRecDepth 100000 in
set_option maxHeartbeats 4000000 in
theorem k_M_checkLength_100 {p : Program} {l : Launch} {e : Env} {s : State} {m : MethodId} {args : Array Value} {below : List Frame} {meth : Method} {c : Code} {t : TY} {a0 : Nat} {K : GS → Prop} (X : kX p s m args meth c b_M_checkLength 4 "TreeServerModel" t) (hret : meth.sig.returnType = none)  (G : GS) (hwp : w_M_checkLength_100 t a0 K G) : kW p l e rm_M_checkLength s m args below meth c (MQ below (va_Qv (fun u : GS => K u) (fun u T => HB t u T.heap) (tA t)) args s 0 0 (tA t)) 4 t false 100 [(0, va_rf (some a0))] [] G := by
  unfold w_M_checkLength_100 at hwp
  refine kw_aload_n (pc := 100) X d_M_checkLength_100 rfl 0 rfl ?_
  refine kw_ldc2 (v := 1819047270) (pc := 101) X d_M_checkLength_101 x_1307 ?_
  obtain ⟨f1, hwp⟩ := hwp
  refine kp_98 (a := a0) (x := (1819047270 : Int64)) (pc := 104) X rfl d_M_checkLength_104 x_1018 rfl f1 ?_
  obtain ⟨G2, e_G2⟩ : ∃ g, g = sl G 98 a0 (1819047270 : Int64) := ⟨_, rfl⟩
  have hwp := hwp G2 e_G2
  refine kW.g e_G2.symm ?_
  exact kr_v (pc := 107) X hret d_M_checkLength_107 hwp
set_option maxRecDepth 100000 in
set_option maxHeartbeats 4000000 in
theorem k_M_checkLength {p : Program} {l : Launch} {e : Env} {s : State} {m : MethodId} {args : Array Value} {below : List Frame} {meth : Method} {c : Code} {t : TY} {a0 : Nat} {K : GS → Prop} (X : kX p s m args meth c b_M_checkLength 4 "TreeServerModel" t) (hret : meth.sig.returnType = none) (G : GS) (p1 : Int32) (hwp : w_M_checkLength t G a0 p1 K) : kW p l e rm_M_checkLength s m args below meth c (MQ below (va_Qv (fun u : GS => K u) (fun u T => HB t u T.heap) (tA t)) args s 0 0 (tA t)) 4 t false 0 [(0, va_rf (some a0)), (1, .int p1)] [] G := by
  unfold w_M_checkLength at hwp
  refine kw_aload_n (pc := 0) X d_M_checkLength_0 rfl 0 rfl ?_
  refine kw_bipush (v := 46) (pc := 1) X d_M_checkLength_1 (by decide) ?_
  refine kw_bipush (v := 8) (pc := 3) X d_M_checkLength_3 (by decide) ?_
  obtain ⟨f1, hwp⟩ := hwp
  refine kcVp_l (n := 2) (As := [.int (46 : Int32), .int (8 : Int32)]) (rest := []) (pc := 5) X (c_M_get l t G a0 (46 : Int32) (8 : Int32) _) (cwV_of (C := "TreeServerModel") X x_1175 x_1172 x_1174 xp_56 x_13 (by decide +kernel) ⟨rfl, rfl⟩ (by decide)) (rv_10 X f1) rfl rfl (by decide) d_M_checkLength_5 hwp (fun v2 hwp => ?_)
  refine kw_lstore_n (i := 2) (lv' := [(2, .long v2), (0, va_rf (some a0)), (1, .int p1)]) (pc := 8) X d_M_checkLength_8 rfl (by decide) rfl ?_
  refine kw_aload_n (pc := 9) X d_M_checkLength_9 rfl 1 rfl ?_
  refine kw_iload_n (pc := 10) X d_M_checkLength_10 rfl 2 rfl ?_
  refine kcVp_i (n := 1) (As := [.int p1]) (rest := []) (pc := 11) X (c_M_isDirectory l t G a0 p1 _) (cwV_of (C := "TreeServerModel") X x_1115 x_1112 x_1114 xp_42 x_13 (by decide +kernel) ⟨rfl, rfl⟩ (by decide)) (rv_10 X f1) rfl rfl (by decide) d_M_checkLength_11 hwp (fun v3 hwp => ?_)
  obtain ⟨b_v3, hwp⟩ := hwp
  refine kw_if_eq (tgt := 27) (pc := 14) X d_M_checkLength_14 (by decide) (fun h => ?_) (fun h => ?_)
  · have hwp := ite_t h hwp
    refine kw_aload_n (pc := 27) X d_M_checkLength_27 rfl 1 rfl ?_
    refine kw_iload_n (pc := 28) X d_M_checkLength_28 rfl 2 rfl ?_
    refine kw_aload_n (pc := 29) X d_M_checkLength_29 rfl 1 rfl ?_
    refine kg_99 (a := a0) (pc := 30) X d_M_checkLength_30 x_1019 rfl f1 ?_
    refine kw_iconst (v := 2) (pc := 33) X d_M_checkLength_33 (by decide) ?_
    refine kcVp_i (n := 3) (As := [.int p1, .int (gi G 99 a0), .int (2 : Int32)]) (rest := []) (pc := 34) X (c_M_may l t G a0 p1 (gi G 99 a0) (2 : Int32) _) (cwV_of (C := "TreeServerModel") X x_1127 x_1124 x_1126 xp_45 x_13 (by decide +kernel) ⟨rfl, rfl⟩ (by decide)) (rv_10 X f1) rfl rfl (by decide) d_M_checkLength_34 hwp (fun v4 hwp => ?_)
    obtain ⟨b_v4, hwp⟩ := hwp
    refine kw_if_ne (tgt := 50) (pc := 37) X d_M_checkLength_37 (by decide) (fun h => ?_) (fun h => ?_)
    · have hwp := ite_t h hwp
      refine kw_lload_n (pc := 50) X d_M_checkLength_50 rfl 0 rfl ?_
      refine kw_lconst (v := 0) (pc := 51) X d_M_checkLength_51 (by decide) ?_
      refine kw_lcmp_lt (tgt := 100) (pc := 52) X d_M_checkLength_52 d_M_checkLength_53 (by decide) (fun h => ?_) (fun h => ?_)
      · have hwp := ite_t h hwp
        exact kW.sub [1] rfl (k_M_checkLength_100 X hret  _ hwp)
      · have hwp := ite_f h hwp
        refine kw_lload_n (pc := 56) X d_M_checkLength_56 rfl 0 rfl ?_
        refine kw_ldc2 (v := 64) (pc := 57) X d_M_checkLength_57 x_1337 ?_
        refine kw_lcmp_gt (tgt := 100) (pc := 60) X d_M_checkLength_60 d_M_checkLength_61 (by decide) (fun h => ?_) (fun h => ?_)
        · have hwp := ite_t h hwp
          exact kW.sub [1] rfl (k_M_checkLength_100 X hret  _ hwp)
        · have hwp := ite_f h hwp
          refine kw_aload_n (pc := 64) X d_M_checkLength_64 rfl 1 rfl ?_
          refine kcVp_i (n := 0) (As := []) (rest := []) (pc := 65) X (c_M_blocks l t G a0 _) (cwV_of (C := "TreeServerModel") X x_1306 x_1303 x_1305 xp_80 x_13 (by decide +kernel) ⟨rfl, rfl⟩ (by decide)) (rv_10 X f1) rfl rfl (by decide) d_M_checkLength_65 hwp (fun v5 hwp => ?_)
          refine kw_aload_n (pc := 68) X d_M_checkLength_68 rfl 1 rfl ?_
          refine kw_iload_n (pc := 69) X d_M_checkLength_69 rfl 2 rfl ?_
          refine kw_bipush (v := 18) (pc := 70) X d_M_checkLength_70 (by decide) ?_
          refine kcVp_i (n := 2) (As := [.int p1, .int (18 : Int32)]) (rest := [.int v5]) (pc := 72) X (c_M_at l t G a0 p1 (18 : Int32) _) (cwV_of (C := "TreeServerModel") X x_1111 x_1108 x_1110 xp_41 x_13 (by decide +kernel) ⟨rfl, rfl⟩ (by decide)) (rv_10 X f1) rfl rfl (by simp [rf_cat, cat_i, cat_l, cat_r]) d_M_checkLength_72 hwp (fun v6 hwp => ?_)
          refine kw_bipush (v := 15) (pc := 75) X d_M_checkLength_75 (by decide) ?_
          refine kw_iadd (pc := 77) X d_M_checkLength_77 ?_
          refine kw_bipush (v := 16) (pc := 78) X d_M_checkLength_78 (by decide) ?_
          refine kw_idiv (pc := 80) X d_M_checkLength_80 (by decide) ?_
          refine kw_isub (pc := 81) X d_M_checkLength_81 ?_
          refine kw_i2l (pc := 82) X d_M_checkLength_82 ?_
          refine kw_lload_n (pc := 83) X d_M_checkLength_83 rfl 0 rfl ?_
          refine kw_ldc2 (v := 15) (pc := 84) X d_M_checkLength_84 x_1358 ?_
          refine kw_ladd (pc := 87) X d_M_checkLength_87 ?_
          refine kw_ldc2 (v := 16) (pc := 88) X d_M_checkLength_88 x_1359 ?_
          refine kw_ldiv (pc := 91) X d_M_checkLength_91 (by decide) ?_
          refine kw_ladd (pc := 92) X d_M_checkLength_92 ?_
          refine kw_ldc2 (v := 24) (pc := 93) X d_M_checkLength_93 x_1360 ?_
          refine kw_lcmp_le (tgt := 107) (pc := 96) X d_M_checkLength_96 d_M_checkLength_97 (by decide) (fun h => ?_) (fun h => ?_)
          · have hwp := ite_t h hwp
            exact kr_v (pc := 107) X hret d_M_checkLength_107 hwp
          · have hwp := ite_f h hwp
            exact kW.sub [1] rfl (k_M_checkLength_100 X hret  _ hwp)
    · have hwp := ite_f (not_not_intro h) hwp
      refine kw_aload_n (pc := 40) X d_M_checkLength_40 rfl 1 rfl ?_
      refine kw_ldc2 (v := 1836213616) (pc := 41) X d_M_checkLength_41 x_1254 ?_
      refine kp_98 (a := a0) (x := (1836213616 : Int64)) (pc := 44) X rfl d_M_checkLength_44 x_1018 rfl f1 ?_
      obtain ⟨G7, e_G7⟩ : ∃ g, g = sl G 98 a0 (1836213616 : Int64) := ⟨_, rfl⟩
      have hwp := hwp G7 e_G7
      refine kW.g e_G7.symm ?_
      refine kw_goto (tgt := 107) (pc := 47) X d_M_checkLength_47 (by decide) ?_
      exact kr_v (pc := 107) X hret d_M_checkLength_107 hwp
  · have hwp := ite_f h hwp
    refine kw_aload_n (pc := 17) X d_M_checkLength_17 rfl 1 rfl ?_
    refine kw_ldc2 (v := 1952543859) (pc := 18) X d_M_checkLength_18 x_1349 ?_
    refine kp_98 (a := a0) (x := (1952543859 : Int64)) (pc := 21) X rfl d_M_checkLength_21 x_1018 rfl f1 ?_
    obtain ⟨G8, e_G8⟩ : ∃ g, g = sl G 98 a0 (1952543859 : Int64) := ⟨_, rfl⟩
    have hwp := hwp G8 e_G8
    refine kW.g e_G8.symm ?_
    refine kw_goto (tgt := 107) (pc := 24) X d_M_checkLength_24 (by decide) ?_
    exact kr_v (pc := 107) X hret d_M_checkLength_107 hwp
set_option maxRecDepth 100000 in
set_option maxHeartbeats 4000000 in
theorem c_M_checkLength (l : Launch) (t : TY) (G : GS) (a0 : Nat) (p1 : Int32) (K : GS → Prop) : Met l y_M_checkLength (Cond.code y_M_checkLength b_M_checkLength 4 (Option.none : Option Jvm.ClassFile.FieldType) :: GW) rm_M_checkLength (va_Pc [.ref a0, .int p1] (fun U => HB t G U.heap ∧ HK t U ∧ w_M_checkLength t G a0 p1 K)) (va_Qv (fun u : GS => K u) (fun u T => HB t u T.heap) (tA t)) 0 0 (tA t) := by
  refine Met.ofW (cc := b_M_checkLength) (maxL := 4) (ret := none) (by decide) rfl ?_
  intro p e s m args below meth c s₁ B hml hv
  obtain ⟨rfl, hB, hK, hwp⟩ := hv
  have hts := atoms_spec (ws := Cond.code y_M_checkLength b_M_checkLength 4 (Option.none : Option Jvm.ClassFile.FieldType) :: GW) B.pre
  have X : kX p s m _ meth c b_M_checkLength 4 "TreeServerModel" t := ⟨B.exec, B.bytes, hml, findClass_of_methodNamed B.named, fun w h => hts w (List.mem_cons_of_mem _ h), B.notSynchronized, hK⟩
  have hZ : kZ t false s G s.heap [] := ⟨hB, va_S.rf, fun _ => ⟨rfl, rfl⟩⟩
  rw [lg_entry_eq]
  have hl := lv_entry ([.ref a0, .int p1]) (n := 4) (by simp [lg_sl, rf_cat, cat_i, cat_l, cat_r])
  exact k_M_checkLength X B.returns _ _ hwp s.heap [] _ hl hZ
abbrev b_M_checkName : ByteArray := prog_13_method_61_code
def y_M_checkName : MethodName := ⟨"TreeServerModel", "checkName", "(I)V"⟩
theorem d_M_checkName_0 : decode b_M_checkName 0 = .ok (.iload_n 1, 1) := by decide +kernel
theorem d_M_checkName_1 : decode b_M_checkName 1 = .ok (.ifCond .ne 7, 3) := by decide +kernel
theorem d_M_checkName_4 : decode b_M_checkName 4 = .ok (.iconst (-1), 1) := by decide +kernel
theorem d_M_checkName_5 : decode b_M_checkName 5 = .ok (.goto 14, 3) := by decide +kernel
theorem d_M_checkName_8 : decode b_M_checkName 8 = .ok (.aload_n 0, 1) := by decide +kernel
theorem d_M_checkName_9 : decode b_M_checkName 9 = .ok (.aload_n 0, 1) := by decide +kernel
theorem d_M_checkName_10 : decode b_M_checkName 10 = .ok (.iload_n 1, 1) := by decide +kernel
theorem d_M_checkName_11 : decode b_M_checkName 11 = .ok (.bipush 8, 2) := by decide +kernel
theorem d_M_checkName_13 : decode b_M_checkName 13 = .ok (.invokevirtual 81, 3) := by decide +kernel
theorem d_M_checkName_16 : decode b_M_checkName 16 = .ok (.invokevirtual 89, 3) := by decide +kernel
theorem d_M_checkName_19 : decode b_M_checkName 19 = .ok (.istore_n 2, 1) := by decide +kernel
theorem d_M_checkName_20 : decode b_M_checkName 20 = .ok (.iload_n 1, 1) := by decide +kernel
theorem d_M_checkName_21 : decode b_M_checkName 21 = .ok (.ifCond .ne 13, 3) := by decide +kernel
theorem d_M_checkName_24 : decode b_M_checkName 24 = .ok (.aload_n 0, 1) := by decide +kernel
theorem d_M_checkName_25 : decode b_M_checkName 25 = .ok (.ldc2_w 303, 3) := by decide +kernel
theorem d_M_checkName_28 : decode b_M_checkName 28 = .ok (.putfield 193, 3) := by decide +kernel
theorem d_M_checkName_31 : decode b_M_checkName 31 = .ok (.goto 73, 3) := by decide +kernel
theorem d_M_checkName_34 : decode b_M_checkName 34 = .ok (.aload_n 0, 1) := by decide +kernel
theorem d_M_checkName_35 : decode b_M_checkName 35 = .ok (.bipush 54, 2) := by decide +kernel
theorem d_M_checkName_37 : decode b_M_checkName 37 = .ok (.invokevirtual 328, 3) := by decide +kernel
theorem d_M_checkName_40 : decode b_M_checkName 40 = .ok (.ifCond .ne 13, 3) := by decide +kernel
theorem d_M_checkName_43 : decode b_M_checkName 43 = .ok (.aload_n 0, 1) := by decide +kernel
theorem d_M_checkName_44 : decode b_M_checkName 44 = .ok (.ldc2_w 331, 3) := by decide +kernel
theorem d_M_checkName_47 : decode b_M_checkName 47 = .ok (.putfield 193, 3) := by decide +kernel
theorem d_M_checkName_50 : decode b_M_checkName 50 = .ok (.goto 54, 3) := by decide +kernel
theorem d_M_checkName_53 : decode b_M_checkName 53 = .ok (.aload_n 0, 1) := by decide +kernel
theorem d_M_checkName_54 : decode b_M_checkName 54 = .ok (.iload_n 2, 1) := by decide +kernel
theorem d_M_checkName_55 : decode b_M_checkName 55 = .ok (.aload_n 0, 1) := by decide +kernel
theorem d_M_checkName_56 : decode b_M_checkName 56 = .ok (.getfield 276, 3) := by decide +kernel
theorem d_M_checkName_59 : decode b_M_checkName 59 = .ok (.iconst 2, 1) := by decide +kernel
theorem d_M_checkName_60 : decode b_M_checkName 60 = .ok (.invokevirtual 93, 3) := by decide +kernel
theorem d_M_checkName_63 : decode b_M_checkName 63 = .ok (.ifCond .ne 13, 3) := by decide +kernel
theorem d_M_checkName_66 : decode b_M_checkName 66 = .ok (.aload_n 0, 1) := by decide +kernel
theorem d_M_checkName_67 : decode b_M_checkName 67 = .ok (.ldc2_w 303, 3) := by decide +kernel
theorem d_M_checkName_70 : decode b_M_checkName 70 = .ok (.putfield 193, 3) := by decide +kernel
theorem d_M_checkName_73 : decode b_M_checkName 73 = .ok (.goto 31, 3) := by decide +kernel
theorem d_M_checkName_76 : decode b_M_checkName 76 = .ok (.aload_n 0, 1) := by decide +kernel
theorem d_M_checkName_77 : decode b_M_checkName 77 = .ok (.iload_n 2, 1) := by decide +kernel
theorem d_M_checkName_78 : decode b_M_checkName 78 = .ok (.bipush 54, 2) := by decide +kernel
theorem d_M_checkName_80 : decode b_M_checkName 80 = .ok (.invokevirtual 312, 3) := by decide +kernel
theorem d_M_checkName_83 : decode b_M_checkName 83 = .ok (.ifCond .lt 21, 3) := by decide +kernel
theorem d_M_checkName_86 : decode b_M_checkName 86 = .ok (.aload_n 0, 1) := by decide +kernel
theorem d_M_checkName_87 : decode b_M_checkName 87 = .ok (.iload_n 2, 1) := by decide +kernel
theorem d_M_checkName_88 : decode b_M_checkName 88 = .ok (.bipush 54, 2) := by decide +kernel
theorem d_M_checkName_90 : decode b_M_checkName 90 = .ok (.invokevirtual 312, 3) := by decide +kernel
theorem d_M_checkName_93 : decode b_M_checkName 93 = .ok (.iload_n 1, 1) := by decide +kernel
theorem d_M_checkName_94 : decode b_M_checkName 94 = .ok (.if_icmp .eq 10, 3) := by decide +kernel
theorem d_M_checkName_97 : decode b_M_checkName 97 = .ok (.aload_n 0, 1) := by decide +kernel
theorem d_M_checkName_98 : decode b_M_checkName 98 = .ok (.ldc2_w 334, 3) := by decide +kernel
theorem d_M_checkName_101 : decode b_M_checkName 101 = .ok (.putfield 193, 3) := by decide +kernel
theorem d_M_checkName_104 : decode b_M_checkName 104 = .ok (.return_, 1) := by decide +kernel
abbrev rm_M_checkName : Room := { frames := 2, cells := 0, slots := 0, locals := 51 }
set_option maxRecDepth 100000 in
set_option maxHeartbeats 4000000 in
theorem k_M_checkName_19 {p : Program} {l : Launch} {e : Env} {s : State} {m : MethodId} {args : Array Value} {below : List Frame} {meth : Method} {c : Code} {t : TY} {a0 : Nat} {K : GS → Prop} (X : kX p s m args meth c b_M_checkName 3 "TreeServerModel" t) (hret : meth.sig.returnType = none) (l1 : Int32) (s0 : Int32) (G : GS) (hwp : w_M_checkName_19 t a0 K l1 s0 G) : kW p l e rm_M_checkName s m args below meth c (MQ below (va_Qv (fun u : GS => K u) (fun u T => HB t u T.heap) (tA t)) args s 0 0 (tA t)) 3 t false 19 [(0, va_rf (some a0)), (1, .int l1)] [.int s0] G := by
  unfold w_M_checkName_19 at hwp
  refine kw_istore_n (i := 2) (lv' := [(2, .int s0), (0, va_rf (some a0)), (1, .int l1)]) (pc := 19) X d_M_checkName_19 rfl (by decide) rfl ?_
  refine kw_iload_n (pc := 20) X d_M_checkName_20 rfl 2 rfl ?_
  refine kw_if_ne (tgt := 34) (pc := 21) X d_M_checkName_21 (by decide) (fun h => ?_) (fun h => ?_)
  · have hwp := ite_t h hwp
    refine kw_aload_n (pc := 34) X d_M_checkName_34 rfl 1 rfl ?_
    refine kw_bipush (v := 54) (pc := 35) X d_M_checkName_35 (by decide) ?_
    obtain ⟨f1, hwp⟩ := hwp
    refine kcVp_i (n := 1) (As := [.int (54 : Int32)]) (rest := []) (pc := 37) X (c_M_fits l t G a0 (54 : Int32) _) (cwV_of (C := "TreeServerModel") X x_1291 x_1288 x_1290 xp_77 x_13 (by decide +kernel) ⟨rfl, rfl⟩ (by decide)) (rv_10 X f1) rfl rfl (by decide) d_M_checkName_37 hwp (fun v2 hwp => ?_)
    obtain ⟨b_v2, hwp⟩ := hwp
    refine kw_if_ne (tgt := 53) (pc := 40) X d_M_checkName_40 (by decide) (fun h => ?_) (fun h => ?_)
    · have hwp := ite_t h hwp
      refine kw_aload_n (pc := 53) X d_M_checkName_53 rfl 1 rfl ?_
      refine kw_iload_n (pc := 54) X d_M_checkName_54 rfl 0 rfl ?_
      refine kw_aload_n (pc := 55) X d_M_checkName_55 rfl 1 rfl ?_
      refine kg_99 (a := a0) (pc := 56) X d_M_checkName_56 x_1019 rfl f1 ?_
      refine kw_iconst (v := 2) (pc := 59) X d_M_checkName_59 (by decide) ?_
      refine kcVp_i (n := 3) (As := [.int s0, .int (gi G 99 a0), .int (2 : Int32)]) (rest := []) (pc := 60) X (c_M_may l t G a0 s0 (gi G 99 a0) (2 : Int32) _) (cwV_of (C := "TreeServerModel") X x_1127 x_1124 x_1126 xp_45 x_13 (by decide +kernel) ⟨rfl, rfl⟩ (by decide)) (rv_10 X f1) rfl rfl (by decide) d_M_checkName_60 hwp (fun v3 hwp => ?_)
      obtain ⟨b_v3, hwp⟩ := hwp
      refine kw_if_ne (tgt := 76) (pc := 63) X d_M_checkName_63 (by decide) (fun h => ?_) (fun h => ?_)
      · have hwp := ite_t h hwp
        refine kw_aload_n (pc := 76) X d_M_checkName_76 rfl 1 rfl ?_
        refine kw_iload_n (pc := 77) X d_M_checkName_77 rfl 0 rfl ?_
        refine kw_bipush (v := 54) (pc := 78) X d_M_checkName_78 (by decide) ?_
        refine kcVp_i (n := 2) (As := [.int s0, .int (54 : Int32)]) (rest := []) (pc := 80) X (c_M_named l t G a0 s0 (54 : Int32) _) (cwV_of (C := "TreeServerModel") X x_1269 x_1266 x_1268 xp_73 x_13 (by decide +kernel) ⟨rfl, rfl⟩ (by decide)) (rv_10 X f1) rfl rfl (by decide) d_M_checkName_80 hwp (fun v4 hwp => ?_)
        refine kw_if_lt (tgt := 104) (pc := 83) X d_M_checkName_83 (by decide) (fun h => ?_) (fun h => ?_)
        · have hwp := ite_t h hwp
          exact kr_v (pc := 104) X hret d_M_checkName_104 hwp
        · have hwp := ite_f h hwp
          refine kw_aload_n (pc := 86) X d_M_checkName_86 rfl 1 rfl ?_
          refine kw_iload_n (pc := 87) X d_M_checkName_87 rfl 0 rfl ?_
          refine kw_bipush (v := 54) (pc := 88) X d_M_checkName_88 (by decide) ?_
          refine kcVp_i (n := 2) (As := [.int s0, .int (54 : Int32)]) (rest := []) (pc := 90) X (c_M_named l t G a0 s0 (54 : Int32) _) (cwV_of (C := "TreeServerModel") X x_1269 x_1266 x_1268 xp_73 x_13 (by decide +kernel) ⟨rfl, rfl⟩ (by decide)) (rv_10 X f1) rfl rfl (by decide) d_M_checkName_90 hwp (fun v5 hwp => ?_)
          refine kw_iload_n (pc := 93) X d_M_checkName_93 rfl 2 rfl ?_
          refine kw_icmp_eq (tgt := 104) (pc := 94) X d_M_checkName_94 (by decide) (fun h => ?_) (fun h => ?_)
          · have hwp := ite_t h hwp
            exact kr_v (pc := 104) X hret d_M_checkName_104 hwp
          · have hwp := ite_f h hwp
            refine kw_aload_n (pc := 97) X d_M_checkName_97 rfl 1 rfl ?_
            refine kw_ldc2 (v := 500152498277) (pc := 98) X d_M_checkName_98 x_1294 ?_
            refine kp_98 (a := a0) (x := (500152498277 : Int64)) (pc := 101) X rfl d_M_checkName_101 x_1018 rfl f1 ?_
            obtain ⟨G6, e_G6⟩ : ∃ g, g = sl G 98 a0 (500152498277 : Int64) := ⟨_, rfl⟩
            have hwp := hwp G6 e_G6
            refine kW.g e_G6.symm ?_
            exact kr_v (pc := 104) X hret d_M_checkName_104 hwp
      · have hwp := ite_f (not_not_intro h) hwp
        refine kw_aload_n (pc := 66) X d_M_checkName_66 rfl 1 rfl ?_
        refine kw_ldc2 (v := 1836213616) (pc := 67) X d_M_checkName_67 x_1254 ?_
        refine kp_98 (a := a0) (x := (1836213616 : Int64)) (pc := 70) X rfl d_M_checkName_70 x_1018 rfl f1 ?_
        obtain ⟨G7, e_G7⟩ : ∃ g, g = sl G 98 a0 (1836213616 : Int64) := ⟨_, rfl⟩
        have hwp := hwp G7 e_G7
        refine kW.g e_G7.symm ?_
        refine kw_goto (tgt := 104) (pc := 73) X d_M_checkName_73 (by decide) ?_
        exact kr_v (pc := 104) X hret d_M_checkName_104 hwp
    · have hwp := ite_f (not_not_intro h) hwp
      refine kw_aload_n (pc := 43) X d_M_checkName_43 rfl 1 rfl ?_
      refine kw_ldc2 (v := 1701667182) (pc := 44) X d_M_checkName_44 x_1292 ?_
      refine kp_98 (a := a0) (x := (1701667182 : Int64)) (pc := 47) X rfl d_M_checkName_47 x_1018 rfl f1 ?_
      obtain ⟨G8, e_G8⟩ : ∃ g, g = sl G 98 a0 (1701667182 : Int64) := ⟨_, rfl⟩
      have hwp := hwp G8 e_G8
      refine kW.g e_G8.symm ?_
      refine kw_goto (tgt := 104) (pc := 50) X d_M_checkName_50 (by decide) ?_
      exact kr_v (pc := 104) X hret d_M_checkName_104 hwp
  · have hwp := ite_f (not_not_intro h) hwp
    refine kw_aload_n (pc := 24) X d_M_checkName_24 rfl 1 rfl ?_
    refine kw_ldc2 (v := 1836213616) (pc := 25) X d_M_checkName_25 x_1254 ?_
    obtain ⟨f9, hwp⟩ := hwp
    refine kp_98 (a := a0) (x := (1836213616 : Int64)) (pc := 28) X rfl d_M_checkName_28 x_1018 rfl f9 ?_
    obtain ⟨G10, e_G10⟩ : ∃ g, g = sl G 98 a0 (1836213616 : Int64) := ⟨_, rfl⟩
    have hwp := hwp G10 e_G10
    refine kW.g e_G10.symm ?_
    refine kw_goto (tgt := 104) (pc := 31) X d_M_checkName_31 (by decide) ?_
    exact kr_v (pc := 104) X hret d_M_checkName_104 hwp
set_option maxRecDepth 100000 in
set_option maxHeartbeats 4000000 in
theorem k_M_checkName {p : Program} {l : Launch} {e : Env} {s : State} {m : MethodId} {args : Array Value} {below : List Frame} {meth : Method} {c : Code} {t : TY} {a0 : Nat} {K : GS → Prop} (X : kX p s m args meth c b_M_checkName 3 "TreeServerModel" t) (hret : meth.sig.returnType = none) (G : GS) (p1 : Int32) (hwp : w_M_checkName t G a0 p1 K) : kW p l e rm_M_checkName s m args below meth c (MQ below (va_Qv (fun u : GS => K u) (fun u T => HB t u T.heap) (tA t)) args s 0 0 (tA t)) 3 t false 0 [(0, va_rf (some a0)), (1, .int p1)] [] G := by
  unfold w_M_checkName at hwp
  refine kw_iload_n (pc := 0) X d_M_checkName_0 rfl 1 rfl ?_
  refine kw_if_ne (tgt := 8) (pc := 1) X d_M_checkName_1 (by decide) (fun h => ?_) (fun h => ?_)
  · have hwp := ite_t h hwp
    refine kw_aload_n (pc := 8) X d_M_checkName_8 rfl 0 rfl ?_
    refine kw_aload_n (pc := 9) X d_M_checkName_9 rfl 0 rfl ?_
    refine kw_iload_n (pc := 10) X d_M_checkName_10 rfl 1 rfl ?_
    refine kw_bipush (v := 8) (pc := 11) X d_M_checkName_11 (by decide) ?_
    obtain ⟨f1, hwp⟩ := hwp
    refine kcVp_i (n := 2) (As := [.int p1, .int (8 : Int32)]) (rest := [va_rf (some a0)]) (pc := 13) X (c_M_at l t G a0 p1 (8 : Int32) _) (cwV_of (C := "TreeServerModel") X x_1111 x_1108 x_1110 xp_41 x_13 (by decide +kernel) ⟨rfl, rfl⟩ (by decide)) (rv_10 X f1) rfl rfl (by simp [rf_cat, cat_i, cat_l, cat_r]) d_M_checkName_13 hwp (fun v2 hwp => ?_)
    refine kcVp_i (n := 1) (As := [.int v2]) (rest := []) (pc := 16) X (c_M_find l t G a0 v2 _) (cwV_of (C := "TreeServerModel") X x_1107 x_1104 x_1106 xp_40 x_13 (by decide +kernel) ⟨rfl, rfl⟩ (by decide)) (rv_10 X f1) rfl rfl (by decide) d_M_checkName_16 hwp (fun v3 hwp => ?_)
    exact kW.sub [0, 1] rfl (k_M_checkName_19 X hret  _ _ _ hwp)
  · have hwp := ite_f (not_not_intro h) hwp
    refine kw_iconst (v := -1) (pc := 4) X d_M_checkName_4 (by decide) ?_
    refine kw_goto (tgt := 19) (pc := 5) X d_M_checkName_5 (by decide) ?_
    exact kW.sub [0, 1] rfl (k_M_checkName_19 X hret  _ _ _ hwp)
set_option maxRecDepth 100000 in
set_option maxHeartbeats 4000000 in
theorem c_M_checkName (l : Launch) (t : TY) (G : GS) (a0 : Nat) (p1 : Int32) (K : GS → Prop) : Met l y_M_checkName (Cond.code y_M_checkName b_M_checkName 3 (Option.none : Option Jvm.ClassFile.FieldType) :: GW) rm_M_checkName (va_Pc [.ref a0, .int p1] (fun U => HB t G U.heap ∧ HK t U ∧ w_M_checkName t G a0 p1 K)) (va_Qv (fun u : GS => K u) (fun u T => HB t u T.heap) (tA t)) 0 0 (tA t) := by
  refine Met.ofW (cc := b_M_checkName) (maxL := 3) (ret := none) (by decide) rfl ?_
  intro p e s m args below meth c s₁ B hml hv
  obtain ⟨rfl, hB, hK, hwp⟩ := hv
  have hts := atoms_spec (ws := Cond.code y_M_checkName b_M_checkName 3 (Option.none : Option Jvm.ClassFile.FieldType) :: GW) B.pre
  have X : kX p s m _ meth c b_M_checkName 3 "TreeServerModel" t := ⟨B.exec, B.bytes, hml, findClass_of_methodNamed B.named, fun w h => hts w (List.mem_cons_of_mem _ h), B.notSynchronized, hK⟩
  have hZ : kZ t false s G s.heap [] := ⟨hB, va_S.rf, fun _ => ⟨rfl, rfl⟩⟩
  rw [lg_entry_eq]
  have hl := lv_entry ([.ref a0, .int p1]) (n := 3) (by simp [lg_sl, rf_cat, cat_i, cat_l, cat_r])
  exact k_M_checkName X B.returns _ _ hwp s.heap [] _ hl hZ
abbrev b_M_resize : ByteArray := prog_13_method_59_code
def y_M_resize : MethodName := ⟨"TreeServerModel", "resize", "(II)V"⟩
theorem d_M_resize_0 : decode b_M_resize 0 = .ok (.aload_n 0, 1) := by decide +kernel
theorem d_M_resize_1 : decode b_M_resize 1 = .ok (.iload_n 1, 1) := by decide +kernel
theorem d_M_resize_2 : decode b_M_resize 2 = .ok (.bipush 18, 2) := by decide +kernel
theorem d_M_resize_4 : decode b_M_resize 4 = .ok (.invokevirtual 81, 3) := by decide +kernel
theorem d_M_resize_7 : decode b_M_resize 7 = .ok (.istore_n 3, 1) := by decide +kernel
theorem d_M_resize_8 : decode b_M_resize 8 = .ok (.iload_n 3, 1) := by decide +kernel
theorem d_M_resize_9 : decode b_M_resize 9 = .ok (.iload_n 2, 1) := by decide +kernel
theorem d_M_resize_10 : decode b_M_resize 10 = .ok (.if_icmp .ge 19, 3) := by decide +kernel
theorem d_M_resize_13 : decode b_M_resize 13 = .ok (.aload_n 0, 1) := by decide +kernel
theorem d_M_resize_14 : decode b_M_resize 14 = .ok (.iload_n 1, 1) := by decide +kernel
theorem d_M_resize_15 : decode b_M_resize 15 = .ok (.bipush 19, 2) := by decide +kernel
theorem d_M_resize_17 : decode b_M_resize 17 = .ok (.iload_n 3, 1) := by decide +kernel
theorem d_M_resize_18 : decode b_M_resize 18 = .ok (.iadd, 1) := by decide +kernel
theorem d_M_resize_19 : decode b_M_resize 19 = .ok (.iconst 0, 1) := by decide +kernel
theorem d_M_resize_20 : decode b_M_resize 20 = .ok (.invokevirtual 104, 3) := by decide +kernel
theorem d_M_resize_23 : decode b_M_resize 23 = .ok (.iinc 3 1, 3) := by decide +kernel
theorem d_M_resize_26 : decode b_M_resize 26 = .ok (.goto (-18), 3) := by decide +kernel
theorem d_M_resize_29 : decode b_M_resize 29 = .ok (.aload_n 0, 1) := by decide +kernel
theorem d_M_resize_30 : decode b_M_resize 30 = .ok (.iload_n 1, 1) := by decide +kernel
theorem d_M_resize_31 : decode b_M_resize 31 = .ok (.bipush 18, 2) := by decide +kernel
theorem d_M_resize_33 : decode b_M_resize 33 = .ok (.iload_n 2, 1) := by decide +kernel
theorem d_M_resize_34 : decode b_M_resize 34 = .ok (.invokevirtual 104, 3) := by decide +kernel
theorem d_M_resize_37 : decode b_M_resize 37 = .ok (.aload_n 0, 1) := by decide +kernel
theorem d_M_resize_38 : decode b_M_resize 38 = .ok (.iload_n 1, 1) := by decide +kernel
theorem d_M_resize_39 : decode b_M_resize 39 = .ok (.aload_n 0, 1) := by decide +kernel
theorem d_M_resize_40 : decode b_M_resize 40 = .ok (.getfield 276, 3) := by decide +kernel
theorem d_M_resize_43 : decode b_M_resize 43 = .ok (.invokevirtual 111, 3) := by decide +kernel
theorem d_M_resize_46 : decode b_M_resize 46 = .ok (.return_, 1) := by decide +kernel
abbrev rm_M_resize : Room := { frames := 2, cells := 0, slots := 0, locals := 45 }
set_option maxRecDepth 100000 in
set_option maxHeartbeats 4000000 in
theorem k_M_resize_8 {p : Program} {l : Launch} {e : Env} {s : State} {m : MethodId} {args : Array Value} {below : List Frame} {meth : Method} {c : Code} {t : TY} {a0 : Nat} {K : GS → Prop} (X : kX p s m args meth c b_M_resize 4 "TreeServerModel" t) (hret : meth.sig.returnType = none) : ∀ (n : Nat) (l1 : Int32) (l2 : Int32) (l3 : Int32) (G : GS), w_M_resize_8 t a0 K n l1 l2 l3 G → kW p l e rm_M_resize s m args below meth c (MQ below (va_Qv (fun u : GS => K u) (fun u T => HB t u T.heap) (tA t)) args s 0 0 (tA t)) 4 t false 8 [(0, va_rf (some a0)), (1, .int l1), (2, .int l2), (3, .int l3)] [] G := by
  intro n
  induction n with
  | zero => intro l1 l2 l3 G hwp; exact hwp.elim
  | succ n hr_8 =>
    intro l1 l2 l3 G hwp
    unfold w_M_resize_8 at hwp
    dsimp only at hwp
    refine kw_iload_n (pc := 8) X d_M_resize_8 rfl 3 rfl ?_
    refine kw_iload_n (pc := 9) X d_M_resize_9 rfl 2 rfl ?_
    refine kw_icmp_ge (tgt := 29) (pc := 10) X d_M_resize_10 (by decide) (fun h => ?_) (fun h => ?_)
    · have hwp := ite_t h hwp
      refine kw_aload_n (pc := 29) X d_M_resize_29 rfl 0 rfl ?_
      refine kw_iload_n (pc := 30) X d_M_resize_30 rfl 1 rfl ?_
      refine kw_bipush (v := 18) (pc := 31) X d_M_resize_31 (by decide) ?_
      refine kw_iload_n (pc := 33) X d_M_resize_33 rfl 2 rfl ?_
      obtain ⟨f1, hwp⟩ := hwp
      refine kcV_v (n := 3) (As := [.int l1, .int (18 : Int32), .int l2]) (rest := []) (pc := 34) X rfl (c_M_set l t G a0 l1 (18 : Int32) l2 _) (cwV_of (C := "TreeServerModel") X x_1139 x_1136 x_1138 xp_48 x_13 (by decide +kernel) ⟨rfl, rfl⟩ (by decide)) (rv_10 X f1) rfl rfl (by decide) d_M_resize_34 hwp (fun G2 hwp => ?_)
      refine kw_aload_n (pc := 37) X d_M_resize_37 rfl 0 rfl ?_
      refine kw_iload_n (pc := 38) X d_M_resize_38 rfl 1 rfl ?_
      refine kw_aload_n (pc := 39) X d_M_resize_39 rfl 0 rfl ?_
      refine kg_99 (a := a0) (pc := 40) X d_M_resize_40 x_1019 rfl f1 ?_
      refine kcV_v (n := 2) (As := [.int l1, .int (gi G2 99 a0)]) (rest := []) (pc := 43) X rfl (c_M_changes l t G2 a0 l1 (gi G2 99 a0) _) (cwV_of (C := "TreeServerModel") X x_1143 x_1140 x_1142 xp_49 x_13 (by decide +kernel) ⟨rfl, rfl⟩ (by decide)) (rv_10 X f1) rfl rfl (by decide) d_M_resize_43 hwp (fun G3 hwp => ?_)
      exact kr_v (pc := 46) X hret d_M_resize_46 hwp
    · have hwp := ite_f h hwp
      refine kw_aload_n (pc := 13) X d_M_resize_13 rfl 0 rfl ?_
      refine kw_iload_n (pc := 14) X d_M_resize_14 rfl 1 rfl ?_
      refine kw_bipush (v := 19) (pc := 15) X d_M_resize_15 (by decide) ?_
      refine kw_iload_n (pc := 17) X d_M_resize_17 rfl 3 rfl ?_
      refine kw_iadd (pc := 18) X d_M_resize_18 ?_
      refine kw_iconst (v := 0) (pc := 19) X d_M_resize_19 (by decide) ?_
      obtain ⟨f4, hwp⟩ := hwp
      refine kcV_v (n := 3) (As := [.int l1, .int ((19 : Int32) + l3), .int (0 : Int32)]) (rest := []) (pc := 20) X rfl (c_M_set l t G a0 l1 ((19 : Int32) + l3) (0 : Int32) _) (cwV_of (C := "TreeServerModel") X x_1139 x_1136 x_1138 xp_48 x_13 (by decide +kernel) ⟨rfl, rfl⟩ (by decide)) (rv_10 X f4) rfl rfl (by decide) d_M_resize_20 hwp (fun G5 hwp => ?_)
      obtain ⟨v6, e_v6⟩ : ∃ z, z = (l3 + (1 : Int32)) := ⟨_, rfl⟩
      have hwp := hwp v6 e_v6
      refine kw_iinc (v := v6) (lv' := [(3, .int v6), (0, va_rf (some a0)), (1, .int l1), (2, .int l2)]) (pc := 23) X d_M_resize_23 3 rfl (by rw [e_v6]; rfl) (by decide) rfl ?_
      refine kw_goto (tgt := 8) (pc := 26) X d_M_resize_26 (by decide) ?_
      exact kW.sub [1, 2, 3, 0] rfl (hr_8 _ _ _ _ hwp)
set_option maxRecDepth 100000 in
set_option maxHeartbeats 4000000 in
theorem k_M_resize {p : Program} {l : Launch} {e : Env} {s : State} {m : MethodId} {args : Array Value} {below : List Frame} {meth : Method} {c : Code} {t : TY} {a0 : Nat} {K : GS → Prop} (X : kX p s m args meth c b_M_resize 4 "TreeServerModel" t) (hret : meth.sig.returnType = none) (G : GS) (p1 : Int32) (p2 : Int32) (hwp : w_M_resize t G a0 p1 p2 K) : kW p l e rm_M_resize s m args below meth c (MQ below (va_Qv (fun u : GS => K u) (fun u T => HB t u T.heap) (tA t)) args s 0 0 (tA t)) 4 t false 0 [(0, va_rf (some a0)), (1, .int p1), (2, .int p2)] [] G := by
  unfold w_M_resize at hwp
  refine kw_aload_n (pc := 0) X d_M_resize_0 rfl 0 rfl ?_
  refine kw_iload_n (pc := 1) X d_M_resize_1 rfl 1 rfl ?_
  refine kw_bipush (v := 18) (pc := 2) X d_M_resize_2 (by decide) ?_
  obtain ⟨f1, hwp⟩ := hwp
  refine kcVp_i (n := 2) (As := [.int p1, .int (18 : Int32)]) (rest := []) (pc := 4) X (c_M_at l t G a0 p1 (18 : Int32) _) (cwV_of (C := "TreeServerModel") X x_1111 x_1108 x_1110 xp_41 x_13 (by decide +kernel) ⟨rfl, rfl⟩ (by decide)) (rv_10 X f1) rfl rfl (by decide) d_M_resize_4 hwp (fun v2 hwp => ?_)
  refine kw_istore_n (i := 3) (lv' := [(3, .int v2), (0, va_rf (some a0)), (1, .int p1), (2, .int p2)]) (pc := 7) X d_M_resize_7 rfl (by decide) rfl ?_
  obtain ⟨n, hwp⟩ := hwp
  exact kW.sub [1, 2, 3, 0] rfl (k_M_resize_8 X hret  n _ _ _ _ hwp)
set_option maxRecDepth 100000 in
set_option maxHeartbeats 4000000 in
theorem c_M_resize (l : Launch) (t : TY) (G : GS) (a0 : Nat) (p1 : Int32) (p2 : Int32) (K : GS → Prop) : Met l y_M_resize (Cond.code y_M_resize b_M_resize 4 (Option.none : Option Jvm.ClassFile.FieldType) :: GW) rm_M_resize (va_Pc [.ref a0, .int p1, .int p2] (fun U => HB t G U.heap ∧ HK t U ∧ w_M_resize t G a0 p1 p2 K)) (va_Qv (fun u : GS => K u) (fun u T => HB t u T.heap) (tA t)) 0 0 (tA t) := by
  refine Met.ofW (cc := b_M_resize) (maxL := 4) (ret := none) (by decide) rfl ?_
  intro p e s m args below meth c s₁ B hml hv
  obtain ⟨rfl, hB, hK, hwp⟩ := hv
  have hts := atoms_spec (ws := Cond.code y_M_resize b_M_resize 4 (Option.none : Option Jvm.ClassFile.FieldType) :: GW) B.pre
  have X : kX p s m _ meth c b_M_resize 4 "TreeServerModel" t := ⟨B.exec, B.bytes, hml, findClass_of_methodNamed B.named, fun w h => hts w (List.mem_cons_of_mem _ h), B.notSynchronized, hK⟩
  have hZ : kZ t false s G s.heap [] := ⟨hB, va_S.rf, fun _ => ⟨rfl, rfl⟩⟩
  rw [lg_entry_eq]
  have hl := lv_entry ([.ref a0, .int p1, .int p2]) (n := 4) (by simp [lg_sl, rf_cat, cat_i, cat_l, cat_r])
  exact k_M_resize X B.returns _ _ _ hwp s.heap [] _ hl hZ
abbrev b_M_alter : ByteArray := prog_13_method_58_code
def y_M_alter : MethodName := ⟨"TreeServerModel", "alter", "(I)V"⟩
theorem d_M_alter_0 : decode b_M_alter 0 = .ok (.aload_n 0, 1) := by decide +kernel
theorem d_M_alter_1 : decode b_M_alter 1 = .ok (.bipush 54, 2) := by decide +kernel
theorem d_M_alter_3 : decode b_M_alter 3 = .ok (.aload_n 0, 1) := by decide +kernel
theorem d_M_alter_4 : decode b_M_alter 4 = .ok (.getfield 187, 3) := by decide +kernel
theorem d_M_alter_7 : decode b_M_alter 7 = .ok (.invokevirtual 200, 3) := by decide +kernel
theorem d_M_alter_10 : decode b_M_alter 10 = .ok (.istore_n 2, 1) := by decide +kernel
theorem d_M_alter_11 : decode b_M_alter 11 = .ok (.aload_n 0, 1) := by decide +kernel
theorem d_M_alter_12 : decode b_M_alter 12 = .ok (.iload_n 2, 1) := by decide +kernel
theorem d_M_alter_13 : decode b_M_alter 13 = .ok (.aload_n 0, 1) := by decide +kernel
theorem d_M_alter_14 : decode b_M_alter 14 = .ok (.getfield 187, 3) := by decide +kernel
theorem d_M_alter_17 : decode b_M_alter 17 = .ok (.invokevirtual 200, 3) := by decide +kernel
theorem d_M_alter_20 : decode b_M_alter 20 = .ok (.istore_n 3, 1) := by decide +kernel
theorem d_M_alter_21 : decode b_M_alter 21 = .ok (.aload_n 0, 1) := by decide +kernel
theorem d_M_alter_22 : decode b_M_alter 22 = .ok (.iload_n 3, 1) := by decide +kernel
theorem d_M_alter_23 : decode b_M_alter 23 = .ok (.aload_n 0, 1) := by decide +kernel
theorem d_M_alter_24 : decode b_M_alter 24 = .ok (.getfield 187, 3) := by decide +kernel
theorem d_M_alter_27 : decode b_M_alter 27 = .ok (.invokevirtual 200, 3) := by decide +kernel
theorem d_M_alter_30 : decode b_M_alter 30 = .ok (.istore 4, 2) := by decide +kernel
theorem d_M_alter_32 : decode b_M_alter 32 = .ok (.aload_n 0, 1) := by decide +kernel
theorem d_M_alter_33 : decode b_M_alter 33 = .ok (.bipush 15, 2) := by decide +kernel
theorem d_M_alter_35 : decode b_M_alter 35 = .ok (.iconst 2, 1) := by decide +kernel
theorem d_M_alter_36 : decode b_M_alter 36 = .ok (.invokevirtual 85, 3) := by decide +kernel
theorem d_M_alter_39 : decode b_M_alter 39 = .ok (.ldc2_w 366, 3) := by decide +kernel
theorem d_M_alter_42 : decode b_M_alter 42 = .ok (.lcmp, 1) := by decide +kernel
theorem d_M_alter_43 : decode b_M_alter 43 = .ok (.ifCond .ne 60, 3) := by decide +kernel
theorem d_M_alter_46 : decode b_M_alter 46 = .ok (.aload_n 0, 1) := by decide +kernel
theorem d_M_alter_47 : decode b_M_alter 47 = .ok (.bipush 17, 2) := by decide +kernel
theorem d_M_alter_49 : decode b_M_alter 49 = .ok (.iconst 4, 1) := by decide +kernel
theorem d_M_alter_50 : decode b_M_alter 50 = .ok (.invokevirtual 85, 3) := by decide +kernel
theorem d_M_alter_53 : decode b_M_alter 53 = .ok (.ldc2_w 261, 3) := by decide +kernel
theorem d_M_alter_56 : decode b_M_alter 56 = .ok (.lcmp, 1) := by decide +kernel
theorem d_M_alter_57 : decode b_M_alter 57 = .ok (.ifCond .ne 46, 3) := by decide +kernel
theorem d_M_alter_60 : decode b_M_alter 60 = .ok (.aload_n 0, 1) := by decide +kernel
theorem d_M_alter_61 : decode b_M_alter 61 = .ok (.bipush 21, 2) := by decide +kernel
theorem d_M_alter_63 : decode b_M_alter 63 = .ok (.iconst 5, 1) := by decide +kernel
theorem d_M_alter_64 : decode b_M_alter 64 = .ok (.invokevirtual 85, 3) := by decide +kernel
theorem d_M_alter_67 : decode b_M_alter 67 = .ok (.ldc2_w 368, 3) := by decide +kernel
theorem d_M_alter_70 : decode b_M_alter 70 = .ok (.lcmp, 1) := by decide +kernel
theorem d_M_alter_71 : decode b_M_alter 71 = .ok (.ifCond .ne 32, 3) := by decide +kernel
theorem d_M_alter_74 : decode b_M_alter 74 = .ok (.aload_n 0, 1) := by decide +kernel
theorem d_M_alter_75 : decode b_M_alter 75 = .ok (.bipush 26, 2) := by decide +kernel
theorem d_M_alter_77 : decode b_M_alter 77 = .ok (.bipush 8, 2) := by decide +kernel
theorem d_M_alter_79 : decode b_M_alter 79 = .ok (.invokevirtual 85, 3) := by decide +kernel
theorem d_M_alter_82 : decode b_M_alter 82 = .ok (.ldc2_w 364, 3) := by decide +kernel
theorem d_M_alter_85 : decode b_M_alter 85 = .ok (.lcmp, 1) := by decide +kernel
theorem d_M_alter_86 : decode b_M_alter 86 = .ok (.ifCond .ne 17, 3) := by decide +kernel
theorem d_M_alter_89 : decode b_M_alter 89 = .ok (.aload_n 0, 1) := by decide +kernel
theorem d_M_alter_90 : decode b_M_alter 90 = .ok (.bipush 38, 2) := by decide +kernel
theorem d_M_alter_92 : decode b_M_alter 92 = .ok (.iconst 4, 1) := by decide +kernel
theorem d_M_alter_93 : decode b_M_alter 93 = .ok (.invokevirtual 85, 3) := by decide +kernel
theorem d_M_alter_96 : decode b_M_alter 96 = .ok (.ldc2_w 261, 3) := by decide +kernel
theorem d_M_alter_99 : decode b_M_alter 99 = .ok (.lcmp, 1) := by decide +kernel
theorem d_M_alter_100 : decode b_M_alter 100 = .ok (.ifCond .eq 7, 3) := by decide +kernel
theorem d_M_alter_103 : decode b_M_alter 103 = .ok (.iconst 1, 1) := by decide +kernel
theorem d_M_alter_104 : decode b_M_alter 104 = .ok (.goto 4, 3) := by decide +kernel
theorem d_M_alter_107 : decode b_M_alter 107 = .ok (.iconst 0, 1) := by decide +kernel
theorem d_M_alter_108 : decode b_M_alter 108 = .ok (.istore 5, 2) := by decide +kernel
theorem d_M_alter_110 : decode b_M_alter 110 = .ok (.iload 5, 2) := by decide +kernel
theorem d_M_alter_112 : decode b_M_alter 112 = .ok (.ifCond .ne 26, 3) := by decide +kernel
theorem d_M_alter_115 : decode b_M_alter 115 = .ok (.aload_n 0, 1) := by decide +kernel
theorem d_M_alter_116 : decode b_M_alter 116 = .ok (.iload_n 2, 1) := by decide +kernel
theorem d_M_alter_117 : decode b_M_alter 117 = .ok (.iconst 2, 1) := by decide +kernel
theorem d_M_alter_118 : decode b_M_alter 118 = .ok (.invokevirtual 85, 3) := by decide +kernel
theorem d_M_alter_121 : decode b_M_alter 121 = .ok (.lconst 0, 1) := by decide +kernel
theorem d_M_alter_122 : decode b_M_alter 122 = .ok (.lcmp, 1) := by decide +kernel
theorem d_M_alter_123 : decode b_M_alter 123 = .ok (.ifCond .ne 15, 3) := by decide +kernel
theorem d_M_alter_126 : decode b_M_alter 126 = .ok (.aload_n 0, 1) := by decide +kernel
theorem d_M_alter_127 : decode b_M_alter 127 = .ok (.iload 4, 2) := by decide +kernel
theorem d_M_alter_129 : decode b_M_alter 129 = .ok (.iconst 2, 1) := by decide +kernel
theorem d_M_alter_130 : decode b_M_alter 130 = .ok (.invokevirtual 85, 3) := by decide +kernel
theorem d_M_alter_133 : decode b_M_alter 133 = .ok (.lconst 0, 1) := by decide +kernel
theorem d_M_alter_134 : decode b_M_alter 134 = .ok (.lcmp, 1) := by decide +kernel
theorem d_M_alter_135 : decode b_M_alter 135 = .ok (.ifCond .eq 10, 3) := by decide +kernel
theorem d_M_alter_138 : decode b_M_alter 138 = .ok (.aload_n 0, 1) := by decide +kernel
theorem d_M_alter_139 : decode b_M_alter 139 = .ok (.ldc2_w 370, 3) := by decide +kernel
theorem d_M_alter_142 : decode b_M_alter 142 = .ok (.putfield 193, 3) := by decide +kernel
theorem d_M_alter_145 : decode b_M_alter 145 = .ok (.aload_n 0, 1) := by decide +kernel
theorem d_M_alter_146 : decode b_M_alter 146 = .ok (.iload_n 3, 1) := by decide +kernel
theorem d_M_alter_147 : decode b_M_alter 147 = .ok (.invokevirtual 372, 3) := by decide +kernel
theorem d_M_alter_150 : decode b_M_alter 150 = .ok (.istore 6, 2) := by decide +kernel
theorem d_M_alter_152 : decode b_M_alter 152 = .ok (.aload_n 0, 1) := by decide +kernel
theorem d_M_alter_153 : decode b_M_alter 153 = .ok (.getfield 193, 3) := by decide +kernel
theorem d_M_alter_156 : decode b_M_alter 156 = .ok (.lconst 0, 1) := by decide +kernel
theorem d_M_alter_157 : decode b_M_alter 157 = .ok (.lcmp, 1) := by decide +kernel
theorem d_M_alter_158 : decode b_M_alter 158 = .ok (.ifCond .ne 15, 3) := by decide +kernel
theorem d_M_alter_161 : decode b_M_alter 161 = .ok (.iload 6, 2) := by decide +kernel
theorem d_M_alter_163 : decode b_M_alter 163 = .ok (.iconst 1, 1) := by decide +kernel
theorem d_M_alter_164 : decode b_M_alter 164 = .ok (.iand, 1) := by decide +kernel
theorem d_M_alter_165 : decode b_M_alter 165 = .ok (.ifCond .eq 8, 3) := by decide +kernel
theorem d_M_alter_168 : decode b_M_alter 168 = .ok (.aload_n 0, 1) := by decide +kernel
theorem d_M_alter_169 : decode b_M_alter 169 = .ok (.iload_n 1, 1) := by decide +kernel
theorem d_M_alter_170 : decode b_M_alter 170 = .ok (.invokevirtual 375, 3) := by decide +kernel
theorem d_M_alter_173 : decode b_M_alter 173 = .ok (.aload_n 0, 1) := by decide +kernel
theorem d_M_alter_174 : decode b_M_alter 174 = .ok (.iload_n 1, 1) := by decide +kernel
theorem d_M_alter_175 : decode b_M_alter 175 = .ok (.iconst 5, 1) := by decide +kernel
theorem d_M_alter_176 : decode b_M_alter 176 = .ok (.invokevirtual 81, 3) := by decide +kernel
theorem d_M_alter_179 : decode b_M_alter 179 = .ok (.aload_n 0, 1) := by decide +kernel
theorem d_M_alter_180 : decode b_M_alter 180 = .ok (.getfield 276, 3) := by decide +kernel
theorem d_M_alter_183 : decode b_M_alter 183 = .ok (.if_icmp .ne 7, 3) := by decide +kernel
theorem d_M_alter_186 : decode b_M_alter 186 = .ok (.iconst 1, 1) := by decide +kernel
theorem d_M_alter_187 : decode b_M_alter 187 = .ok (.goto 4, 3) := by decide +kernel
theorem d_M_alter_190 : decode b_M_alter 190 = .ok (.iconst 0, 1) := by decide +kernel
theorem d_M_alter_191 : decode b_M_alter 191 = .ok (.istore 7, 2) := by decide +kernel
theorem d_M_alter_193 : decode b_M_alter 193 = .ok (.aload_n 0, 1) := by decide +kernel
theorem d_M_alter_194 : decode b_M_alter 194 = .ok (.bipush 34, 2) := by decide +kernel
theorem d_M_alter_196 : decode b_M_alter 196 = .ok (.iconst 4, 1) := by decide +kernel
theorem d_M_alter_197 : decode b_M_alter 197 = .ok (.invokevirtual 85, 3) := by decide +kernel
theorem d_M_alter_200 : decode b_M_alter 200 = .ok (.l2i, 1) := by decide +kernel
theorem d_M_alter_201 : decode b_M_alter 201 = .ok (.istore 8, 2) := by decide +kernel
theorem d_M_alter_203 : decode b_M_alter 203 = .ok (.aload_n 0, 1) := by decide +kernel
theorem d_M_alter_204 : decode b_M_alter 204 = .ok (.getfield 193, 3) := by decide +kernel
theorem d_M_alter_207 : decode b_M_alter 207 = .ok (.lconst 0, 1) := by decide +kernel
theorem d_M_alter_208 : decode b_M_alter 208 = .ok (.lcmp, 1) := by decide +kernel
theorem d_M_alter_209 : decode b_M_alter 209 = .ok (.ifCond .ne 22, 3) := by decide +kernel
theorem d_M_alter_212 : decode b_M_alter 212 = .ok (.iload 6, 2) := by decide +kernel
theorem d_M_alter_214 : decode b_M_alter 214 = .ok (.iconst 2, 1) := by decide +kernel
theorem d_M_alter_215 : decode b_M_alter 215 = .ok (.iand, 1) := by decide +kernel
theorem d_M_alter_216 : decode b_M_alter 216 = .ok (.ifCond .eq 15, 3) := by decide +kernel
theorem d_M_alter_219 : decode b_M_alter 219 = .ok (.iload 7, 2) := by decide +kernel
theorem d_M_alter_221 : decode b_M_alter 221 = .ok (.ifCond .ne 10, 3) := by decide +kernel
theorem d_M_alter_224 : decode b_M_alter 224 = .ok (.aload_n 0, 1) := by decide +kernel
theorem d_M_alter_225 : decode b_M_alter 225 = .ok (.ldc2_w 303, 3) := by decide +kernel
theorem d_M_alter_228 : decode b_M_alter 228 = .ok (.putfield 193, 3) := by decide +kernel
theorem d_M_alter_231 : decode b_M_alter 231 = .ok (.aload_n 0, 1) := by decide +kernel
theorem d_M_alter_232 : decode b_M_alter 232 = .ok (.getfield 193, 3) := by decide +kernel
theorem d_M_alter_235 : decode b_M_alter 235 = .ok (.lconst 0, 1) := by decide +kernel
theorem d_M_alter_236 : decode b_M_alter 236 = .ok (.lcmp, 1) := by decide +kernel
theorem d_M_alter_237 : decode b_M_alter 237 = .ok (.ifCond .ne 38, 3) := by decide +kernel
theorem d_M_alter_240 : decode b_M_alter 240 = .ok (.iload 6, 2) := by decide +kernel
theorem d_M_alter_242 : decode b_M_alter 242 = .ok (.iconst 2, 1) := by decide +kernel
theorem d_M_alter_243 : decode b_M_alter 243 = .ok (.iand, 1) := by decide +kernel
theorem d_M_alter_244 : decode b_M_alter 244 = .ok (.ifCond .eq 31, 3) := by decide +kernel
theorem d_M_alter_247 : decode b_M_alter 247 = .ok (.iload 8, 2) := by decide +kernel
theorem d_M_alter_249 : decode b_M_alter 249 = .ok (.ldc_w 333, 3) := by decide +kernel
theorem d_M_alter_252 : decode b_M_alter 252 = .ok (.iand, 1) := by decide +kernel
theorem d_M_alter_253 : decode b_M_alter 253 = .ok (.ifCond .ne 15, 3) := by decide +kernel
theorem d_M_alter_256 : decode b_M_alter 256 = .ok (.iload 8, 2) := by decide +kernel
theorem d_M_alter_258 : decode b_M_alter 258 = .ok (.aload_n 0, 1) := by decide +kernel
theorem d_M_alter_259 : decode b_M_alter 259 = .ok (.iload_n 1, 1) := by decide +kernel
theorem d_M_alter_260 : decode b_M_alter 260 = .ok (.iconst 3, 1) := by decide +kernel
theorem d_M_alter_261 : decode b_M_alter 261 = .ok (.invokevirtual 81, 3) := by decide +kernel
theorem d_M_alter_264 : decode b_M_alter 264 = .ok (.ixor, 1) := by decide +kernel
theorem d_M_alter_265 : decode b_M_alter 265 = .ok (.ifCond .ge 10, 3) := by decide +kernel
theorem d_M_alter_268 : decode b_M_alter 268 = .ok (.aload_n 0, 1) := by decide +kernel
theorem d_M_alter_269 : decode b_M_alter 269 = .ok (.ldc2_w 319, 3) := by decide +kernel
theorem d_M_alter_272 : decode b_M_alter 272 = .ok (.putfield 193, 3) := by decide +kernel
theorem d_M_alter_275 : decode b_M_alter 275 = .ok (.aload_n 0, 1) := by decide +kernel
theorem d_M_alter_276 : decode b_M_alter 276 = .ok (.getfield 193, 3) := by decide +kernel
theorem d_M_alter_279 : decode b_M_alter 279 = .ok (.lconst 0, 1) := by decide +kernel
theorem d_M_alter_280 : decode b_M_alter 280 = .ok (.lcmp, 1) := by decide +kernel
theorem d_M_alter_281 : decode b_M_alter 281 = .ok (.ifCond .ne 22, 3) := by decide +kernel
theorem d_M_alter_284 : decode b_M_alter 284 = .ok (.iload 6, 2) := by decide +kernel
theorem d_M_alter_286 : decode b_M_alter 286 = .ok (.iconst 4, 1) := by decide +kernel
theorem d_M_alter_287 : decode b_M_alter 287 = .ok (.iand, 1) := by decide +kernel
theorem d_M_alter_288 : decode b_M_alter 288 = .ok (.ifCond .eq 15, 3) := by decide +kernel
theorem d_M_alter_291 : decode b_M_alter 291 = .ok (.iload 7, 2) := by decide +kernel
theorem d_M_alter_293 : decode b_M_alter 293 = .ok (.ifCond .ne 10, 3) := by decide +kernel
theorem d_M_alter_296 : decode b_M_alter 296 = .ok (.aload_n 0, 1) := by decide +kernel
theorem d_M_alter_297 : decode b_M_alter 297 = .ok (.ldc2_w 303, 3) := by decide +kernel
theorem d_M_alter_300 : decode b_M_alter 300 = .ok (.putfield 193, 3) := by decide +kernel
theorem d_M_alter_303 : decode b_M_alter 303 = .ok (.aload_n 0, 1) := by decide +kernel
theorem d_M_alter_304 : decode b_M_alter 304 = .ok (.iload_n 3, 1) := by decide +kernel
theorem d_M_alter_305 : decode b_M_alter 305 = .ok (.invokevirtual 247, 3) := by decide +kernel
theorem d_M_alter_308 : decode b_M_alter 308 = .ok (.istore 9, 2) := by decide +kernel
theorem d_M_alter_310 : decode b_M_alter 310 = .ok (.aload_n 0, 1) := by decide +kernel
theorem d_M_alter_311 : decode b_M_alter 311 = .ok (.getfield 193, 3) := by decide +kernel
theorem d_M_alter_314 : decode b_M_alter 314 = .ok (.lconst 0, 1) := by decide +kernel
theorem d_M_alter_315 : decode b_M_alter 315 = .ok (.lcmp, 1) := by decide +kernel
theorem d_M_alter_316 : decode b_M_alter 316 = .ok (.ifCond .ne 23, 3) := by decide +kernel
theorem d_M_alter_319 : decode b_M_alter 319 = .ok (.iload 6, 2) := by decide +kernel
theorem d_M_alter_321 : decode b_M_alter 321 = .ok (.bipush 8, 2) := by decide +kernel
theorem d_M_alter_323 : decode b_M_alter 323 = .ok (.iand, 1) := by decide +kernel
theorem d_M_alter_324 : decode b_M_alter 324 = .ok (.ifCond .eq 15, 3) := by decide +kernel
theorem d_M_alter_327 : decode b_M_alter 327 = .ok (.iload 9, 2) := by decide +kernel
theorem d_M_alter_329 : decode b_M_alter 329 = .ok (.ifCond .ge 10, 3) := by decide +kernel
theorem d_M_alter_332 : decode b_M_alter 332 = .ok (.aload_n 0, 1) := by decide +kernel
theorem d_M_alter_333 : decode b_M_alter 333 = .ok (.ldc2_w 263, 3) := by decide +kernel
theorem d_M_alter_336 : decode b_M_alter 336 = .ok (.putfield 193, 3) := by decide +kernel
theorem d_M_alter_339 : decode b_M_alter 339 = .ok (.aload_n 0, 1) := by decide +kernel
theorem d_M_alter_340 : decode b_M_alter 340 = .ok (.getfield 193, 3) := by decide +kernel
theorem d_M_alter_343 : decode b_M_alter 343 = .ok (.lconst 0, 1) := by decide +kernel
theorem d_M_alter_344 : decode b_M_alter 344 = .ok (.lcmp, 1) := by decide +kernel
theorem d_M_alter_345 : decode b_M_alter 345 = .ok (.ifCond .ne 45, 3) := by decide +kernel
theorem d_M_alter_348 : decode b_M_alter 348 = .ok (.iload 6, 2) := by decide +kernel
theorem d_M_alter_350 : decode b_M_alter 350 = .ok (.bipush 8, 2) := by decide +kernel
theorem d_M_alter_352 : decode b_M_alter 352 = .ok (.iand, 1) := by decide +kernel
theorem d_M_alter_353 : decode b_M_alter 353 = .ok (.ifCond .eq 37, 3) := by decide +kernel
theorem d_M_alter_356 : decode b_M_alter 356 = .ok (.iload 7, 2) := by decide +kernel
theorem d_M_alter_358 : decode b_M_alter 358 = .ok (.ifCond .eq 25, 3) := by decide +kernel
theorem d_M_alter_361 : decode b_M_alter 361 = .ok (.aload_n 0, 1) := by decide +kernel
theorem d_M_alter_362 : decode b_M_alter 362 = .ok (.getfield 276, 3) := by decide +kernel
theorem d_M_alter_365 : decode b_M_alter 365 = .ok (.iload 9, 2) := by decide +kernel
theorem d_M_alter_367 : decode b_M_alter 367 = .ok (.if_icmp .eq 23, 3) := by decide +kernel
theorem d_M_alter_370 : decode b_M_alter 370 = .ok (.aload_n 0, 1) := by decide +kernel
theorem d_M_alter_371 : decode b_M_alter 371 = .ok (.getfield 276, 3) := by decide +kernel
theorem d_M_alter_374 : decode b_M_alter 374 = .ok (.iconst 1, 1) := by decide +kernel
theorem d_M_alter_375 : decode b_M_alter 375 = .ok (.if_icmp .ne 8, 3) := by decide +kernel
theorem d_M_alter_378 : decode b_M_alter 378 = .ok (.iload 9, 2) := by decide +kernel
theorem d_M_alter_380 : decode b_M_alter 380 = .ok (.ifCond .eq 10, 3) := by decide +kernel
theorem d_M_alter_383 : decode b_M_alter 383 = .ok (.aload_n 0, 1) := by decide +kernel
theorem d_M_alter_384 : decode b_M_alter 384 = .ok (.ldc2_w 303, 3) := by decide +kernel
theorem d_M_alter_387 : decode b_M_alter 387 = .ok (.putfield 193, 3) := by decide +kernel
theorem d_M_alter_390 : decode b_M_alter 390 = .ok (.aload_n 0, 1) := by decide +kernel
theorem d_M_alter_391 : decode b_M_alter 391 = .ok (.getfield 193, 3) := by decide +kernel
theorem d_M_alter_394 : decode b_M_alter 394 = .ok (.lconst 0, 1) := by decide +kernel
theorem d_M_alter_395 : decode b_M_alter 395 = .ok (.lcmp, 1) := by decide +kernel
theorem d_M_alter_396 : decode b_M_alter 396 = .ok (.ifCond .ne 16, 3) := by decide +kernel
theorem d_M_alter_399 : decode b_M_alter 399 = .ok (.iload 6, 2) := by decide +kernel
theorem d_M_alter_401 : decode b_M_alter 401 = .ok (.bipush 16, 2) := by decide +kernel
theorem d_M_alter_403 : decode b_M_alter 403 = .ok (.iand, 1) := by decide +kernel
theorem d_M_alter_404 : decode b_M_alter 404 = .ok (.ifCond .eq 8, 3) := by decide +kernel
theorem d_M_alter_407 : decode b_M_alter 407 = .ok (.aload_n 0, 1) := by decide +kernel
theorem d_M_alter_408 : decode b_M_alter 408 = .ok (.iload_n 1, 1) := by decide +kernel
theorem d_M_alter_409 : decode b_M_alter 409 = .ok (.invokevirtual 378, 3) := by decide +kernel
theorem d_M_alter_412 : decode b_M_alter 412 = .ok (.aload_n 0, 1) := by decide +kernel
theorem d_M_alter_413 : decode b_M_alter 413 = .ok (.getfield 193, 3) := by decide +kernel
theorem d_M_alter_416 : decode b_M_alter 416 = .ok (.lconst 0, 1) := by decide +kernel
theorem d_M_alter_417 : decode b_M_alter 417 = .ok (.lcmp, 1) := by decide +kernel
theorem d_M_alter_418 : decode b_M_alter 418 = .ok (.ifCond .ne 8, 3) := by decide +kernel
theorem d_M_alter_421 : decode b_M_alter 421 = .ok (.iload 6, 2) := by decide +kernel
theorem d_M_alter_423 : decode b_M_alter 423 = .ok (.ifCond .ne 4, 3) := by decide +kernel
theorem d_M_alter_426 : decode b_M_alter 426 = .ok (.return_, 1) := by decide +kernel
theorem d_M_alter_427 : decode b_M_alter 427 = .ok (.aload_n 0, 1) := by decide +kernel
theorem d_M_alter_428 : decode b_M_alter 428 = .ok (.invokevirtual 170, 3) := by decide +kernel
theorem d_M_alter_431 : decode b_M_alter 431 = .ok (.iload 6, 2) := by decide +kernel
theorem d_M_alter_433 : decode b_M_alter 433 = .ok (.iconst 1, 1) := by decide +kernel
theorem d_M_alter_434 : decode b_M_alter 434 = .ok (.iand, 1) := by decide +kernel
theorem d_M_alter_435 : decode b_M_alter 435 = .ok (.ifCond .eq 17, 3) := by decide +kernel
theorem d_M_alter_438 : decode b_M_alter 438 = .ok (.aload_n 0, 1) := by decide +kernel
theorem d_M_alter_439 : decode b_M_alter 439 = .ok (.iload_n 1, 1) := by decide +kernel
theorem d_M_alter_440 : decode b_M_alter 440 = .ok (.aload_n 0, 1) := by decide +kernel
theorem d_M_alter_441 : decode b_M_alter 441 = .ok (.bipush 46, 2) := by decide +kernel
theorem d_M_alter_443 : decode b_M_alter 443 = .ok (.bipush 8, 2) := by decide +kernel
theorem d_M_alter_445 : decode b_M_alter 445 = .ok (.invokevirtual 85, 3) := by decide +kernel
theorem d_M_alter_448 : decode b_M_alter 448 = .ok (.l2i, 1) := by decide +kernel
theorem d_M_alter_449 : decode b_M_alter 449 = .ok (.invokevirtual 381, 3) := by decide +kernel
theorem d_M_alter_452 : decode b_M_alter 452 = .ok (.iload 6, 2) := by decide +kernel
theorem d_M_alter_454 : decode b_M_alter 454 = .ok (.iconst 2, 1) := by decide +kernel
theorem d_M_alter_455 : decode b_M_alter 455 = .ok (.iand, 1) := by decide +kernel
theorem d_M_alter_456 : decode b_M_alter 456 = .ok (.ifCond .eq 11, 3) := by decide +kernel
theorem d_M_alter_459 : decode b_M_alter 459 = .ok (.aload_n 0, 1) := by decide +kernel
theorem d_M_alter_460 : decode b_M_alter 460 = .ok (.iload_n 1, 1) := by decide +kernel
theorem d_M_alter_461 : decode b_M_alter 461 = .ok (.iconst 3, 1) := by decide +kernel
theorem d_M_alter_462 : decode b_M_alter 462 = .ok (.iload 8, 2) := by decide +kernel
theorem d_M_alter_464 : decode b_M_alter 464 = .ok (.invokevirtual 104, 3) := by decide +kernel
theorem d_M_alter_467 : decode b_M_alter 467 = .ok (.iload 6, 2) := by decide +kernel
theorem d_M_alter_469 : decode b_M_alter 469 = .ok (.bipush 8, 2) := by decide +kernel
theorem d_M_alter_471 : decode b_M_alter 471 = .ok (.iand, 1) := by decide +kernel
theorem d_M_alter_472 : decode b_M_alter 472 = .ok (.ifCond .eq 12, 3) := by decide +kernel
theorem d_M_alter_475 : decode b_M_alter 475 = .ok (.aload_n 0, 1) := by decide +kernel
theorem d_M_alter_476 : decode b_M_alter 476 = .ok (.iload_n 1, 1) := by decide +kernel
theorem d_M_alter_477 : decode b_M_alter 477 = .ok (.bipush 6, 2) := by decide +kernel
theorem d_M_alter_479 : decode b_M_alter 479 = .ok (.iload 9, 2) := by decide +kernel
theorem d_M_alter_481 : decode b_M_alter 481 = .ok (.invokevirtual 104, 3) := by decide +kernel
theorem d_M_alter_484 : decode b_M_alter 484 = .ok (.iload 6, 2) := by decide +kernel
theorem d_M_alter_486 : decode b_M_alter 486 = .ok (.bipush 16, 2) := by decide +kernel
theorem d_M_alter_488 : decode b_M_alter 488 = .ok (.iand, 1) := by decide +kernel
theorem d_M_alter_489 : decode b_M_alter 489 = .ok (.ifCond .eq 10, 3) := by decide +kernel
theorem d_M_alter_492 : decode b_M_alter 492 = .ok (.aload_n 0, 1) := by decide +kernel
theorem d_M_alter_493 : decode b_M_alter 493 = .ok (.iload_n 1, 1) := by decide +kernel
theorem d_M_alter_494 : decode b_M_alter 494 = .ok (.bipush 54, 2) := by decide +kernel
theorem d_M_alter_496 : decode b_M_alter 496 = .ok (.invokevirtual 348, 3) := by decide +kernel
theorem d_M_alter_499 : decode b_M_alter 499 = .ok (.iload 6, 2) := by decide +kernel
theorem d_M_alter_501 : decode b_M_alter 501 = .ok (.bipush 16, 2) := by decide +kernel
theorem d_M_alter_503 : decode b_M_alter 503 = .ok (.iand, 1) := by decide +kernel
theorem d_M_alter_504 : decode b_M_alter 504 = .ok (.ifCond .eq 22, 3) := by decide +kernel
theorem d_M_alter_507 : decode b_M_alter 507 = .ok (.aload_n 0, 1) := by decide +kernel
theorem d_M_alter_508 : decode b_M_alter 508 = .ok (.aload_n 0, 1) := by decide +kernel
theorem d_M_alter_509 : decode b_M_alter 509 = .ok (.aload_n 0, 1) := by decide +kernel
theorem d_M_alter_510 : decode b_M_alter 510 = .ok (.iload_n 1, 1) := by decide +kernel
theorem d_M_alter_511 : decode b_M_alter 511 = .ok (.bipush 8, 2) := by decide +kernel
theorem d_M_alter_513 : decode b_M_alter 513 = .ok (.invokevirtual 81, 3) := by decide +kernel
theorem d_M_alter_516 : decode b_M_alter 516 = .ok (.invokevirtual 89, 3) := by decide +kernel
theorem d_M_alter_519 : decode b_M_alter 519 = .ok (.aload_n 0, 1) := by decide +kernel
theorem d_M_alter_520 : decode b_M_alter 520 = .ok (.getfield 276, 3) := by decide +kernel
theorem d_M_alter_523 : decode b_M_alter 523 = .ok (.invokevirtual 111, 3) := by decide +kernel
theorem d_M_alter_526 : decode b_M_alter 526 = .ok (.iload 6, 2) := by decide +kernel
theorem d_M_alter_528 : decode b_M_alter 528 = .ok (.iconst 4, 1) := by decide +kernel
theorem d_M_alter_529 : decode b_M_alter 529 = .ok (.iand, 1) := by decide +kernel
theorem d_M_alter_530 : decode b_M_alter 530 = .ok (.ifCond .eq 17, 3) := by decide +kernel
theorem d_M_alter_533 : decode b_M_alter 533 = .ok (.aload_n 0, 1) := by decide +kernel
theorem d_M_alter_534 : decode b_M_alter 534 = .ok (.iload_n 1, 1) := by decide +kernel
theorem d_M_alter_535 : decode b_M_alter 535 = .ok (.iconst 4, 1) := by decide +kernel
theorem d_M_alter_536 : decode b_M_alter 536 = .ok (.aload_n 0, 1) := by decide +kernel
theorem d_M_alter_537 : decode b_M_alter 537 = .ok (.bipush 42, 2) := by decide +kernel
theorem d_M_alter_539 : decode b_M_alter 539 = .ok (.iconst 4, 1) := by decide +kernel
theorem d_M_alter_540 : decode b_M_alter 540 = .ok (.invokevirtual 85, 3) := by decide +kernel
theorem d_M_alter_543 : decode b_M_alter 543 = .ok (.l2i, 1) := by decide +kernel
theorem d_M_alter_544 : decode b_M_alter 544 = .ok (.invokevirtual 104, 3) := by decide +kernel
theorem d_M_alter_547 : decode b_M_alter 547 = .ok (.aload_n 0, 1) := by decide +kernel
theorem d_M_alter_548 : decode b_M_alter 548 = .ok (.aload_n 0, 1) := by decide +kernel
theorem d_M_alter_549 : decode b_M_alter 549 = .ok (.getfield 187, 3) := by decide +kernel
theorem d_M_alter_552 : decode b_M_alter 552 = .ok (.invokevirtual 176, 3) := by decide +kernel
theorem d_M_alter_555 : decode b_M_alter 555 = .ok (.istore 10, 2) := by decide +kernel
theorem d_M_alter_557 : decode b_M_alter 557 = .ok (.return_, 1) := by decide +kernel
abbrev rm_M_alter : Room := { frames := 4, cells := 0, slots := 0, locals := 90 }
set_option maxRecDepth 100000 in
set_option maxHeartbeats 4000000 in
theorem k_M_alter_547 {p : Program} {l : Launch} {e : Env} {s : State} {m : MethodId} {args : Array Value} {below : List Frame} {meth : Method} {c : Code} {t : TY} {a0 : Nat} {K : GS → Prop} (X : kX p s m args meth c b_M_alter 11 "TreeServerModel" t) (hret : meth.sig.returnType = none)  (G : GS) (hwp : w_M_alter_547 t a0 K G) : kW p l e rm_M_alter s m args below meth c (MQ below (va_Qv (fun u : GS => K u) (fun u T => HB t u T.heap) (tA t)) args s 0 0 (tA t)) 11 t false 547 [(0, va_rf (some a0))] [] G := by
  unfold w_M_alter_547 at hwp
  refine kw_aload_n (pc := 547) X d_M_alter_547 rfl 0 rfl ?_
  refine kw_aload_n (pc := 548) X d_M_alter_548 rfl 0 rfl ?_
  obtain ⟨f1, hwp⟩ := hwp
  refine kg_95 (a := a0) (pc := 549) X d_M_alter_549 x_1015 rfl f1 ?_
  refine kcV_i (n := 1) (As := [.int (gi G 95 a0)]) (rest := []) (pc := 552) X rfl (c_M_commit l t G a0 (gi G 95 a0) _) (cwV_of (C := "TreeServerModel") X x_1147 x_1144 x_1146 xp_50 x_13 (by decide +kernel) ⟨rfl, rfl⟩ (by decide)) (rv_10 X f1) rfl rfl (by decide) d_M_alter_552 hwp (fun v3 G2 hwp => ?_)
  obtain ⟨b_v3, hwp⟩ := hwp
  refine kw_istore (i := 10) (lv' := [(10, .int v3), (0, va_rf (some a0))]) (pc := 555) X d_M_alter_555 (by decide) rfl ?_
  exact kr_v (pc := 557) X hret d_M_alter_557 hwp
set_option maxRecDepth 100000 in
set_option maxHeartbeats 4000000 in
theorem k_M_alter_526 {p : Program} {l : Launch} {e : Env} {s : State} {m : MethodId} {args : Array Value} {below : List Frame} {meth : Method} {c : Code} {t : TY} {a0 : Nat} {K : GS → Prop} (X : kX p s m args meth c b_M_alter 11 "TreeServerModel" t) (hret : meth.sig.returnType = none) (l1 : Int32) (l6 : Int32) (G : GS) (hwp : w_M_alter_526 t a0 K l1 l6 G) : kW p l e rm_M_alter s m args below meth c (MQ below (va_Qv (fun u : GS => K u) (fun u T => HB t u T.heap) (tA t)) args s 0 0 (tA t)) 11 t false 526 [(0, va_rf (some a0)), (1, .int l1), (6, .int l6)] [] G := by
  unfold w_M_alter_526 at hwp
  refine kw_iload (pc := 526) X d_M_alter_526 2 rfl ?_
  refine kw_iconst (v := 4) (pc := 528) X d_M_alter_528 (by decide) ?_
  refine kw_iand (pc := 529) X d_M_alter_529 ?_
  refine kw_if_eq (tgt := 547) (pc := 530) X d_M_alter_530 (by decide) (fun h => ?_) (fun h => ?_)
  · have hwp := ite_t h hwp
    exact kW.sub [0] rfl (k_M_alter_547 X hret  _ hwp)
  · have hwp := ite_f h hwp
    refine kw_aload_n (pc := 533) X d_M_alter_533 rfl 0 rfl ?_
    refine kw_iload_n (pc := 534) X d_M_alter_534 rfl 1 rfl ?_
    refine kw_iconst (v := 4) (pc := 535) X d_M_alter_535 (by decide) ?_
    refine kw_aload_n (pc := 536) X d_M_alter_536 rfl 0 rfl ?_
    refine kw_bipush (v := 42) (pc := 537) X d_M_alter_537 (by decide) ?_
    refine kw_iconst (v := 4) (pc := 539) X d_M_alter_539 (by decide) ?_
    obtain ⟨f1, hwp⟩ := hwp
    refine kcVp_l (n := 2) (As := [.int (42 : Int32), .int (4 : Int32)]) (rest := [.int (4 : Int32), .int l1, va_rf (some a0)]) (pc := 540) X (c_M_get l t G a0 (42 : Int32) (4 : Int32) _) (cwV_of (C := "TreeServerModel") X x_1175 x_1172 x_1174 xp_56 x_13 (by decide +kernel) ⟨rfl, rfl⟩ (by decide)) (rv_10 X f1) rfl rfl (by simp [rf_cat, cat_i, cat_l, cat_r]) d_M_alter_540 hwp (fun v2 hwp => ?_)
    refine kw_l2i (pc := 543) X d_M_alter_543 ?_
    refine kcV_v (n := 3) (As := [.int l1, .int (4 : Int32), .int v2.toInt32]) (rest := []) (pc := 544) X rfl (c_M_set l t G a0 l1 (4 : Int32) v2.toInt32 _) (cwV_of (C := "TreeServerModel") X x_1139 x_1136 x_1138 xp_48 x_13 (by decide +kernel) ⟨rfl, rfl⟩ (by decide)) (rv_10 X f1) rfl rfl (by decide) d_M_alter_544 hwp (fun G3 hwp => ?_)
    exact kW.sub [0] rfl (k_M_alter_547 X hret  _ hwp)
set_option maxRecDepth 100000 in
set_option maxHeartbeats 4000000 in
theorem k_M_alter_499 {p : Program} {l : Launch} {e : Env} {s : State} {m : MethodId} {args : Array Value} {below : List Frame} {meth : Method} {c : Code} {t : TY} {a0 : Nat} {K : GS → Prop} (X : kX p s m args meth c b_M_alter 11 "TreeServerModel" t) (hret : meth.sig.returnType = none) (l1 : Int32) (l6 : Int32) (G : GS) (hwp : w_M_alter_499 t a0 K l1 l6 G) : kW p l e rm_M_alter s m args below meth c (MQ below (va_Qv (fun u : GS => K u) (fun u T => HB t u T.heap) (tA t)) args s 0 0 (tA t)) 11 t false 499 [(0, va_rf (some a0)), (1, .int l1), (6, .int l6)] [] G := by
  unfold w_M_alter_499 at hwp
  refine kw_iload (pc := 499) X d_M_alter_499 2 rfl ?_
  refine kw_bipush (v := 16) (pc := 501) X d_M_alter_501 (by decide) ?_
  refine kw_iand (pc := 503) X d_M_alter_503 ?_
  refine kw_if_eq (tgt := 526) (pc := 504) X d_M_alter_504 (by decide) (fun h => ?_) (fun h => ?_)
  · have hwp := ite_t h hwp
    exact kW.sub [0, 1, 2] rfl (k_M_alter_526 X hret  _ _ _ hwp)
  · have hwp := ite_f h hwp
    refine kw_aload_n (pc := 507) X d_M_alter_507 rfl 0 rfl ?_
    refine kw_aload_n (pc := 508) X d_M_alter_508 rfl 0 rfl ?_
    refine kw_aload_n (pc := 509) X d_M_alter_509 rfl 0 rfl ?_
    refine kw_iload_n (pc := 510) X d_M_alter_510 rfl 1 rfl ?_
    refine kw_bipush (v := 8) (pc := 511) X d_M_alter_511 (by decide) ?_
    obtain ⟨f1, hwp⟩ := hwp
    refine kcVp_i (n := 2) (As := [.int l1, .int (8 : Int32)]) (rest := [va_rf (some a0), va_rf (some a0)]) (pc := 513) X (c_M_at l t G a0 l1 (8 : Int32) _) (cwV_of (C := "TreeServerModel") X x_1111 x_1108 x_1110 xp_41 x_13 (by decide +kernel) ⟨rfl, rfl⟩ (by decide)) (rv_10 X f1) rfl rfl (by simp [rf_cat, cat_i, cat_l, cat_r]) d_M_alter_513 hwp (fun v2 hwp => ?_)
    refine kcVp_i (n := 1) (As := [.int v2]) (rest := [va_rf (some a0)]) (pc := 516) X (c_M_find l t G a0 v2 _) (cwV_of (C := "TreeServerModel") X x_1107 x_1104 x_1106 xp_40 x_13 (by decide +kernel) ⟨rfl, rfl⟩ (by decide)) (rv_10 X f1) rfl rfl (by simp [rf_cat, cat_i, cat_l, cat_r]) d_M_alter_516 hwp (fun v3 hwp => ?_)
    refine kw_aload_n (pc := 519) X d_M_alter_519 rfl 0 rfl ?_
    refine kg_99 (a := a0) (pc := 520) X d_M_alter_520 x_1019 rfl f1 ?_
    refine kcV_v (n := 2) (As := [.int v3, .int (gi G 99 a0)]) (rest := []) (pc := 523) X rfl (c_M_changes l t G a0 v3 (gi G 99 a0) _) (cwV_of (C := "TreeServerModel") X x_1143 x_1140 x_1142 xp_49 x_13 (by decide +kernel) ⟨rfl, rfl⟩ (by decide)) (rv_10 X f1) rfl rfl (by decide) d_M_alter_523 hwp (fun G4 hwp => ?_)
    exact kW.sub [0, 1, 2] rfl (k_M_alter_526 X hret  _ _ _ hwp)
set_option maxRecDepth 100000 in
set_option maxHeartbeats 4000000 in
theorem k_M_alter_484 {p : Program} {l : Launch} {e : Env} {s : State} {m : MethodId} {args : Array Value} {below : List Frame} {meth : Method} {c : Code} {t : TY} {a0 : Nat} {K : GS → Prop} (X : kX p s m args meth c b_M_alter 11 "TreeServerModel" t) (hret : meth.sig.returnType = none) (l1 : Int32) (l6 : Int32) (G : GS) (hwp : w_M_alter_484 t a0 K l1 l6 G) : kW p l e rm_M_alter s m args below meth c (MQ below (va_Qv (fun u : GS => K u) (fun u T => HB t u T.heap) (tA t)) args s 0 0 (tA t)) 11 t false 484 [(0, va_rf (some a0)), (1, .int l1), (6, .int l6)] [] G := by
  unfold w_M_alter_484 at hwp
  refine kw_iload (pc := 484) X d_M_alter_484 2 rfl ?_
  refine kw_bipush (v := 16) (pc := 486) X d_M_alter_486 (by decide) ?_
  refine kw_iand (pc := 488) X d_M_alter_488 ?_
  refine kw_if_eq (tgt := 499) (pc := 489) X d_M_alter_489 (by decide) (fun h => ?_) (fun h => ?_)
  · have hwp := ite_t h hwp
    exact kW.sub [0, 1, 2] rfl (k_M_alter_499 X hret  _ _ _ hwp)
  · have hwp := ite_f h hwp
    refine kw_aload_n (pc := 492) X d_M_alter_492 rfl 0 rfl ?_
    refine kw_iload_n (pc := 493) X d_M_alter_493 rfl 1 rfl ?_
    refine kw_bipush (v := 54) (pc := 494) X d_M_alter_494 (by decide) ?_
    obtain ⟨f1, hwp⟩ := hwp
    refine kcV_v (n := 2) (As := [.int l1, .int (54 : Int32)]) (rest := []) (pc := 496) X rfl (c_M_rename l t G a0 l1 (54 : Int32) _) (cwV_of (C := "TreeServerModel") X x_1302 x_1299 x_1301 xp_79 x_13 (by decide +kernel) ⟨rfl, rfl⟩ (by decide)) (rv_10 X f1) rfl rfl (by decide) d_M_alter_496 hwp (fun G2 hwp => ?_)
    exact kW.sub [0, 1, 2] rfl (k_M_alter_499 X hret  _ _ _ hwp)
set_option maxRecDepth 100000 in
set_option maxHeartbeats 4000000 in
theorem k_M_alter_467 {p : Program} {l : Launch} {e : Env} {s : State} {m : MethodId} {args : Array Value} {below : List Frame} {meth : Method} {c : Code} {t : TY} {a0 : Nat} {K : GS → Prop} (X : kX p s m args meth c b_M_alter 11 "TreeServerModel" t) (hret : meth.sig.returnType = none) (l1 : Int32) (l6 : Int32) (l9 : Int32) (G : GS) (hwp : w_M_alter_467 t a0 K l1 l6 l9 G) : kW p l e rm_M_alter s m args below meth c (MQ below (va_Qv (fun u : GS => K u) (fun u T => HB t u T.heap) (tA t)) args s 0 0 (tA t)) 11 t false 467 [(0, va_rf (some a0)), (1, .int l1), (6, .int l6), (9, .int l9)] [] G := by
  unfold w_M_alter_467 at hwp
  refine kw_iload (pc := 467) X d_M_alter_467 2 rfl ?_
  refine kw_bipush (v := 8) (pc := 469) X d_M_alter_469 (by decide) ?_
  refine kw_iand (pc := 471) X d_M_alter_471 ?_
  refine kw_if_eq (tgt := 484) (pc := 472) X d_M_alter_472 (by decide) (fun h => ?_) (fun h => ?_)
  · have hwp := ite_t h hwp
    exact kW.sub [0, 1, 2] rfl (k_M_alter_484 X hret  _ _ _ hwp)
  · have hwp := ite_f h hwp
    refine kw_aload_n (pc := 475) X d_M_alter_475 rfl 0 rfl ?_
    refine kw_iload_n (pc := 476) X d_M_alter_476 rfl 1 rfl ?_
    refine kw_bipush (v := 6) (pc := 477) X d_M_alter_477 (by decide) ?_
    refine kw_iload (pc := 479) X d_M_alter_479 3 rfl ?_
    obtain ⟨f1, hwp⟩ := hwp
    refine kcV_v (n := 3) (As := [.int l1, .int (6 : Int32), .int l9]) (rest := []) (pc := 481) X rfl (c_M_set l t G a0 l1 (6 : Int32) l9 _) (cwV_of (C := "TreeServerModel") X x_1139 x_1136 x_1138 xp_48 x_13 (by decide +kernel) ⟨rfl, rfl⟩ (by decide)) (rv_10 X f1) rfl rfl (by decide) d_M_alter_481 hwp (fun G2 hwp => ?_)
    exact kW.sub [0, 1, 2] rfl (k_M_alter_484 X hret  _ _ _ hwp)
set_option maxRecDepth 100000 in
set_option maxHeartbeats 4000000 in
theorem k_M_alter_452 {p : Program} {l : Launch} {e : Env} {s : State} {m : MethodId} {args : Array Value} {below : List Frame} {meth : Method} {c : Code} {t : TY} {a0 : Nat} {K : GS → Prop} (X : kX p s m args meth c b_M_alter 11 "TreeServerModel" t) (hret : meth.sig.returnType = none) (l1 : Int32) (l6 : Int32) (l8 : Int32) (l9 : Int32) (G : GS) (hwp : w_M_alter_452 t a0 K l1 l6 l8 l9 G) : kW p l e rm_M_alter s m args below meth c (MQ below (va_Qv (fun u : GS => K u) (fun u T => HB t u T.heap) (tA t)) args s 0 0 (tA t)) 11 t false 452 [(0, va_rf (some a0)), (1, .int l1), (6, .int l6), (8, .int l8), (9, .int l9)] [] G := by
  unfold w_M_alter_452 at hwp
  refine kw_iload (pc := 452) X d_M_alter_452 2 rfl ?_
  refine kw_iconst (v := 2) (pc := 454) X d_M_alter_454 (by decide) ?_
  refine kw_iand (pc := 455) X d_M_alter_455 ?_
  refine kw_if_eq (tgt := 467) (pc := 456) X d_M_alter_456 (by decide) (fun h => ?_) (fun h => ?_)
  · have hwp := ite_t h hwp
    exact kW.sub [0, 1, 2, 4] rfl (k_M_alter_467 X hret  _ _ _ _ hwp)
  · have hwp := ite_f h hwp
    refine kw_aload_n (pc := 459) X d_M_alter_459 rfl 0 rfl ?_
    refine kw_iload_n (pc := 460) X d_M_alter_460 rfl 1 rfl ?_
    refine kw_iconst (v := 3) (pc := 461) X d_M_alter_461 (by decide) ?_
    refine kw_iload (pc := 462) X d_M_alter_462 3 rfl ?_
    obtain ⟨f1, hwp⟩ := hwp
    refine kcV_v (n := 3) (As := [.int l1, .int (3 : Int32), .int l8]) (rest := []) (pc := 464) X rfl (c_M_set l t G a0 l1 (3 : Int32) l8 _) (cwV_of (C := "TreeServerModel") X x_1139 x_1136 x_1138 xp_48 x_13 (by decide +kernel) ⟨rfl, rfl⟩ (by decide)) (rv_10 X f1) rfl rfl (by decide) d_M_alter_464 hwp (fun G2 hwp => ?_)
    exact kW.sub [0, 1, 2, 4] rfl (k_M_alter_467 X hret  _ _ _ _ hwp)
set_option maxRecDepth 100000 in
set_option maxHeartbeats 4000000 in
theorem k_M_alter_412 {p : Program} {l : Launch} {e : Env} {s : State} {m : MethodId} {args : Array Value} {below : List Frame} {meth : Method} {c : Code} {t : TY} {a0 : Nat} {K : GS → Prop} (X : kX p s m args meth c b_M_alter 11 "TreeServerModel" t) (hret : meth.sig.returnType = none) (l1 : Int32) (l6 : Int32) (l8 : Int32) (l9 : Int32) (G : GS) (hwp : w_M_alter_412 t a0 K l1 l6 l8 l9 G) : kW p l e rm_M_alter s m args below meth c (MQ below (va_Qv (fun u : GS => K u) (fun u T => HB t u T.heap) (tA t)) args s 0 0 (tA t)) 11 t false 412 [(0, va_rf (some a0)), (1, .int l1), (6, .int l6), (8, .int l8), (9, .int l9)] [] G := by
  unfold w_M_alter_412 at hwp
  refine kw_aload_n (pc := 412) X d_M_alter_412 rfl 0 rfl ?_
  obtain ⟨f1, hwp⟩ := hwp
  refine kg_98 (a := a0) (pc := 413) X d_M_alter_413 x_1018 rfl f1 ?_
  refine kw_lconst (v := 0) (pc := 416) X d_M_alter_416 (by decide) ?_
  refine kw_lcmp_ne (tgt := 426) (pc := 417) X d_M_alter_417 d_M_alter_418 (by decide) (fun h => ?_) (fun h => ?_)
  · have hwp := ite_t h hwp
    exact kr_v (pc := 426) X hret d_M_alter_426 hwp
  · have hwp := ite_f (not_not_intro h) hwp
    refine kw_iload (pc := 421) X d_M_alter_421 2 rfl ?_
    refine kw_if_ne (tgt := 427) (pc := 423) X d_M_alter_423 (by decide) (fun h => ?_) (fun h => ?_)
    · have hwp := ite_t h hwp
      refine kw_aload_n (pc := 427) X d_M_alter_427 rfl 0 rfl ?_
      refine kcV_v (n := 0) (As := []) (rest := []) (pc := 428) X rfl (c_M_begin l t G a0 _) (cwV_of (C := "TreeServerModel") X x_1131 x_1128 x_1130 xp_46 x_13 (by decide +kernel) ⟨rfl, rfl⟩ (by decide)) (rv_10 X f1) rfl rfl (by decide) d_M_alter_428 hwp (fun G2 hwp => ?_)
      refine kw_iload (pc := 431) X d_M_alter_431 2 rfl ?_
      refine kw_iconst (v := 1) (pc := 433) X d_M_alter_433 (by decide) ?_
      refine kw_iand (pc := 434) X d_M_alter_434 ?_
      refine kw_if_eq (tgt := 452) (pc := 435) X d_M_alter_435 (by decide) (fun h => ?_) (fun h => ?_)
      · have hwp := ite_t h hwp
        exact kW.sub [0, 1, 2, 3, 4] rfl (k_M_alter_452 X hret  _ _ _ _ _ hwp)
      · have hwp := ite_f h hwp
        refine kw_aload_n (pc := 438) X d_M_alter_438 rfl 0 rfl ?_
        refine kw_iload_n (pc := 439) X d_M_alter_439 rfl 1 rfl ?_
        refine kw_aload_n (pc := 440) X d_M_alter_440 rfl 0 rfl ?_
        refine kw_bipush (v := 46) (pc := 441) X d_M_alter_441 (by decide) ?_
        refine kw_bipush (v := 8) (pc := 443) X d_M_alter_443 (by decide) ?_
        refine kcVp_l (n := 2) (As := [.int (46 : Int32), .int (8 : Int32)]) (rest := [.int l1, va_rf (some a0)]) (pc := 445) X (c_M_get l t G2 a0 (46 : Int32) (8 : Int32) _) (cwV_of (C := "TreeServerModel") X x_1175 x_1172 x_1174 xp_56 x_13 (by decide +kernel) ⟨rfl, rfl⟩ (by decide)) (rv_10 X f1) rfl rfl (by simp [rf_cat, cat_i, cat_l, cat_r]) d_M_alter_445 hwp (fun v3 hwp => ?_)
        refine kw_l2i (pc := 448) X d_M_alter_448 ?_
        refine kcV_v (n := 2) (As := [.int l1, .int v3.toInt32]) (rest := []) (pc := 449) X rfl (c_M_resize l t G2 a0 l1 v3.toInt32 _) (cwV_of (C := "TreeServerModel") X x_1368 x_1365 x_1367 xp_92 x_13 (by decide +kernel) ⟨rfl, rfl⟩ (by decide)) (rv_10 X f1) rfl rfl (by decide) d_M_alter_449 hwp (fun G4 hwp => ?_)
        exact kW.sub [0, 1, 2, 3, 4] rfl (k_M_alter_452 X hret  _ _ _ _ _ hwp)
    · have hwp := ite_f (not_not_intro h) hwp
      exact kr_v (pc := 426) X hret d_M_alter_426 hwp
set_option maxRecDepth 100000 in
set_option maxHeartbeats 4000000 in
theorem k_M_alter_390 {p : Program} {l : Launch} {e : Env} {s : State} {m : MethodId} {args : Array Value} {below : List Frame} {meth : Method} {c : Code} {t : TY} {a0 : Nat} {K : GS → Prop} (X : kX p s m args meth c b_M_alter 11 "TreeServerModel" t) (hret : meth.sig.returnType = none) (l1 : Int32) (l6 : Int32) (l8 : Int32) (l9 : Int32) (G : GS) (hwp : w_M_alter_390 t a0 K l1 l6 l8 l9 G) : kW p l e rm_M_alter s m args below meth c (MQ below (va_Qv (fun u : GS => K u) (fun u T => HB t u T.heap) (tA t)) args s 0 0 (tA t)) 11 t false 390 [(0, va_rf (some a0)), (1, .int l1), (6, .int l6), (8, .int l8), (9, .int l9)] [] G := by
  unfold w_M_alter_390 at hwp
  refine kw_aload_n (pc := 390) X d_M_alter_390 rfl 0 rfl ?_
  obtain ⟨f1, hwp⟩ := hwp
  refine kg_98 (a := a0) (pc := 391) X d_M_alter_391 x_1018 rfl f1 ?_
  refine kw_lconst (v := 0) (pc := 394) X d_M_alter_394 (by decide) ?_
  refine kw_lcmp_ne (tgt := 412) (pc := 395) X d_M_alter_395 d_M_alter_396 (by decide) (fun h => ?_) (fun h => ?_)
  · have hwp := ite_t h hwp
    exact kW.sub [0, 1, 2, 3, 4] rfl (k_M_alter_412 X hret  _ _ _ _ _ hwp)
  · have hwp := ite_f (not_not_intro h) hwp
    refine kw_iload (pc := 399) X d_M_alter_399 2 rfl ?_
    refine kw_bipush (v := 16) (pc := 401) X d_M_alter_401 (by decide) ?_
    refine kw_iand (pc := 403) X d_M_alter_403 ?_
    refine kw_if_eq (tgt := 412) (pc := 404) X d_M_alter_404 (by decide) (fun h => ?_) (fun h => ?_)
    · have hwp := ite_t h hwp
      exact kW.sub [0, 1, 2, 3, 4] rfl (k_M_alter_412 X hret  _ _ _ _ _ hwp)
    · have hwp := ite_f h hwp
      refine kw_aload_n (pc := 407) X d_M_alter_407 rfl 0 rfl ?_
      refine kw_iload_n (pc := 408) X d_M_alter_408 rfl 1 rfl ?_
      refine kcV_v (n := 1) (As := [.int l1]) (rest := []) (pc := 409) X rfl (c_M_checkName l t G a0 l1 _) (cwV_of (C := "TreeServerModel") X x_1364 x_1361 x_1363 xp_91 x_13 (by decide +kernel) ⟨rfl, rfl⟩ (by decide)) (rv_10 X f1) rfl rfl (by decide) d_M_alter_409 hwp (fun G2 hwp => ?_)
      exact kW.sub [0, 1, 2, 3, 4] rfl (k_M_alter_412 X hret  _ _ _ _ _ hwp)
set_option maxRecDepth 100000 in
set_option maxHeartbeats 4000000 in
theorem k_M_alter_383 {p : Program} {l : Launch} {e : Env} {s : State} {m : MethodId} {args : Array Value} {below : List Frame} {meth : Method} {c : Code} {t : TY} {a0 : Nat} {K : GS → Prop} (X : kX p s m args meth c b_M_alter 11 "TreeServerModel" t) (hret : meth.sig.returnType = none) (l1 : Int32) (l6 : Int32) (l8 : Int32) (l9 : Int32) (G : GS) (hwp : w_M_alter_383 t a0 K l1 l6 l8 l9 G) : kW p l e rm_M_alter s m args below meth c (MQ below (va_Qv (fun u : GS => K u) (fun u T => HB t u T.heap) (tA t)) args s 0 0 (tA t)) 11 t false 383 [(0, va_rf (some a0)), (1, .int l1), (6, .int l6), (8, .int l8), (9, .int l9)] [] G := by
  unfold w_M_alter_383 at hwp
  refine kw_aload_n (pc := 383) X d_M_alter_383 rfl 0 rfl ?_
  refine kw_ldc2 (v := 1836213616) (pc := 384) X d_M_alter_384 x_1254 ?_
  obtain ⟨f1, hwp⟩ := hwp
  refine kp_98 (a := a0) (x := (1836213616 : Int64)) (pc := 387) X rfl d_M_alter_387 x_1018 rfl f1 ?_
  obtain ⟨G2, e_G2⟩ : ∃ g, g = sl G 98 a0 (1836213616 : Int64) := ⟨_, rfl⟩
  have hwp := hwp G2 e_G2
  refine kW.g e_G2.symm ?_
  exact kW.sub [0, 1, 2, 3, 4] rfl (k_M_alter_390 X hret  _ _ _ _ _ hwp)
set_option maxRecDepth 100000 in
set_option maxHeartbeats 4000000 in
theorem k_M_alter_339 {p : Program} {l : Launch} {e : Env} {s : State} {m : MethodId} {args : Array Value} {below : List Frame} {meth : Method} {c : Code} {t : TY} {a0 : Nat} {K : GS → Prop} (X : kX p s m args meth c b_M_alter 11 "TreeServerModel" t) (hret : meth.sig.returnType = none) (l1 : Int32) (l6 : Int32) (l7 : Int32) (l8 : Int32) (l9 : Int32) (G : GS) (hwp : w_M_alter_339 t a0 K l1 l6 l7 l8 l9 G) : kW p l e rm_M_alter s m args below meth c (MQ below (va_Qv (fun u : GS => K u) (fun u T => HB t u T.heap) (tA t)) args s 0 0 (tA t)) 11 t false 339 [(0, va_rf (some a0)), (1, .int l1), (6, .int l6), (7, .int l7), (8, .int l8), (9, .int l9)] [] G := by
  unfold w_M_alter_339 at hwp
  refine kw_aload_n (pc := 339) X d_M_alter_339 rfl 0 rfl ?_
  obtain ⟨f1, hwp⟩ := hwp
  refine kg_98 (a := a0) (pc := 340) X d_M_alter_340 x_1018 rfl f1 ?_
  refine kw_lconst (v := 0) (pc := 343) X d_M_alter_343 (by decide) ?_
  refine kw_lcmp_ne (tgt := 390) (pc := 344) X d_M_alter_344 d_M_alter_345 (by decide) (fun h => ?_) (fun h => ?_)
  · have hwp := ite_t h hwp
    exact kW.sub [0, 1, 2, 4, 5] rfl (k_M_alter_390 X hret  _ _ _ _ _ hwp)
  · have hwp := ite_f (not_not_intro h) hwp
    refine kw_iload (pc := 348) X d_M_alter_348 2 rfl ?_
    refine kw_bipush (v := 8) (pc := 350) X d_M_alter_350 (by decide) ?_
    refine kw_iand (pc := 352) X d_M_alter_352 ?_
    refine kw_if_eq (tgt := 390) (pc := 353) X d_M_alter_353 (by decide) (fun h => ?_) (fun h => ?_)
    · have hwp := ite_t h hwp
      exact kW.sub [0, 1, 2, 4, 5] rfl (k_M_alter_390 X hret  _ _ _ _ _ hwp)
    · have hwp := ite_f h hwp
      refine kw_iload (pc := 356) X d_M_alter_356 3 rfl ?_
      refine kw_if_eq (tgt := 383) (pc := 358) X d_M_alter_358 (by decide) (fun h => ?_) (fun h => ?_)
      · have hwp := ite_t h hwp
        exact kW.sub [0, 1, 2, 4, 5] rfl (k_M_alter_383 X hret  _ _ _ _ _ hwp)
      · have hwp := ite_f h hwp
        refine kw_aload_n (pc := 361) X d_M_alter_361 rfl 0 rfl ?_
        refine kg_99 (a := a0) (pc := 362) X d_M_alter_362 x_1019 rfl f1 ?_
        refine kw_iload (pc := 365) X d_M_alter_365 5 rfl ?_
        refine kw_icmp_eq (tgt := 390) (pc := 367) X d_M_alter_367 (by decide) (fun h => ?_) (fun h => ?_)
        · have hwp := ite_t h hwp
          exact kW.sub [0, 1, 2, 4, 5] rfl (k_M_alter_390 X hret  _ _ _ _ _ hwp)
        · have hwp := ite_f h hwp
          refine kw_aload_n (pc := 370) X d_M_alter_370 rfl 0 rfl ?_
          refine kg_99 (a := a0) (pc := 371) X d_M_alter_371 x_1019 rfl f1 ?_
          refine kw_iconst (v := 1) (pc := 374) X d_M_alter_374 (by decide) ?_
          refine kw_icmp_ne (tgt := 383) (pc := 375) X d_M_alter_375 (by decide) (fun h => ?_) (fun h => ?_)
          · have hwp := ite_t h hwp
            exact kW.sub [0, 1, 2, 4, 5] rfl (k_M_alter_383 X hret  _ _ _ _ _ hwp)
          · have hwp := ite_f (not_not_intro h) hwp
            refine kw_iload (pc := 378) X d_M_alter_378 5 rfl ?_
            refine kw_if_eq (tgt := 390) (pc := 380) X d_M_alter_380 (by decide) (fun h => ?_) (fun h => ?_)
            · have hwp := ite_t h hwp
              exact kW.sub [0, 1, 2, 4, 5] rfl (k_M_alter_390 X hret  _ _ _ _ _ hwp)
            · have hwp := ite_f h hwp
              exact kW.sub [0, 1, 2, 4, 5] rfl (k_M_alter_383 X hret  _ _ _ _ _ hwp)
set_option maxRecDepth 100000 in
set_option maxHeartbeats 4000000 in
theorem k_M_alter_303 {p : Program} {l : Launch} {e : Env} {s : State} {m : MethodId} {args : Array Value} {below : List Frame} {meth : Method} {c : Code} {t : TY} {a0 : Nat} {K : GS → Prop} (X : kX p s m args meth c b_M_alter 11 "TreeServerModel" t) (hret : meth.sig.returnType = none) (l1 : Int32) (l3 : Int32) (l6 : Int32) (l7 : Int32) (l8 : Int32) (G : GS) (hwp : w_M_alter_303 t a0 K l1 l3 l6 l7 l8 G) : kW p l e rm_M_alter s m args below meth c (MQ below (va_Qv (fun u : GS => K u) (fun u T => HB t u T.heap) (tA t)) args s 0 0 (tA t)) 11 t false 303 [(0, va_rf (some a0)), (1, .int l1), (3, .int l3), (6, .int l6), (7, .int l7), (8, .int l8)] [] G := by
  unfold w_M_alter_303 at hwp
  refine kw_aload_n (pc := 303) X d_M_alter_303 rfl 0 rfl ?_
  refine kw_iload_n (pc := 304) X d_M_alter_304 rfl 2 rfl ?_
  obtain ⟨f1, hwp⟩ := hwp
  refine kcVp_i (n := 1) (As := [.int l3]) (rest := []) (pc := 305) X (c_M_userAt l t G a0 l3 _) (cwV_of (C := "TreeServerModel") X x_1216 x_1213 x_1215 xp_63 x_13 (by decide +kernel) ⟨rfl, rfl⟩ (by decide)) (rv_10 X f1) rfl rfl (by decide) d_M_alter_305 hwp (fun v2 hwp => ?_)
  refine kw_istore (i := 9) (lv' := [(9, .int v2), (0, va_rf (some a0)), (1, .int l1), (3, .int l3), (6, .int l6), (7, .int l7), (8, .int l8)]) (pc := 308) X d_M_alter_308 (by decide) rfl ?_
  refine kw_aload_n (pc := 310) X d_M_alter_310 rfl 1 rfl ?_
  refine kg_98 (a := a0) (pc := 311) X d_M_alter_311 x_1018 rfl f1 ?_
  refine kw_lconst (v := 0) (pc := 314) X d_M_alter_314 (by decide) ?_
  refine kw_lcmp_ne (tgt := 339) (pc := 315) X d_M_alter_315 d_M_alter_316 (by decide) (fun h => ?_) (fun h => ?_)
  · have hwp := ite_t h hwp
    exact kW.sub [1, 2, 4, 5, 6, 0] rfl (k_M_alter_339 X hret  _ _ _ _ _ _ hwp)
  · have hwp := ite_f (not_not_intro h) hwp
    refine kw_iload (pc := 319) X d_M_alter_319 4 rfl ?_
    refine kw_bipush (v := 8) (pc := 321) X d_M_alter_321 (by decide) ?_
    refine kw_iand (pc := 323) X d_M_alter_323 ?_
    refine kw_if_eq (tgt := 339) (pc := 324) X d_M_alter_324 (by decide) (fun h => ?_) (fun h => ?_)
    · have hwp := ite_t h hwp
      exact kW.sub [1, 2, 4, 5, 6, 0] rfl (k_M_alter_339 X hret  _ _ _ _ _ _ hwp)
    · have hwp := ite_f h hwp
      refine kw_iload (pc := 327) X d_M_alter_327 0 rfl ?_
      refine kw_if_ge (tgt := 339) (pc := 329) X d_M_alter_329 (by decide) (fun h => ?_) (fun h => ?_)
      · have hwp := ite_t h hwp
        exact kW.sub [1, 2, 4, 5, 6, 0] rfl (k_M_alter_339 X hret  _ _ _ _ _ _ hwp)
      · have hwp := ite_f h hwp
        refine kw_aload_n (pc := 332) X d_M_alter_332 rfl 1 rfl ?_
        refine kw_ldc2 (v := 1919251317) (pc := 333) X d_M_alter_333 x_1231 ?_
        refine kp_98 (a := a0) (x := (1919251317 : Int64)) (pc := 336) X rfl d_M_alter_336 x_1018 rfl f1 ?_
        obtain ⟨G3, e_G3⟩ : ∃ g, g = sl G 98 a0 (1919251317 : Int64) := ⟨_, rfl⟩
        have hwp := hwp G3 e_G3
        refine kW.g e_G3.symm ?_
        exact kW.sub [1, 2, 4, 5, 6, 0] rfl (k_M_alter_339 X hret  _ _ _ _ _ _ hwp)
set_option maxRecDepth 100000 in
set_option maxHeartbeats 4000000 in
theorem k_M_alter_275 {p : Program} {l : Launch} {e : Env} {s : State} {m : MethodId} {args : Array Value} {below : List Frame} {meth : Method} {c : Code} {t : TY} {a0 : Nat} {K : GS → Prop} (X : kX p s m args meth c b_M_alter 11 "TreeServerModel" t) (hret : meth.sig.returnType = none) (l1 : Int32) (l3 : Int32) (l6 : Int32) (l7 : Int32) (l8 : Int32) (G : GS) (hwp : w_M_alter_275 t a0 K l1 l3 l6 l7 l8 G) : kW p l e rm_M_alter s m args below meth c (MQ below (va_Qv (fun u : GS => K u) (fun u T => HB t u T.heap) (tA t)) args s 0 0 (tA t)) 11 t false 275 [(0, va_rf (some a0)), (1, .int l1), (3, .int l3), (6, .int l6), (7, .int l7), (8, .int l8)] [] G := by
  unfold w_M_alter_275 at hwp
  refine kw_aload_n (pc := 275) X d_M_alter_275 rfl 0 rfl ?_
  obtain ⟨f1, hwp⟩ := hwp
  refine kg_98 (a := a0) (pc := 276) X d_M_alter_276 x_1018 rfl f1 ?_
  refine kw_lconst (v := 0) (pc := 279) X d_M_alter_279 (by decide) ?_
  refine kw_lcmp_ne (tgt := 303) (pc := 280) X d_M_alter_280 d_M_alter_281 (by decide) (fun h => ?_) (fun h => ?_)
  · have hwp := ite_t h hwp
    exact kW.sub [0, 1, 2, 3, 4, 5] rfl (k_M_alter_303 X hret  _ _ _ _ _ _ hwp)
  · have hwp := ite_f (not_not_intro h) hwp
    refine kw_iload (pc := 284) X d_M_alter_284 3 rfl ?_
    refine kw_iconst (v := 4) (pc := 286) X d_M_alter_286 (by decide) ?_
    refine kw_iand (pc := 287) X d_M_alter_287 ?_
    refine kw_if_eq (tgt := 303) (pc := 288) X d_M_alter_288 (by decide) (fun h => ?_) (fun h => ?_)
    · have hwp := ite_t h hwp
      exact kW.sub [0, 1, 2, 3, 4, 5] rfl (k_M_alter_303 X hret  _ _ _ _ _ _ hwp)
    · have hwp := ite_f h hwp
      refine kw_iload (pc := 291) X d_M_alter_291 4 rfl ?_
      refine kw_if_ne (tgt := 303) (pc := 293) X d_M_alter_293 (by decide) (fun h => ?_) (fun h => ?_)
      · have hwp := ite_t h hwp
        exact kW.sub [0, 1, 2, 3, 4, 5] rfl (k_M_alter_303 X hret  _ _ _ _ _ _ hwp)
      · have hwp := ite_f (not_not_intro h) hwp
        refine kw_aload_n (pc := 296) X d_M_alter_296 rfl 0 rfl ?_
        refine kw_ldc2 (v := 1836213616) (pc := 297) X d_M_alter_297 x_1254 ?_
        refine kp_98 (a := a0) (x := (1836213616 : Int64)) (pc := 300) X rfl d_M_alter_300 x_1018 rfl f1 ?_
        obtain ⟨G2, e_G2⟩ : ∃ g, g = sl G 98 a0 (1836213616 : Int64) := ⟨_, rfl⟩
        have hwp := hwp G2 e_G2
        refine kW.g e_G2.symm ?_
        exact kW.sub [0, 1, 2, 3, 4, 5] rfl (k_M_alter_303 X hret  _ _ _ _ _ _ hwp)
set_option maxRecDepth 100000 in
set_option maxHeartbeats 4000000 in
theorem k_M_alter_268 {p : Program} {l : Launch} {e : Env} {s : State} {m : MethodId} {args : Array Value} {below : List Frame} {meth : Method} {c : Code} {t : TY} {a0 : Nat} {K : GS → Prop} (X : kX p s m args meth c b_M_alter 11 "TreeServerModel" t) (hret : meth.sig.returnType = none) (l1 : Int32) (l3 : Int32) (l6 : Int32) (l7 : Int32) (l8 : Int32) (G : GS) (hwp : w_M_alter_268 t a0 K l1 l3 l6 l7 l8 G) : kW p l e rm_M_alter s m args below meth c (MQ below (va_Qv (fun u : GS => K u) (fun u T => HB t u T.heap) (tA t)) args s 0 0 (tA t)) 11 t false 268 [(0, va_rf (some a0)), (1, .int l1), (3, .int l3), (6, .int l6), (7, .int l7), (8, .int l8)] [] G := by
  unfold w_M_alter_268 at hwp
  refine kw_aload_n (pc := 268) X d_M_alter_268 rfl 0 rfl ?_
  refine kw_ldc2 (v := 1701080941) (pc := 269) X d_M_alter_269 x_1276 ?_
  obtain ⟨f1, hwp⟩ := hwp
  refine kp_98 (a := a0) (x := (1701080941 : Int64)) (pc := 272) X rfl d_M_alter_272 x_1018 rfl f1 ?_
  obtain ⟨G2, e_G2⟩ : ∃ g, g = sl G 98 a0 (1701080941 : Int64) := ⟨_, rfl⟩
  have hwp := hwp G2 e_G2
  refine kW.g e_G2.symm ?_
  exact kW.sub [0, 1, 2, 3, 4, 5] rfl (k_M_alter_275 X hret  _ _ _ _ _ _ hwp)
set_option maxRecDepth 100000 in
set_option maxHeartbeats 4000000 in
theorem k_M_alter_231 {p : Program} {l : Launch} {e : Env} {s : State} {m : MethodId} {args : Array Value} {below : List Frame} {meth : Method} {c : Code} {t : TY} {a0 : Nat} {K : GS → Prop} (X : kX p s m args meth c b_M_alter 11 "TreeServerModel" t) (hret : meth.sig.returnType = none) (l1 : Int32) (l3 : Int32) (l6 : Int32) (l7 : Int32) (l8 : Int32) (G : GS) (hwp : w_M_alter_231 t a0 K l1 l3 l6 l7 l8 G) : kW p l e rm_M_alter s m args below meth c (MQ below (va_Qv (fun u : GS => K u) (fun u T => HB t u T.heap) (tA t)) args s 0 0 (tA t)) 11 t false 231 [(0, va_rf (some a0)), (1, .int l1), (3, .int l3), (6, .int l6), (7, .int l7), (8, .int l8)] [] G := by
  unfold w_M_alter_231 at hwp
  refine kw_aload_n (pc := 231) X d_M_alter_231 rfl 0 rfl ?_
  obtain ⟨f1, hwp⟩ := hwp
  refine kg_98 (a := a0) (pc := 232) X d_M_alter_232 x_1018 rfl f1 ?_
  refine kw_lconst (v := 0) (pc := 235) X d_M_alter_235 (by decide) ?_
  refine kw_lcmp_ne (tgt := 275) (pc := 236) X d_M_alter_236 d_M_alter_237 (by decide) (fun h => ?_) (fun h => ?_)
  · have hwp := ite_t h hwp
    exact kW.sub [0, 1, 2, 3, 4, 5] rfl (k_M_alter_275 X hret  _ _ _ _ _ _ hwp)
  · have hwp := ite_f (not_not_intro h) hwp
    refine kw_iload (pc := 240) X d_M_alter_240 3 rfl ?_
    refine kw_iconst (v := 2) (pc := 242) X d_M_alter_242 (by decide) ?_
    refine kw_iand (pc := 243) X d_M_alter_243 ?_
    refine kw_if_eq (tgt := 275) (pc := 244) X d_M_alter_244 (by decide) (fun h => ?_) (fun h => ?_)
    · have hwp := ite_t h hwp
      exact kW.sub [0, 1, 2, 3, 4, 5] rfl (k_M_alter_275 X hret  _ _ _ _ _ _ hwp)
    · have hwp := ite_f h hwp
      refine kw_iload (pc := 247) X d_M_alter_247 5 rfl ?_
      refine kw_ldcw (v := 536870400) (pc := 249) X d_M_alter_249 x_1293 ?_
      refine kw_iand (pc := 252) X d_M_alter_252 ?_
      refine kw_if_ne (tgt := 268) (pc := 253) X d_M_alter_253 (by decide) (fun h => ?_) (fun h => ?_)
      · have hwp := ite_t h hwp
        exact kW.sub [0, 1, 2, 3, 4, 5] rfl (k_M_alter_268 X hret  _ _ _ _ _ _ hwp)
      · have hwp := ite_f (not_not_intro h) hwp
        refine kw_iload (pc := 256) X d_M_alter_256 5 rfl ?_
        refine kw_aload_n (pc := 258) X d_M_alter_258 rfl 0 rfl ?_
        refine kw_iload_n (pc := 259) X d_M_alter_259 rfl 1 rfl ?_
        refine kw_iconst (v := 3) (pc := 260) X d_M_alter_260 (by decide) ?_
        refine kcVp_i (n := 2) (As := [.int l1, .int (3 : Int32)]) (rest := [.int l8]) (pc := 261) X (c_M_at l t G a0 l1 (3 : Int32) _) (cwV_of (C := "TreeServerModel") X x_1111 x_1108 x_1110 xp_41 x_13 (by decide +kernel) ⟨rfl, rfl⟩ (by decide)) (rv_10 X f1) rfl rfl (by simp [rf_cat, cat_i, cat_l, cat_r]) d_M_alter_261 hwp (fun v2 hwp => ?_)
        refine kw_ixor (pc := 264) X d_M_alter_264 ?_
        refine kw_if_ge (tgt := 275) (pc := 265) X d_M_alter_265 (by decide) (fun h => ?_) (fun h => ?_)
        · have hwp := ite_t h hwp
          exact kW.sub [0, 1, 2, 3, 4, 5] rfl (k_M_alter_275 X hret  _ _ _ _ _ _ hwp)
        · have hwp := ite_f h hwp
          exact kW.sub [0, 1, 2, 3, 4, 5] rfl (k_M_alter_268 X hret  _ _ _ _ _ _ hwp)
set_option maxRecDepth 100000 in
set_option maxHeartbeats 4000000 in
theorem k_M_alter_191 {p : Program} {l : Launch} {e : Env} {s : State} {m : MethodId} {args : Array Value} {below : List Frame} {meth : Method} {c : Code} {t : TY} {a0 : Nat} {K : GS → Prop} (X : kX p s m args meth c b_M_alter 11 "TreeServerModel" t) (hret : meth.sig.returnType = none) (l1 : Int32) (l3 : Int32) (l6 : Int32) (s0 : Int32) (G : GS) (hwp : w_M_alter_191 t a0 K l1 l3 l6 s0 G) : kW p l e rm_M_alter s m args below meth c (MQ below (va_Qv (fun u : GS => K u) (fun u T => HB t u T.heap) (tA t)) args s 0 0 (tA t)) 11 t false 191 [(0, va_rf (some a0)), (1, .int l1), (3, .int l3), (6, .int l6)] [.int s0] G := by
  unfold w_M_alter_191 at hwp
  refine kw_istore (i := 7) (lv' := [(7, .int s0), (0, va_rf (some a0)), (1, .int l1), (3, .int l3), (6, .int l6)]) (pc := 191) X d_M_alter_191 (by decide) rfl ?_
  refine kw_aload_n (pc := 193) X d_M_alter_193 rfl 1 rfl ?_
  refine kw_bipush (v := 34) (pc := 194) X d_M_alter_194 (by decide) ?_
  refine kw_iconst (v := 4) (pc := 196) X d_M_alter_196 (by decide) ?_
  obtain ⟨f1, hwp⟩ := hwp
  refine kcVp_l (n := 2) (As := [.int (34 : Int32), .int (4 : Int32)]) (rest := []) (pc := 197) X (c_M_get l t G a0 (34 : Int32) (4 : Int32) _) (cwV_of (C := "TreeServerModel") X x_1175 x_1172 x_1174 xp_56 x_13 (by decide +kernel) ⟨rfl, rfl⟩ (by decide)) (rv_10 X f1) rfl rfl (by decide) d_M_alter_197 hwp (fun v2 hwp => ?_)
  refine kw_l2i (pc := 200) X d_M_alter_200 ?_
  obtain ⟨v3, e_v3⟩ : ∃ z, z = v2.toInt32 := ⟨_, rfl⟩
  have hwp := hwp v3 e_v3
  refine kW.st (st' := .int v3 :: _) (by rw [e_v3]) ?_
  refine kw_istore (i := 8) (lv' := [(8, .int v3), (7, .int s0), (0, va_rf (some a0)), (1, .int l1), (3, .int l3), (6, .int l6)]) (pc := 201) X d_M_alter_201 (by decide) rfl ?_
  refine kw_aload_n (pc := 203) X d_M_alter_203 rfl 2 rfl ?_
  refine kg_98 (a := a0) (pc := 204) X d_M_alter_204 x_1018 rfl f1 ?_
  refine kw_lconst (v := 0) (pc := 207) X d_M_alter_207 (by decide) ?_
  refine kw_lcmp_ne (tgt := 231) (pc := 208) X d_M_alter_208 d_M_alter_209 (by decide) (fun h => ?_) (fun h => ?_)
  · have hwp := ite_t h hwp
    exact kW.sub [2, 3, 4, 5, 1, 0] rfl (k_M_alter_231 X hret  _ _ _ _ _ _ hwp)
  · have hwp := ite_f (not_not_intro h) hwp
    refine kw_iload (pc := 212) X d_M_alter_212 5 rfl ?_
    refine kw_iconst (v := 2) (pc := 214) X d_M_alter_214 (by decide) ?_
    refine kw_iand (pc := 215) X d_M_alter_215 ?_
    refine kw_if_eq (tgt := 231) (pc := 216) X d_M_alter_216 (by decide) (fun h => ?_) (fun h => ?_)
    · have hwp := ite_t h hwp
      exact kW.sub [2, 3, 4, 5, 1, 0] rfl (k_M_alter_231 X hret  _ _ _ _ _ _ hwp)
    · have hwp := ite_f h hwp
      refine kw_iload (pc := 219) X d_M_alter_219 1 rfl ?_
      refine kw_if_ne (tgt := 231) (pc := 221) X d_M_alter_221 (by decide) (fun h => ?_) (fun h => ?_)
      · have hwp := ite_t h hwp
        exact kW.sub [2, 3, 4, 5, 1, 0] rfl (k_M_alter_231 X hret  _ _ _ _ _ _ hwp)
      · have hwp := ite_f (not_not_intro h) hwp
        refine kw_aload_n (pc := 224) X d_M_alter_224 rfl 2 rfl ?_
        refine kw_ldc2 (v := 1836213616) (pc := 225) X d_M_alter_225 x_1254 ?_
        refine kp_98 (a := a0) (x := (1836213616 : Int64)) (pc := 228) X rfl d_M_alter_228 x_1018 rfl f1 ?_
        obtain ⟨G4, e_G4⟩ : ∃ g, g = sl G 98 a0 (1836213616 : Int64) := ⟨_, rfl⟩
        have hwp := hwp G4 e_G4
        refine kW.g e_G4.symm ?_
        exact kW.sub [2, 3, 4, 5, 1, 0] rfl (k_M_alter_231 X hret  _ _ _ _ _ _ hwp)
set_option maxRecDepth 100000 in
set_option maxHeartbeats 4000000 in
theorem k_M_alter_173 {p : Program} {l : Launch} {e : Env} {s : State} {m : MethodId} {args : Array Value} {below : List Frame} {meth : Method} {c : Code} {t : TY} {a0 : Nat} {K : GS → Prop} (X : kX p s m args meth c b_M_alter 11 "TreeServerModel" t) (hret : meth.sig.returnType = none) (l1 : Int32) (l3 : Int32) (l6 : Int32) (G : GS) (hwp : w_M_alter_173 t a0 K l1 l3 l6 G) : kW p l e rm_M_alter s m args below meth c (MQ below (va_Qv (fun u : GS => K u) (fun u T => HB t u T.heap) (tA t)) args s 0 0 (tA t)) 11 t false 173 [(0, va_rf (some a0)), (1, .int l1), (3, .int l3), (6, .int l6)] [] G := by
  unfold w_M_alter_173 at hwp
  refine kw_aload_n (pc := 173) X d_M_alter_173 rfl 0 rfl ?_
  refine kw_iload_n (pc := 174) X d_M_alter_174 rfl 1 rfl ?_
  refine kw_iconst (v := 5) (pc := 175) X d_M_alter_175 (by decide) ?_
  obtain ⟨f1, hwp⟩ := hwp
  refine kcVp_i (n := 2) (As := [.int l1, .int (5 : Int32)]) (rest := []) (pc := 176) X (c_M_at l t G a0 l1 (5 : Int32) _) (cwV_of (C := "TreeServerModel") X x_1111 x_1108 x_1110 xp_41 x_13 (by decide +kernel) ⟨rfl, rfl⟩ (by decide)) (rv_10 X f1) rfl rfl (by decide) d_M_alter_176 hwp (fun v2 hwp => ?_)
  refine kw_aload_n (pc := 179) X d_M_alter_179 rfl 0 rfl ?_
  refine kg_99 (a := a0) (pc := 180) X d_M_alter_180 x_1019 rfl f1 ?_
  refine kw_icmp_ne (tgt := 190) (pc := 183) X d_M_alter_183 (by decide) (fun h => ?_) (fun h => ?_)
  · have hwp := ite_t h hwp
    refine kw_iconst (v := 0) (pc := 190) X d_M_alter_190 (by decide) ?_
    exact kW.sub [0, 1, 2, 3] rfl (k_M_alter_191 X hret  _ _ _ _ _ hwp)
  · have hwp := ite_f (not_not_intro h) hwp
    refine kw_iconst (v := 1) (pc := 186) X d_M_alter_186 (by decide) ?_
    refine kw_goto (tgt := 191) (pc := 187) X d_M_alter_187 (by decide) ?_
    exact kW.sub [0, 1, 2, 3] rfl (k_M_alter_191 X hret  _ _ _ _ _ hwp)
set_option maxRecDepth 100000 in
set_option maxHeartbeats 4000000 in
theorem k_M_alter_145 {p : Program} {l : Launch} {e : Env} {s : State} {m : MethodId} {args : Array Value} {below : List Frame} {meth : Method} {c : Code} {t : TY} {a0 : Nat} {K : GS → Prop} (X : kX p s m args meth c b_M_alter 11 "TreeServerModel" t) (hret : meth.sig.returnType = none) (l1 : Int32) (l3 : Int32) (G : GS) (hwp : w_M_alter_145 t a0 K l1 l3 G) : kW p l e rm_M_alter s m args below meth c (MQ below (va_Qv (fun u : GS => K u) (fun u T => HB t u T.heap) (tA t)) args s 0 0 (tA t)) 11 t false 145 [(0, va_rf (some a0)), (1, .int l1), (3, .int l3)] [] G := by
  unfold w_M_alter_145 at hwp
  refine kw_aload_n (pc := 145) X d_M_alter_145 rfl 0 rfl ?_
  refine kw_iload_n (pc := 146) X d_M_alter_146 rfl 2 rfl ?_
  obtain ⟨f1, hwp⟩ := hwp
  refine kcVp_i (n := 1) (As := [.int l3]) (rest := []) (pc := 147) X (c_M_given l t G a0 l3 _) (cwV_of (C := "TreeServerModel") X x_1353 x_1350 x_1352 xp_89 x_13 (by decide +kernel) ⟨rfl, rfl⟩ (by decide)) (rv_10 X f1) rfl rfl (by decide) d_M_alter_147 hwp (fun v2 hwp => ?_)
  refine kw_istore (i := 6) (lv' := [(6, .int v2), (0, va_rf (some a0)), (1, .int l1), (3, .int l3)]) (pc := 150) X d_M_alter_150 (by decide) rfl ?_
  refine kw_aload_n (pc := 152) X d_M_alter_152 rfl 1 rfl ?_
  refine kg_98 (a := a0) (pc := 153) X d_M_alter_153 x_1018 rfl f1 ?_
  refine kw_lconst (v := 0) (pc := 156) X d_M_alter_156 (by decide) ?_
  refine kw_lcmp_ne (tgt := 173) (pc := 157) X d_M_alter_157 d_M_alter_158 (by decide) (fun h => ?_) (fun h => ?_)
  · have hwp := ite_t h hwp
    exact kW.sub [1, 2, 3, 0] rfl (k_M_alter_173 X hret  _ _ _ _ hwp)
  · have hwp := ite_f (not_not_intro h) hwp
    refine kw_iload (pc := 161) X d_M_alter_161 0 rfl ?_
    refine kw_iconst (v := 1) (pc := 163) X d_M_alter_163 (by decide) ?_
    refine kw_iand (pc := 164) X d_M_alter_164 ?_
    refine kw_if_eq (tgt := 173) (pc := 165) X d_M_alter_165 (by decide) (fun h => ?_) (fun h => ?_)
    · have hwp := ite_t h hwp
      exact kW.sub [1, 2, 3, 0] rfl (k_M_alter_173 X hret  _ _ _ _ hwp)
    · have hwp := ite_f h hwp
      refine kw_aload_n (pc := 168) X d_M_alter_168 rfl 1 rfl ?_
      refine kw_iload_n (pc := 169) X d_M_alter_169 rfl 2 rfl ?_
      refine kcV_v (n := 1) (As := [.int l1]) (rest := []) (pc := 170) X rfl (c_M_checkLength l t G a0 l1 _) (cwV_of (C := "TreeServerModel") X x_1357 x_1354 x_1356 xp_90 x_13 (by decide +kernel) ⟨rfl, rfl⟩ (by decide)) (rv_10 X f1) rfl rfl (by decide) d_M_alter_170 hwp (fun G3 hwp => ?_)
      exact kW.sub [1, 2, 3, 0] rfl (k_M_alter_173 X hret  _ _ _ _ hwp)
set_option maxRecDepth 100000 in
set_option maxHeartbeats 4000000 in
theorem k_M_alter_138 {p : Program} {l : Launch} {e : Env} {s : State} {m : MethodId} {args : Array Value} {below : List Frame} {meth : Method} {c : Code} {t : TY} {a0 : Nat} {K : GS → Prop} (X : kX p s m args meth c b_M_alter 11 "TreeServerModel" t) (hret : meth.sig.returnType = none) (l1 : Int32) (l3 : Int32) (G : GS) (hwp : w_M_alter_138 t a0 K l1 l3 G) : kW p l e rm_M_alter s m args below meth c (MQ below (va_Qv (fun u : GS => K u) (fun u T => HB t u T.heap) (tA t)) args s 0 0 (tA t)) 11 t false 138 [(0, va_rf (some a0)), (1, .int l1), (3, .int l3)] [] G := by
  unfold w_M_alter_138 at hwp
  refine kw_aload_n (pc := 138) X d_M_alter_138 rfl 0 rfl ?_
  refine kw_ldc2 (v := 1952543859) (pc := 139) X d_M_alter_139 x_1349 ?_
  obtain ⟨f1, hwp⟩ := hwp
  refine kp_98 (a := a0) (x := (1952543859 : Int64)) (pc := 142) X rfl d_M_alter_142 x_1018 rfl f1 ?_
  obtain ⟨G2, e_G2⟩ : ∃ g, g = sl G 98 a0 (1952543859 : Int64) := ⟨_, rfl⟩
  have hwp := hwp G2 e_G2
  refine kW.g e_G2.symm ?_
  exact kW.sub [0, 1, 2] rfl (k_M_alter_145 X hret  _ _ _ hwp)
set_option maxRecDepth 100000 in
set_option maxHeartbeats 4000000 in
theorem k_M_alter_108 {p : Program} {l : Launch} {e : Env} {s : State} {m : MethodId} {args : Array Value} {below : List Frame} {meth : Method} {c : Code} {t : TY} {a0 : Nat} {K : GS → Prop} (X : kX p s m args meth c b_M_alter 11 "TreeServerModel" t) (hret : meth.sig.returnType = none) (l1 : Int32) (l2 : Int32) (l3 : Int32) (l4 : Int32) (s0 : Int32) (G : GS) (hwp : w_M_alter_108 t a0 K l1 l2 l3 l4 s0 G) : kW p l e rm_M_alter s m args below meth c (MQ below (va_Qv (fun u : GS => K u) (fun u T => HB t u T.heap) (tA t)) args s 0 0 (tA t)) 11 t false 108 [(0, va_rf (some a0)), (1, .int l1), (2, .int l2), (3, .int l3), (4, .int l4)] [.int s0] G := by
  unfold w_M_alter_108 at hwp
  refine kw_istore (i := 5) (lv' := [(5, .int s0), (0, va_rf (some a0)), (1, .int l1), (2, .int l2), (3, .int l3), (4, .int l4)]) (pc := 108) X d_M_alter_108 (by decide) rfl ?_
  refine kw_iload (pc := 110) X d_M_alter_110 0 rfl ?_
  refine kw_if_ne (tgt := 138) (pc := 112) X d_M_alter_112 (by decide) (fun h => ?_) (fun h => ?_)
  · have hwp := ite_t h hwp
    exact kW.sub [1, 2, 4] rfl (k_M_alter_138 X hret  _ _ _ hwp)
  · have hwp := ite_f (not_not_intro h) hwp
    refine kw_aload_n (pc := 115) X d_M_alter_115 rfl 1 rfl ?_
    refine kw_iload_n (pc := 116) X d_M_alter_116 rfl 3 rfl ?_
    refine kw_iconst (v := 2) (pc := 117) X d_M_alter_117 (by decide) ?_
    obtain ⟨f1, hwp⟩ := hwp
    refine kcVp_l (n := 2) (As := [.int l2, .int (2 : Int32)]) (rest := []) (pc := 118) X (c_M_get l t G a0 l2 (2 : Int32) _) (cwV_of (C := "TreeServerModel") X x_1175 x_1172 x_1174 xp_56 x_13 (by decide +kernel) ⟨rfl, rfl⟩ (by decide)) (rv_10 X f1) rfl rfl (by decide) d_M_alter_118 hwp (fun v2 hwp => ?_)
    refine kw_lconst (v := 0) (pc := 121) X d_M_alter_121 (by decide) ?_
    refine kw_lcmp_ne (tgt := 138) (pc := 122) X d_M_alter_122 d_M_alter_123 (by decide) (fun h => ?_) (fun h => ?_)
    · have hwp := ite_t h hwp
      exact kW.sub [1, 2, 4] rfl (k_M_alter_138 X hret  _ _ _ hwp)
    · have hwp := ite_f (not_not_intro h) hwp
      refine kw_aload_n (pc := 126) X d_M_alter_126 rfl 1 rfl ?_
      refine kw_iload (pc := 127) X d_M_alter_127 5 rfl ?_
      refine kw_iconst (v := 2) (pc := 129) X d_M_alter_129 (by decide) ?_
      refine kcVp_l (n := 2) (As := [.int l4, .int (2 : Int32)]) (rest := []) (pc := 130) X (c_M_get l t G a0 l4 (2 : Int32) _) (cwV_of (C := "TreeServerModel") X x_1175 x_1172 x_1174 xp_56 x_13 (by decide +kernel) ⟨rfl, rfl⟩ (by decide)) (rv_10 X f1) rfl rfl (by decide) d_M_alter_130 hwp (fun v3 hwp => ?_)
      refine kw_lconst (v := 0) (pc := 133) X d_M_alter_133 (by decide) ?_
      refine kw_lcmp_eq (tgt := 145) (pc := 134) X d_M_alter_134 d_M_alter_135 (by decide) (fun h => ?_) (fun h => ?_)
      · have hwp := ite_t h hwp
        exact kW.sub [1, 2, 4] rfl (k_M_alter_145 X hret  _ _ _ hwp)
      · have hwp := ite_f h hwp
        exact kW.sub [1, 2, 4] rfl (k_M_alter_138 X hret  _ _ _ hwp)
set_option maxRecDepth 100000 in
set_option maxHeartbeats 4000000 in
theorem k_M_alter_103 {p : Program} {l : Launch} {e : Env} {s : State} {m : MethodId} {args : Array Value} {below : List Frame} {meth : Method} {c : Code} {t : TY} {a0 : Nat} {K : GS → Prop} (X : kX p s m args meth c b_M_alter 11 "TreeServerModel" t) (hret : meth.sig.returnType = none) (l1 : Int32) (l2 : Int32) (l3 : Int32) (l4 : Int32) (G : GS) (hwp : w_M_alter_103 t a0 K l1 l2 l3 l4 G) : kW p l e rm_M_alter s m args below meth c (MQ below (va_Qv (fun u : GS => K u) (fun u T => HB t u T.heap) (tA t)) args s 0 0 (tA t)) 11 t false 103 [(0, va_rf (some a0)), (1, .int l1), (2, .int l2), (3, .int l3), (4, .int l4)] [] G := by
  unfold w_M_alter_103 at hwp
  refine kw_iconst (v := 1) (pc := 103) X d_M_alter_103 (by decide) ?_
  refine kw_goto (tgt := 108) (pc := 104) X d_M_alter_104 (by decide) ?_
  exact kW.sub [0, 1, 2, 3, 4] rfl (k_M_alter_108 X hret  _ _ _ _ _ _ hwp)
set_option maxRecDepth 100000 in
set_option maxHeartbeats 4000000 in
theorem k_M_alter {p : Program} {l : Launch} {e : Env} {s : State} {m : MethodId} {args : Array Value} {below : List Frame} {meth : Method} {c : Code} {t : TY} {a0 : Nat} {K : GS → Prop} (X : kX p s m args meth c b_M_alter 11 "TreeServerModel" t) (hret : meth.sig.returnType = none) (G : GS) (p1 : Int32) (hwp : w_M_alter t G a0 p1 K) : kW p l e rm_M_alter s m args below meth c (MQ below (va_Qv (fun u : GS => K u) (fun u T => HB t u T.heap) (tA t)) args s 0 0 (tA t)) 11 t false 0 [(0, va_rf (some a0)), (1, .int p1)] [] G := by
  unfold w_M_alter at hwp
  refine kw_aload_n (pc := 0) X d_M_alter_0 rfl 0 rfl ?_
  refine kw_bipush (v := 54) (pc := 1) X d_M_alter_1 (by decide) ?_
  refine kw_aload_n (pc := 3) X d_M_alter_3 rfl 0 rfl ?_
  obtain ⟨f1, hwp⟩ := hwp
  refine kg_95 (a := a0) (pc := 4) X d_M_alter_4 x_1015 rfl f1 ?_
  refine kcVp_i (n := 2) (As := [.int (54 : Int32), .int (gi G 95 a0)]) (rest := []) (pc := 7) X (c_M_behind l t G a0 (54 : Int32) (gi G 95 a0) _) (cwV_of (C := "TreeServerModel") X x_1171 x_1168 x_1170 xp_55 x_13 (by decide +kernel) ⟨rfl, rfl⟩ (by decide)) (rv_10 X f1) rfl rfl (by decide) d_M_alter_7 hwp (fun v2 hwp => ?_)
  refine kw_istore_n (i := 2) (lv' := [(2, .int v2), (0, va_rf (some a0)), (1, .int p1)]) (pc := 10) X d_M_alter_10 rfl (by decide) rfl ?_
  refine kw_aload_n (pc := 11) X d_M_alter_11 rfl 1 rfl ?_
  refine kw_iload_n (pc := 12) X d_M_alter_12 rfl 0 rfl ?_
  refine kw_aload_n (pc := 13) X d_M_alter_13 rfl 1 rfl ?_
  refine kg_95 (a := a0) (pc := 14) X d_M_alter_14 x_1015 rfl f1 ?_
  refine kcVp_i (n := 2) (As := [.int v2, .int (gi G 95 a0)]) (rest := []) (pc := 17) X (c_M_behind l t G a0 v2 (gi G 95 a0) _) (cwV_of (C := "TreeServerModel") X x_1171 x_1168 x_1170 xp_55 x_13 (by decide +kernel) ⟨rfl, rfl⟩ (by decide)) (rv_10 X f1) rfl rfl (by decide) d_M_alter_17 hwp (fun v3 hwp => ?_)
  refine kw_istore_n (i := 3) (lv' := [(3, .int v3), (2, .int v2), (0, va_rf (some a0)), (1, .int p1)]) (pc := 20) X d_M_alter_20 rfl (by decide) rfl ?_
  refine kw_aload_n (pc := 21) X d_M_alter_21 rfl 2 rfl ?_
  refine kw_iload_n (pc := 22) X d_M_alter_22 rfl 0 rfl ?_
  refine kw_aload_n (pc := 23) X d_M_alter_23 rfl 2 rfl ?_
  refine kg_95 (a := a0) (pc := 24) X d_M_alter_24 x_1015 rfl f1 ?_
  refine kcVp_i (n := 2) (As := [.int v3, .int (gi G 95 a0)]) (rest := []) (pc := 27) X (c_M_behind l t G a0 v3 (gi G 95 a0) _) (cwV_of (C := "TreeServerModel") X x_1171 x_1168 x_1170 xp_55 x_13 (by decide +kernel) ⟨rfl, rfl⟩ (by decide)) (rv_10 X f1) rfl rfl (by decide) d_M_alter_27 hwp (fun v4 hwp => ?_)
  refine kw_istore (i := 4) (lv' := [(4, .int v4), (3, .int v3), (2, .int v2), (0, va_rf (some a0)), (1, .int p1)]) (pc := 30) X d_M_alter_30 (by decide) rfl ?_
  refine kw_aload_n (pc := 32) X d_M_alter_32 rfl 3 rfl ?_
  refine kw_bipush (v := 15) (pc := 33) X d_M_alter_33 (by decide) ?_
  refine kw_iconst (v := 2) (pc := 35) X d_M_alter_35 (by decide) ?_
  refine kcVp_l (n := 2) (As := [.int (15 : Int32), .int (2 : Int32)]) (rest := []) (pc := 36) X (c_M_get l t G a0 (15 : Int32) (2 : Int32) _) (cwV_of (C := "TreeServerModel") X x_1175 x_1172 x_1174 xp_56 x_13 (by decide +kernel) ⟨rfl, rfl⟩ (by decide)) (rv_10 X f1) rfl rfl (by decide) d_M_alter_36 hwp (fun v5 hwp => ?_)
  refine kw_ldc2 (v := 65535) (pc := 39) X d_M_alter_39 x_1346 ?_
  refine kw_lcmp_ne (tgt := 103) (pc := 42) X d_M_alter_42 d_M_alter_43 (by decide) (fun h => ?_) (fun h => ?_)
  · have hwp := ite_t h hwp
    exact kW.sub [3, 4, 2, 1, 0] rfl (k_M_alter_103 X hret  _ _ _ _ _ hwp)
  · have hwp := ite_f (not_not_intro h) hwp
    refine kw_aload_n (pc := 46) X d_M_alter_46 rfl 3 rfl ?_
    refine kw_bipush (v := 17) (pc := 47) X d_M_alter_47 (by decide) ?_
    refine kw_iconst (v := 4) (pc := 49) X d_M_alter_49 (by decide) ?_
    refine kcVp_l (n := 2) (As := [.int (17 : Int32), .int (4 : Int32)]) (rest := []) (pc := 50) X (c_M_get l t G a0 (17 : Int32) (4 : Int32) _) (cwV_of (C := "TreeServerModel") X x_1175 x_1172 x_1174 xp_56 x_13 (by decide +kernel) ⟨rfl, rfl⟩ (by decide)) (rv_10 X f1) rfl rfl (by decide) d_M_alter_50 hwp (fun v6 hwp => ?_)
    refine kw_ldc2 (v := 4294967295) (pc := 53) X d_M_alter_53 x_1230 ?_
    refine kw_lcmp_ne (tgt := 103) (pc := 56) X d_M_alter_56 d_M_alter_57 (by decide) (fun h => ?_) (fun h => ?_)
    · have hwp := ite_t h hwp
      exact kW.sub [3, 4, 2, 1, 0] rfl (k_M_alter_103 X hret  _ _ _ _ _ hwp)
    · have hwp := ite_f (not_not_intro h) hwp
      refine kw_aload_n (pc := 60) X d_M_alter_60 rfl 3 rfl ?_
      refine kw_bipush (v := 21) (pc := 61) X d_M_alter_61 (by decide) ?_
      refine kw_iconst (v := 5) (pc := 63) X d_M_alter_63 (by decide) ?_
      refine kcVp_l (n := 2) (As := [.int (21 : Int32), .int (5 : Int32)]) (rest := []) (pc := 64) X (c_M_get l t G a0 (21 : Int32) (5 : Int32) _) (cwV_of (C := "TreeServerModel") X x_1175 x_1172 x_1174 xp_56 x_13 (by decide +kernel) ⟨rfl, rfl⟩ (by decide)) (rv_10 X f1) rfl rfl (by decide) d_M_alter_64 hwp (fun v7 hwp => ?_)
      refine kw_ldc2 (v := 1099511627775) (pc := 67) X d_M_alter_67 x_1347 ?_
      refine kw_lcmp_ne (tgt := 103) (pc := 70) X d_M_alter_70 d_M_alter_71 (by decide) (fun h => ?_) (fun h => ?_)
      · have hwp := ite_t h hwp
        exact kW.sub [3, 4, 2, 1, 0] rfl (k_M_alter_103 X hret  _ _ _ _ _ hwp)
      · have hwp := ite_f (not_not_intro h) hwp
        refine kw_aload_n (pc := 74) X d_M_alter_74 rfl 3 rfl ?_
        refine kw_bipush (v := 26) (pc := 75) X d_M_alter_75 (by decide) ?_
        refine kw_bipush (v := 8) (pc := 77) X d_M_alter_77 (by decide) ?_
        refine kcVp_l (n := 2) (As := [.int (26 : Int32), .int (8 : Int32)]) (rest := []) (pc := 79) X (c_M_get l t G a0 (26 : Int32) (8 : Int32) _) (cwV_of (C := "TreeServerModel") X x_1175 x_1172 x_1174 xp_56 x_13 (by decide +kernel) ⟨rfl, rfl⟩ (by decide)) (rv_10 X f1) rfl rfl (by decide) d_M_alter_79 hwp (fun v8 hwp => ?_)
        refine kw_ldc2 (v := -1) (pc := 82) X d_M_alter_82 x_1348 ?_
        refine kw_lcmp_ne (tgt := 103) (pc := 85) X d_M_alter_85 d_M_alter_86 (by decide) (fun h => ?_) (fun h => ?_)
        · have hwp := ite_t h hwp
          exact kW.sub [3, 4, 2, 1, 0] rfl (k_M_alter_103 X hret  _ _ _ _ _ hwp)
        · have hwp := ite_f (not_not_intro h) hwp
          refine kw_aload_n (pc := 89) X d_M_alter_89 rfl 3 rfl ?_
          refine kw_bipush (v := 38) (pc := 90) X d_M_alter_90 (by decide) ?_
          refine kw_iconst (v := 4) (pc := 92) X d_M_alter_92 (by decide) ?_
          refine kcVp_l (n := 2) (As := [.int (38 : Int32), .int (4 : Int32)]) (rest := []) (pc := 93) X (c_M_get l t G a0 (38 : Int32) (4 : Int32) _) (cwV_of (C := "TreeServerModel") X x_1175 x_1172 x_1174 xp_56 x_13 (by decide +kernel) ⟨rfl, rfl⟩ (by decide)) (rv_10 X f1) rfl rfl (by decide) d_M_alter_93 hwp (fun v9 hwp => ?_)
          refine kw_ldc2 (v := 4294967295) (pc := 96) X d_M_alter_96 x_1230 ?_
          refine kw_lcmp_eq (tgt := 107) (pc := 99) X d_M_alter_99 d_M_alter_100 (by decide) (fun h => ?_) (fun h => ?_)
          · have hwp := ite_t h hwp
            refine kw_iconst (v := 0) (pc := 107) X d_M_alter_107 (by decide) ?_
            exact kW.sub [3, 4, 2, 1, 0] rfl (k_M_alter_108 X hret  _ _ _ _ _ _ hwp)
          · have hwp := ite_f h hwp
            exact kW.sub [3, 4, 2, 1, 0] rfl (k_M_alter_103 X hret  _ _ _ _ _ hwp)
set_option maxRecDepth 100000 in
set_option maxHeartbeats 4000000 in
theorem c_M_alter (l : Launch) (t : TY) (G : GS) (a0 : Nat) (p1 : Int32) (K : GS → Prop) : Met l y_M_alter (Cond.code y_M_alter b_M_alter 11 (Option.none : Option Jvm.ClassFile.FieldType) :: GW) rm_M_alter (va_Pc [.ref a0, .int p1] (fun U => HB t G U.heap ∧ HK t U ∧ w_M_alter t G a0 p1 K)) (va_Qv (fun u : GS => K u) (fun u T => HB t u T.heap) (tA t)) 0 0 (tA t) := by
  refine Met.ofW (cc := b_M_alter) (maxL := 11) (ret := none) (by decide) rfl ?_
  intro p e s m args below meth c s₁ B hml hv
  obtain ⟨rfl, hB, hK, hwp⟩ := hv
  have hts := atoms_spec (ws := Cond.code y_M_alter b_M_alter 11 (Option.none : Option Jvm.ClassFile.FieldType) :: GW) B.pre
  have X : kX p s m _ meth c b_M_alter 11 "TreeServerModel" t := ⟨B.exec, B.bytes, hml, findClass_of_methodNamed B.named, fun w h => hts w (List.mem_cons_of_mem _ h), B.notSynchronized, hK⟩
  have hZ : kZ t false s G s.heap [] := ⟨hB, va_S.rf, fun _ => ⟨rfl, rfl⟩⟩
  rw [lg_entry_eq]
  have hl := lv_entry ([.ref a0, .int p1]) (n := 11) (by simp [lg_sl, rf_cat, cat_i, cat_l, cat_r])
  exact k_M_alter X B.returns _ _ hwp s.heap [] _ hl hZ
abbrev b_M_withFid : ByteArray := prog_13_method_46_code
def y_M_withFid : MethodName := ⟨"TreeServerModel", "withFid", "(II)V"⟩
theorem d_M_withFid_0 : decode b_M_withFid 0 = .ok (.aload_n 0, 1) := by decide +kernel
theorem d_M_withFid_1 : decode b_M_withFid 1 = .ok (.iload_n 1, 1) := by decide +kernel
theorem d_M_withFid_2 : decode b_M_withFid 2 = .ok (.aload_n 0, 1) := by decide +kernel
theorem d_M_withFid_3 : decode b_M_withFid 3 = .ok (.bipush 7, 2) := by decide +kernel
theorem d_M_withFid_5 : decode b_M_withFid 5 = .ok (.iconst 4, 1) := by decide +kernel
theorem d_M_withFid_6 : decode b_M_withFid 6 = .ok (.invokevirtual 85, 3) := by decide +kernel
theorem d_M_withFid_9 : decode b_M_withFid 9 = .ok (.invokevirtual 250, 3) := by decide +kernel
theorem d_M_withFid_12 : decode b_M_withFid 12 = .ok (.istore_n 3, 1) := by decide +kernel
theorem d_M_withFid_13 : decode b_M_withFid 13 = .ok (.iload_n 3, 1) := by decide +kernel
theorem d_M_withFid_14 : decode b_M_withFid 14 = .ok (.ifCond .ge 7, 3) := by decide +kernel
theorem d_M_withFid_17 : decode b_M_withFid 17 = .ok (.iconst (-1), 1) := by decide +kernel
theorem d_M_withFid_18 : decode b_M_withFid 18 = .ok (.goto 13, 3) := by decide +kernel
theorem d_M_withFid_21 : decode b_M_withFid 21 = .ok (.aload_n 0, 1) := by decide +kernel
theorem d_M_withFid_22 : decode b_M_withFid 22 = .ok (.aload_n 0, 1) := by decide +kernel
theorem d_M_withFid_23 : decode b_M_withFid 23 = .ok (.getfield 52, 3) := by decide +kernel
theorem d_M_withFid_26 : decode b_M_withFid 26 = .ok (.iload_n 3, 1) := by decide +kernel
theorem d_M_withFid_27 : decode b_M_withFid 27 = .ok (.iaload, 1) := by decide +kernel
theorem d_M_withFid_28 : decode b_M_withFid 28 = .ok (.invokevirtual 89, 3) := by decide +kernel
theorem d_M_withFid_31 : decode b_M_withFid 31 = .ok (.istore 4, 2) := by decide +kernel
theorem d_M_withFid_33 : decode b_M_withFid 33 = .ok (.iload_n 3, 1) := by decide +kernel
theorem d_M_withFid_34 : decode b_M_withFid 34 = .ok (.ifCond .ge 13, 3) := by decide +kernel
theorem d_M_withFid_37 : decode b_M_withFid 37 = .ok (.aload_n 0, 1) := by decide +kernel
theorem d_M_withFid_38 : decode b_M_withFid 38 = .ok (.ldc2_w 269, 3) := by decide +kernel
theorem d_M_withFid_41 : decode b_M_withFid 41 = .ok (.putfield 193, 3) := by decide +kernel
theorem d_M_withFid_44 : decode b_M_withFid 44 = .ok (.goto 161, 3) := by decide +kernel
theorem d_M_withFid_47 : decode b_M_withFid 47 = .ok (.iload_n 2, 1) := by decide +kernel
theorem d_M_withFid_48 : decode b_M_withFid 48 = .ok (.bipush 120, 2) := by decide +kernel
theorem d_M_withFid_50 : decode b_M_withFid 50 = .ok (.if_icmp .ne 11, 3) := by decide +kernel
theorem d_M_withFid_53 : decode b_M_withFid 53 = .ok (.aload_n 0, 1) := by decide +kernel
theorem d_M_withFid_54 : decode b_M_withFid 54 = .ok (.iload_n 3, 1) := by decide +kernel
theorem d_M_withFid_55 : decode b_M_withFid 55 = .ok (.invokevirtual 179, 3) := by decide +kernel
theorem d_M_withFid_58 : decode b_M_withFid 58 = .ok (.goto 147, 3) := by decide +kernel
theorem d_M_withFid_61 : decode b_M_withFid 61 = .ok (.iload_n 2, 1) := by decide +kernel
theorem d_M_withFid_62 : decode b_M_withFid 62 = .ok (.bipush 122, 2) := by decide +kernel
theorem d_M_withFid_64 : decode b_M_withFid 64 = .ok (.if_icmp .ne 13, 3) := by decide +kernel
theorem d_M_withFid_67 : decode b_M_withFid 67 = .ok (.aload_n 0, 1) := by decide +kernel
theorem d_M_withFid_68 : decode b_M_withFid 68 = .ok (.iload_n 3, 1) := by decide +kernel
theorem d_M_withFid_69 : decode b_M_withFid 69 = .ok (.iload 4, 2) := by decide +kernel
theorem d_M_withFid_71 : decode b_M_withFid 71 = .ok (.invokevirtual 271, 3) := by decide +kernel
theorem d_M_withFid_74 : decode b_M_withFid 74 = .ok (.goto 131, 3) := by decide +kernel
theorem d_M_withFid_77 : decode b_M_withFid 77 = .ok (.iload 4, 2) := by decide +kernel
theorem d_M_withFid_79 : decode b_M_withFid 79 = .ok (.ifCond .ge 13, 3) := by decide +kernel
theorem d_M_withFid_82 : decode b_M_withFid 82 = .ok (.aload_n 0, 1) := by decide +kernel
theorem d_M_withFid_83 : decode b_M_withFid 83 = .ok (.ldc2_w 274, 3) := by decide +kernel
theorem d_M_withFid_86 : decode b_M_withFid 86 = .ok (.putfield 193, 3) := by decide +kernel
theorem d_M_withFid_89 : decode b_M_withFid 89 = .ok (.goto 116, 3) := by decide +kernel
theorem d_M_withFid_92 : decode b_M_withFid 92 = .ok (.aload_n 0, 1) := by decide +kernel
theorem d_M_withFid_93 : decode b_M_withFid 93 = .ok (.aload_n 0, 1) := by decide +kernel
theorem d_M_withFid_94 : decode b_M_withFid 94 = .ok (.getfield 55, 3) := by decide +kernel
theorem d_M_withFid_97 : decode b_M_withFid 97 = .ok (.iload_n 3, 1) := by decide +kernel
theorem d_M_withFid_98 : decode b_M_withFid 98 = .ok (.iaload, 1) := by decide +kernel
theorem d_M_withFid_99 : decode b_M_withFid 99 = .ok (.putfield 276, 3) := by decide +kernel
theorem d_M_withFid_102 : decode b_M_withFid 102 = .ok (.iload_n 2, 1) := by decide +kernel
theorem d_M_withFid_103 : decode b_M_withFid 103 = .ok (.bipush 110, 2) := by decide +kernel
theorem d_M_withFid_105 : decode b_M_withFid 105 = .ok (.if_icmp .ne 14, 3) := by decide +kernel
theorem d_M_withFid_108 : decode b_M_withFid 108 = .ok (.aload_n 0, 1) := by decide +kernel
theorem d_M_withFid_109 : decode b_M_withFid 109 = .ok (.iload_n 1, 1) := by decide +kernel
theorem d_M_withFid_110 : decode b_M_withFid 110 = .ok (.iload_n 3, 1) := by decide +kernel
theorem d_M_withFid_111 : decode b_M_withFid 111 = .ok (.iload 4, 2) := by decide +kernel
theorem d_M_withFid_113 : decode b_M_withFid 113 = .ok (.invokevirtual 279, 3) := by decide +kernel
theorem d_M_withFid_116 : decode b_M_withFid 116 = .ok (.goto 89, 3) := by decide +kernel
theorem d_M_withFid_119 : decode b_M_withFid 119 = .ok (.iload_n 2, 1) := by decide +kernel
theorem d_M_withFid_120 : decode b_M_withFid 120 = .ok (.bipush 112, 2) := by decide +kernel
theorem d_M_withFid_122 : decode b_M_withFid 122 = .ok (.if_icmp .ne 13, 3) := by decide +kernel
theorem d_M_withFid_125 : decode b_M_withFid 125 = .ok (.aload_n 0, 1) := by decide +kernel
theorem d_M_withFid_126 : decode b_M_withFid 126 = .ok (.iload_n 3, 1) := by decide +kernel
theorem d_M_withFid_127 : decode b_M_withFid 127 = .ok (.iload 4, 2) := by decide +kernel
theorem d_M_withFid_129 : decode b_M_withFid 129 = .ok (.invokevirtual 282, 3) := by decide +kernel
theorem d_M_withFid_132 : decode b_M_withFid 132 = .ok (.goto 73, 3) := by decide +kernel
theorem d_M_withFid_135 : decode b_M_withFid 135 = .ok (.iload_n 2, 1) := by decide +kernel
theorem d_M_withFid_136 : decode b_M_withFid 136 = .ok (.bipush 114, 2) := by decide +kernel
theorem d_M_withFid_138 : decode b_M_withFid 138 = .ok (.if_icmp .ne 13, 3) := by decide +kernel
theorem d_M_withFid_141 : decode b_M_withFid 141 = .ok (.aload_n 0, 1) := by decide +kernel
theorem d_M_withFid_142 : decode b_M_withFid 142 = .ok (.iload_n 3, 1) := by decide +kernel
theorem d_M_withFid_143 : decode b_M_withFid 143 = .ok (.iload 4, 2) := by decide +kernel
theorem d_M_withFid_145 : decode b_M_withFid 145 = .ok (.invokevirtual 285, 3) := by decide +kernel
theorem d_M_withFid_148 : decode b_M_withFid 148 = .ok (.goto 57, 3) := by decide +kernel
theorem d_M_withFid_151 : decode b_M_withFid 151 = .ok (.iload_n 2, 1) := by decide +kernel
theorem d_M_withFid_152 : decode b_M_withFid 152 = .ok (.bipush 116, 2) := by decide +kernel
theorem d_M_withFid_154 : decode b_M_withFid 154 = .ok (.if_icmp .ne 14, 3) := by decide +kernel
theorem d_M_withFid_157 : decode b_M_withFid 157 = .ok (.aload_n 0, 1) := by decide +kernel
theorem d_M_withFid_158 : decode b_M_withFid 158 = .ok (.iload_n 1, 1) := by decide +kernel
theorem d_M_withFid_159 : decode b_M_withFid 159 = .ok (.iload_n 3, 1) := by decide +kernel
theorem d_M_withFid_160 : decode b_M_withFid 160 = .ok (.iload 4, 2) := by decide +kernel
theorem d_M_withFid_162 : decode b_M_withFid 162 = .ok (.invokevirtual 288, 3) := by decide +kernel
theorem d_M_withFid_165 : decode b_M_withFid 165 = .ok (.goto 40, 3) := by decide +kernel
theorem d_M_withFid_168 : decode b_M_withFid 168 = .ok (.iload_n 2, 1) := by decide +kernel
theorem d_M_withFid_169 : decode b_M_withFid 169 = .ok (.bipush 118, 2) := by decide +kernel
theorem d_M_withFid_171 : decode b_M_withFid 171 = .ok (.if_icmp .ne 13, 3) := by decide +kernel
theorem d_M_withFid_174 : decode b_M_withFid 174 = .ok (.aload_n 0, 1) := by decide +kernel
theorem d_M_withFid_175 : decode b_M_withFid 175 = .ok (.iload_n 3, 1) := by decide +kernel
theorem d_M_withFid_176 : decode b_M_withFid 176 = .ok (.iload 4, 2) := by decide +kernel
theorem d_M_withFid_178 : decode b_M_withFid 178 = .ok (.invokevirtual 291, 3) := by decide +kernel
theorem d_M_withFid_181 : decode b_M_withFid 181 = .ok (.goto 24, 3) := by decide +kernel
theorem d_M_withFid_184 : decode b_M_withFid 184 = .ok (.iload_n 2, 1) := by decide +kernel
theorem d_M_withFid_185 : decode b_M_withFid 185 = .ok (.bipush 124, 2) := by decide +kernel
theorem d_M_withFid_187 : decode b_M_withFid 187 = .ok (.if_icmp .ne 12, 3) := by decide +kernel
theorem d_M_withFid_190 : decode b_M_withFid 190 = .ok (.aload_n 0, 1) := by decide +kernel
theorem d_M_withFid_191 : decode b_M_withFid 191 = .ok (.iload 4, 2) := by decide +kernel
theorem d_M_withFid_193 : decode b_M_withFid 193 = .ok (.invokevirtual 294, 3) := by decide +kernel
theorem d_M_withFid_196 : decode b_M_withFid 196 = .ok (.goto 9, 3) := by decide +kernel
theorem d_M_withFid_199 : decode b_M_withFid 199 = .ok (.aload_n 0, 1) := by decide +kernel
theorem d_M_withFid_200 : decode b_M_withFid 200 = .ok (.iload 4, 2) := by decide +kernel
theorem d_M_withFid_202 : decode b_M_withFid 202 = .ok (.invokevirtual 297, 3) := by decide +kernel
theorem d_M_withFid_205 : decode b_M_withFid 205 = .ok (.return_, 1) := by decide +kernel
abbrev rm_M_withFid : Room := { frames := 5, cells := 0, slots := 0, locals := 124 }
set_option maxRecDepth 100000 in
set_option maxHeartbeats 4000000 in
theorem k_M_withFid_31 {p : Program} {l : Launch} {e : Env} {s : State} {m : MethodId} {args : Array Value} {below : List Frame} {meth : Method} {c : Code} {t : TY} {a0 : Nat} {K : GS → Prop} (X : kX p s m args meth c b_M_withFid 5 "TreeServerModel" t) (hret : meth.sig.returnType = none) (l1 : Int32) (l2 : Int32) (l3 : Int32) (s0 : Int32) (G : GS) (hwp : w_M_withFid_31 t a0 K l1 l2 l3 s0 G) : kW p l e rm_M_withFid s m args below meth c (MQ below (va_Qv (fun u : GS => K u) (fun u T => HB t u T.heap) (tA t)) args s 0 0 (tA t)) 5 t false 31 [(0, va_rf (some a0)), (1, .int l1), (2, .int l2), (3, .int l3)] [.int s0] G := by
  unfold w_M_withFid_31 at hwp
  refine kw_istore (i := 4) (lv' := [(4, .int s0), (0, va_rf (some a0)), (1, .int l1), (2, .int l2), (3, .int l3)]) (pc := 31) X d_M_withFid_31 (by decide) rfl ?_
  refine kw_iload_n (pc := 33) X d_M_withFid_33 rfl 4 rfl ?_
  refine kw_if_ge (tgt := 47) (pc := 34) X d_M_withFid_34 (by decide) (fun h => ?_) (fun h => ?_)
  · have hwp := ite_t h hwp
    refine kw_iload_n (pc := 47) X d_M_withFid_47 rfl 3 rfl ?_
    refine kw_bipush (v := 120) (pc := 48) X d_M_withFid_48 (by decide) ?_
    refine kw_icmp_ne (tgt := 61) (pc := 50) X d_M_withFid_50 (by decide) (fun h => ?_) (fun h => ?_)
    · have hwp := ite_t h hwp
      refine kw_iload_n (pc := 61) X d_M_withFid_61 rfl 3 rfl ?_
      refine kw_bipush (v := 122) (pc := 62) X d_M_withFid_62 (by decide) ?_
      refine kw_icmp_ne (tgt := 77) (pc := 64) X d_M_withFid_64 (by decide) (fun h => ?_) (fun h => ?_)
      · have hwp := ite_t h hwp
        refine kw_iload (pc := 77) X d_M_withFid_77 0 rfl ?_
        refine kw_if_ge (tgt := 92) (pc := 79) X d_M_withFid_79 (by decide) (fun h => ?_) (fun h => ?_)
        · have hwp := ite_t h hwp
          refine kw_aload_n (pc := 92) X d_M_withFid_92 rfl 1 rfl ?_
          refine kw_aload_n (pc := 93) X d_M_withFid_93 rfl 1 rfl ?_
          obtain ⟨f1, hwp⟩ := hwp
          refine kg_89 (a := a0) (pc := 94) X d_M_withFid_94 x_1009 rfl f1 ?_
          refine kw_iload_n (pc := 97) X d_M_withFid_97 rfl 4 rfl ?_
          obtain ⟨a2, h_a2, hwp⟩ := hwp
          obtain ⟨f3, hwp⟩ := hwp
          obtain ⟨f4, hwp⟩ := hwp
          refine ka_iald (a := a2) (pc := 98) X d_M_withFid_98 h_a2 f3 f4 ?_
          refine kp_99 (a := a0) (x := (ai G a2 l3.toNatClampNeg)) (pc := 99) X rfl d_M_withFid_99 x_1019 rfl f1 ?_
          obtain ⟨G5, e_G5⟩ : ∃ g, g = si G 99 a0 (ai G a2 l3.toNatClampNeg) := ⟨_, rfl⟩
          have hwp := hwp G5 e_G5
          refine kW.g e_G5.symm ?_
          refine kw_iload_n (pc := 102) X d_M_withFid_102 rfl 3 rfl ?_
          refine kw_bipush (v := 110) (pc := 103) X d_M_withFid_103 (by decide) ?_
          refine kw_icmp_ne (tgt := 119) (pc := 105) X d_M_withFid_105 (by decide) (fun h => ?_) (fun h => ?_)
          · have hwp := ite_t h hwp
            refine kw_iload_n (pc := 119) X d_M_withFid_119 rfl 3 rfl ?_
            refine kw_bipush (v := 112) (pc := 120) X d_M_withFid_120 (by decide) ?_
            refine kw_icmp_ne (tgt := 135) (pc := 122) X d_M_withFid_122 (by decide) (fun h => ?_) (fun h => ?_)
            · have hwp := ite_t h hwp
              refine kw_iload_n (pc := 135) X d_M_withFid_135 rfl 3 rfl ?_
              refine kw_bipush (v := 114) (pc := 136) X d_M_withFid_136 (by decide) ?_
              refine kw_icmp_ne (tgt := 151) (pc := 138) X d_M_withFid_138 (by decide) (fun h => ?_) (fun h => ?_)
              · have hwp := ite_t h hwp
                refine kw_iload_n (pc := 151) X d_M_withFid_151 rfl 3 rfl ?_
                refine kw_bipush (v := 116) (pc := 152) X d_M_withFid_152 (by decide) ?_
                refine kw_icmp_ne (tgt := 168) (pc := 154) X d_M_withFid_154 (by decide) (fun h => ?_) (fun h => ?_)
                · have hwp := ite_t h hwp
                  refine kw_iload_n (pc := 168) X d_M_withFid_168 rfl 3 rfl ?_
                  refine kw_bipush (v := 118) (pc := 169) X d_M_withFid_169 (by decide) ?_
                  refine kw_icmp_ne (tgt := 184) (pc := 171) X d_M_withFid_171 (by decide) (fun h => ?_) (fun h => ?_)
                  · have hwp := ite_t h hwp
                    refine kw_iload_n (pc := 184) X d_M_withFid_184 rfl 3 rfl ?_
                    refine kw_bipush (v := 124) (pc := 185) X d_M_withFid_185 (by decide) ?_
                    refine kw_icmp_ne (tgt := 199) (pc := 187) X d_M_withFid_187 (by decide) (fun h => ?_) (fun h => ?_)
                    · have hwp := ite_t h hwp
                      refine kw_aload_n (pc := 199) X d_M_withFid_199 rfl 1 rfl ?_
                      refine kw_iload (pc := 200) X d_M_withFid_200 0 rfl ?_
                      refine kcV_v (n := 1) (As := [.int s0]) (rest := []) (pc := 202) X rfl (c_M_alter l t G5 a0 s0 _) (cwV_of (C := "TreeServerModel") X x_1345 x_1342 x_1344 xp_88 x_13 (by decide +kernel) ⟨rfl, rfl⟩ (by decide)) (rv_10 X f1) rfl rfl (by decide) d_M_withFid_202 hwp (fun G6 hwp => ?_)
                      exact kr_v (pc := 205) X hret d_M_withFid_205 hwp
                    · have hwp := ite_f (not_not_intro h) hwp
                      refine kw_aload_n (pc := 190) X d_M_withFid_190 rfl 1 rfl ?_
                      refine kw_iload (pc := 191) X d_M_withFid_191 0 rfl ?_
                      refine kcV_v (n := 1) (As := [.int s0]) (rest := []) (pc := 193) X rfl (c_M_show l t G5 a0 s0 _) (cwV_of (C := "TreeServerModel") X x_1341 x_1338 x_1340 xp_87 x_13 (by decide +kernel) ⟨rfl, rfl⟩ (by decide)) (rv_10 X f1) rfl rfl (by decide) d_M_withFid_193 hwp (fun G7 hwp => ?_)
                      refine kw_goto (tgt := 205) (pc := 196) X d_M_withFid_196 (by decide) ?_
                      exact kr_v (pc := 205) X hret d_M_withFid_205 hwp
                  · have hwp := ite_f (not_not_intro h) hwp
                    refine kw_aload_n (pc := 174) X d_M_withFid_174 rfl 1 rfl ?_
                    refine kw_iload_n (pc := 175) X d_M_withFid_175 rfl 4 rfl ?_
                    refine kw_iload (pc := 176) X d_M_withFid_176 0 rfl ?_
                    refine kcV_v (n := 2) (As := [.int l3, .int s0]) (rest := []) (pc := 178) X rfl (c_M_write l t G5 a0 l3 s0 _) (cwV_of (C := "TreeServerModel") X x_1336 x_1333 x_1335 xp_86 x_13 (by decide +kernel) ⟨rfl, rfl⟩ (by decide)) (rv_10 X f1) rfl rfl (by decide) d_M_withFid_178 hwp (fun G8 hwp => ?_)
                    refine kw_goto (tgt := 205) (pc := 181) X d_M_withFid_181 (by decide) ?_
                    exact kr_v (pc := 205) X hret d_M_withFid_205 hwp
                · have hwp := ite_f (not_not_intro h) hwp
                  refine kw_aload_n (pc := 157) X d_M_withFid_157 rfl 1 rfl ?_
                  refine kw_iload_n (pc := 158) X d_M_withFid_158 rfl 2 rfl ?_
                  refine kw_iload_n (pc := 159) X d_M_withFid_159 rfl 4 rfl ?_
                  refine kw_iload (pc := 160) X d_M_withFid_160 0 rfl ?_
                  refine kcV_v (n := 3) (As := [.int l1, .int l3, .int s0]) (rest := []) (pc := 162) X rfl (c_M_read l t G5 a0 l1 l3 s0 _) (cwV_of (C := "TreeServerModel") X x_1311 x_1308 x_1310 xp_81 x_13 (by decide +kernel) ⟨rfl, rfl⟩ (by decide)) (rv_10 X f1) rfl rfl (by decide) d_M_withFid_162 hwp (fun G9 hwp => ?_)
                  refine kw_goto (tgt := 205) (pc := 165) X d_M_withFid_165 (by decide) ?_
                  exact kr_v (pc := 205) X hret d_M_withFid_205 hwp
              · have hwp := ite_f (not_not_intro h) hwp
                refine kw_aload_n (pc := 141) X d_M_withFid_141 rfl 1 rfl ?_
                refine kw_iload_n (pc := 142) X d_M_withFid_142 rfl 4 rfl ?_
                refine kw_iload (pc := 143) X d_M_withFid_143 0 rfl ?_
                refine kcV_v (n := 2) (As := [.int l3, .int s0]) (rest := []) (pc := 145) X rfl (c_M_create l t G5 a0 l3 s0 _) (cwV_of (C := "TreeServerModel") X x_1287 x_1284 x_1286 xp_76 x_13 (by decide +kernel) ⟨rfl, rfl⟩ (by decide)) (rv_10 X f1) rfl rfl (by decide) d_M_withFid_145 hwp (fun G10 hwp => ?_)
                refine kw_goto (tgt := 205) (pc := 148) X d_M_withFid_148 (by decide) ?_
                exact kr_v (pc := 205) X hret d_M_withFid_205 hwp
            · have hwp := ite_f (not_not_intro h) hwp
              refine kw_aload_n (pc := 125) X d_M_withFid_125 rfl 1 rfl ?_
              refine kw_iload_n (pc := 126) X d_M_withFid_126 rfl 4 rfl ?_
              refine kw_iload (pc := 127) X d_M_withFid_127 0 rfl ?_
              refine kcV_v (n := 2) (As := [.int l3, .int s0]) (rest := []) (pc := 129) X rfl (c_M_reach l t G5 a0 l3 s0 _) (cwV_of (C := "TreeServerModel") X x_1275 x_1272 x_1274 xp_74 x_13 (by decide +kernel) ⟨rfl, rfl⟩ (by decide)) (rv_10 X f1) rfl rfl (by decide) d_M_withFid_129 hwp (fun G11 hwp => ?_)
              refine kw_goto (tgt := 205) (pc := 132) X d_M_withFid_132 (by decide) ?_
              exact kr_v (pc := 205) X hret d_M_withFid_205 hwp
          · have hwp := ite_f (not_not_intro h) hwp
            refine kw_aload_n (pc := 108) X d_M_withFid_108 rfl 1 rfl ?_
            refine kw_iload_n (pc := 109) X d_M_withFid_109 rfl 2 rfl ?_
            refine kw_iload_n (pc := 110) X d_M_withFid_110 rfl 4 rfl ?_
            refine kw_iload (pc := 111) X d_M_withFid_111 0 rfl ?_
            refine kcV_v (n := 3) (As := [.int l1, .int l3, .int s0]) (rest := []) (pc := 113) X rfl (c_M_walk l t G5 a0 l1 l3 s0 _) (cwV_of (C := "TreeServerModel") X x_1259 x_1256 x_1258 xp_71 x_13 (by decide +kernel) ⟨rfl, rfl⟩ (by decide)) (rv_10 X f1) rfl rfl (by decide) d_M_withFid_113 hwp (fun G12 hwp => ?_)
            refine kw_goto (tgt := 205) (pc := 116) X d_M_withFid_116 (by decide) ?_
            exact kr_v (pc := 205) X hret d_M_withFid_205 hwp
        · have hwp := ite_f h hwp
          refine kw_aload_n (pc := 82) X d_M_withFid_82 rfl 1 rfl ?_
          refine kw_ldc2 (v := 1701736295) (pc := 83) X d_M_withFid_83 x_1253 ?_
          obtain ⟨f13, hwp⟩ := hwp
          refine kp_98 (a := a0) (x := (1701736295 : Int64)) (pc := 86) X rfl d_M_withFid_86 x_1018 rfl f13 ?_
          obtain ⟨G14, e_G14⟩ : ∃ g, g = sl G 98 a0 (1701736295 : Int64) := ⟨_, rfl⟩
          have hwp := hwp G14 e_G14
          refine kW.g e_G14.symm ?_
          refine kw_goto (tgt := 205) (pc := 89) X d_M_withFid_89 (by decide) ?_
          exact kr_v (pc := 205) X hret d_M_withFid_205 hwp
      · have hwp := ite_f (not_not_intro h) hwp
        refine kw_aload_n (pc := 67) X d_M_withFid_67 rfl 1 rfl ?_
        refine kw_iload_n (pc := 68) X d_M_withFid_68 rfl 4 rfl ?_
        refine kw_iload (pc := 69) X d_M_withFid_69 0 rfl ?_
        obtain ⟨f15, hwp⟩ := hwp
        refine kcV_v (n := 2) (As := [.int l3, .int s0]) (rest := []) (pc := 71) X rfl (c_M_remove l t G a0 l3 s0 _) (cwV_of (C := "TreeServerModel") X x_1252 x_1249 x_1251 xp_70 x_13 (by decide +kernel) ⟨rfl, rfl⟩ (by decide)) (rv_10 X f15) rfl rfl (by decide) d_M_withFid_71 hwp (fun G16 hwp => ?_)
        refine kw_goto (tgt := 205) (pc := 74) X d_M_withFid_74 (by decide) ?_
        exact kr_v (pc := 205) X hret d_M_withFid_205 hwp
    · have hwp := ite_f (not_not_intro h) hwp
      refine kw_aload_n (pc := 53) X d_M_withFid_53 rfl 1 rfl ?_
      refine kw_iload_n (pc := 54) X d_M_withFid_54 rfl 4 rfl ?_
      obtain ⟨f17, hwp⟩ := hwp
      refine kcV_v (n := 1) (As := [.int l3]) (rest := []) (pc := 55) X rfl (c_M_release l t G a0 l3 _) (cwV_of (C := "TreeServerModel") X x_1103 x_1100 x_1102 xp_39 x_13 (by decide +kernel) ⟨rfl, rfl⟩ (by decide)) (rv_10 X f17) rfl rfl (by decide) d_M_withFid_55 hwp (fun G18 hwp => ?_)
      refine kw_goto (tgt := 205) (pc := 58) X d_M_withFid_58 (by decide) ?_
      exact kr_v (pc := 205) X hret d_M_withFid_205 hwp
  · have hwp := ite_f h hwp
    refine kw_aload_n (pc := 37) X d_M_withFid_37 rfl 1 rfl ?_
    refine kw_ldc2 (v := 6580582) (pc := 38) X d_M_withFid_38 x_1248 ?_
    obtain ⟨f19, hwp⟩ := hwp
    refine kp_98 (a := a0) (x := (6580582 : Int64)) (pc := 41) X rfl d_M_withFid_41 x_1018 rfl f19 ?_
    obtain ⟨G20, e_G20⟩ : ∃ g, g = sl G 98 a0 (6580582 : Int64) := ⟨_, rfl⟩
    have hwp := hwp G20 e_G20
    refine kW.g e_G20.symm ?_
    refine kw_goto (tgt := 205) (pc := 44) X d_M_withFid_44 (by decide) ?_
    exact kr_v (pc := 205) X hret d_M_withFid_205 hwp
set_option maxRecDepth 100000 in
set_option maxHeartbeats 4000000 in
theorem k_M_withFid {p : Program} {l : Launch} {e : Env} {s : State} {m : MethodId} {args : Array Value} {below : List Frame} {meth : Method} {c : Code} {t : TY} {a0 : Nat} {K : GS → Prop} (X : kX p s m args meth c b_M_withFid 5 "TreeServerModel" t) (hret : meth.sig.returnType = none) (G : GS) (p1 : Int32) (p2 : Int32) (hwp : w_M_withFid t G a0 p1 p2 K) : kW p l e rm_M_withFid s m args below meth c (MQ below (va_Qv (fun u : GS => K u) (fun u T => HB t u T.heap) (tA t)) args s 0 0 (tA t)) 5 t false 0 [(0, va_rf (some a0)), (1, .int p1), (2, .int p2)] [] G := by
  unfold w_M_withFid at hwp
  refine kw_aload_n (pc := 0) X d_M_withFid_0 rfl 0 rfl ?_
  refine kw_iload_n (pc := 1) X d_M_withFid_1 rfl 1 rfl ?_
  refine kw_aload_n (pc := 2) X d_M_withFid_2 rfl 0 rfl ?_
  refine kw_bipush (v := 7) (pc := 3) X d_M_withFid_3 (by decide) ?_
  refine kw_iconst (v := 4) (pc := 5) X d_M_withFid_5 (by decide) ?_
  obtain ⟨f1, hwp⟩ := hwp
  refine kcVp_l (n := 2) (As := [.int (7 : Int32), .int (4 : Int32)]) (rest := [.int p1, va_rf (some a0)]) (pc := 6) X (c_M_get l t G a0 (7 : Int32) (4 : Int32) _) (cwV_of (C := "TreeServerModel") X x_1175 x_1172 x_1174 xp_56 x_13 (by decide +kernel) ⟨rfl, rfl⟩ (by decide)) (rv_10 X f1) rfl rfl (by simp [rf_cat, cat_i, cat_l, cat_r]) d_M_withFid_6 hwp (fun v2 hwp => ?_)
  refine kcVp_i (n := 2) (As := [.int p1, .long v2]) (rest := []) (pc := 9) X (c_M_fid l t G a0 p1 v2 _) (cwV_of (C := "TreeServerModel") X x_1223 x_1220 x_1222 xp_64 x_13 (by decide +kernel) ⟨rfl, rfl⟩ (by decide)) (rv_10 X f1) rfl rfl (by decide) d_M_withFid_9 hwp (fun v3 hwp => ?_)
  refine kw_istore_n (i := 3) (lv' := [(3, .int v3), (0, va_rf (some a0)), (1, .int p1), (2, .int p2)]) (pc := 12) X d_M_withFid_12 rfl (by decide) rfl ?_
  refine kw_iload_n (pc := 13) X d_M_withFid_13 rfl 0 rfl ?_
  refine kw_if_ge (tgt := 21) (pc := 14) X d_M_withFid_14 (by decide) (fun h => ?_) (fun h => ?_)
  · have hwp := ite_t h hwp
    refine kw_aload_n (pc := 21) X d_M_withFid_21 rfl 1 rfl ?_
    refine kw_aload_n (pc := 22) X d_M_withFid_22 rfl 1 rfl ?_
    refine kg_88 (a := a0) (pc := 23) X d_M_withFid_23 x_1008 rfl f1 ?_
    refine kw_iload_n (pc := 26) X d_M_withFid_26 rfl 0 rfl ?_
    obtain ⟨a4, h_a4, hwp⟩ := hwp
    obtain ⟨f5, hwp⟩ := hwp
    obtain ⟨f6, hwp⟩ := hwp
    refine ka_iald (a := a4) (pc := 27) X d_M_withFid_27 h_a4 f5 f6 ?_
    refine kcVp_i (n := 1) (As := [.int (ai G a4 v3.toNatClampNeg)]) (rest := []) (pc := 28) X (c_M_find l t G a0 (ai G a4 v3.toNatClampNeg) _) (cwV_of (C := "TreeServerModel") X x_1107 x_1104 x_1106 xp_40 x_13 (by decide +kernel) ⟨rfl, rfl⟩ (by decide)) (rv_10 X f1) rfl rfl (by decide) d_M_withFid_28 hwp (fun v7 hwp => ?_)
    exact kW.sub [1, 2, 3, 0] rfl (k_M_withFid_31 X hret  _ _ _ _ _ hwp)
  · have hwp := ite_f h hwp
    refine kw_iconst (v := -1) (pc := 17) X d_M_withFid_17 (by decide) ?_
    refine kw_goto (tgt := 31) (pc := 18) X d_M_withFid_18 (by decide) ?_
    exact kW.sub [1, 2, 3, 0] rfl (k_M_withFid_31 X hret  _ _ _ _ _ hwp)
set_option maxRecDepth 100000 in
set_option maxHeartbeats 4000000 in
theorem c_M_withFid (l : Launch) (t : TY) (G : GS) (a0 : Nat) (p1 : Int32) (p2 : Int32) (K : GS → Prop) : Met l y_M_withFid (Cond.code y_M_withFid b_M_withFid 5 (Option.none : Option Jvm.ClassFile.FieldType) :: GW) rm_M_withFid (va_Pc [.ref a0, .int p1, .int p2] (fun U => HB t G U.heap ∧ HK t U ∧ w_M_withFid t G a0 p1 p2 K)) (va_Qv (fun u : GS => K u) (fun u T => HB t u T.heap) (tA t)) 0 0 (tA t) := by
  refine Met.ofW (cc := b_M_withFid) (maxL := 5) (ret := none) (by decide) rfl ?_
  intro p e s m args below meth c s₁ B hml hv
  obtain ⟨rfl, hB, hK, hwp⟩ := hv
  have hts := atoms_spec (ws := Cond.code y_M_withFid b_M_withFid 5 (Option.none : Option Jvm.ClassFile.FieldType) :: GW) B.pre
  have X : kX p s m _ meth c b_M_withFid 5 "TreeServerModel" t := ⟨B.exec, B.bytes, hml, findClass_of_methodNamed B.named, fun w h => hts w (List.mem_cons_of_mem _ h), B.notSynchronized, hK⟩
  have hZ : kZ t false s G s.heap [] := ⟨hB, va_S.rf, fun _ => ⟨rfl, rfl⟩⟩
  rw [lg_entry_eq]
  have hl := lv_entry ([.ref a0, .int p1, .int p2]) (n := 5) (by simp [lg_sl, rf_cat, cat_i, cat_l, cat_r])
  exact k_M_withFid X B.returns _ _ _ hwp s.heap [] _ hl hZ
abbrev b_M_handle : ByteArray := prog_13_method_43_code
def y_M_handle : MethodName := ⟨"TreeServerModel", "handle", "(I)V"⟩
theorem d_M_handle_0 : decode b_M_handle 0 = .ok (.aload_n 0, 1) := by decide +kernel
theorem d_M_handle_1 : decode b_M_handle 1 = .ok (.getfield 70, 3) := by decide +kernel
theorem d_M_handle_4 : decode b_M_handle 4 = .ok (.iconst 4, 1) := by decide +kernel
theorem d_M_handle_5 : decode b_M_handle 5 = .ok (.iaload, 1) := by decide +kernel
theorem d_M_handle_6 : decode b_M_handle 6 = .ok (.istore_n 2, 1) := by decide +kernel
theorem d_M_handle_7 : decode b_M_handle 7 = .ok (.iload_n 2, 1) := by decide +kernel
theorem d_M_handle_8 : decode b_M_handle 8 = .ok (.invokestatic 212, 3) := by decide +kernel
theorem d_M_handle_11 : decode b_M_handle 11 = .ok (.ifCond .ne 13, 3) := by decide +kernel
theorem d_M_handle_14 : decode b_M_handle 14 = .ok (.aload_n 0, 1) := by decide +kernel
theorem d_M_handle_15 : decode b_M_handle 15 = .ok (.ldc2_w 215, 3) := by decide +kernel
theorem d_M_handle_18 : decode b_M_handle 18 = .ok (.putfield 193, 3) := by decide +kernel
theorem d_M_handle_21 : decode b_M_handle 21 = .ok (.goto 102, 3) := by decide +kernel
theorem d_M_handle_24 : decode b_M_handle 24 = .ok (.aload_n 0, 1) := by decide +kernel
theorem d_M_handle_25 : decode b_M_handle 25 = .ok (.iload_n 2, 1) := by decide +kernel
theorem d_M_handle_26 : decode b_M_handle 26 = .ok (.invokevirtual 217, 3) := by decide +kernel
theorem d_M_handle_29 : decode b_M_handle 29 = .ok (.ifCond .ne 13, 3) := by decide +kernel
theorem d_M_handle_32 : decode b_M_handle 32 = .ok (.aload_n 0, 1) := by decide +kernel
theorem d_M_handle_33 : decode b_M_handle 33 = .ok (.ldc2_w 220, 3) := by decide +kernel
theorem d_M_handle_36 : decode b_M_handle 36 = .ok (.putfield 193, 3) := by decide +kernel
theorem d_M_handle_39 : decode b_M_handle 39 = .ok (.goto 84, 3) := by decide +kernel
theorem d_M_handle_42 : decode b_M_handle 42 = .ok (.iload_n 2, 1) := by decide +kernel
theorem d_M_handle_43 : decode b_M_handle 43 = .ok (.bipush 100, 2) := by decide +kernel
theorem d_M_handle_45 : decode b_M_handle 45 = .ok (.if_icmp .eq 22, 3) := by decide +kernel
theorem d_M_handle_48 : decode b_M_handle 48 = .ok (.aload_n 0, 1) := by decide +kernel
theorem d_M_handle_49 : decode b_M_handle 49 = .ok (.getfield 38, 3) := by decide +kernel
theorem d_M_handle_52 : decode b_M_handle 52 = .ok (.iload_n 1, 1) := by decide +kernel
theorem d_M_handle_53 : decode b_M_handle 53 = .ok (.baload, 1) := by decide +kernel
theorem d_M_handle_54 : decode b_M_handle 54 = .ok (.ifCond .ne 13, 3) := by decide +kernel
theorem d_M_handle_57 : decode b_M_handle 57 = .ok (.aload_n 0, 1) := by decide +kernel
theorem d_M_handle_58 : decode b_M_handle 58 = .ok (.ldc2_w 222, 3) := by decide +kernel
theorem d_M_handle_61 : decode b_M_handle 61 = .ok (.putfield 193, 3) := by decide +kernel
theorem d_M_handle_64 : decode b_M_handle 64 = .ok (.goto 59, 3) := by decide +kernel
theorem d_M_handle_67 : decode b_M_handle 67 = .ok (.iload_n 2, 1) := by decide +kernel
theorem d_M_handle_68 : decode b_M_handle 68 = .ok (.bipush 100, 2) := by decide +kernel
theorem d_M_handle_70 : decode b_M_handle 70 = .ok (.if_icmp .ne 11, 3) := by decide +kernel
theorem d_M_handle_73 : decode b_M_handle 73 = .ok (.aload_n 0, 1) := by decide +kernel
theorem d_M_handle_74 : decode b_M_handle 74 = .ok (.iload_n 1, 1) := by decide +kernel
theorem d_M_handle_75 : decode b_M_handle 75 = .ok (.invokevirtual 224, 3) := by decide +kernel
theorem d_M_handle_78 : decode b_M_handle 78 = .ok (.goto 45, 3) := by decide +kernel
theorem d_M_handle_81 : decode b_M_handle 81 = .ok (.iload_n 2, 1) := by decide +kernel
theorem d_M_handle_82 : decode b_M_handle 82 = .ok (.bipush 102, 2) := by decide +kernel
theorem d_M_handle_84 : decode b_M_handle 84 = .ok (.if_icmp .ne 13, 3) := by decide +kernel
theorem d_M_handle_87 : decode b_M_handle 87 = .ok (.aload_n 0, 1) := by decide +kernel
theorem d_M_handle_88 : decode b_M_handle 88 = .ok (.ldc2_w 227, 3) := by decide +kernel
theorem d_M_handle_91 : decode b_M_handle 91 = .ok (.putfield 193, 3) := by decide +kernel
theorem d_M_handle_94 : decode b_M_handle 94 = .ok (.goto 29, 3) := by decide +kernel
theorem d_M_handle_97 : decode b_M_handle 97 = .ok (.iload_n 2, 1) := by decide +kernel
theorem d_M_handle_98 : decode b_M_handle 98 = .ok (.bipush 104, 2) := by decide +kernel
theorem d_M_handle_100 : decode b_M_handle 100 = .ok (.if_icmp .ne 11, 3) := by decide +kernel
theorem d_M_handle_103 : decode b_M_handle 103 = .ok (.aload_n 0, 1) := by decide +kernel
theorem d_M_handle_104 : decode b_M_handle 104 = .ok (.iload_n 1, 1) := by decide +kernel
theorem d_M_handle_105 : decode b_M_handle 105 = .ok (.invokevirtual 229, 3) := by decide +kernel
theorem d_M_handle_108 : decode b_M_handle 108 = .ok (.goto 15, 3) := by decide +kernel
theorem d_M_handle_111 : decode b_M_handle 111 = .ok (.iload_n 2, 1) := by decide +kernel
theorem d_M_handle_112 : decode b_M_handle 112 = .ok (.bipush 108, 2) := by decide +kernel
theorem d_M_handle_114 : decode b_M_handle 114 = .ok (.if_icmp .eq 9, 3) := by decide +kernel
theorem d_M_handle_117 : decode b_M_handle 117 = .ok (.aload_n 0, 1) := by decide +kernel
theorem d_M_handle_118 : decode b_M_handle 118 = .ok (.iload_n 1, 1) := by decide +kernel
theorem d_M_handle_119 : decode b_M_handle 119 = .ok (.iload_n 2, 1) := by decide +kernel
theorem d_M_handle_120 : decode b_M_handle 120 = .ok (.invokevirtual 232, 3) := by decide +kernel
theorem d_M_handle_123 : decode b_M_handle 123 = .ok (.return_, 1) := by decide +kernel
abbrev rm_M_handle : Room := { frames := 6, cells := 0, slots := 0, locals := 148 }
set_option maxRecDepth 100000 in
set_option maxHeartbeats 4000000 in
theorem k_M_handle_67 {p : Program} {l : Launch} {e : Env} {s : State} {m : MethodId} {args : Array Value} {below : List Frame} {meth : Method} {c : Code} {t : TY} {a0 : Nat} {K : GS → Prop} (X : kX p s m args meth c b_M_handle 3 "TreeServerModel" t) (hret : meth.sig.returnType = none) (l1 : Int32) (l2 : Int32) (G : GS) (hwp : w_M_handle_67 t a0 K l1 l2 G) : kW p l e rm_M_handle s m args below meth c (MQ below (va_Qv (fun u : GS => K u) (fun u T => HB t u T.heap) (tA t)) args s 0 0 (tA t)) 3 t false 67 [(0, va_rf (some a0)), (1, .int l1), (2, .int l2)] [] G := by
  unfold w_M_handle_67 at hwp
  refine kw_iload_n (pc := 67) X d_M_handle_67 rfl 2 rfl ?_
  refine kw_bipush (v := 100) (pc := 68) X d_M_handle_68 (by decide) ?_
  refine kw_icmp_ne (tgt := 81) (pc := 70) X d_M_handle_70 (by decide) (fun h => ?_) (fun h => ?_)
  · have hwp := ite_t h hwp
    refine kw_iload_n (pc := 81) X d_M_handle_81 rfl 2 rfl ?_
    refine kw_bipush (v := 102) (pc := 82) X d_M_handle_82 (by decide) ?_
    refine kw_icmp_ne (tgt := 97) (pc := 84) X d_M_handle_84 (by decide) (fun h => ?_) (fun h => ?_)
    · have hwp := ite_t h hwp
      refine kw_iload_n (pc := 97) X d_M_handle_97 rfl 2 rfl ?_
      refine kw_bipush (v := 104) (pc := 98) X d_M_handle_98 (by decide) ?_
      refine kw_icmp_ne (tgt := 111) (pc := 100) X d_M_handle_100 (by decide) (fun h => ?_) (fun h => ?_)
      · have hwp := ite_t h hwp
        refine kw_iload_n (pc := 111) X d_M_handle_111 rfl 2 rfl ?_
        refine kw_bipush (v := 108) (pc := 112) X d_M_handle_112 (by decide) ?_
        refine kw_icmp_eq (tgt := 123) (pc := 114) X d_M_handle_114 (by decide) (fun h => ?_) (fun h => ?_)
        · have hwp := ite_t h hwp
          exact kr_v (pc := 123) X hret d_M_handle_123 hwp
        · have hwp := ite_f h hwp
          refine kw_aload_n (pc := 117) X d_M_handle_117 rfl 0 rfl ?_
          refine kw_iload_n (pc := 118) X d_M_handle_118 rfl 1 rfl ?_
          refine kw_iload_n (pc := 119) X d_M_handle_119 rfl 2 rfl ?_
          obtain ⟨f1, hwp⟩ := hwp
          refine kcV_v (n := 2) (As := [.int l1, .int l2]) (rest := []) (pc := 120) X rfl (c_M_withFid l t G a0 l1 l2 _) (cwV_of (C := "TreeServerModel") X x_1247 x_1244 x_1246 xp_69 x_13 (by decide +kernel) ⟨rfl, rfl⟩ (by decide)) (rv_10 X f1) rfl rfl (by decide) d_M_handle_120 hwp (fun G2 hwp => ?_)
          exact kr_v (pc := 123) X hret d_M_handle_123 hwp
      · have hwp := ite_f (not_not_intro h) hwp
        refine kw_aload_n (pc := 103) X d_M_handle_103 rfl 0 rfl ?_
        refine kw_iload_n (pc := 104) X d_M_handle_104 rfl 1 rfl ?_
        obtain ⟨f3, hwp⟩ := hwp
        refine kcV_v (n := 1) (As := [.int l1]) (rest := []) (pc := 105) X rfl (c_M_attach l t G a0 l1 _) (cwV_of (C := "TreeServerModel") X x_1212 x_1209 x_1211 xp_62 x_13 (by decide +kernel) ⟨rfl, rfl⟩ (by decide)) (rv_10 X f3) rfl rfl (by decide) d_M_handle_105 hwp (fun G4 hwp => ?_)
        refine kw_goto (tgt := 123) (pc := 108) X d_M_handle_108 (by decide) ?_
        exact kr_v (pc := 123) X hret d_M_handle_123 hwp
    · have hwp := ite_f (not_not_intro h) hwp
      refine kw_aload_n (pc := 87) X d_M_handle_87 rfl 0 rfl ?_
      refine kw_ldc2 (v := 1752462689) (pc := 88) X d_M_handle_88 x_1208 ?_
      obtain ⟨f5, hwp⟩ := hwp
      refine kp_98 (a := a0) (x := (1752462689 : Int64)) (pc := 91) X rfl d_M_handle_91 x_1018 rfl f5 ?_
      obtain ⟨G6, e_G6⟩ : ∃ g, g = sl G 98 a0 (1752462689 : Int64) := ⟨_, rfl⟩
      have hwp := hwp G6 e_G6
      refine kW.g e_G6.symm ?_
      refine kw_goto (tgt := 123) (pc := 94) X d_M_handle_94 (by decide) ?_
      exact kr_v (pc := 123) X hret d_M_handle_123 hwp
  · have hwp := ite_f (not_not_intro h) hwp
    refine kw_aload_n (pc := 73) X d_M_handle_73 rfl 0 rfl ?_
    refine kw_iload_n (pc := 74) X d_M_handle_74 rfl 1 rfl ?_
    obtain ⟨f7, hwp⟩ := hwp
    refine kcV_v (n := 1) (As := [.int l1]) (rest := []) (pc := 75) X rfl (c_M_version l t G a0 l1 _) (cwV_of (C := "TreeServerModel") X x_1190 x_1187 x_1189 xp_59 x_13 (by decide +kernel) ⟨rfl, rfl⟩ (by decide)) (rv_10 X f7) rfl rfl (by decide) d_M_handle_75 hwp (fun G8 hwp => ?_)
    refine kw_goto (tgt := 123) (pc := 78) X d_M_handle_78 (by decide) ?_
    exact kr_v (pc := 123) X hret d_M_handle_123 hwp
set_option maxRecDepth 100000 in
set_option maxHeartbeats 4000000 in
theorem k_M_handle {p : Program} {l : Launch} {e : Env} {s : State} {m : MethodId} {args : Array Value} {below : List Frame} {meth : Method} {c : Code} {t : TY} {a0 : Nat} {K : GS → Prop} (X : kX p s m args meth c b_M_handle 3 "TreeServerModel" t) (hret : meth.sig.returnType = none) (G : GS) (p1 : Int32) (hwp : w_M_handle t G a0 p1 K) : kW p l e rm_M_handle s m args below meth c (MQ below (va_Qv (fun u : GS => K u) (fun u T => HB t u T.heap) (tA t)) args s 0 0 (tA t)) 3 t false 0 [(0, va_rf (some a0)), (1, .int p1)] [] G := by
  unfold w_M_handle at hwp
  refine kw_aload_n (pc := 0) X d_M_handle_0 rfl 0 rfl ?_
  obtain ⟨f1, hwp⟩ := hwp
  refine kg_94 (a := a0) (pc := 1) X d_M_handle_1 x_1014 rfl f1 ?_
  refine kw_iconst (v := 4) (pc := 4) X d_M_handle_4 (by decide) ?_
  obtain ⟨a2, h_a2, hwp⟩ := hwp
  obtain ⟨f3, hwp⟩ := hwp
  obtain ⟨f4, hwp⟩ := hwp
  refine ka_iald (a := a2) (pc := 5) X d_M_handle_5 h_a2 f3 f4 ?_
  obtain ⟨v5, e_v5⟩ : ∃ z, z = (ai G a2 (4 : Int32).toNatClampNeg) := ⟨_, rfl⟩
  have hwp := hwp v5 e_v5
  refine kW.st (st' := .int v5 :: _) (by rw [e_v5]) ?_
  refine kw_istore_n (i := 2) (lv' := [(2, .int v5), (0, va_rf (some a0)), (1, .int p1)]) (pc := 6) X d_M_handle_6 rfl (by decide) rfl ?_
  refine kw_iload_n (pc := 7) X d_M_handle_7 rfl 0 rfl ?_
  refine kcSp_i (n := 1) (As := [.int v5]) (rest := []) (pc := 8) X (c_M_isType l t G v5 _) (cwS_of X x_1162 x_1160 x_1161 x_13 (by decide +kernel) ⟨rfl, rfl⟩ (by decide)) rfl rfl (by decide) d_M_handle_8 hwp (fun v6 hwp => ?_)
  obtain ⟨b_v6, hwp⟩ := hwp
  refine kw_if_ne (tgt := 24) (pc := 11) X d_M_handle_11 (by decide) (fun h => ?_) (fun h => ?_)
  · have hwp := ite_t h hwp
    refine kw_aload_n (pc := 24) X d_M_handle_24 rfl 1 rfl ?_
    refine kw_iload_n (pc := 25) X d_M_handle_25 rfl 0 rfl ?_
    refine kcVp_i (n := 1) (As := [.int v5]) (rest := []) (pc := 26) X (c_M_formed l t G a0 v5 _) (cwV_of (C := "TreeServerModel") X x_1167 x_1164 x_1166 xp_54 x_13 (by decide +kernel) ⟨rfl, rfl⟩ (by decide)) (rv_10 X f1) rfl rfl (by decide) d_M_handle_26 hwp (fun v7 hwp => ?_)
    obtain ⟨b_v7, hwp⟩ := hwp
    refine kw_if_ne (tgt := 42) (pc := 29) X d_M_handle_29 (by decide) (fun h => ?_) (fun h => ?_)
    · have hwp := ite_t h hwp
      refine kw_iload_n (pc := 42) X d_M_handle_42 rfl 0 rfl ?_
      refine kw_bipush (v := 100) (pc := 43) X d_M_handle_43 (by decide) ?_
      refine kw_icmp_eq (tgt := 67) (pc := 45) X d_M_handle_45 (by decide) (fun h => ?_) (fun h => ?_)
      · have hwp := ite_t h hwp
        exact kW.sub [1, 2, 0] rfl (k_M_handle_67 X hret  _ _ _ hwp)
      · have hwp := ite_f h hwp
        refine kw_aload_n (pc := 48) X d_M_handle_48 rfl 1 rfl ?_
        refine kg_84 (a := a0) (pc := 49) X d_M_handle_49 x_1004 rfl f1 ?_
        refine kw_iload_n (pc := 52) X d_M_handle_52 rfl 2 rfl ?_
        obtain ⟨a8, h_a8, hwp⟩ := hwp
        obtain ⟨f9, hwp⟩ := hwp
        obtain ⟨f10, hwp⟩ := hwp
        refine ka_zald (a := a8) (pc := 53) X d_M_handle_53 h_a8 f9 f10 ?_
        refine kw_if_ne (tgt := 67) (pc := 54) X d_M_handle_54 (by decide) (fun h => ?_) (fun h => ?_)
        · have hwp := ite_t h hwp
          exact kW.sub [1, 2, 0] rfl (k_M_handle_67 X hret  _ _ _ hwp)
        · have hwp := ite_f (not_not_intro h) hwp
          refine kw_aload_n (pc := 57) X d_M_handle_57 rfl 1 rfl ?_
          refine kw_ldc2 (v := 31084746137298294) (pc := 58) X d_M_handle_58 x_1186 ?_
          refine kp_98 (a := a0) (x := (31084746137298294 : Int64)) (pc := 61) X rfl d_M_handle_61 x_1018 rfl f1 ?_
          obtain ⟨G11, e_G11⟩ : ∃ g, g = sl G 98 a0 (31084746137298294 : Int64) := ⟨_, rfl⟩
          have hwp := hwp G11 e_G11
          refine kW.g e_G11.symm ?_
          refine kw_goto (tgt := 123) (pc := 64) X d_M_handle_64 (by decide) ?_
          exact kr_v (pc := 123) X hret d_M_handle_123 hwp
    · have hwp := ite_f (not_not_intro h) hwp
      refine kw_aload_n (pc := 32) X d_M_handle_32 rfl 1 rfl ?_
      refine kw_ldc2 (v := 1836216166) (pc := 33) X d_M_handle_33 x_1185 ?_
      refine kp_98 (a := a0) (x := (1836216166 : Int64)) (pc := 36) X rfl d_M_handle_36 x_1018 rfl f1 ?_
      obtain ⟨G12, e_G12⟩ : ∃ g, g = sl G 98 a0 (1836216166 : Int64) := ⟨_, rfl⟩
      have hwp := hwp G12 e_G12
      refine kW.g e_G12.symm ?_
      refine kw_goto (tgt := 123) (pc := 39) X d_M_handle_39 (by decide) ?_
      exact kr_v (pc := 123) X hret d_M_handle_123 hwp
  · have hwp := ite_f (not_not_intro h) hwp
    refine kw_aload_n (pc := 14) X d_M_handle_14 rfl 1 rfl ?_
    refine kw_ldc2 (v := 1701869940) (pc := 15) X d_M_handle_15 x_1163 ?_
    refine kp_98 (a := a0) (x := (1701869940 : Int64)) (pc := 18) X rfl d_M_handle_18 x_1018 rfl f1 ?_
    obtain ⟨G13, e_G13⟩ : ∃ g, g = sl G 98 a0 (1701869940 : Int64) := ⟨_, rfl⟩
    have hwp := hwp G13 e_G13
    refine kW.g e_G13.symm ?_
    refine kw_goto (tgt := 123) (pc := 21) X d_M_handle_21 (by decide) ?_
    exact kr_v (pc := 123) X hret d_M_handle_123 hwp
set_option maxRecDepth 100000 in
set_option maxHeartbeats 4000000 in
theorem c_M_handle (l : Launch) (t : TY) (G : GS) (a0 : Nat) (p1 : Int32) (K : GS → Prop) : Met l y_M_handle (Cond.code y_M_handle b_M_handle 3 (Option.none : Option Jvm.ClassFile.FieldType) :: GW) rm_M_handle (va_Pc [.ref a0, .int p1] (fun U => HB t G U.heap ∧ HK t U ∧ w_M_handle t G a0 p1 K)) (va_Qv (fun u : GS => K u) (fun u T => HB t u T.heap) (tA t)) 0 0 (tA t) := by
  refine Met.ofW (cc := b_M_handle) (maxL := 3) (ret := none) (by decide) rfl ?_
  intro p e s m args below meth c s₁ B hml hv
  obtain ⟨rfl, hB, hK, hwp⟩ := hv
  have hts := atoms_spec (ws := Cond.code y_M_handle b_M_handle 3 (Option.none : Option Jvm.ClassFile.FieldType) :: GW) B.pre
  have X : kX p s m _ meth c b_M_handle 3 "TreeServerModel" t := ⟨B.exec, B.bytes, hml, findClass_of_methodNamed B.named, fun w h => hts w (List.mem_cons_of_mem _ h), B.notSynchronized, hK⟩
  have hZ : kZ t false s G s.heap [] := ⟨hB, va_S.rf, fun _ => ⟨rfl, rfl⟩⟩
  rw [lg_entry_eq]
  have hl := lv_entry ([.ref a0, .int p1]) (n := 3) (by simp [lg_sl, rf_cat, cat_i, cat_l, cat_r])
  exact k_M_handle X B.returns _ _ hwp s.heap [] _ hl hZ
abbrev b_M_reply : ByteArray := prog_13_method_38_code
def y_M_reply : MethodName := ⟨"TreeServerModel", "reply", "(I)V"⟩
theorem d_M_reply_0 : decode b_M_reply 0 = .ok (.aload_n 0, 1) := by decide +kernel
theorem d_M_reply_1 : decode b_M_reply 1 = .ok (.bipush 7, 2) := by decide +kernel
theorem d_M_reply_3 : decode b_M_reply 3 = .ok (.putfield 128, 3) := by decide +kernel
theorem d_M_reply_6 : decode b_M_reply 6 = .ok (.aload_n 0, 1) := by decide +kernel
theorem d_M_reply_7 : decode b_M_reply 7 = .ok (.lconst 0, 1) := by decide +kernel
theorem d_M_reply_8 : decode b_M_reply 8 = .ok (.putfield 193, 3) := by decide +kernel
theorem d_M_reply_11 : decode b_M_reply 11 = .ok (.aload_n 0, 1) := by decide +kernel
theorem d_M_reply_12 : decode b_M_reply 12 = .ok (.iload_n 1, 1) := by decide +kernel
theorem d_M_reply_13 : decode b_M_reply 13 = .ok (.invokevirtual 197, 3) := by decide +kernel
theorem d_M_reply_16 : decode b_M_reply 16 = .ok (.aload_n 0, 1) := by decide +kernel
theorem d_M_reply_17 : decode b_M_reply 17 = .ok (.getfield 125, 3) := by decide +kernel
theorem d_M_reply_20 : decode b_M_reply 20 = .ok (.ifCond .eq 4, 3) := by decide +kernel
theorem d_M_reply_23 : decode b_M_reply 23 = .ok (.return_, 1) := by decide +kernel
theorem d_M_reply_24 : decode b_M_reply 24 = .ok (.aload_n 0, 1) := by decide +kernel
theorem d_M_reply_25 : decode b_M_reply 25 = .ok (.getfield 70, 3) := by decide +kernel
theorem d_M_reply_28 : decode b_M_reply 28 = .ok (.iconst 4, 1) := by decide +kernel
theorem d_M_reply_29 : decode b_M_reply 29 = .ok (.iaload, 1) := by decide +kernel
theorem d_M_reply_30 : decode b_M_reply 30 = .ok (.iconst 1, 1) := by decide +kernel
theorem d_M_reply_31 : decode b_M_reply 31 = .ok (.iadd, 1) := by decide +kernel
theorem d_M_reply_32 : decode b_M_reply 32 = .ok (.istore_n 2, 1) := by decide +kernel
theorem d_M_reply_33 : decode b_M_reply 33 = .ok (.aload_n 0, 1) := by decide +kernel
theorem d_M_reply_34 : decode b_M_reply 34 = .ok (.getfield 193, 3) := by decide +kernel
theorem d_M_reply_37 : decode b_M_reply 37 = .ok (.lconst 0, 1) := by decide +kernel
theorem d_M_reply_38 : decode b_M_reply 38 = .ok (.lcmp, 1) := by decide +kernel
theorem d_M_reply_39 : decode b_M_reply 39 = .ok (.ifCond .eq 20, 3) := by decide +kernel
theorem d_M_reply_42 : decode b_M_reply 42 = .ok (.aload_n 0, 1) := by decide +kernel
theorem d_M_reply_43 : decode b_M_reply 43 = .ok (.bipush 7, 2) := by decide +kernel
theorem d_M_reply_45 : decode b_M_reply 45 = .ok (.putfield 128, 3) := by decide +kernel
theorem d_M_reply_48 : decode b_M_reply 48 = .ok (.bipush 107, 2) := by decide +kernel
theorem d_M_reply_50 : decode b_M_reply 50 = .ok (.istore_n 2, 1) := by decide +kernel
theorem d_M_reply_51 : decode b_M_reply 51 = .ok (.aload_n 0, 1) := by decide +kernel
theorem d_M_reply_52 : decode b_M_reply 52 = .ok (.aload_n 0, 1) := by decide +kernel
theorem d_M_reply_53 : decode b_M_reply 53 = .ok (.getfield 193, 3) := by decide +kernel
theorem d_M_reply_56 : decode b_M_reply 56 = .ok (.invokevirtual 159, 3) := by decide +kernel
theorem d_M_reply_59 : decode b_M_reply 59 = .ok (.aload_n 0, 1) := by decide +kernel
theorem d_M_reply_60 : decode b_M_reply 60 = .ok (.getfield 128, 3) := by decide +kernel
theorem d_M_reply_63 : decode b_M_reply 63 = .ok (.istore_n 3, 1) := by decide +kernel
theorem d_M_reply_64 : decode b_M_reply 64 = .ok (.aload_n 0, 1) := by decide +kernel
theorem d_M_reply_65 : decode b_M_reply 65 = .ok (.iconst 0, 1) := by decide +kernel
theorem d_M_reply_66 : decode b_M_reply 66 = .ok (.putfield 128, 3) := by decide +kernel
theorem d_M_reply_69 : decode b_M_reply 69 = .ok (.aload_n 0, 1) := by decide +kernel
theorem d_M_reply_70 : decode b_M_reply 70 = .ok (.iload_n 3, 1) := by decide +kernel
theorem d_M_reply_71 : decode b_M_reply 71 = .ok (.i2l, 1) := by decide +kernel
theorem d_M_reply_72 : decode b_M_reply 72 = .ok (.iconst 4, 1) := by decide +kernel
theorem d_M_reply_73 : decode b_M_reply 73 = .ok (.invokevirtual 137, 3) := by decide +kernel
theorem d_M_reply_76 : decode b_M_reply 76 = .ok (.aload_n 0, 1) := by decide +kernel
theorem d_M_reply_77 : decode b_M_reply 77 = .ok (.iload_n 2, 1) := by decide +kernel
theorem d_M_reply_78 : decode b_M_reply 78 = .ok (.i2l, 1) := by decide +kernel
theorem d_M_reply_79 : decode b_M_reply 79 = .ok (.iconst 1, 1) := by decide +kernel
theorem d_M_reply_80 : decode b_M_reply 80 = .ok (.invokevirtual 137, 3) := by decide +kernel
theorem d_M_reply_83 : decode b_M_reply 83 = .ok (.aload_n 0, 1) := by decide +kernel
theorem d_M_reply_84 : decode b_M_reply 84 = .ok (.aload_n 0, 1) := by decide +kernel
theorem d_M_reply_85 : decode b_M_reply 85 = .ok (.iconst 5, 1) := by decide +kernel
theorem d_M_reply_86 : decode b_M_reply 86 = .ok (.iconst 2, 1) := by decide +kernel
theorem d_M_reply_87 : decode b_M_reply 87 = .ok (.invokevirtual 85, 3) := by decide +kernel
theorem d_M_reply_90 : decode b_M_reply 90 = .ok (.iconst 2, 1) := by decide +kernel
theorem d_M_reply_91 : decode b_M_reply 91 = .ok (.invokevirtual 137, 3) := by decide +kernel
theorem d_M_reply_94 : decode b_M_reply 94 = .ok (.iconst 0, 1) := by decide +kernel
theorem d_M_reply_95 : decode b_M_reply 95 = .ok (.istore 4, 2) := by decide +kernel
theorem d_M_reply_97 : decode b_M_reply 97 = .ok (.iload 4, 2) := by decide +kernel
theorem d_M_reply_99 : decode b_M_reply 99 = .ok (.iload_n 3, 1) := by decide +kernel
theorem d_M_reply_100 : decode b_M_reply 100 = .ok (.if_icmp .ge 36, 3) := by decide +kernel
theorem d_M_reply_103 : decode b_M_reply 103 = .ok (.aload_n 0, 1) := by decide +kernel
theorem d_M_reply_104 : decode b_M_reply 104 = .ok (.getfield 29, 3) := by decide +kernel
theorem d_M_reply_107 : decode b_M_reply 107 = .ok (.sipush 256, 3) := by decide +kernel
theorem d_M_reply_110 : decode b_M_reply 110 = .ok (.iload_n 1, 1) := by decide +kernel
theorem d_M_reply_111 : decode b_M_reply 111 = .ok (.imul, 1) := by decide +kernel
theorem d_M_reply_112 : decode b_M_reply 112 = .ok (.aload_n 0, 1) := by decide +kernel
theorem d_M_reply_113 : decode b_M_reply 113 = .ok (.getfield 32, 3) := by decide +kernel
theorem d_M_reply_116 : decode b_M_reply 116 = .ok (.iload_n 1, 1) := by decide +kernel
theorem d_M_reply_117 : decode b_M_reply 117 = .ok (.iaload, 1) := by decide +kernel
theorem d_M_reply_118 : decode b_M_reply 118 = .ok (.iadd, 1) := by decide +kernel
theorem d_M_reply_119 : decode b_M_reply 119 = .ok (.iload 4, 2) := by decide +kernel
theorem d_M_reply_121 : decode b_M_reply 121 = .ok (.iadd, 1) := by decide +kernel
theorem d_M_reply_122 : decode b_M_reply 122 = .ok (.aload_n 0, 1) := by decide +kernel
theorem d_M_reply_123 : decode b_M_reply 123 = .ok (.getfield 73, 3) := by decide +kernel
theorem d_M_reply_126 : decode b_M_reply 126 = .ok (.iload 4, 2) := by decide +kernel
theorem d_M_reply_128 : decode b_M_reply 128 = .ok (.iaload, 1) := by decide +kernel
theorem d_M_reply_129 : decode b_M_reply 129 = .ok (.iastore, 1) := by decide +kernel
theorem d_M_reply_130 : decode b_M_reply 130 = .ok (.iinc 4 1, 3) := by decide +kernel
theorem d_M_reply_133 : decode b_M_reply 133 = .ok (.goto (-36), 3) := by decide +kernel
theorem d_M_reply_136 : decode b_M_reply 136 = .ok (.aload_n 0, 1) := by decide +kernel
theorem d_M_reply_137 : decode b_M_reply 137 = .ok (.getfield 32, 3) := by decide +kernel
theorem d_M_reply_140 : decode b_M_reply 140 = .ok (.iload_n 1, 1) := by decide +kernel
theorem d_M_reply_141 : decode b_M_reply 141 = .ok (.dup2, 1) := by decide +kernel
theorem d_M_reply_142 : decode b_M_reply 142 = .ok (.iaload, 1) := by decide +kernel
theorem d_M_reply_143 : decode b_M_reply 143 = .ok (.iload_n 3, 1) := by decide +kernel
theorem d_M_reply_144 : decode b_M_reply 144 = .ok (.iadd, 1) := by decide +kernel
theorem d_M_reply_145 : decode b_M_reply 145 = .ok (.iastore, 1) := by decide +kernel
theorem d_M_reply_146 : decode b_M_reply 146 = .ok (.return_, 1) := by decide +kernel
abbrev rm_M_reply : Room := { frames := 7, cells := 0, slots := 0, locals := 170 }
set_option maxRecDepth 100000 in
set_option maxHeartbeats 4000000 in
theorem k_M_reply_97 {p : Program} {l : Launch} {e : Env} {s : State} {m : MethodId} {args : Array Value} {below : List Frame} {meth : Method} {c : Code} {t : TY} {a0 : Nat} {K : GS → Prop} (X : kX p s m args meth c b_M_reply 5 "TreeServerModel" t) (hret : meth.sig.returnType = none) : ∀ (n : Nat) (l1 : Int32) (l3 : Int32) (l4 : Int32) (G : GS), w_M_reply_97 t a0 K n l1 l3 l4 G → kW p l e rm_M_reply s m args below meth c (MQ below (va_Qv (fun u : GS => K u) (fun u T => HB t u T.heap) (tA t)) args s 0 0 (tA t)) 5 t false 97 [(0, va_rf (some a0)), (1, .int l1), (3, .int l3), (4, .int l4)] [] G := by
  intro n
  induction n with
  | zero => intro l1 l3 l4 G hwp; exact hwp.elim
  | succ n hr_97 =>
    intro l1 l3 l4 G hwp
    unfold w_M_reply_97 at hwp
    dsimp only at hwp
    refine kw_iload (pc := 97) X d_M_reply_97 3 rfl ?_
    refine kw_iload_n (pc := 99) X d_M_reply_99 rfl 2 rfl ?_
    refine kw_icmp_ge (tgt := 136) (pc := 100) X d_M_reply_100 (by decide) (fun h => ?_) (fun h => ?_)
    · have hwp := ite_t h hwp
      refine kw_aload_n (pc := 136) X d_M_reply_136 rfl 0 rfl ?_
      obtain ⟨f1, hwp⟩ := hwp
      refine kg_82 (a := a0) (pc := 137) X d_M_reply_137 x_1002 rfl f1 ?_
      refine kw_iload_n (pc := 140) X d_M_reply_140 rfl 1 rfl ?_
      refine kw_dup2 (pc := 141) X d_M_reply_141 rfl (rf_cat _) ?_
      obtain ⟨a2, h_a2, hwp⟩ := hwp
      obtain ⟨f3, hwp⟩ := hwp
      obtain ⟨f4, hwp⟩ := hwp
      refine ka_iald (a := a2) (pc := 142) X d_M_reply_142 h_a2 f3 f4 ?_
      refine kw_iload_n (pc := 143) X d_M_reply_143 rfl 2 rfl ?_
      refine kw_iadd (pc := 144) X d_M_reply_144 ?_
      refine ka_iast (a := a2) (pc := 145) X rfl d_M_reply_145 h_a2 f3 f4 ?_
      obtain ⟨G5, e_G5⟩ : ∃ g, g = ais G a2 l1.toNatClampNeg ((ai G a2 l1.toNatClampNeg) + l3) := ⟨_, rfl⟩
      have hwp := hwp G5 e_G5
      refine kW.g e_G5.symm ?_
      exact kr_v (pc := 146) X hret d_M_reply_146 hwp
    · have hwp := ite_f h hwp
      refine kw_aload_n (pc := 103) X d_M_reply_103 rfl 0 rfl ?_
      obtain ⟨f6, hwp⟩ := hwp
      refine kg_81 (a := a0) (pc := 104) X d_M_reply_104 x_1001 rfl f6 ?_
      refine kw_sipush (v := 256) (pc := 107) X d_M_reply_107 (by decide) ?_
      refine kw_iload_n (pc := 110) X d_M_reply_110 rfl 1 rfl ?_
      refine kw_imul (pc := 111) X d_M_reply_111 ?_
      refine kw_aload_n (pc := 112) X d_M_reply_112 rfl 0 rfl ?_
      refine kg_82 (a := a0) (pc := 113) X d_M_reply_113 x_1002 rfl f6 ?_
      refine kw_iload_n (pc := 116) X d_M_reply_116 rfl 1 rfl ?_
      obtain ⟨a7, h_a7, hwp⟩ := hwp
      obtain ⟨f8, hwp⟩ := hwp
      obtain ⟨f9, hwp⟩ := hwp
      refine ka_iald (a := a7) (pc := 117) X d_M_reply_117 h_a7 f8 f9 ?_
      refine kw_iadd (pc := 118) X d_M_reply_118 ?_
      refine kw_iload (pc := 119) X d_M_reply_119 3 rfl ?_
      refine kw_iadd (pc := 121) X d_M_reply_121 ?_
      refine kw_aload_n (pc := 122) X d_M_reply_122 rfl 0 rfl ?_
      refine kg_96 (a := a0) (pc := 123) X d_M_reply_123 x_1016 rfl f6 ?_
      refine kw_iload (pc := 126) X d_M_reply_126 3 rfl ?_
      obtain ⟨a10, h_a10, hwp⟩ := hwp
      obtain ⟨f11, hwp⟩ := hwp
      obtain ⟨f12, hwp⟩ := hwp
      refine ka_iald (a := a10) (pc := 128) X d_M_reply_128 h_a10 f11 f12 ?_
      obtain ⟨a13, h_a13, hwp⟩ := hwp
      obtain ⟨f14, hwp⟩ := hwp
      obtain ⟨f15, hwp⟩ := hwp
      refine ka_iast (a := a13) (pc := 129) X rfl d_M_reply_129 h_a13 f14 f15 ?_
      obtain ⟨G16, e_G16⟩ : ∃ g, g = ais G a13 ((((256 : Int32) * l1) + (ai G a7 l1.toNatClampNeg)) + l4).toNatClampNeg (ai G a10 l4.toNatClampNeg) := ⟨_, rfl⟩
      have hwp := hwp G16 e_G16
      refine kW.g e_G16.symm ?_
      obtain ⟨v17, e_v17⟩ : ∃ z, z = (l4 + (1 : Int32)) := ⟨_, rfl⟩
      have hwp := hwp v17 e_v17
      refine kw_iinc (v := v17) (lv' := [(4, .int v17), (0, va_rf (some a0)), (1, .int l1), (3, .int l3)]) (pc := 130) X d_M_reply_130 3 rfl (by rw [e_v17]; rfl) (by decide) rfl ?_
      refine kw_goto (tgt := 97) (pc := 133) X d_M_reply_133 (by decide) ?_
      exact kW.sub [1, 2, 3, 0] rfl (hr_97 _ _ _ _ hwp)
set_option maxRecDepth 100000 in
set_option maxHeartbeats 4000000 in
theorem k_M_reply_59 {p : Program} {l : Launch} {e : Env} {s : State} {m : MethodId} {args : Array Value} {below : List Frame} {meth : Method} {c : Code} {t : TY} {a0 : Nat} {K : GS → Prop} (X : kX p s m args meth c b_M_reply 5 "TreeServerModel" t) (hret : meth.sig.returnType = none) (l1 : Int32) (l2 : Int32) (G : GS) (hwp : w_M_reply_59 t a0 K l1 l2 G) : kW p l e rm_M_reply s m args below meth c (MQ below (va_Qv (fun u : GS => K u) (fun u T => HB t u T.heap) (tA t)) args s 0 0 (tA t)) 5 t false 59 [(0, va_rf (some a0)), (1, .int l1), (2, .int l2)] [] G := by
  unfold w_M_reply_59 at hwp
  refine kw_aload_n (pc := 59) X d_M_reply_59 rfl 0 rfl ?_
  obtain ⟨f1, hwp⟩ := hwp
  refine kg_97 (a := a0) (pc := 60) X d_M_reply_60 x_1017 rfl f1 ?_
  obtain ⟨v2, e_v2⟩ : ∃ z, z = (gi G 97 a0) := ⟨_, rfl⟩
  have hwp := hwp v2 e_v2
  refine kW.st (st' := .int v2 :: _) (by rw [e_v2]) ?_
  refine kw_istore_n (i := 3) (lv' := [(3, .int v2), (0, va_rf (some a0)), (1, .int l1), (2, .int l2)]) (pc := 63) X d_M_reply_63 rfl (by decide) rfl ?_
  refine kw_aload_n (pc := 64) X d_M_reply_64 rfl 1 rfl ?_
  refine kw_iconst (v := 0) (pc := 65) X d_M_reply_65 (by decide) ?_
  refine kp_97 (a := a0) (x := (0 : Int32)) (pc := 66) X rfl d_M_reply_66 x_1017 rfl f1 ?_
  obtain ⟨G3, e_G3⟩ : ∃ g, g = si G 97 a0 (0 : Int32) := ⟨_, rfl⟩
  have hwp := hwp G3 e_G3
  refine kW.g e_G3.symm ?_
  refine kw_aload_n (pc := 69) X d_M_reply_69 rfl 1 rfl ?_
  refine kw_iload_n (pc := 70) X d_M_reply_70 rfl 0 rfl ?_
  refine kw_i2l (pc := 71) X d_M_reply_71 ?_
  refine kw_iconst (v := 4) (pc := 72) X d_M_reply_72 (by decide) ?_
  refine kcV_v (n := 2) (As := [.long v2.toInt64, .int (4 : Int32)]) (rest := []) (pc := 73) X rfl (c_M_put l t G3 a0 v2.toInt64 (4 : Int32) _) (cwV_of (C := "TreeServerModel") X x_1199 x_1196 x_1198 xp_60 x_13 (by decide +kernel) ⟨rfl, rfl⟩ (by decide)) (rv_10 X f1) rfl rfl (by decide) d_M_reply_73 hwp (fun G4 hwp => ?_)
  refine kw_aload_n (pc := 76) X d_M_reply_76 rfl 1 rfl ?_
  refine kw_iload_n (pc := 77) X d_M_reply_77 rfl 3 rfl ?_
  refine kw_i2l (pc := 78) X d_M_reply_78 ?_
  refine kw_iconst (v := 1) (pc := 79) X d_M_reply_79 (by decide) ?_
  refine kcV_v (n := 2) (As := [.long l2.toInt64, .int (1 : Int32)]) (rest := []) (pc := 80) X rfl (c_M_put l t G4 a0 l2.toInt64 (1 : Int32) _) (cwV_of (C := "TreeServerModel") X x_1199 x_1196 x_1198 xp_60 x_13 (by decide +kernel) ⟨rfl, rfl⟩ (by decide)) (rv_10 X f1) rfl rfl (by decide) d_M_reply_80 hwp (fun G5 hwp => ?_)
  refine kw_aload_n (pc := 83) X d_M_reply_83 rfl 1 rfl ?_
  refine kw_aload_n (pc := 84) X d_M_reply_84 rfl 1 rfl ?_
  refine kw_iconst (v := 5) (pc := 85) X d_M_reply_85 (by decide) ?_
  refine kw_iconst (v := 2) (pc := 86) X d_M_reply_86 (by decide) ?_
  refine kcVp_l (n := 2) (As := [.int (5 : Int32), .int (2 : Int32)]) (rest := [va_rf (some a0)]) (pc := 87) X (c_M_get l t G5 a0 (5 : Int32) (2 : Int32) _) (cwV_of (C := "TreeServerModel") X x_1175 x_1172 x_1174 xp_56 x_13 (by decide +kernel) ⟨rfl, rfl⟩ (by decide)) (rv_10 X f1) rfl rfl (by simp [rf_cat, cat_i, cat_l, cat_r]) d_M_reply_87 hwp (fun v6 hwp => ?_)
  refine kw_iconst (v := 2) (pc := 90) X d_M_reply_90 (by decide) ?_
  refine kcV_v (n := 2) (As := [.long v6, .int (2 : Int32)]) (rest := []) (pc := 91) X rfl (c_M_put l t G5 a0 v6 (2 : Int32) _) (cwV_of (C := "TreeServerModel") X x_1199 x_1196 x_1198 xp_60 x_13 (by decide +kernel) ⟨rfl, rfl⟩ (by decide)) (rv_10 X f1) rfl rfl (by decide) d_M_reply_91 hwp (fun G7 hwp => ?_)
  refine kw_iconst (v := 0) (pc := 94) X d_M_reply_94 (by decide) ?_
  refine kw_istore (i := 4) (lv' := [(4, .int (0 : Int32)), (3, .int v2), (0, va_rf (some a0)), (1, .int l1), (2, .int l2)]) (pc := 95) X d_M_reply_95 (by decide) rfl ?_
  obtain ⟨n, hwp⟩ := hwp
  exact kW.sub [2, 3, 1, 0] rfl (k_M_reply_97 X hret  n _ _ _ _ hwp)
set_option maxRecDepth 100000 in
set_option maxHeartbeats 4000000 in
theorem k_M_reply {p : Program} {l : Launch} {e : Env} {s : State} {m : MethodId} {args : Array Value} {below : List Frame} {meth : Method} {c : Code} {t : TY} {a0 : Nat} {K : GS → Prop} (X : kX p s m args meth c b_M_reply 5 "TreeServerModel" t) (hret : meth.sig.returnType = none) (G : GS) (p1 : Int32) (hwp : w_M_reply t G a0 p1 K) : kW p l e rm_M_reply s m args below meth c (MQ below (va_Qv (fun u : GS => K u) (fun u T => HB t u T.heap) (tA t)) args s 0 0 (tA t)) 5 t false 0 [(0, va_rf (some a0)), (1, .int p1)] [] G := by
  unfold w_M_reply at hwp
  refine kw_aload_n (pc := 0) X d_M_reply_0 rfl 0 rfl ?_
  refine kw_bipush (v := 7) (pc := 1) X d_M_reply_1 (by decide) ?_
  obtain ⟨f1, hwp⟩ := hwp
  refine kp_97 (a := a0) (x := (7 : Int32)) (pc := 3) X rfl d_M_reply_3 x_1017 rfl f1 ?_
  obtain ⟨G2, e_G2⟩ : ∃ g, g = si G 97 a0 (7 : Int32) := ⟨_, rfl⟩
  have hwp := hwp G2 e_G2
  refine kW.g e_G2.symm ?_
  refine kw_aload_n (pc := 6) X d_M_reply_6 rfl 0 rfl ?_
  refine kw_lconst (v := 0) (pc := 7) X d_M_reply_7 (by decide) ?_
  refine kp_98 (a := a0) (x := (0 : Int64)) (pc := 8) X rfl d_M_reply_8 x_1018 rfl f1 ?_
  obtain ⟨G3, e_G3⟩ : ∃ g, g = sl G2 98 a0 (0 : Int64) := ⟨_, rfl⟩
  have hwp := hwp G3 e_G3
  refine kW.g e_G3.symm ?_
  refine kw_aload_n (pc := 11) X d_M_reply_11 rfl 0 rfl ?_
  refine kw_iload_n (pc := 12) X d_M_reply_12 rfl 1 rfl ?_
  refine kcV_v (n := 1) (As := [.int p1]) (rest := []) (pc := 13) X rfl (c_M_handle l t G3 a0 p1 _) (cwV_of (C := "TreeServerModel") X x_1159 x_1156 x_1158 xp_53 x_13 (by decide +kernel) ⟨rfl, rfl⟩ (by decide)) (rv_10 X f1) rfl rfl (by decide) d_M_reply_13 hwp (fun G4 hwp => ?_)
  refine kw_aload_n (pc := 16) X d_M_reply_16 rfl 0 rfl ?_
  refine kg_75 (a := a0) (pc := 17) X d_M_reply_17 x_995 rfl f1 ?_
  refine kw_if_eq (tgt := 24) (pc := 20) X d_M_reply_20 (by decide) (fun h => ?_) (fun h => ?_)
  · have hwp := ite_t h hwp
    refine kw_aload_n (pc := 24) X d_M_reply_24 rfl 0 rfl ?_
    refine kg_94 (a := a0) (pc := 25) X d_M_reply_25 x_1014 rfl f1 ?_
    refine kw_iconst (v := 4) (pc := 28) X d_M_reply_28 (by decide) ?_
    obtain ⟨a5, h_a5, hwp⟩ := hwp
    obtain ⟨f6, hwp⟩ := hwp
    obtain ⟨f7, hwp⟩ := hwp
    refine ka_iald (a := a5) (pc := 29) X d_M_reply_29 h_a5 f6 f7 ?_
    refine kw_iconst (v := 1) (pc := 30) X d_M_reply_30 (by decide) ?_
    refine kw_iadd (pc := 31) X d_M_reply_31 ?_
    obtain ⟨v8, e_v8⟩ : ∃ z, z = ((ai G4 a5 (4 : Int32).toNatClampNeg) + (1 : Int32)) := ⟨_, rfl⟩
    have hwp := hwp v8 e_v8
    refine kW.st (st' := .int v8 :: _) (by rw [e_v8]) ?_
    refine kw_istore_n (i := 2) (lv' := [(2, .int v8), (0, va_rf (some a0)), (1, .int p1)]) (pc := 32) X d_M_reply_32 rfl (by decide) rfl ?_
    refine kw_aload_n (pc := 33) X d_M_reply_33 rfl 1 rfl ?_
    refine kg_98 (a := a0) (pc := 34) X d_M_reply_34 x_1018 rfl f1 ?_
    refine kw_lconst (v := 0) (pc := 37) X d_M_reply_37 (by decide) ?_
    refine kw_lcmp_eq (tgt := 59) (pc := 38) X d_M_reply_38 d_M_reply_39 (by decide) (fun h => ?_) (fun h => ?_)
    · have hwp := ite_t h hwp
      exact kW.sub [1, 2, 0] rfl (k_M_reply_59 X hret  _ _ _ hwp)
    · have hwp := ite_f h hwp
      refine kw_aload_n (pc := 42) X d_M_reply_42 rfl 1 rfl ?_
      refine kw_bipush (v := 7) (pc := 43) X d_M_reply_43 (by decide) ?_
      refine kp_97 (a := a0) (x := (7 : Int32)) (pc := 45) X rfl d_M_reply_45 x_1017 rfl f1 ?_
      obtain ⟨G9, e_G9⟩ : ∃ g, g = si G4 97 a0 (7 : Int32) := ⟨_, rfl⟩
      have hwp := hwp G9 e_G9
      refine kW.g e_G9.symm ?_
      refine kw_bipush (v := 107) (pc := 48) X d_M_reply_48 (by decide) ?_
      refine kw_istore_n (i := 2) (lv' := [(2, .int (107 : Int32)), (0, va_rf (some a0)), (1, .int p1)]) (pc := 50) X d_M_reply_50 rfl (by decide) rfl ?_
      refine kw_aload_n (pc := 51) X d_M_reply_51 rfl 1 rfl ?_
      refine kw_aload_n (pc := 52) X d_M_reply_52 rfl 1 rfl ?_
      refine kg_98 (a := a0) (pc := 53) X d_M_reply_53 x_1018 rfl f1 ?_
      refine kcV_v (n := 1) (As := [.long (gl G9 98 a0)]) (rest := []) (pc := 56) X rfl (c_M_say l t G9 a0 (gl G9 98 a0) _) (cwV_of (C := "TreeServerModel") X x_1204 x_1201 x_1203 xp_61 x_13 (by decide +kernel) ⟨rfl, rfl⟩ (by decide)) (rv_10 X f1) rfl rfl (by decide) d_M_reply_56 hwp (fun G10 hwp => ?_)
      exact kW.sub [1, 2, 0] rfl (k_M_reply_59 X hret  _ _ _ hwp)
  · have hwp := ite_f h hwp
    exact kr_v (pc := 23) X hret d_M_reply_23 hwp
set_option maxRecDepth 100000 in
set_option maxHeartbeats 4000000 in
theorem c_M_reply (l : Launch) (t : TY) (G : GS) (a0 : Nat) (p1 : Int32) (K : GS → Prop) : Met l y_M_reply (Cond.code y_M_reply b_M_reply 5 (Option.none : Option Jvm.ClassFile.FieldType) :: GW) rm_M_reply (va_Pc [.ref a0, .int p1] (fun U => HB t G U.heap ∧ HK t U ∧ w_M_reply t G a0 p1 K)) (va_Qv (fun u : GS => K u) (fun u T => HB t u T.heap) (tA t)) 0 0 (tA t) := by
  refine Met.ofW (cc := b_M_reply) (maxL := 5) (ret := none) (by decide) rfl ?_
  intro p e s m args below meth c s₁ B hml hv
  obtain ⟨rfl, hB, hK, hwp⟩ := hv
  have hts := atoms_spec (ws := Cond.code y_M_reply b_M_reply 5 (Option.none : Option Jvm.ClassFile.FieldType) :: GW) B.pre
  have X : kX p s m _ meth c b_M_reply 5 "TreeServerModel" t := ⟨B.exec, B.bytes, hml, findClass_of_methodNamed B.named, fun w h => hts w (List.mem_cons_of_mem _ h), B.notSynchronized, hK⟩
  have hZ : kZ t false s G s.heap [] := ⟨hB, va_S.rf, fun _ => ⟨rfl, rfl⟩⟩
  rw [lg_entry_eq]
  have hl := lv_entry ([.ref a0, .int p1]) (n := 5) (by simp [lg_sl, rf_cat, cat_i, cat_l, cat_r])
  exact k_M_reply X B.returns _ _ hwp s.heap [] _ hl hZ
