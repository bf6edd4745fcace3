abbrev b_S_goDown : ByteArray := prog_1_method_22_code
def y_S_goDown : MethodName := ⟨"TreeServer", "goDown", "()V"⟩
theorem d_S_goDown_0 : decode b_S_goDown 0 = .ok (.iconst 0, 1) := by decide +kernel
theorem d_S_goDown_1 : decode b_S_goDown 1 = .ok (.istore_n 1, 1) := by decide +kernel
theorem d_S_goDown_2 : decode b_S_goDown 2 = .ok (.iload_n 1, 1) := by decide +kernel
theorem d_S_goDown_3 : decode b_S_goDown 3 = .ok (.iconst 2, 1) := by decide +kernel
theorem d_S_goDown_4 : decode b_S_goDown 4 = .ok (.if_icmp .ge 18, 3) := by decide +kernel
theorem d_S_goDown_7 : decode b_S_goDown 7 = .ok (.aload_n 0, 1) := by decide +kernel
theorem d_S_goDown_8 : decode b_S_goDown 8 = .ok (.getfield 46, 3) := by decide +kernel
theorem d_S_goDown_11 : decode b_S_goDown 11 = .ok (.iload_n 1, 1) := by decide +kernel
theorem d_S_goDown_12 : decode b_S_goDown 12 = .ok (.aaload, 1) := by decide +kernel
theorem d_S_goDown_13 : decode b_S_goDown 13 = .ok (.invokevirtual 82, 3) := by decide +kernel
theorem d_S_goDown_16 : decode b_S_goDown 16 = .ok (.iinc 1 1, 3) := by decide +kernel
theorem d_S_goDown_19 : decode b_S_goDown 19 = .ok (.goto (-17), 3) := by decide +kernel
theorem d_S_goDown_22 : decode b_S_goDown 22 = .ok (.return_, 1) := by decide +kernel
abbrev rm_S_goDown : Room := { frames := 1, cells := 0, slots := 0, locals := 21 }
set_option maxRecDepth 100000 in
set_option maxHeartbeats 4000000 in
theorem k_S_goDown_2 {p : Program} {l : Launch} {e : Env} {s : State} {m : MethodId} {args : Array Value} {below : List Frame} {meth : Method} {c : Code} {t : TY} {a0 : Nat} {K : GS → Prop} (X : kX p s m args meth c b_S_goDown 2 "TreeServer" t) (hret : meth.sig.returnType = none) : ∀ (n : Nat) (l1 : Int32) (G : GS), w_S_goDown_2 t a0 K n l1 G → kW p l e rm_S_goDown s m args below meth c (MQ below (va_Qv (fun u : GS => K u) (fun u T => HB t u T.heap) (tA t)) args s 0 0 (tA t)) 2 t false 2 [(0, va_rf (some a0)), (1, .int l1)] [] G := by
  intro n
  induction n with
  | zero => intro l1 G hwp; exact hwp.elim
  | succ n hr_2 =>
    intro l1 G hwp
    unfold w_S_goDown_2 at hwp
    dsimp only at hwp
    refine kw_iload_n (pc := 2) X d_S_goDown_2 rfl 1 rfl ?_
    refine kw_iconst (v := 2) (pc := 3) X d_S_goDown_3 (by decide) ?_
    refine kw_icmp_ge (tgt := 22) (pc := 4) X d_S_goDown_4 (by decide) (fun h => ?_) (fun h => ?_)
    · have hwp := ite_t h hwp
      exact kr_v (pc := 22) X hret d_S_goDown_22 hwp
    · have hwp := ite_f h hwp
      refine kw_aload_n (pc := 7) X d_S_goDown_7 rfl 0 rfl ?_
      obtain ⟨f1, hwp⟩ := hwp
      refine kg_68 (a := a0) (pc := 8) X d_S_goDown_8 x_369 rfl f1 ?_
      refine kw_iload_n (pc := 11) X d_S_goDown_11 rfl 1 rfl ?_
      obtain ⟨a2, h_a2, hwp⟩ := hwp
      obtain ⟨f3, hwp⟩ := hwp
      obtain ⟨f4, hwp⟩ := hwp
      refine ka_aald55 (a := a2) (pc := 12) X d_S_goDown_12 h_a2 f3 f4 ?_
      obtain ⟨a5, h_a5, hwp⟩ := hwp
      obtain ⟨f6, hwp⟩ := hwp
      refine kW.st (st' := [.ref a5]) (by simp only [h_a5]; rfl) ?_
      refine kcV_v (n := 0) (As := []) (rest := []) (pc := 13) X rfl (c_Link_reset l t G a5 _) (cwV_of (C := "TreeServer$Link") X x_514 x_511 x_512 x_513 x_11 (by decide +kernel) ⟨rfl, rfl⟩ (by decide)) (rv_8 X f6) rfl rfl (by decide) d_S_goDown_13 hwp (fun G7 hwp => ?_)
      obtain ⟨v8, e_v8⟩ : ∃ z, z = (l1 + (1 : Int32)) := ⟨_, rfl⟩
      have hwp := hwp v8 e_v8
      refine kw_iinc (v := v8) (lv' := [(1, .int v8), (0, va_rf (some a0))]) (pc := 16) X d_S_goDown_16 1 rfl (by rw [e_v8]; rfl) (by decide) rfl ?_
      refine kw_goto (tgt := 2) (pc := 19) X d_S_goDown_19 (by decide) ?_
      exact kW.sub [1, 0] rfl (hr_2 _ _ hwp)
set_option maxRecDepth 100000 in
set_option maxHeartbeats 4000000 in
theorem k_S_goDown {p : Program} {l : Launch} {e : Env} {s : State} {m : MethodId} {args : Array Value} {below : List Frame} {meth : Method} {c : Code} {t : TY} {a0 : Nat} {K : GS → Prop} (X : kX p s m args meth c b_S_goDown 2 "TreeServer" t) (hret : meth.sig.returnType = none) (G : GS)  (hwp : w_S_goDown t G a0 K) : kW p l e rm_S_goDown s m args below meth c (MQ below (va_Qv (fun u : GS => K u) (fun u T => HB t u T.heap) (tA t)) args s 0 0 (tA t)) 2 t false 0 [(0, va_rf (some a0))] [] G := by
  unfold w_S_goDown at hwp
  refine kw_iconst (v := 0) (pc := 0) X d_S_goDown_0 (by decide) ?_
  refine kw_istore_n (i := 1) (lv' := [(1, .int (0 : Int32)), (0, va_rf (some a0))]) (pc := 1) X d_S_goDown_1 rfl (by decide) rfl ?_
  obtain ⟨n, hwp⟩ := hwp
  exact kW.sub [1, 0] rfl (k_S_goDown_2 X hret  n _ _ hwp)
set_option maxRecDepth 100000 in
set_option maxHeartbeats 4000000 in
theorem c_S_goDown (l : Launch) (t : TY) (G : GS) (a0 : Nat) (K : GS → Prop) : Met l y_S_goDown (Cond.code y_S_goDown b_S_goDown 2 (Option.none : Option Jvm.ClassFile.FieldType) :: GW) rm_S_goDown (va_Pc [.ref a0] (fun U => HB t G U.heap ∧ HK t U ∧ w_S_goDown t G a0 K)) (va_Qv (fun u : GS => K u) (fun u T => HB t u T.heap) (tA t)) 0 0 (tA t) := by
  refine Met.ofW (cc := b_S_goDown) (maxL := 2) (ret := none) (by decide) rfl ?_
  intro p e s m args below meth c s₁ B hml hv
  obtain ⟨rfl, hB, hK, hwp⟩ := hv
  have hts := atoms_spec (ws := Cond.code y_S_goDown b_S_goDown 2 (Option.none : Option Jvm.ClassFile.FieldType) :: GW) B.pre
  have X : kX p s m _ meth c b_S_goDown 2 "TreeServer" t := ⟨B.exec, B.bytes, hml, findClass_of_methodNamed B.named, fun w h => hts w (List.mem_cons_of_mem _ h), B.notSynchronized, hK⟩
  have hZ : kZ t false s G s.heap [] := ⟨hB, va_S.rf, fun _ => ⟨rfl, rfl⟩⟩
  rw [lg_entry_eq]
  have hl := lv_entry ([.ref a0]) (n := 2) (by simp [lg_sl, rf_cat, cat_i, cat_l, cat_r])
  exact k_S_goDown X B.returns _ hwp s.heap [] _ hl hZ
abbrev b_S_carryOut : ByteArray := prog_1_method_21_code
def y_S_carryOut : MethodName := ⟨"TreeServer", "carryOut", "(I)V"⟩
theorem d_S_carryOut_0 : decode b_S_carryOut 0 = .ok (.aload_n 0, 1) := by decide +kernel
theorem d_S_carryOut_1 : decode b_S_carryOut 1 = .ok (.getfield 19, 3) := by decide +kernel
theorem d_S_carryOut_4 : decode b_S_carryOut 4 = .ok (.iload_n 1, 1) := by decide +kernel
theorem d_S_carryOut_5 : decode b_S_carryOut 5 = .ok (.invokevirtual 243, 3) := by decide +kernel
theorem d_S_carryOut_8 : decode b_S_carryOut 8 = .ok (.ifCond .eq 17, 3) := by decide +kernel
theorem d_S_carryOut_11 : decode b_S_carryOut 11 = .ok (.aload_n 0, 1) := by decide +kernel
theorem d_S_carryOut_12 : decode b_S_carryOut 12 = .ok (.getfield 26, 3) := by decide +kernel
theorem d_S_carryOut_15 : decode b_S_carryOut 15 = .ok (.aload_n 0, 1) := by decide +kernel
theorem d_S_carryOut_16 : decode b_S_carryOut 16 = .ok (.getfield 10, 3) := by decide +kernel
theorem d_S_carryOut_19 : decode b_S_carryOut 19 = .ok (.invokevirtual 104, 3) := by decide +kernel
theorem d_S_carryOut_22 : decode b_S_carryOut 22 = .ok (.goto 7, 3) := by decide +kernel
theorem d_S_carryOut_25 : decode b_S_carryOut 25 = .ok (.aload_n 0, 1) := by decide +kernel
theorem d_S_carryOut_26 : decode b_S_carryOut 26 = .ok (.invokevirtual 246, 3) := by decide +kernel
theorem d_S_carryOut_29 : decode b_S_carryOut 29 = .ok (.return_, 1) := by decide +kernel
abbrev rm_S_carryOut : Room := { frames := 3, cells := 0, slots := 0, locals := 71 }
set_option maxRecDepth 100000 in
set_option maxHeartbeats 4000000 in
theorem k_S_carryOut {p : Program} {l : Launch} {e : Env} {s : State} {m : MethodId} {args : Array Value} {below : List Frame} {meth : Method} {c : Code} {t : TY} {a0 : Nat} {K : GS → Prop} (X : kX p s m args meth c b_S_carryOut 2 "TreeServer" t) (hret : meth.sig.returnType = none) (G : GS) (p1 : Int32) (hwp : w_S_carryOut t G a0 p1 K) : kW p l e rm_S_carryOut s m args below meth c (MQ below (va_Qv (fun u : GS => K u) (fun u T => HB t u T.heap) (tA t)) args s 0 0 (tA t)) 2 t false 0 [(0, va_rf (some a0)), (1, .int p1)] [] G := by
  unfold w_S_carryOut at hwp
  refine kw_aload_n (pc := 0) X d_S_carryOut_0 rfl 0 rfl ?_
  obtain ⟨f1, hwp⟩ := hwp
  refine kg_64 (a := a0) (pc := 1) X d_S_carryOut_1 x_365 rfl f1 ?_
  refine kw_iload_n (pc := 4) X d_S_carryOut_4 rfl 1 rfl ?_
  obtain ⟨a2, h_a2, hwp⟩ := hwp
  obtain ⟨f3, hwp⟩ := hwp
  refine kW.st (st' := [.int p1, .ref a2]) (by simp only [h_a2]; rfl) ?_
  refine kcV_i (n := 1) (As := [.int p1]) (rest := []) (pc := 5) X rfl (c_Log_admits l t G a2 p1 _) (cwV_of (C := "TreeServer$Log") X x_460 x_457 x_458 x_459 x_6 (by decide +kernel) ⟨rfl, rfl⟩ (by decide)) (rv_3 X f3) rfl rfl (by decide) d_S_carryOut_5 hwp (fun v5 G4 hwp => ?_)
  obtain ⟨b_v5, hwp⟩ := hwp
  refine kw_if_eq (tgt := 25) (pc := 8) X d_S_carryOut_8 (by decide) (fun h => ?_) (fun h => ?_)
  · have hwp := ite_t h hwp
    refine kw_aload_n (pc := 25) X d_S_carryOut_25 rfl 0 rfl ?_
    refine kcV_v (n := 0) (As := []) (rest := []) (pc := 26) X rfl (c_S_goDown l t G4 a0 _) (cwV_of (C := "TreeServer") X x_510 x_507 x_509 xp_8 x_1 (by decide +kernel) ⟨rfl, rfl⟩ (by decide)) (rv_9 X f1) rfl rfl (by decide) d_S_carryOut_26 hwp (fun G6 hwp => ?_)
    exact kr_v (pc := 29) X hret d_S_carryOut_29 hwp
  · have hwp := ite_f h hwp
    refine kw_aload_n (pc := 11) X d_S_carryOut_11 rfl 0 rfl ?_
    refine kg_65 (a := a0) (pc := 12) X d_S_carryOut_12 x_366 rfl f1 ?_
    refine kw_aload_n (pc := 15) X d_S_carryOut_15 rfl 0 rfl ?_
    refine kg_63 (a := a0) (pc := 16) X d_S_carryOut_16 x_364 rfl f1 ?_
    obtain ⟨a7, h_a7, hwp⟩ := hwp
    obtain ⟨f8, hwp⟩ := hwp
    obtain ⟨a9, h_a9, hwp⟩ := hwp
    refine kW.st (st' := [.ref a9, .ref a7]) (by simp only [h_a9, h_a7]; rfl) ?_
    refine kcV_v (n := 1) (As := [.ref a9]) (rest := []) (pc := 19) X rfl (c_Change_run l t G4 a7 a9 _) (cwV_of (C := "TreeServer$Change") X x_464 x_461 x_462 x_463 x_7 (by decide +kernel) ⟨rfl, rfl⟩ (by decide)) (rv_4 X f8) rfl rfl (by decide) d_S_carryOut_19 hwp (fun G10 hwp => ?_)
    refine kw_goto (tgt := 29) (pc := 22) X d_S_carryOut_22 (by decide) ?_
    exact kr_v (pc := 29) X hret d_S_carryOut_29 hwp
set_option maxRecDepth 100000 in
set_option maxHeartbeats 4000000 in
theorem c_S_carryOut (l : Launch) (t : TY) (G : GS) (a0 : Nat) (p1 : Int32) (K : GS → Prop) : Met l y_S_carryOut (Cond.code y_S_carryOut b_S_carryOut 2 (Option.none : Option Jvm.ClassFile.FieldType) :: GW) rm_S_carryOut (va_Pc [.ref a0, .int p1] (fun U => HB t G U.heap ∧ HK t U ∧ w_S_carryOut t G a0 p1 K)) (va_Qv (fun u : GS => K u) (fun u T => HB t u T.heap) (tA t)) 0 0 (tA t) := by
  refine Met.ofW (cc := b_S_carryOut) (maxL := 2) (ret := none) (by decide) rfl ?_
  intro p e s m args below meth c s₁ B hml hv
  obtain ⟨rfl, hB, hK, hwp⟩ := hv
  have hts := atoms_spec (ws := Cond.code y_S_carryOut b_S_carryOut 2 (Option.none : Option Jvm.ClassFile.FieldType) :: GW) B.pre
  have X : kX p s m _ meth c b_S_carryOut 2 "TreeServer" t := ⟨B.exec, B.bytes, hml, findClass_of_methodNamed B.named, fun w h => hts w (List.mem_cons_of_mem _ h), B.notSynchronized, hK⟩
  have hZ : kZ t false s G s.heap [] := ⟨hB, va_S.rf, fun _ => ⟨rfl, rfl⟩⟩
  rw [lg_entry_eq]
  have hl := lv_entry ([.ref a0, .int p1]) (n := 2) (by simp [lg_sl, rf_cat, cat_i, cat_l, cat_r])
  exact k_S_carryOut X B.returns _ _ hwp s.heap [] _ hl hZ
abbrev b_S_releaseAll : ByteArray := prog_1_method_23_code
def y_S_releaseAll : MethodName := ⟨"TreeServer", "releaseAll", "(LTreeServer$Link;)V"⟩
theorem d_S_releaseAll_0 : decode b_S_releaseAll 0 = .ok (.iconst 0, 1) := by decide +kernel
theorem d_S_releaseAll_1 : decode b_S_releaseAll 1 = .ok (.istore_n 2, 1) := by decide +kernel
theorem d_S_releaseAll_2 : decode b_S_releaseAll 2 = .ok (.iload_n 2, 1) := by decide +kernel
theorem d_S_releaseAll_3 : decode b_S_releaseAll 3 = .ok (.bipush 6, 2) := by decide +kernel
theorem d_S_releaseAll_5 : decode b_S_releaseAll 5 = .ok (.if_icmp .ge 33, 3) := by decide +kernel
theorem d_S_releaseAll_8 : decode b_S_releaseAll 8 = .ok (.aload_n 1, 1) := by decide +kernel
theorem d_S_releaseAll_9 : decode b_S_releaseAll 9 = .ok (.invokevirtual 249, 3) := by decide +kernel
theorem d_S_releaseAll_12 : decode b_S_releaseAll 12 = .ok (.astore_n 3, 1) := by decide +kernel
theorem d_S_releaseAll_13 : decode b_S_releaseAll 13 = .ok (.aload_n 3, 1) := by decide +kernel
theorem d_S_releaseAll_14 : decode b_S_releaseAll 14 = .ok (.ifnonnull 4, 3) := by decide +kernel
theorem d_S_releaseAll_17 : decode b_S_releaseAll 17 = .ok (.return_, 1) := by decide +kernel
theorem d_S_releaseAll_18 : decode b_S_releaseAll 18 = .ok (.aload_n 0, 1) := by decide +kernel
theorem d_S_releaseAll_19 : decode b_S_releaseAll 19 = .ok (.aload_n 3, 1) := by decide +kernel
theorem d_S_releaseAll_20 : decode b_S_releaseAll 20 = .ok (.invokevirtual 253, 3) := by decide +kernel
theorem d_S_releaseAll_23 : decode b_S_releaseAll 23 = .ok (.ifCond .eq 9, 3) := by decide +kernel
theorem d_S_releaseAll_26 : decode b_S_releaseAll 26 = .ok (.aload_n 0, 1) := by decide +kernel
theorem d_S_releaseAll_27 : decode b_S_releaseAll 27 = .ok (.bipush 16, 2) := by decide +kernel
theorem d_S_releaseAll_29 : decode b_S_releaseAll 29 = .ok (.invokevirtual 257, 3) := by decide +kernel
theorem d_S_releaseAll_32 : decode b_S_releaseAll 32 = .ok (.iinc 2 1, 3) := by decide +kernel
theorem d_S_releaseAll_35 : decode b_S_releaseAll 35 = .ok (.goto (-33), 3) := by decide +kernel
theorem d_S_releaseAll_38 : decode b_S_releaseAll 38 = .ok (.return_, 1) := by decide +kernel
abbrev rm_S_releaseAll : Room := { frames := 4, cells := 0, slots := 0, locals := 92 }
set_option maxRecDepth 100000 in
set_option maxHeartbeats 4000000 in
theorem k_S_releaseAll_2 {p : Program} {l : Launch} {e : Env} {s : State} {m : MethodId} {args : Array Value} {below : List Frame} {meth : Method} {c : Code} {t : TY} {a0 : Nat} {K : GS → Prop} (X : kX p s m args meth c b_S_releaseAll 4 "TreeServer" t) (hret : meth.sig.returnType = none) : ∀ (n : Nat) (p1 : Nat) (l2 : Int32) (G : GS), w_S_releaseAll_2 t a0 K n p1 l2 G → kW p l e rm_S_releaseAll s m args below meth c (MQ below (va_Qv (fun u : GS => K u) (fun u T => HB t u T.heap) (tA t)) args s 0 0 (tA t)) 4 t false 2 [(0, va_rf (some a0)), (1, va_rf (some p1)), (2, .int l2)] [] G := by
  intro n
  induction n with
  | zero => intro p1 l2 G hwp; exact hwp.elim
  | succ n hr_2 =>
    intro p1 l2 G hwp
    unfold w_S_releaseAll_2 at hwp
    dsimp only at hwp
    refine kw_iload_n (pc := 2) X d_S_releaseAll_2 rfl 2 rfl ?_
    refine kw_bipush (v := 6) (pc := 3) X d_S_releaseAll_3 (by decide) ?_
    refine kw_icmp_ge (tgt := 38) (pc := 5) X d_S_releaseAll_5 (by decide) (fun h => ?_) (fun h => ?_)
    · have hwp := ite_t h hwp
      exact kr_v (pc := 38) X hret d_S_releaseAll_38 hwp
    · have hwp := ite_f h hwp
      refine kw_aload_n (pc := 8) X d_S_releaseAll_8 rfl 1 rfl ?_
      obtain ⟨f1, hwp⟩ := hwp
      refine kcVp_q (n := 0) (As := []) (rest := []) (pc := 9) X (c_Link_lowestFid l t G p1 _) (cwV_of (C := "TreeServer$Link") X x_427 x_424 x_425 x_426 x_11 (by decide +kernel) ⟨rfl, rfl⟩ (by decide)) (rv_8 X f1) rfl rfl (by decide) d_S_releaseAll_9 hwp (fun x2 hwp => ?_)
      refine kw_astore_n (i := 3) (lv' := [(3, va_rf x2), (0, va_rf (some a0)), (1, va_rf (some p1)), (2, .int l2)]) (pc := 12) X d_S_releaseAll_12 rfl (by decide) rfl ?_
      refine kw_aload_n (pc := 13) X d_S_releaseAll_13 rfl 0 rfl ?_
      refine kw_ifnonnull (tgt := 18) (pc := 14) X d_S_releaseAll_14 (by decide) (fun h => ?_) (fun h => ?_)
      · have hwp := ite_t h hwp
        refine kw_aload_n (pc := 18) X d_S_releaseAll_18 rfl 1 rfl ?_
        refine kw_aload_n (pc := 19) X d_S_releaseAll_19 rfl 0 rfl ?_
        obtain ⟨f3, hwp⟩ := hwp
        obtain ⟨a4, h_a4, hwp⟩ := hwp
        refine kW.st (st' := [.ref a4, .ref a0]) (by simp only [h_a4]; rfl) ?_
        refine kcV_i (n := 1) (As := [.ref a4]) (rest := []) (pc := 20) X rfl (c_S_stageRelease l t G a0 a4 _) (cwV_of (C := "TreeServer") X x_431 x_428 x_430 xp_4 x_1 (by decide +kernel) ⟨rfl, rfl⟩ (by decide)) (rv_9 X f3) rfl rfl (by decide) d_S_releaseAll_20 hwp (fun v6 G5 hwp => ?_)
        obtain ⟨b_v6, hwp⟩ := hwp
        refine kw_if_eq (tgt := 32) (pc := 23) X d_S_releaseAll_23 (by decide) (fun h => ?_) (fun h => ?_)
        · have hwp := ite_t h hwp
          obtain ⟨v7, e_v7⟩ : ∃ z, z = (l2 + (1 : Int32)) := ⟨_, rfl⟩
          have hwp := hwp v7 e_v7
          refine kw_iinc (v := v7) (lv' := [(2, .int v7), (3, va_rf x2), (0, va_rf (some a0)), (1, va_rf (some p1))]) (pc := 32) X d_S_releaseAll_32 3 rfl (by rw [e_v7]; rfl) (by decide) rfl ?_
          refine kw_goto (tgt := 2) (pc := 35) X d_S_releaseAll_35 (by decide) ?_
          exact kW.sub [2, 3, 0] rfl (hr_2 _ _ _ hwp)
        · have hwp := ite_f h hwp
          refine kw_aload_n (pc := 26) X d_S_releaseAll_26 rfl 1 rfl ?_
          refine kw_bipush (v := 16) (pc := 27) X d_S_releaseAll_27 (by decide) ?_
          refine kcV_v (n := 1) (As := [.int (16 : Int32)]) (rest := []) (pc := 29) X rfl (c_S_carryOut l t G5 a0 (16 : Int32) _) (cwV_of (C := "TreeServer") X x_456 x_453 x_455 xp_5 x_1 (by decide +kernel) ⟨rfl, rfl⟩ (by decide)) (rv_9 X f3) rfl rfl (by decide) d_S_releaseAll_29 hwp (fun G8 hwp => ?_)
          obtain ⟨v9, e_v9⟩ : ∃ z, z = (l2 + (1 : Int32)) := ⟨_, rfl⟩
          have hwp := hwp v9 e_v9
          refine kw_iinc (v := v9) (lv' := [(2, .int v9), (3, va_rf x2), (0, va_rf (some a0)), (1, va_rf (some p1))]) (pc := 32) X d_S_releaseAll_32 3 rfl (by rw [e_v9]; rfl) (by decide) rfl ?_
          refine kw_goto (tgt := 2) (pc := 35) X d_S_releaseAll_35 (by decide) ?_
          exact kW.sub [2, 3, 0] rfl (hr_2 _ _ _ hwp)
      · have hwp := ite_f (not_not_intro h) hwp
        exact kr_v (pc := 17) X hret d_S_releaseAll_17 hwp
set_option maxRecDepth 100000 in
set_option maxHeartbeats 4000000 in
theorem k_S_releaseAll {p : Program} {l : Launch} {e : Env} {s : State} {m : MethodId} {args : Array Value} {below : List Frame} {meth : Method} {c : Code} {t : TY} {a0 : Nat} {K : GS → Prop} (X : kX p s m args meth c b_S_releaseAll 4 "TreeServer" t) (hret : meth.sig.returnType = none) (G : GS) (p1 : Nat) (hwp : w_S_releaseAll t G a0 p1 K) : kW p l e rm_S_releaseAll s m args below meth c (MQ below (va_Qv (fun u : GS => K u) (fun u T => HB t u T.heap) (tA t)) args s 0 0 (tA t)) 4 t false 0 [(0, va_rf (some a0)), (1, va_rf (some p1))] [] G := by
  unfold w_S_releaseAll at hwp
  refine kw_iconst (v := 0) (pc := 0) X d_S_releaseAll_0 (by decide) ?_
  refine kw_istore_n (i := 2) (lv' := [(2, .int (0 : Int32)), (0, va_rf (some a0)), (1, va_rf (some p1))]) (pc := 1) X d_S_releaseAll_1 rfl (by decide) rfl ?_
  obtain ⟨n, hwp⟩ := hwp
  exact kW.sub [1, 2, 0] rfl (k_S_releaseAll_2 X hret  n _ _ _ hwp)
set_option maxRecDepth 100000 in
set_option maxHeartbeats 4000000 in
theorem c_S_releaseAll (l : Launch) (t : TY) (G : GS) (a0 : Nat) (p1 : Nat) (K : GS → Prop) : Met l y_S_releaseAll (Cond.code y_S_releaseAll b_S_releaseAll 4 (Option.none : Option Jvm.ClassFile.FieldType) :: GW) rm_S_releaseAll (va_Pc [.ref a0, .ref p1] (fun U => HB t G U.heap ∧ HK t U ∧ w_S_releaseAll t G a0 p1 K)) (va_Qv (fun u : GS => K u) (fun u T => HB t u T.heap) (tA t)) 0 0 (tA t) := by
  refine Met.ofW (cc := b_S_releaseAll) (maxL := 4) (ret := none) (by decide) rfl ?_
  intro p e s m args below meth c s₁ B hml hv
  obtain ⟨rfl, hB, hK, hwp⟩ := hv
  have hts := atoms_spec (ws := Cond.code y_S_releaseAll b_S_releaseAll 4 (Option.none : Option Jvm.ClassFile.FieldType) :: GW) B.pre
  have X : kX p s m _ meth c b_S_releaseAll 4 "TreeServer" t := ⟨B.exec, B.bytes, hml, findClass_of_methodNamed B.named, fun w h => hts w (List.mem_cons_of_mem _ h), B.notSynchronized, hK⟩
  have hZ : kZ t false s G s.heap [] := ⟨hB, va_S.rf, fun _ => ⟨rfl, rfl⟩⟩
  rw [lg_entry_eq]
  have hl := lv_entry ([.ref a0, .ref p1]) (n := 4) (by simp [lg_sl, rf_cat, cat_i, cat_l, cat_r])
  exact k_S_releaseAll X B.returns _ _ hwp s.heap [] _ hl hZ
abbrev b_Link_breakOff : ByteArray := prog_6_method_3_code
def y_Link_breakOff : MethodName := ⟨"TreeServer$Link", "breakOff", "()V"⟩
theorem d_Link_breakOff_0 : decode b_Link_breakOff 0 = .ok (.aload_n 0, 1) := by decide +kernel
theorem d_Link_breakOff_1 : decode b_Link_breakOff 1 = .ok (.iconst 0, 1) := by decide +kernel
theorem d_Link_breakOff_2 : decode b_Link_breakOff 2 = .ok (.putfield 34, 3) := by decide +kernel
theorem d_Link_breakOff_5 : decode b_Link_breakOff 5 = .ok (.aload_n 0, 1) := by decide +kernel
theorem d_Link_breakOff_6 : decode b_Link_breakOff 6 = .ok (.iconst 0, 1) := by decide +kernel
theorem d_Link_breakOff_7 : decode b_Link_breakOff 7 = .ok (.putfield 37, 3) := by decide +kernel
theorem d_Link_breakOff_10 : decode b_Link_breakOff 10 = .ok (.aload_n 0, 1) := by decide +kernel
theorem d_Link_breakOff_11 : decode b_Link_breakOff 11 = .ok (.iconst 1, 1) := by decide +kernel
theorem d_Link_breakOff_12 : decode b_Link_breakOff 12 = .ok (.putfield 44, 3) := by decide +kernel
theorem d_Link_breakOff_15 : decode b_Link_breakOff 15 = .ok (.return_, 1) := by decide +kernel
abbrev rm_Link_breakOff : Room := { frames := 0, cells := 0, slots := 0, locals := 0 }
set_option maxRecDepth 100000 in
set_option maxHeartbeats 4000000 in
theorem k_Link_breakOff {p : Program} {l : Launch} {e : Env} {s : State} {m : MethodId} {args : Array Value} {below : List Frame} {meth : Method} {c : Code} {t : TY} {a0 : Nat} {K : GS → Prop} (X : kX p s m args meth c b_Link_breakOff 1 "TreeServer$Link" t) (hret : meth.sig.returnType = none) (G : GS)  (hwp : w_Link_breakOff t G a0 K) : kW p l e rm_Link_breakOff s m args below meth c (MQ below (va_Qv (fun u : GS => K u) (fun u T => HB t u T.heap) (tA t)) args s 0 0 (tA t)) 1 t false 0 [(0, va_rf (some a0))] [] G := by
  unfold w_Link_breakOff at hwp
  refine kw_aload_n (pc := 0) X d_Link_breakOff_0 rfl 0 rfl ?_
  refine kw_iconst (v := 0) (pc := 1) X d_Link_breakOff_1 (by decide) ?_
  obtain ⟨f1, hwp⟩ := hwp
  refine kp_56 (a := a0) (x := (0 : Int32)) (pc := 2) X rfl d_Link_breakOff_2 x_334 rfl f1 ?_
  obtain ⟨G2, e_G2⟩ : ∃ g, g = si G 56 a0 (0 : Int32) := ⟨_, rfl⟩
  have hwp := hwp G2 e_G2
  refine kW.g e_G2.symm ?_
  refine kw_aload_n (pc := 5) X d_Link_breakOff_5 rfl 0 rfl ?_
  refine kw_iconst (v := 0) (pc := 6) X d_Link_breakOff_6 (by decide) ?_
  refine kp_58 (a := a0) (x := (0 : Int32)) (pc := 7) X rfl d_Link_breakOff_7 x_337 rfl f1 ?_
  obtain ⟨G3, e_G3⟩ : ∃ g, g = si G2 58 a0 (0 : Int32) := ⟨_, rfl⟩
  have hwp := hwp G3 e_G3
  refine kW.g e_G3.symm ?_
  refine kw_aload_n (pc := 10) X d_Link_breakOff_10 rfl 0 rfl ?_
  refine kw_iconst (v := 1) (pc := 11) X d_Link_breakOff_11 (by decide) ?_
  refine kp_61 (a := a0) (x := (1 : Int32)) (pc := 12) X rfl d_Link_breakOff_12 x_344 rfl f1 (Or.inr rfl) ?_
  obtain ⟨G4, e_G4⟩ : ∃ g, g = si G3 61 a0 (1 : Int32) := ⟨_, rfl⟩
  have hwp := hwp G4 e_G4
  refine kW.g e_G4.symm ?_
  exact kr_v (pc := 15) X hret d_Link_breakOff_15 hwp
set_option maxRecDepth 100000 in
set_option maxHeartbeats 4000000 in
theorem c_Link_breakOff (l : Launch) (t : TY) (G : GS) (a0 : Nat) (K : GS → Prop) : Met l y_Link_breakOff (Cond.code y_Link_breakOff b_Link_breakOff 1 (Option.none : Option Jvm.ClassFile.FieldType) :: GW) rm_Link_breakOff (va_Pc [.ref a0] (fun U => HB t G U.heap ∧ HK t U ∧ w_Link_breakOff t G a0 K)) (va_Qv (fun u : GS => K u) (fun u T => HB t u T.heap) (tA t)) 0 0 (tA t) := by
  refine Met.ofW (cc := b_Link_breakOff) (maxL := 1) (ret := none) (by decide) rfl ?_
  intro p e s m args below meth c s₁ B hml hv
  obtain ⟨rfl, hB, hK, hwp⟩ := hv
  have hts := atoms_spec (ws := Cond.code y_Link_breakOff b_Link_breakOff 1 (Option.none : Option Jvm.ClassFile.FieldType) :: GW) B.pre
  have X : kX p s m _ meth c b_Link_breakOff 1 "TreeServer$Link" t := ⟨B.exec, B.bytes, hml, findClass_of_methodNamed B.named, fun w h => hts w (List.mem_cons_of_mem _ h), B.notSynchronized, hK⟩
  have hZ : kZ t false s G s.heap [] := ⟨hB, va_S.rf, fun _ => ⟨rfl, rfl⟩⟩
  rw [lg_entry_eq]
  have hl := lv_entry ([.ref a0]) (n := 1) (by simp [lg_sl, rf_cat, cat_i, cat_l, cat_r])
  exact k_Link_breakOff X B.returns _ hwp s.heap [] _ hl hZ
abbrev b_S_breakIfMissized : ByteArray := prog_1_method_17_code
def y_S_breakIfMissized : MethodName := ⟨"TreeServer", "breakIfMissized", "(LTreeServer$Link;)V"⟩
theorem d_S_breakIfMissized_0 : decode b_S_breakIfMissized 0 = .ok (.aload_n 1, 1) := by decide +kernel
theorem d_S_breakIfMissized_1 : decode b_S_breakIfMissized 1 = .ok (.invokevirtual 159, 3) := by decide +kernel
theorem d_S_breakIfMissized_4 : decode b_S_breakIfMissized 4 = .ok (.ifCond .ne 4, 3) := by decide +kernel
theorem d_S_breakIfMissized_7 : decode b_S_breakIfMissized 7 = .ok (.return_, 1) := by decide +kernel
theorem d_S_breakIfMissized_8 : decode b_S_breakIfMissized 8 = .ok (.aload_n 0, 1) := by decide +kernel
theorem d_S_breakIfMissized_9 : decode b_S_breakIfMissized 9 = .ok (.aload_n 1, 1) := by decide +kernel
theorem d_S_breakIfMissized_10 : decode b_S_breakIfMissized 10 = .ok (.invokevirtual 79, 3) := by decide +kernel
theorem d_S_breakIfMissized_13 : decode b_S_breakIfMissized 13 = .ok (.aload_n 0, 1) := by decide +kernel
theorem d_S_breakIfMissized_14 : decode b_S_breakIfMissized 14 = .ok (.getfield 19, 3) := by decide +kernel
theorem d_S_breakIfMissized_17 : decode b_S_breakIfMissized 17 = .ok (.getfield 55, 3) := by decide +kernel
theorem d_S_breakIfMissized_20 : decode b_S_breakIfMissized 20 = .ok (.ifCond .eq 7, 3) := by decide +kernel
theorem d_S_breakIfMissized_23 : decode b_S_breakIfMissized 23 = .ok (.aload_n 1, 1) := by decide +kernel
theorem d_S_breakIfMissized_24 : decode b_S_breakIfMissized 24 = .ok (.invokevirtual 162, 3) := by decide +kernel
theorem d_S_breakIfMissized_27 : decode b_S_breakIfMissized 27 = .ok (.return_, 1) := by decide +kernel
abbrev rm_S_breakIfMissized : Room := { frames := 5, cells := 0, slots := 0, locals := 115 }
set_option maxRecDepth 100000 in
set_option maxHeartbeats 4000000 in
theorem k_S_breakIfMissized {p : Program} {l : Launch} {e : Env} {s : State} {m : MethodId} {args : Array Value} {below : List Frame} {meth : Method} {c : Code} {t : TY} {a0 : Nat} {K : GS → Prop} (X : kX p s m args meth c b_S_breakIfMissized 2 "TreeServer" t) (hret : meth.sig.returnType = none) (G : GS) (p1 : Nat) (hwp : w_S_breakIfMissized t G a0 p1 K) : kW p l e rm_S_breakIfMissized s m args below meth c (MQ below (va_Qv (fun u : GS => K u) (fun u T => HB t u T.heap) (tA t)) args s 0 0 (tA t)) 2 t false 0 [(0, va_rf (some a0)), (1, va_rf (some p1))] [] G := by
  unfold w_S_breakIfMissized at hwp
  refine kw_aload_n (pc := 0) X d_S_breakIfMissized_0 rfl 1 rfl ?_
  obtain ⟨f1, hwp⟩ := hwp
  refine kcVp_i (n := 0) (As := []) (rest := []) (pc := 1) X (c_Link_isMissized l t G p1 _) (cwV_of (C := "TreeServer$Link") X x_413 x_410 x_411 x_412 x_11 (by decide +kernel) ⟨rfl, rfl⟩ (by decide)) (rv_8 X f1) rfl rfl (by decide) d_S_breakIfMissized_1 hwp (fun v2 hwp => ?_)
  obtain ⟨b_v2, hwp⟩ := hwp
  refine kw_if_ne (tgt := 8) (pc := 4) X d_S_breakIfMissized_4 (by decide) (fun h => ?_) (fun h => ?_)
  · have hwp := ite_t h hwp
    refine kw_aload_n (pc := 8) X d_S_breakIfMissized_8 rfl 0 rfl ?_
    refine kw_aload_n (pc := 9) X d_S_breakIfMissized_9 rfl 1 rfl ?_
    obtain ⟨f3, hwp⟩ := hwp
    refine kcV_v (n := 1) (As := [.ref p1]) (rest := []) (pc := 10) X rfl (c_S_releaseAll l t G a0 p1 _) (cwV_of (C := "TreeServer") X x_423 x_420 x_422 xp_3 x_1 (by decide +kernel) ⟨rfl, rfl⟩ (by decide)) (rv_9 X f3) rfl rfl (by decide) d_S_breakIfMissized_10 hwp (fun G4 hwp => ?_)
    refine kw_aload_n (pc := 13) X d_S_breakIfMissized_13 rfl 0 rfl ?_
    refine kg_64 (a := a0) (pc := 14) X d_S_breakIfMissized_14 x_365 rfl f3 ?_
    obtain ⟨a5, h_a5, hwp⟩ := hwp
    obtain ⟨f6, hwp⟩ := hwp
    refine kg_19 (a := a5) (pc := 17) X d_S_breakIfMissized_17 x_146 h_a5 f6 ?_
    refine kw_if_eq (tgt := 27) (pc := 20) X d_S_breakIfMissized_20 (by decide) (fun h => ?_) (fun h => ?_)
    · have hwp := ite_t h hwp
      exact kr_v (pc := 27) X hret d_S_breakIfMissized_27 hwp
    · have hwp := ite_f h hwp
      refine kw_aload_n (pc := 23) X d_S_breakIfMissized_23 rfl 1 rfl ?_
      refine kcV_v (n := 0) (As := []) (rest := []) (pc := 24) X rfl (c_Link_breakOff l t G4 p1 _) (cwV_of (C := "TreeServer$Link") X x_518 x_515 x_516 x_517 x_11 (by decide +kernel) ⟨rfl, rfl⟩ (by decide)) (rv_8 X f1) rfl rfl (by decide) d_S_breakIfMissized_24 hwp (fun G7 hwp => ?_)
      exact kr_v (pc := 27) X hret d_S_breakIfMissized_27 hwp
  · have hwp := ite_f (not_not_intro h) hwp
    exact kr_v (pc := 7) X hret d_S_breakIfMissized_7 hwp
set_option maxRecDepth 100000 in
set_option maxHeartbeats 4000000 in
theorem c_S_breakIfMissized (l : Launch) (t : TY) (G : GS) (a0 : Nat) (p1 : Nat) (K : GS → Prop) : Met l y_S_breakIfMissized (Cond.code y_S_breakIfMissized b_S_breakIfMissized 2 (Option.none : Option Jvm.ClassFile.FieldType) :: GW) rm_S_breakIfMissized (va_Pc [.ref a0, .ref p1] (fun U => HB t G U.heap ∧ HK t U ∧ w_S_breakIfMissized t G a0 p1 K)) (va_Qv (fun u : GS => K u) (fun u T => HB t u T.heap) (tA t)) 0 0 (tA t) := by
  refine Met.ofW (cc := b_S_breakIfMissized) (maxL := 2) (ret := none) (by decide) rfl ?_
  intro p e s m args below meth c s₁ B hml hv
  obtain ⟨rfl, hB, hK, hwp⟩ := hv
  have hts := atoms_spec (ws := Cond.code y_S_breakIfMissized b_S_breakIfMissized 2 (Option.none : Option Jvm.ClassFile.FieldType) :: GW) B.pre
  have X : kX p s m _ meth c b_S_breakIfMissized 2 "TreeServer" t := ⟨B.exec, B.bytes, hml, findClass_of_methodNamed B.named, fun w h => hts w (List.mem_cons_of_mem _ h), B.notSynchronized, hK⟩
  have hZ : kZ t false s G s.heap [] := ⟨hB, va_S.rf, fun _ => ⟨rfl, rfl⟩⟩
  rw [lg_entry_eq]
  have hl := lv_entry ([.ref a0, .ref p1]) (n := 2) (by simp [lg_sl, rf_cat, cat_i, cat_l, cat_r])
  exact k_S_breakIfMissized X B.returns _ _ hwp s.heap [] _ hl hZ
abbrev b_Link_hasMessageToHandle : ByteArray := prog_6_method_10_code
def y_Link_hasMessageToHandle : MethodName := ⟨"TreeServer$Link", "hasMessageToHandle", "()Z"⟩
theorem d_Link_hasMessageToHandle_0 : decode b_Link_hasMessageToHandle 0 = .ok (.aload_n 0, 1) := by decide +kernel
theorem d_Link_hasMessageToHandle_1 : decode b_Link_hasMessageToHandle 1 = .ok (.getfield 37, 3) := by decide +kernel
theorem d_Link_hasMessageToHandle_4 : decode b_Link_hasMessageToHandle 4 = .ok (.sipush 128, 3) := by decide +kernel
theorem d_Link_hasMessageToHandle_7 : decode b_Link_hasMessageToHandle 7 = .ok (.if_icmp .gt 29, 3) := by decide +kernel
theorem d_Link_hasMessageToHandle_10 : decode b_Link_hasMessageToHandle 10 = .ok (.aload_n 0, 1) := by decide +kernel
theorem d_Link_hasMessageToHandle_11 : decode b_Link_hasMessageToHandle 11 = .ok (.getfield 34, 3) := by decide +kernel
theorem d_Link_hasMessageToHandle_14 : decode b_Link_hasMessageToHandle 14 = .ok (.bipush 7, 2) := by decide +kernel
theorem d_Link_hasMessageToHandle_16 : decode b_Link_hasMessageToHandle 16 = .ok (.if_icmp .lt 20, 3) := by decide +kernel
theorem d_Link_hasMessageToHandle_19 : decode b_Link_hasMessageToHandle 19 = .ok (.aload_n 0, 1) := by decide +kernel
theorem d_Link_hasMessageToHandle_20 : decode b_Link_hasMessageToHandle 20 = .ok (.invokevirtual 64, 3) := by decide +kernel
theorem d_Link_hasMessageToHandle_23 : decode b_Link_hasMessageToHandle 23 = .ok (.aload_n 0, 1) := by decide +kernel
theorem d_Link_hasMessageToHandle_24 : decode b_Link_hasMessageToHandle 24 = .ok (.getfield 34, 3) := by decide +kernel
theorem d_Link_hasMessageToHandle_27 : decode b_Link_hasMessageToHandle 27 = .ok (.i2l, 1) := by decide +kernel
theorem d_Link_hasMessageToHandle_28 : decode b_Link_hasMessageToHandle 28 = .ok (.lcmp, 1) := by decide +kernel
theorem d_Link_hasMessageToHandle_29 : decode b_Link_hasMessageToHandle 29 = .ok (.ifCond .gt 7, 3) := by decide +kernel
theorem d_Link_hasMessageToHandle_32 : decode b_Link_hasMessageToHandle 32 = .ok (.iconst 1, 1) := by decide +kernel
theorem d_Link_hasMessageToHandle_33 : decode b_Link_hasMessageToHandle 33 = .ok (.goto 4, 3) := by decide +kernel
theorem d_Link_hasMessageToHandle_36 : decode b_Link_hasMessageToHandle 36 = .ok (.iconst 0, 1) := by decide +kernel
theorem d_Link_hasMessageToHandle_37 : decode b_Link_hasMessageToHandle 37 = .ok (.ireturn, 1) := by decide +kernel
abbrev rm_Link_hasMessageToHandle : Room := { frames := 1, cells := 0, slots := 0, locals := 20 }
set_option maxRecDepth 100000 in
set_option maxHeartbeats 4000000 in
theorem k_Link_hasMessageToHandle {p : Program} {l : Launch} {e : Env} {s : State} {m : MethodId} {args : Array Value} {below : List Frame} {meth : Method} {c : Code} {t : TY} {a0 : Nat} {G : GS} {K : Int32 → Prop} (X : kX p s m args meth c b_Link_hasMessageToHandle 1 "TreeServer$Link" t) (hret : meth.sig.returnType = some .boolean)  (hwp : w_Link_hasMessageToHandle t G a0 K) : kW p l e rm_Link_hasMessageToHandle s m args below meth c (MQ below (vp_Si (fun r => isB r ∧ K r)) args s 0 0 (fun _ => False)) 1 t true 0 [(0, va_rf (some a0))] [] G := by
  unfold w_Link_hasMessageToHandle at hwp
  refine kw_aload_n (pc := 0) X d_Link_hasMessageToHandle_0 rfl 0 rfl ?_
  obtain ⟨f1, hwp⟩ := hwp
  refine kg_58 (a := a0) (pc := 1) X d_Link_hasMessageToHandle_1 x_337 rfl f1 ?_
  refine kw_sipush (v := 128) (pc := 4) X d_Link_hasMessageToHandle_4 (by decide) ?_
  refine kw_icmp_gt (tgt := 36) (pc := 7) X d_Link_hasMessageToHandle_7 (by decide) (fun h => ?_) (fun h => ?_)
  · have hwp := ite_t h hwp
    refine kw_iconst (v := 0) (pc := 36) X d_Link_hasMessageToHandle_36 (by decide) ?_
    exact krp_z (pc := 37) X hret d_Link_hasMessageToHandle_37 (Or.inl rfl) hwp
  · have hwp := ite_f h hwp
    refine kw_aload_n (pc := 10) X d_Link_hasMessageToHandle_10 rfl 0 rfl ?_
    refine kg_56 (a := a0) (pc := 11) X d_Link_hasMessageToHandle_11 x_334 rfl f1 ?_
    refine kw_bipush (v := 7) (pc := 14) X d_Link_hasMessageToHandle_14 (by decide) ?_
    refine kw_icmp_lt (tgt := 36) (pc := 16) X d_Link_hasMessageToHandle_16 (by decide) (fun h => ?_) (fun h => ?_)
    · have hwp := ite_t h hwp
      refine kw_iconst (v := 0) (pc := 36) X d_Link_hasMessageToHandle_36 (by decide) ?_
      exact krp_z (pc := 37) X hret d_Link_hasMessageToHandle_37 (Or.inl rfl) hwp
    · have hwp := ite_f h hwp
      refine kw_aload_n (pc := 19) X d_Link_hasMessageToHandle_19 rfl 0 rfl ?_
      refine kcVp_l (n := 0) (As := []) (rest := []) (pc := 20) X (c_Link_firstSize l t G a0 _) (cwV_of (C := "TreeServer$Link") X x_417 x_414 x_415 x_416 x_11 (by decide +kernel) ⟨rfl, rfl⟩ (by decide)) (rv_8 X f1) rfl rfl (by decide) d_Link_hasMessageToHandle_20 hwp (fun v2 hwp => ?_)
      refine kw_aload_n (pc := 23) X d_Link_hasMessageToHandle_23 rfl 0 rfl ?_
      refine kg_56 (a := a0) (pc := 24) X d_Link_hasMessageToHandle_24 x_334 rfl f1 ?_
      refine kw_i2l (pc := 27) X d_Link_hasMessageToHandle_27 ?_
      refine kw_lcmp_gt (tgt := 36) (pc := 28) X d_Link_hasMessageToHandle_28 d_Link_hasMessageToHandle_29 (by decide) (fun h => ?_) (fun h => ?_)
      · have hwp := ite_t h hwp
        refine kw_iconst (v := 0) (pc := 36) X d_Link_hasMessageToHandle_36 (by decide) ?_
        exact krp_z (pc := 37) X hret d_Link_hasMessageToHandle_37 (Or.inl rfl) hwp
      · have hwp := ite_f h hwp
        refine kw_iconst (v := 1) (pc := 32) X d_Link_hasMessageToHandle_32 (by decide) ?_
        refine kw_goto (tgt := 37) (pc := 33) X d_Link_hasMessageToHandle_33 (by decide) ?_
        exact krp_z (pc := 37) X hret d_Link_hasMessageToHandle_37 (Or.inr rfl) hwp
set_option maxRecDepth 100000 in
set_option maxHeartbeats 4000000 in
theorem c_Link_hasMessageToHandle (l : Launch) (t : TY) (G : GS) (a0 : Nat) (K : Int32 → Prop) : Met l y_Link_hasMessageToHandle (Cond.code y_Link_hasMessageToHandle b_Link_hasMessageToHandle 1 (Option.some Jvm.ClassFile.FieldType.boolean) :: GW) rm_Link_hasMessageToHandle (va_Pc [.ref a0] (fun U => HB t G U.heap ∧ HK t U ∧ w_Link_hasMessageToHandle t G a0 K)) (vp_Si (fun r => isB r ∧ K r)) 0 0 (fun _ => False) := by
  refine Met.ofW (cc := b_Link_hasMessageToHandle) (maxL := 1) (ret := some .boolean) (by decide) rfl ?_
  intro p e s m args below meth c s₁ B hml hv
  obtain ⟨rfl, hB, hK, hwp⟩ := hv
  have hts := atoms_spec (ws := Cond.code y_Link_hasMessageToHandle b_Link_hasMessageToHandle 1 (Option.some Jvm.ClassFile.FieldType.boolean) :: GW) B.pre
  have X : kX p s m _ meth c b_Link_hasMessageToHandle 1 "TreeServer$Link" t := ⟨B.exec, B.bytes, hml, findClass_of_methodNamed B.named, fun w h => hts w (List.mem_cons_of_mem _ h), B.notSynchronized, hK⟩
  have hZ : kZ t true s G s.heap [] := ⟨hB, va_S.rf, fun _ => ⟨rfl, rfl⟩⟩
  rw [lg_entry_eq]
  have hl := lv_entry ([.ref a0]) (n := 1) (by simp [lg_sl, rf_cat, cat_i, cat_l, cat_r])
  exact k_Link_hasMessageToHandle X B.returns hwp s.heap [] _ hl hZ
abbrev b_Link_dropInput : ByteArray := prog_6_method_6_code
def y_Link_dropInput : MethodName := ⟨"TreeServer$Link", "dropInput", "(I)V"⟩
theorem d_Link_dropInput_0 : decode b_Link_dropInput 0 = .ok (.aload_n 0, 1) := by decide +kernel
theorem d_Link_dropInput_1 : decode b_Link_dropInput 1 = .ok (.getfield 9, 3) := by decide +kernel
theorem d_Link_dropInput_4 : decode b_Link_dropInput 4 = .ok (.iload_n 1, 1) := by decide +kernel
theorem d_Link_dropInput_5 : decode b_Link_dropInput 5 = .ok (.aload_n 0, 1) := by decide +kernel
theorem d_Link_dropInput_6 : decode b_Link_dropInput 6 = .ok (.getfield 9, 3) := by decide +kernel
theorem d_Link_dropInput_9 : decode b_Link_dropInput 9 = .ok (.iconst 0, 1) := by decide +kernel
theorem d_Link_dropInput_10 : decode b_Link_dropInput 10 = .ok (.aload_n 0, 1) := by decide +kernel
theorem d_Link_dropInput_11 : decode b_Link_dropInput 11 = .ok (.getfield 34, 3) := by decide +kernel
theorem d_Link_dropInput_14 : decode b_Link_dropInput 14 = .ok (.iload_n 1, 1) := by decide +kernel
theorem d_Link_dropInput_15 : decode b_Link_dropInput 15 = .ok (.isub, 1) := by decide +kernel
theorem d_Link_dropInput_16 : decode b_Link_dropInput 16 = .ok (.invokestatic 50, 3) := by decide +kernel
theorem d_Link_dropInput_19 : decode b_Link_dropInput 19 = .ok (.aload_n 0, 1) := by decide +kernel
theorem d_Link_dropInput_20 : decode b_Link_dropInput 20 = .ok (.dup, 1) := by decide +kernel
theorem d_Link_dropInput_21 : decode b_Link_dropInput 21 = .ok (.getfield 34, 3) := by decide +kernel
theorem d_Link_dropInput_24 : decode b_Link_dropInput 24 = .ok (.iload_n 1, 1) := by decide +kernel
theorem d_Link_dropInput_25 : decode b_Link_dropInput 25 = .ok (.isub, 1) := by decide +kernel
theorem d_Link_dropInput_26 : decode b_Link_dropInput 26 = .ok (.putfield 34, 3) := by decide +kernel
theorem d_Link_dropInput_29 : decode b_Link_dropInput 29 = .ok (.return_, 1) := by decide +kernel
abbrev rm_Link_dropInput : Room := { frames := 1, cells := 0, slots := 0, locals := 26 }
set_option maxRecDepth 100000 in
set_option maxHeartbeats 4000000 in
theorem k_Link_dropInput {p : Program} {l : Launch} {e : Env} {s : State} {m : MethodId} {args : Array Value} {below : List Frame} {meth : Method} {c : Code} {t : TY} {a0 : Nat} {K : GS → Prop} (X : kX p s m args meth c b_Link_dropInput 2 "TreeServer$Link" t) (hret : meth.sig.returnType = none) (G : GS) (p1 : Int32) (hwp : w_Link_dropInput t G a0 p1 K) : kW p l e rm_Link_dropInput s m args below meth c (MQ below (va_Qv (fun u : GS => K u) (fun u T => HB t u T.heap) (tA t)) args s 0 0 (tA t)) 2 t false 0 [(0, va_rf (some a0)), (1, .int p1)] [] G := by
  unfold w_Link_dropInput at hwp
  refine kw_aload_n (pc := 0) X d_Link_dropInput_0 rfl 0 rfl ?_
  obtain ⟨f1, hwp⟩ := hwp
  refine kg_55 (a := a0) (pc := 1) X d_Link_dropInput_1 x_332 rfl f1 ?_
  refine kw_iload_n (pc := 4) X d_Link_dropInput_4 rfl 1 rfl ?_
  refine kw_aload_n (pc := 5) X d_Link_dropInput_5 rfl 0 rfl ?_
  refine kg_55 (a := a0) (pc := 6) X d_Link_dropInput_6 x_332 rfl f1 ?_
  refine kw_iconst (v := 0) (pc := 9) X d_Link_dropInput_9 (by decide) ?_
  refine kw_aload_n (pc := 10) X d_Link_dropInput_10 rfl 0 rfl ?_
  refine kg_56 (a := a0) (pc := 11) X d_Link_dropInput_11 x_334 rfl f1 ?_
  refine kw_iload_n (pc := 14) X d_Link_dropInput_14 rfl 1 rfl ?_
  refine kw_isub (pc := 15) X d_Link_dropInput_15 ?_
  obtain ⟨a2, h_a2, hwp⟩ := hwp
  obtain ⟨f3, hwp⟩ := hwp
  obtain ⟨f4, hwp⟩ := hwp
  refine ka_copy (a := a2) (b := a2) (pc := 16) X rfl d_Link_dropInput_16 x_537 x_495 x_494 x_14 (by decide) (by decide) h_a2 h_a2 f3 f3 f4 ?_
  obtain ⟨G5, e_G5⟩ : ∃ g, g = acB G a2 a2 p1 (0 : Int32) ((gi G 56 a0) - p1) := ⟨_, rfl⟩
  have hwp := hwp G5 e_G5
  refine kW.g e_G5.symm ?_
  refine kw_aload_n (pc := 19) X d_Link_dropInput_19 rfl 0 rfl ?_
  refine kw_dup (pc := 20) X d_Link_dropInput_20 rfl ?_
  refine kg_56 (a := a0) (pc := 21) X d_Link_dropInput_21 x_334 rfl f1 ?_
  refine kw_iload_n (pc := 24) X d_Link_dropInput_24 rfl 1 rfl ?_
  refine kw_isub (pc := 25) X d_Link_dropInput_25 ?_
  refine kp_56 (a := a0) (x := ((gi G5 56 a0) - p1)) (pc := 26) X rfl d_Link_dropInput_26 x_334 rfl f1 ?_
  obtain ⟨G6, e_G6⟩ : ∃ g, g = si G5 56 a0 ((gi G5 56 a0) - p1) := ⟨_, rfl⟩
  have hwp := hwp G6 e_G6
  refine kW.g e_G6.symm ?_
  exact kr_v (pc := 29) X hret d_Link_dropInput_29 hwp
set_option maxRecDepth 100000 in
set_option maxHeartbeats 4000000 in
theorem c_Link_dropInput (l : Launch) (t : TY) (G : GS) (a0 : Nat) (p1 : Int32) (K : GS → Prop) : Met l y_Link_dropInput (Cond.code y_Link_dropInput b_Link_dropInput 2 (Option.none : Option Jvm.ClassFile.FieldType) :: GW) rm_Link_dropInput (va_Pc [.ref a0, .int p1] (fun U => HB t G U.heap ∧ HK t U ∧ w_Link_dropInput t G a0 p1 K)) (va_Qv (fun u : GS => K u) (fun u T => HB t u T.heap) (tA t)) 0 0 (tA t) := by
  refine Met.ofW (cc := b_Link_dropInput) (maxL := 2) (ret := none) (by decide) rfl ?_
  intro p e s m args below meth c s₁ B hml hv
  obtain ⟨rfl, hB, hK, hwp⟩ := hv
  have hts := atoms_spec (ws := Cond.code y_Link_dropInput b_Link_dropInput 2 (Option.none : Option Jvm.ClassFile.FieldType) :: GW) B.pre
  have X : kX p s m _ meth c b_Link_dropInput 2 "TreeServer$Link" t := ⟨B.exec, B.bytes, hml, findClass_of_methodNamed B.named, fun w h => hts w (List.mem_cons_of_mem _ h), B.notSynchronized, hK⟩
  have hZ : kZ t false s G s.heap [] := ⟨hB, va_S.rf, fun _ => ⟨rfl, rfl⟩⟩
  rw [lg_entry_eq]
  have hl := lv_entry ([.ref a0, .int p1]) (n := 2) (by simp [lg_sl, rf_cat, cat_i, cat_l, cat_r])
  exact k_Link_dropInput X B.returns _ _ hwp s.heap [] _ hl hZ
abbrev b_Message_number : ByteArray := prog_8_method_3_code
def y_Message_number : MethodName := ⟨"TreeServer$Message", "number", "(II)J"⟩
theorem d_Message_number_0 : decode b_Message_number 0 = .ok (.lconst 0, 1) := by decide +kernel
theorem d_Message_number_1 : decode b_Message_number 1 = .ok (.lstore_n 3, 1) := by decide +kernel
theorem d_Message_number_2 : decode b_Message_number 2 = .ok (.iload_n 2, 1) := by decide +kernel
theorem d_Message_number_3 : decode b_Message_number 3 = .ok (.iconst 1, 1) := by decide +kernel
theorem d_Message_number_4 : decode b_Message_number 4 = .ok (.isub, 1) := by decide +kernel
theorem d_Message_number_5 : decode b_Message_number 5 = .ok (.istore 5, 2) := by decide +kernel
theorem d_Message_number_7 : decode b_Message_number 7 = .ok (.iload 5, 2) := by decide +kernel
theorem d_Message_number_9 : decode b_Message_number 9 = .ok (.ifCond .lt 51, 3) := by decide +kernel
theorem d_Message_number_12 : decode b_Message_number 12 = .ok (.iload_n 1, 1) := by decide +kernel
theorem d_Message_number_13 : decode b_Message_number 13 = .ok (.iload 5, 2) := by decide +kernel
theorem d_Message_number_15 : decode b_Message_number 15 = .ok (.iadd, 1) := by decide +kernel
theorem d_Message_number_16 : decode b_Message_number 16 = .ok (.istore 6, 2) := by decide +kernel
theorem d_Message_number_18 : decode b_Message_number 18 = .ok (.lload_n 3, 1) := by decide +kernel
theorem d_Message_number_19 : decode b_Message_number 19 = .ok (.bipush 8, 2) := by decide +kernel
theorem d_Message_number_21 : decode b_Message_number 21 = .ok (.lshl, 1) := by decide +kernel
theorem d_Message_number_22 : decode b_Message_number 22 = .ok (.iload 6, 2) := by decide +kernel
theorem d_Message_number_24 : decode b_Message_number 24 = .ok (.ifCond .lt 26, 3) := by decide +kernel
theorem d_Message_number_27 : decode b_Message_number 27 = .ok (.iload 6, 2) := by decide +kernel
theorem d_Message_number_29 : decode b_Message_number 29 = .ok (.aload_n 0, 1) := by decide +kernel
theorem d_Message_number_30 : decode b_Message_number 30 = .ok (.getfield 36, 3) := by decide +kernel
theorem d_Message_number_33 : decode b_Message_number 33 = .ok (.if_icmp .ge 17, 3) := by decide +kernel
theorem d_Message_number_36 : decode b_Message_number 36 = .ok (.aload_n 0, 1) := by decide +kernel
theorem d_Message_number_37 : decode b_Message_number 37 = .ok (.getfield 9, 3) := by decide +kernel
theorem d_Message_number_40 : decode b_Message_number 40 = .ok (.iload 6, 2) := by decide +kernel
theorem d_Message_number_42 : decode b_Message_number 42 = .ok (.baload, 1) := by decide +kernel
theorem d_Message_number_43 : decode b_Message_number 43 = .ok (.sipush 255, 3) := by decide +kernel
theorem d_Message_number_46 : decode b_Message_number 46 = .ok (.iand, 1) := by decide +kernel
theorem d_Message_number_47 : decode b_Message_number 47 = .ok (.goto 4, 3) := by decide +kernel
theorem d_Message_number_50 : decode b_Message_number 50 = .ok (.iconst 0, 1) := by decide +kernel
theorem d_Message_number_51 : decode b_Message_number 51 = .ok (.i2l, 1) := by decide +kernel
theorem d_Message_number_52 : decode b_Message_number 52 = .ok (.lor, 1) := by decide +kernel
theorem d_Message_number_53 : decode b_Message_number 53 = .ok (.lstore_n 3, 1) := by decide +kernel
theorem d_Message_number_54 : decode b_Message_number 54 = .ok (.iinc 5 (-1), 3) := by decide +kernel
theorem d_Message_number_57 : decode b_Message_number 57 = .ok (.goto (-50), 3) := by decide +kernel
theorem d_Message_number_60 : decode b_Message_number 60 = .ok (.lload_n 3, 1) := by decide +kernel
theorem d_Message_number_61 : decode b_Message_number 61 = .ok (.lreturn, 1) := by decide +kernel
abbrev rm_Message_number : Room := { frames := 0, cells := 0, slots := 0, locals := 0 }
set_option maxRecDepth 100000 in
set_option maxHeartbeats 4000000 in
theorem k_Message_number_51 {p : Program} {l : Launch} {e : Env} {s : State} {m : MethodId} {args : Array Value} {below : List Frame} {meth : Method} {c : Code} {t : TY} {a0 : Nat} {G : GS} {K : Int64 → Prop} {r7 : Int32 → Int64 → Int32 → Prop} (X : kX p s m args meth c b_Message_number 7 "TreeServer$Message" t) (hret : meth.sig.returnType = some .long) (hr_7 : ∀ (l1 : Int32) (l3 : Int64) (l5 : Int32), r7 l1 l3 l5 → kW p l e rm_Message_number s m args below meth c (MQ below (vp_Sl K) args s 0 0 (fun _ => False)) 7 t true 7 [(0, va_rf (some a0)), (1, .int l1), (3, .long l3), (5, .int l5)] [] G) (l1 : Int32) (l5 : Int32) (s0 : Int64) (s1 : Int32) (hwp : w_Message_number_51 t G a0 K r7 l1 l5 s0 s1) : kW p l e rm_Message_number s m args below meth c (MQ below (vp_Sl K) args s 0 0 (fun _ => False)) 7 t true 51 [(0, va_rf (some a0)), (1, .int l1), (5, .int l5)] [.int s1, .long s0] G := by
  unfold w_Message_number_51 at hwp
  refine kw_i2l (pc := 51) X d_Message_number_51 ?_
  refine kw_lor (pc := 52) X d_Message_number_52 ?_
  obtain ⟨v1, e_v1⟩ : ∃ z, z = (s0 ||| s1.toInt64) := ⟨_, rfl⟩
  have hwp := hwp v1 e_v1
  refine kW.st (st' := .long v1 :: _) (by rw [e_v1]) ?_
  refine kw_lstore_n (i := 3) (lv' := [(3, .long v1), (0, va_rf (some a0)), (1, .int l1), (5, .int l5)]) (pc := 53) X d_Message_number_53 rfl (by decide) rfl ?_
  obtain ⟨v2, e_v2⟩ : ∃ z, z = (l5 + (-1 : Int32)) := ⟨_, rfl⟩
  have hwp := hwp v2 e_v2
  refine kw_iinc (v := v2) (lv' := [(5, .int v2), (3, .long v1), (0, va_rf (some a0)), (1, .int l1)]) (pc := 54) X d_Message_number_54 3 rfl (by rw [e_v2]; rfl) (by decide) rfl ?_
  refine kw_goto (tgt := 7) (pc := 57) X d_Message_number_57 (by decide) ?_
  exact kW.sub [2, 3, 1, 0] rfl (hr_7 _ _ _ hwp)
set_option maxRecDepth 100000 in
set_option maxHeartbeats 4000000 in
theorem k_Message_number_50 {p : Program} {l : Launch} {e : Env} {s : State} {m : MethodId} {args : Array Value} {below : List Frame} {meth : Method} {c : Code} {t : TY} {a0 : Nat} {G : GS} {K : Int64 → Prop} {r7 : Int32 → Int64 → Int32 → Prop} (X : kX p s m args meth c b_Message_number 7 "TreeServer$Message" t) (hret : meth.sig.returnType = some .long) (hr_7 : ∀ (l1 : Int32) (l3 : Int64) (l5 : Int32), r7 l1 l3 l5 → kW p l e rm_Message_number s m args below meth c (MQ below (vp_Sl K) args s 0 0 (fun _ => False)) 7 t true 7 [(0, va_rf (some a0)), (1, .int l1), (3, .long l3), (5, .int l5)] [] G) (l1 : Int32) (l5 : Int32) (s0 : Int64) (hwp : w_Message_number_50 t G a0 K r7 l1 l5 s0) : kW p l e rm_Message_number s m args below meth c (MQ below (vp_Sl K) args s 0 0 (fun _ => False)) 7 t true 50 [(0, va_rf (some a0)), (1, .int l1), (5, .int l5)] [.long s0] G := by
  unfold w_Message_number_50 at hwp
  refine kw_iconst (v := 0) (pc := 50) X d_Message_number_50 (by decide) ?_
  exact kW.sub [0, 1, 2] rfl (k_Message_number_51 X hret hr_7 _ _ _ _ hwp)
set_option maxRecDepth 100000 in
set_option maxHeartbeats 4000000 in
theorem k_Message_number_7 {p : Program} {l : Launch} {e : Env} {s : State} {m : MethodId} {args : Array Value} {below : List Frame} {meth : Method} {c : Code} {t : TY} {a0 : Nat} {G : GS} {K : Int64 → Prop} (X : kX p s m args meth c b_Message_number 7 "TreeServer$Message" t) (hret : meth.sig.returnType = some .long) : ∀ (n : Nat) (l1 : Int32) (l3 : Int64) (l5 : Int32), w_Message_number_7 t G a0 K n l1 l3 l5 → kW p l e rm_Message_number s m args below meth c (MQ below (vp_Sl K) args s 0 0 (fun _ => False)) 7 t true 7 [(0, va_rf (some a0)), (1, .int l1), (3, .long l3), (5, .int l5)] [] G := by
  intro n
  induction n with
  | zero => intro l1 l3 l5 hwp; exact hwp.elim
  | succ n hr_7 =>
    intro l1 l3 l5 hwp
    unfold w_Message_number_7 at hwp
    dsimp only at hwp
    refine kw_iload (pc := 7) X d_Message_number_7 3 rfl ?_
    refine kw_if_lt (tgt := 60) (pc := 9) X d_Message_number_9 (by decide) (fun h => ?_) (fun h => ?_)
    · have hwp := ite_t h hwp
      refine kw_lload_n (pc := 60) X d_Message_number_60 rfl 2 rfl ?_
      exact krp_l (pc := 61) X hret d_Message_number_61 hwp
    · have hwp := ite_f h hwp
      refine kw_iload_n (pc := 12) X d_Message_number_12 rfl 1 rfl ?_
      refine kw_iload (pc := 13) X d_Message_number_13 3 rfl ?_
      refine kw_iadd (pc := 15) X d_Message_number_15 ?_
      obtain ⟨v1, e_v1⟩ : ∃ z, z = (l1 + l5) := ⟨_, rfl⟩
      have hwp := hwp v1 e_v1
      refine kW.st (st' := .int v1 :: _) (by rw [e_v1]) ?_
      refine kw_istore (i := 6) (lv' := [(6, .int v1), (0, va_rf (some a0)), (1, .int l1), (3, .long l3), (5, .int l5)]) (pc := 16) X d_Message_number_16 (by decide) rfl ?_
      refine kw_lload_n (pc := 18) X d_Message_number_18 rfl 3 rfl ?_
      refine kw_bipush (v := 8) (pc := 19) X d_Message_number_19 (by decide) ?_
      refine kw_lshl (pc := 21) X d_Message_number_21 ?_
      refine kw_iload (pc := 22) X d_Message_number_22 0 rfl ?_
      refine kw_if_lt (tgt := 50) (pc := 24) X d_Message_number_24 (by decide) (fun h => ?_) (fun h => ?_)
      · have hwp := ite_t h hwp
        exact kW.sub [1, 2, 4] rfl (k_Message_number_50 X hret hr_7 _ _ _ hwp)
      · have hwp := ite_f h hwp
        refine kw_iload (pc := 27) X d_Message_number_27 0 rfl ?_
        refine kw_aload_n (pc := 29) X d_Message_number_29 rfl 1 rfl ?_
        obtain ⟨f2, hwp⟩ := hwp
        refine kg_37 (a := a0) (pc := 30) X d_Message_number_30 x_231 rfl f2 ?_
        refine kw_icmp_ge (tgt := 50) (pc := 33) X d_Message_number_33 (by decide) (fun h => ?_) (fun h => ?_)
        · have hwp := ite_t h hwp
          exact kW.sub [1, 2, 4] rfl (k_Message_number_50 X hret hr_7 _ _ _ hwp)
        · have hwp := ite_f h hwp
          refine kw_aload_n (pc := 36) X d_Message_number_36 rfl 1 rfl ?_
          refine kg_36 (a := a0) (pc := 37) X d_Message_number_37 x_230 rfl f2 ?_
          refine kw_iload (pc := 40) X d_Message_number_40 0 rfl ?_
          obtain ⟨a3, h_a3, hwp⟩ := hwp
          obtain ⟨f4, hwp⟩ := hwp
          obtain ⟨f5, hwp⟩ := hwp
          refine ka_bald (a := a3) (pc := 42) X d_Message_number_42 h_a3 f4 f5 ?_
          refine kw_sipush (v := 255) (pc := 43) X d_Message_number_43 (by decide) ?_
          refine kw_iand (pc := 46) X d_Message_number_46 ?_
          refine kw_goto (tgt := 51) (pc := 47) X d_Message_number_47 (by decide) ?_
          exact kW.sub [1, 2, 4] rfl (k_Message_number_51 X hret hr_7 _ _ _ _ hwp)
set_option maxRecDepth 100000 in
set_option maxHeartbeats 4000000 in
theorem k_Message_number {p : Program} {l : Launch} {e : Env} {s : State} {m : MethodId} {args : Array Value} {below : List Frame} {meth : Method} {c : Code} {t : TY} {a0 : Nat} {G : GS} {K : Int64 → Prop} (X : kX p s m args meth c b_Message_number 7 "TreeServer$Message" t) (hret : meth.sig.returnType = some .long) (p1 : Int32) (p2 : Int32) (hwp : w_Message_number t G a0 p1 p2 K) : kW p l e rm_Message_number s m args below meth c (MQ below (vp_Sl K) args s 0 0 (fun _ => False)) 7 t true 0 [(0, va_rf (some a0)), (1, .int p1), (2, .int p2)] [] G := by
  unfold w_Message_number at hwp
  refine kw_lconst (v := 0) (pc := 0) X d_Message_number_0 (by decide) ?_
  refine kw_lstore_n (i := 3) (lv' := [(3, .long (0 : Int64)), (0, va_rf (some a0)), (1, .int p1), (2, .int p2)]) (pc := 1) X d_Message_number_1 rfl (by decide) rfl ?_
  refine kw_iload_n (pc := 2) X d_Message_number_2 rfl 3 rfl ?_
  refine kw_iconst (v := 1) (pc := 3) X d_Message_number_3 (by decide) ?_
  refine kw_isub (pc := 4) X d_Message_number_4 ?_
  obtain ⟨v1, e_v1⟩ : ∃ z, z = (p2 - (1 : Int32)) := ⟨_, rfl⟩
  have hwp := hwp v1 e_v1
  refine kW.st (st' := .int v1 :: _) (by rw [e_v1]) ?_
  refine kw_istore (i := 5) (lv' := [(5, .int v1), (3, .long (0 : Int64)), (0, va_rf (some a0)), (1, .int p1), (2, .int p2)]) (pc := 5) X d_Message_number_5 (by decide) rfl ?_
  obtain ⟨n, hwp⟩ := hwp
  exact kW.sub [2, 3, 1, 0] rfl (k_Message_number_7 X hret  n _ _ _ hwp)
set_option maxRecDepth 100000 in
set_option maxHeartbeats 4000000 in
theorem c_Message_number (l : Launch) (t : TY) (G : GS) (a0 : Nat) (p1 : Int32) (p2 : Int32) (K : Int64 → Prop) : Met l y_Message_number (Cond.code y_Message_number b_Message_number 7 (Option.some Jvm.ClassFile.FieldType.long) :: GW) rm_Message_number (va_Pc [.ref a0, .int p1, .int p2] (fun U => HB t G U.heap ∧ HK t U ∧ w_Message_number t G a0 p1 p2 K)) (vp_Sl K) 0 0 (fun _ => False) := by
  refine Met.ofW (cc := b_Message_number) (maxL := 7) (ret := some .long) (by decide) rfl ?_
  intro p e s m args below meth c s₁ B hml hv
  obtain ⟨rfl, hB, hK, hwp⟩ := hv
  have hts := atoms_spec (ws := Cond.code y_Message_number b_Message_number 7 (Option.some Jvm.ClassFile.FieldType.long) :: GW) B.pre
  have X : kX p s m _ meth c b_Message_number 7 "TreeServer$Message" t := ⟨B.exec, B.bytes, hml, findClass_of_methodNamed B.named, fun w h => hts w (List.mem_cons_of_mem _ h), B.notSynchronized, hK⟩
  have hZ : kZ t true s G s.heap [] := ⟨hB, va_S.rf, fun _ => ⟨rfl, rfl⟩⟩
  rw [lg_entry_eq]
  have hl := lv_entry ([.ref a0, .int p1, .int p2]) (n := 7) (by simp [lg_sl, rf_cat, cat_i, cat_l, cat_r])
  exact k_Message_number X B.returns _ _ hwp s.heap [] _ hl hZ
abbrev b_Message_takeFrom : ByteArray := prog_8_method_2_code
def y_Message_takeFrom : MethodName := ⟨"TreeServer$Message", "takeFrom", "(LTreeServer$Link;)V"⟩
theorem d_Message_takeFrom_0 : decode b_Message_takeFrom 0 = .ok (.aload_n 0, 1) := by decide +kernel
theorem d_Message_takeFrom_1 : decode b_Message_takeFrom 1 = .ok (.aload_n 1, 1) := by decide +kernel
theorem d_Message_takeFrom_2 : decode b_Message_takeFrom 2 = .ok (.invokevirtual 22, 3) := by decide +kernel
theorem d_Message_takeFrom_5 : decode b_Message_takeFrom 5 = .ok (.ldc2_w 28, 3) := by decide +kernel
theorem d_Message_takeFrom_8 : decode b_Message_takeFrom 8 = .ok (.invokestatic 30, 3) := by decide +kernel
theorem d_Message_takeFrom_11 : decode b_Message_takeFrom 11 = .ok (.l2i, 1) := by decide +kernel
theorem d_Message_takeFrom_12 : decode b_Message_takeFrom 12 = .ok (.putfield 36, 3) := by decide +kernel
theorem d_Message_takeFrom_15 : decode b_Message_takeFrom 15 = .ok (.aload_n 1, 1) := by decide +kernel
theorem d_Message_takeFrom_16 : decode b_Message_takeFrom 16 = .ok (.getfield 40, 3) := by decide +kernel
theorem d_Message_takeFrom_19 : decode b_Message_takeFrom 19 = .ok (.iconst 0, 1) := by decide +kernel
theorem d_Message_takeFrom_20 : decode b_Message_takeFrom 20 = .ok (.aload_n 0, 1) := by decide +kernel
theorem d_Message_takeFrom_21 : decode b_Message_takeFrom 21 = .ok (.getfield 9, 3) := by decide +kernel
theorem d_Message_takeFrom_24 : decode b_Message_takeFrom 24 = .ok (.iconst 0, 1) := by decide +kernel
theorem d_Message_takeFrom_25 : decode b_Message_takeFrom 25 = .ok (.aload_n 0, 1) := by decide +kernel
theorem d_Message_takeFrom_26 : decode b_Message_takeFrom 26 = .ok (.getfield 36, 3) := by decide +kernel
theorem d_Message_takeFrom_29 : decode b_Message_takeFrom 29 = .ok (.invokestatic 43, 3) := by decide +kernel
theorem d_Message_takeFrom_32 : decode b_Message_takeFrom 32 = .ok (.aload_n 1, 1) := by decide +kernel
theorem d_Message_takeFrom_33 : decode b_Message_takeFrom 33 = .ok (.aload_n 0, 1) := by decide +kernel
theorem d_Message_takeFrom_34 : decode b_Message_takeFrom 34 = .ok (.getfield 36, 3) := by decide +kernel
theorem d_Message_takeFrom_37 : decode b_Message_takeFrom 37 = .ok (.invokevirtual 49, 3) := by decide +kernel
theorem d_Message_takeFrom_40 : decode b_Message_takeFrom 40 = .ok (.aload_n 0, 1) := by decide +kernel
theorem d_Message_takeFrom_41 : decode b_Message_takeFrom 41 = .ok (.aload_n 0, 1) := by decide +kernel
theorem d_Message_takeFrom_42 : decode b_Message_takeFrom 42 = .ok (.iconst 4, 1) := by decide +kernel
theorem d_Message_takeFrom_43 : decode b_Message_takeFrom 43 = .ok (.iconst 1, 1) := by decide +kernel
theorem d_Message_takeFrom_44 : decode b_Message_takeFrom 44 = .ok (.invokevirtual 53, 3) := by decide +kernel
theorem d_Message_takeFrom_47 : decode b_Message_takeFrom 47 = .ok (.l2i, 1) := by decide +kernel
theorem d_Message_takeFrom_48 : decode b_Message_takeFrom 48 = .ok (.putfield 57, 3) := by decide +kernel
theorem d_Message_takeFrom_51 : decode b_Message_takeFrom 51 = .ok (.aload_n 0, 1) := by decide +kernel
theorem d_Message_takeFrom_52 : decode b_Message_takeFrom 52 = .ok (.aload_n 0, 1) := by decide +kernel
theorem d_Message_takeFrom_53 : decode b_Message_takeFrom 53 = .ok (.iconst 5, 1) := by decide +kernel
theorem d_Message_takeFrom_54 : decode b_Message_takeFrom 54 = .ok (.iconst 2, 1) := by decide +kernel
theorem d_Message_takeFrom_55 : decode b_Message_takeFrom 55 = .ok (.invokevirtual 53, 3) := by decide +kernel
theorem d_Message_takeFrom_58 : decode b_Message_takeFrom 58 = .ok (.l2i, 1) := by decide +kernel
theorem d_Message_takeFrom_59 : decode b_Message_takeFrom 59 = .ok (.putfield 60, 3) := by decide +kernel
theorem d_Message_takeFrom_62 : decode b_Message_takeFrom 62 = .ok (.aload_n 0, 1) := by decide +kernel
theorem d_Message_takeFrom_63 : decode b_Message_takeFrom 63 = .ok (.iconst 0, 1) := by decide +kernel
theorem d_Message_takeFrom_64 : decode b_Message_takeFrom 64 = .ok (.putfield 63, 3) := by decide +kernel
theorem d_Message_takeFrom_67 : decode b_Message_takeFrom 67 = .ok (.return_, 1) := by decide +kernel
abbrev rm_Message_takeFrom : Room := { frames := 2, cells := 0, slots := 0, locals := 47 }
set_option maxRecDepth 100000 in
set_option maxHeartbeats 4000000 in
theorem k_Message_takeFrom {p : Program} {l : Launch} {e : Env} {s : State} {m : MethodId} {args : Array Value} {below : List Frame} {meth : Method} {c : Code} {t : TY} {a0 : Nat} {K : GS → Prop} (X : kX p s m args meth c b_Message_takeFrom 2 "TreeServer$Message" t) (hret : meth.sig.returnType = none) (G : GS) (p1 : Nat) (hwp : w_Message_takeFrom t G a0 p1 K) : kW p l e rm_Message_takeFrom s m args below meth c (MQ below (va_Qv (fun u : GS => K u) (fun u T => HB t u T.heap) (tA t)) args s 0 0 (tA t)) 2 t false 0 [(0, va_rf (some a0)), (1, va_rf (some p1))] [] G := by
  unfold w_Message_takeFrom at hwp
  refine kw_aload_n (pc := 0) X d_Message_takeFrom_0 rfl 0 rfl ?_
  refine kw_aload_n (pc := 1) X d_Message_takeFrom_1 rfl 1 rfl ?_
  obtain ⟨f1, hwp⟩ := hwp
  refine kcVp_l (n := 0) (As := []) (rest := [va_rf (some a0)]) (pc := 2) X (c_Link_firstSize l t G p1 _) (cwV_of (C := "TreeServer$Link") X x_417 x_527 x_415 x_416 x_11 (by decide +kernel) ⟨rfl, rfl⟩ (by decide)) (rv_8 X f1) rfl rfl (by simp [rf_cat, cat_i, cat_l, cat_r]) d_Message_takeFrom_2 hwp (fun v2 hwp => ?_)
  refine kw_ldc2 (v := 128) (pc := 5) X d_Message_takeFrom_5 x_528 ?_
  refine km_minl (pc := 8) X d_Message_takeFrom_8 x_529 x_530 x_15 x_531 (by decide) (by simp [rf_cat, cat_i, cat_l, cat_r]) ?_
  refine kw_l2i (pc := 11) X d_Message_takeFrom_11 ?_
  obtain ⟨f3, hwp⟩ := hwp
  refine kp_37 (a := a0) (x := (lmin v2 (128 : Int64)).toInt32) (pc := 12) X rfl d_Message_takeFrom_12 x_231 rfl f3 ?_
  obtain ⟨G4, e_G4⟩ : ∃ g, g = si G 37 a0 ((lmin v2 (128 : Int64)).toInt32) := ⟨_, rfl⟩
  have hwp := hwp G4 e_G4
  refine kW.g e_G4.symm ?_
  refine kw_aload_n (pc := 15) X d_Message_takeFrom_15 rfl 1 rfl ?_
  refine kg_55 (a := p1) (pc := 16) X d_Message_takeFrom_16 x_333 rfl f1 ?_
  refine kw_iconst (v := 0) (pc := 19) X d_Message_takeFrom_19 (by decide) ?_
  refine kw_aload_n (pc := 20) X d_Message_takeFrom_20 rfl 0 rfl ?_
  refine kg_36 (a := a0) (pc := 21) X d_Message_takeFrom_21 x_230 rfl f3 ?_
  refine kw_iconst (v := 0) (pc := 24) X d_Message_takeFrom_24 (by decide) ?_
  refine kw_aload_n (pc := 25) X d_Message_takeFrom_25 rfl 0 rfl ?_
  refine kg_37 (a := a0) (pc := 26) X d_Message_takeFrom_26 x_231 rfl f3 ?_
  obtain ⟨a5, h_a5, hwp⟩ := hwp
  obtain ⟨a6, h_a6, hwp⟩ := hwp
  obtain ⟨f7, hwp⟩ := hwp
  obtain ⟨f8, hwp⟩ := hwp
  obtain ⟨f9, hwp⟩ := hwp
  refine ka_copy (a := a5) (b := a6) (pc := 29) X rfl d_Message_takeFrom_29 x_532 x_495 x_494 x_14 (by decide) (by decide) h_a5 h_a6 f7 f8 f9 ?_
  obtain ⟨G10, e_G10⟩ : ∃ g, g = acB G4 a5 a6 (0 : Int32) (0 : Int32) (gi G4 37 a0) := ⟨_, rfl⟩
  have hwp := hwp G10 e_G10
  refine kW.g e_G10.symm ?_
  refine kw_aload_n (pc := 32) X d_Message_takeFrom_32 rfl 1 rfl ?_
  refine kw_aload_n (pc := 33) X d_Message_takeFrom_33 rfl 0 rfl ?_
  refine kg_37 (a := a0) (pc := 34) X d_Message_takeFrom_34 x_231 rfl f3 ?_
  refine kcV_v (n := 1) (As := [.int (gi G10 37 a0)]) (rest := []) (pc := 37) X rfl (c_Link_dropInput l t G10 p1 (gi G10 37 a0) _) (cwV_of (C := "TreeServer$Link") X x_536 x_533 x_534 x_535 x_11 (by decide +kernel) ⟨rfl, rfl⟩ (by decide)) (rv_8 X f1) rfl rfl (by decide) d_Message_takeFrom_37 hwp (fun G11 hwp => ?_)
  refine kw_aload_n (pc := 40) X d_Message_takeFrom_40 rfl 0 rfl ?_
  refine kw_aload_n (pc := 41) X d_Message_takeFrom_41 rfl 0 rfl ?_
  refine kw_iconst (v := 4) (pc := 42) X d_Message_takeFrom_42 (by decide) ?_
  refine kw_iconst (v := 1) (pc := 43) X d_Message_takeFrom_43 (by decide) ?_
  refine kcVp_l (n := 2) (As := [.int (4 : Int32), .int (1 : Int32)]) (rest := [va_rf (some a0)]) (pc := 44) X (c_Message_number l t G11 a0 (4 : Int32) (1 : Int32) _) (cwV_of (C := "TreeServer$Message") X x_541 x_538 x_539 x_540 x_9 (by decide +kernel) ⟨rfl, rfl⟩ (by decide)) (rv_5 X f3) rfl rfl (by simp [rf_cat, cat_i, cat_l, cat_r]) d_Message_takeFrom_44 hwp (fun v12 hwp => ?_)
  refine kw_l2i (pc := 47) X d_Message_takeFrom_47 ?_
  refine kp_38 (a := a0) (x := v12.toInt32) (pc := 48) X rfl d_Message_takeFrom_48 x_233 rfl f3 ?_
  obtain ⟨G13, e_G13⟩ : ∃ g, g = si G11 38 a0 v12.toInt32 := ⟨_, rfl⟩
  have hwp := hwp G13 e_G13
  refine kW.g e_G13.symm ?_
  refine kw_aload_n (pc := 51) X d_Message_takeFrom_51 rfl 0 rfl ?_
  refine kw_aload_n (pc := 52) X d_Message_takeFrom_52 rfl 0 rfl ?_
  refine kw_iconst (v := 5) (pc := 53) X d_Message_takeFrom_53 (by decide) ?_
  refine kw_iconst (v := 2) (pc := 54) X d_Message_takeFrom_54 (by decide) ?_
  refine kcVp_l (n := 2) (As := [.int (5 : Int32), .int (2 : Int32)]) (rest := [va_rf (some a0)]) (pc := 55) X (c_Message_number l t G13 a0 (5 : Int32) (2 : Int32) _) (cwV_of (C := "TreeServer$Message") X x_541 x_538 x_539 x_540 x_9 (by decide +kernel) ⟨rfl, rfl⟩ (by decide)) (rv_5 X f3) rfl rfl (by simp [rf_cat, cat_i, cat_l, cat_r]) d_Message_takeFrom_55 hwp (fun v14 hwp => ?_)
  refine kw_l2i (pc := 58) X d_Message_takeFrom_58 ?_
  refine kp_39 (a := a0) (x := v14.toInt32) (pc := 59) X rfl d_Message_takeFrom_59 x_235 rfl f3 ?_
  obtain ⟨G15, e_G15⟩ : ∃ g, g = si G13 39 a0 v14.toInt32 := ⟨_, rfl⟩
  have hwp := hwp G15 e_G15
  refine kW.g e_G15.symm ?_
  refine kw_aload_n (pc := 62) X d_Message_takeFrom_62 rfl 0 rfl ?_
  refine kw_iconst (v := 0) (pc := 63) X d_Message_takeFrom_63 (by decide) ?_
  refine kp_42 (a := a0) (x := (0 : Int32)) (pc := 64) X rfl d_Message_takeFrom_64 x_240 rfl f3 ?_
  obtain ⟨G16, e_G16⟩ : ∃ g, g = si G15 42 a0 (0 : Int32) := ⟨_, rfl⟩
  have hwp := hwp G16 e_G16
  refine kW.g e_G16.symm ?_
  exact kr_v (pc := 67) X hret d_Message_takeFrom_67 hwp
set_option maxRecDepth 100000 in
set_option maxHeartbeats 4000000 in
theorem c_Message_takeFrom (l : Launch) (t : TY) (G : GS) (a0 : Nat) (p1 : Nat) (K : GS → Prop) : Met l y_Message_takeFrom (Cond.code y_Message_takeFrom b_Message_takeFrom 2 (Option.none : Option Jvm.ClassFile.FieldType) :: GW) rm_Message_takeFrom (va_Pc [.ref a0, .ref p1] (fun U => HB t G U.heap ∧ HK t U ∧ w_Message_takeFrom t G a0 p1 K)) (va_Qv (fun u : GS => K u) (fun u T => HB t u T.heap) (tA t)) 0 0 (tA t) := by
  refine Met.ofW (cc := b_Message_takeFrom) (maxL := 2) (ret := none) (by decide) rfl ?_
  intro p e s m args below meth c s₁ B hml hv
  obtain ⟨rfl, hB, hK, hwp⟩ := hv
  have hts := atoms_spec (ws := Cond.code y_Message_takeFrom b_Message_takeFrom 2 (Option.none : Option Jvm.ClassFile.FieldType) :: GW) B.pre
  have X : kX p s m _ meth c b_Message_takeFrom 2 "TreeServer$Message" t := ⟨B.exec, B.bytes, hml, findClass_of_methodNamed B.named, fun w h => hts w (List.mem_cons_of_mem _ h), B.notSynchronized, hK⟩
  have hZ : kZ t false s G s.heap [] := ⟨hB, va_S.rf, fun _ => ⟨rfl, rfl⟩⟩
  rw [lg_entry_eq]
  have hl := lv_entry ([.ref a0, .ref p1]) (n := 2) (by simp [lg_sl, rf_cat, cat_i, cat_l, cat_r])
  exact k_Message_takeFrom X B.returns _ _ hwp s.heap [] _ hl hZ
abbrev b_Answer_put : ByteArray := prog_2_method_4_code
def y_Answer_put : MethodName := ⟨"TreeServer$Answer", "put", "(JI)V"⟩
theorem d_Answer_put_0 : decode b_Answer_put 0 = .ok (.iconst 0, 1) := by decide +kernel
theorem d_Answer_put_1 : decode b_Answer_put 1 = .ok (.istore 4, 2) := by decide +kernel
theorem d_Answer_put_3 : decode b_Answer_put 3 = .ok (.iload 4, 2) := by decide +kernel
theorem d_Answer_put_5 : decode b_Answer_put 5 = .ok (.iload_n 3, 1) := by decide +kernel
theorem d_Answer_put_6 : decode b_Answer_put 6 = .ok (.if_icmp .ge 49, 3) := by decide +kernel
theorem d_Answer_put_9 : decode b_Answer_put 9 = .ok (.aload_n 0, 1) := by decide +kernel
theorem d_Answer_put_10 : decode b_Answer_put 10 = .ok (.getfield 15, 3) := by decide +kernel
theorem d_Answer_put_13 : decode b_Answer_put 13 = .ok (.aload_n 0, 1) := by decide +kernel
theorem d_Answer_put_14 : decode b_Answer_put 14 = .ok (.getfield 9, 3) := by decide +kernel
theorem d_Answer_put_17 : decode b_Answer_put 17 = .ok (.arraylength, 1) := by decide +kernel
theorem d_Answer_put_18 : decode b_Answer_put 18 = .ok (.if_icmp .ge 37, 3) := by decide +kernel
theorem d_Answer_put_21 : decode b_Answer_put 21 = .ok (.aload_n 0, 1) := by decide +kernel
theorem d_Answer_put_22 : decode b_Answer_put 22 = .ok (.getfield 9, 3) := by decide +kernel
theorem d_Answer_put_25 : decode b_Answer_put 25 = .ok (.aload_n 0, 1) := by decide +kernel
theorem d_Answer_put_26 : decode b_Answer_put 26 = .ok (.getfield 15, 3) := by decide +kernel
theorem d_Answer_put_29 : decode b_Answer_put 29 = .ok (.lload_n 1, 1) := by decide +kernel
theorem d_Answer_put_30 : decode b_Answer_put 30 = .ok (.bipush 8, 2) := by decide +kernel
theorem d_Answer_put_32 : decode b_Answer_put 32 = .ok (.iload 4, 2) := by decide +kernel
theorem d_Answer_put_34 : decode b_Answer_put 34 = .ok (.imul, 1) := by decide +kernel
theorem d_Answer_put_35 : decode b_Answer_put 35 = .ok (.lushr, 1) := by decide +kernel
theorem d_Answer_put_36 : decode b_Answer_put 36 = .ok (.l2i, 1) := by decide +kernel
theorem d_Answer_put_37 : decode b_Answer_put 37 = .ok (.i2b, 1) := by decide +kernel
theorem d_Answer_put_38 : decode b_Answer_put 38 = .ok (.bastore, 1) := by decide +kernel
theorem d_Answer_put_39 : decode b_Answer_put 39 = .ok (.aload_n 0, 1) := by decide +kernel
theorem d_Answer_put_40 : decode b_Answer_put 40 = .ok (.dup, 1) := by decide +kernel
theorem d_Answer_put_41 : decode b_Answer_put 41 = .ok (.getfield 15, 3) := by decide +kernel
theorem d_Answer_put_44 : decode b_Answer_put 44 = .ok (.iconst 1, 1) := by decide +kernel
theorem d_Answer_put_45 : decode b_Answer_put 45 = .ok (.iadd, 1) := by decide +kernel
theorem d_Answer_put_46 : decode b_Answer_put 46 = .ok (.putfield 15, 3) := by decide +kernel
theorem d_Answer_put_49 : decode b_Answer_put 49 = .ok (.iinc 4 1, 3) := by decide +kernel
theorem d_Answer_put_52 : decode b_Answer_put 52 = .ok (.goto (-49), 3) := by decide +kernel
theorem d_Answer_put_55 : decode b_Answer_put 55 = .ok (.return_, 1) := by decide +kernel
abbrev rm_Answer_put : Room := { frames := 0, cells := 0, slots := 0, locals := 0 }
set_option maxRecDepth 100000 in
set_option maxHeartbeats 4000000 in
theorem k_Answer_put_3 {p : Program} {l : Launch} {e : Env} {s : State} {m : MethodId} {args : Array Value} {below : List Frame} {meth : Method} {c : Code} {t : TY} {a0 : Nat} {K : GS → Prop} (X : kX p s m args meth c b_Answer_put 5 "TreeServer$Answer" t) (hret : meth.sig.returnType = none) : ∀ (n : Nat) (l1 : Int64) (l3 : Int32) (l4 : Int32) (G : GS), w_Answer_put_3 t a0 K n l1 l3 l4 G → kW p l e rm_Answer_put s m args below meth c (MQ below (va_Qv (fun u : GS => K u) (fun u T => HB t u T.heap) (tA t)) args s 0 0 (tA t)) 5 t false 3 [(0, va_rf (some a0)), (1, .long l1), (3, .int l3), (4, .int l4)] [] G := by
  intro n
  induction n with
  | zero => intro l1 l3 l4 G hwp; exact hwp.elim
  | succ n hr_3 =>
    intro l1 l3 l4 G hwp
    unfold w_Answer_put_3 at hwp
    dsimp only at hwp
    refine kw_iload (pc := 3) X d_Answer_put_3 3 rfl ?_
    refine kw_iload_n (pc := 5) X d_Answer_put_5 rfl 2 rfl ?_
    refine kw_icmp_ge (tgt := 55) (pc := 6) X d_Answer_put_6 (by decide) (fun h => ?_) (fun h => ?_)
    · have hwp := ite_t h hwp
      exact kr_v (pc := 55) X hret d_Answer_put_55 hwp
    · have hwp := ite_f h hwp
      refine kw_aload_n (pc := 9) X d_Answer_put_9 rfl 0 rfl ?_
      obtain ⟨f1, hwp⟩ := hwp
      refine kg_45 (a := a0) (pc := 10) X d_Answer_put_10 x_269 rfl f1 ?_
      refine kw_aload_n (pc := 13) X d_Answer_put_13 rfl 0 rfl ?_
      refine kg_44 (a := a0) (pc := 14) X d_Answer_put_14 x_268 rfl f1 ?_
      obtain ⟨a2, h_a2, hwp⟩ := hwp
      obtain ⟨f3, hwp⟩ := hwp
      refine ka_len51 (a := a2) (pc := 17) X d_Answer_put_17 h_a2 f3 ?_
      refine kw_icmp_ge (tgt := 55) (pc := 18) X d_Answer_put_18 (by decide) (fun h => ?_) (fun h => ?_)
      · have hwp := ite_t h hwp
        exact kr_v (pc := 55) X hret d_Answer_put_55 hwp
      · have hwp := ite_f h hwp
        refine kw_aload_n (pc := 21) X d_Answer_put_21 rfl 0 rfl ?_
        refine kg_44 (a := a0) (pc := 22) X d_Answer_put_22 x_268 rfl f1 ?_
        refine kw_aload_n (pc := 25) X d_Answer_put_25 rfl 0 rfl ?_
        refine kg_45 (a := a0) (pc := 26) X d_Answer_put_26 x_269 rfl f1 ?_
        refine kw_lload_n (pc := 29) X d_Answer_put_29 rfl 1 rfl ?_
        refine kw_bipush (v := 8) (pc := 30) X d_Answer_put_30 (by decide) ?_
        refine kw_iload (pc := 32) X d_Answer_put_32 3 rfl ?_
        refine kw_imul (pc := 34) X d_Answer_put_34 ?_
        refine kw_lushr (pc := 35) X d_Answer_put_35 ?_
        refine kw_l2i (pc := 36) X d_Answer_put_36 ?_
        refine kw_i2b (pc := 37) X d_Answer_put_37 ?_
        obtain ⟨f4, hwp⟩ := hwp
        refine ka_bast (a := a2) (pc := 38) X rfl d_Answer_put_38 h_a2 f3 f4 ?_
        obtain ⟨G5, e_G5⟩ : ∃ g, g = ais G a2 (gi G 45 a0).toNatClampNeg (vp_nar .byte ((l1.toUInt64 >>> (((8 : Int32) * l4).toInt64.toUInt64 &&& Int64.toUInt64 63)).toInt64.toInt32.toInt8.toInt32)) := ⟨_, rfl⟩
        have hwp := hwp G5 e_G5
        refine kW.g e_G5.symm ?_
        refine kw_aload_n (pc := 39) X d_Answer_put_39 rfl 0 rfl ?_
        refine kw_dup (pc := 40) X d_Answer_put_40 rfl ?_
        refine kg_45 (a := a0) (pc := 41) X d_Answer_put_41 x_269 rfl f1 ?_
        refine kw_iconst (v := 1) (pc := 44) X d_Answer_put_44 (by decide) ?_
        refine kw_iadd (pc := 45) X d_Answer_put_45 ?_
        refine kp_45 (a := a0) (x := ((gi G5 45 a0) + (1 : Int32))) (pc := 46) X rfl d_Answer_put_46 x_269 rfl f1 ?_
        obtain ⟨G6, e_G6⟩ : ∃ g, g = si G5 45 a0 ((gi G5 45 a0) + (1 : Int32)) := ⟨_, rfl⟩
        have hwp := hwp G6 e_G6
        refine kW.g e_G6.symm ?_
        obtain ⟨v7, e_v7⟩ : ∃ z, z = (l4 + (1 : Int32)) := ⟨_, rfl⟩
        have hwp := hwp v7 e_v7
        refine kw_iinc (v := v7) (lv' := [(4, .int v7), (0, va_rf (some a0)), (1, .long l1), (3, .int l3)]) (pc := 49) X d_Answer_put_49 3 rfl (by rw [e_v7]; rfl) (by decide) rfl ?_
        refine kw_goto (tgt := 3) (pc := 52) X d_Answer_put_52 (by decide) ?_
        exact kW.sub [1, 2, 3, 0] rfl (hr_3 _ _ _ _ hwp)
set_option maxRecDepth 100000 in
set_option maxHeartbeats 4000000 in
theorem k_Answer_put {p : Program} {l : Launch} {e : Env} {s : State} {m : MethodId} {args : Array Value} {below : List Frame} {meth : Method} {c : Code} {t : TY} {a0 : Nat} {K : GS → Prop} (X : kX p s m args meth c b_Answer_put 5 "TreeServer$Answer" t) (hret : meth.sig.returnType = none) (G : GS) (p1 : Int64) (p3 : Int32) (hwp : w_Answer_put t G a0 p1 p3 K) : kW p l e rm_Answer_put s m args below meth c (MQ below (va_Qv (fun u : GS => K u) (fun u T => HB t u T.heap) (tA t)) args s 0 0 (tA t)) 5 t false 0 [(0, va_rf (some a0)), (1, .long p1), (3, .int p3)] [] G := by
  unfold w_Answer_put at hwp
  refine kw_iconst (v := 0) (pc := 0) X d_Answer_put_0 (by decide) ?_
  refine kw_istore (i := 4) (lv' := [(4, .int (0 : Int32)), (0, va_rf (some a0)), (1, .long p1), (3, .int p3)]) (pc := 1) X d_Answer_put_1 (by decide) rfl ?_
  obtain ⟨n, hwp⟩ := hwp
  exact kW.sub [1, 2, 3, 0] rfl (k_Answer_put_3 X hret  n _ _ _ _ hwp)
set_option maxRecDepth 100000 in
set_option maxHeartbeats 4000000 in
theorem c_Answer_put (l : Launch) (t : TY) (G : GS) (a0 : Nat) (p1 : Int64) (p3 : Int32) (K : GS → Prop) : Met l y_Answer_put (Cond.code y_Answer_put b_Answer_put 5 (Option.none : Option Jvm.ClassFile.FieldType) :: GW) rm_Answer_put (va_Pc [.ref a0, .long p1, .int p3] (fun U => HB t G U.heap ∧ HK t U ∧ w_Answer_put t G a0 p1 p3 K)) (va_Qv (fun u : GS => K u) (fun u T => HB t u T.heap) (tA t)) 0 0 (tA t) := by
  refine Met.ofW (cc := b_Answer_put) (maxL := 5) (ret := none) (by decide) rfl ?_
  intro p e s m args below meth c s₁ B hml hv
  obtain ⟨rfl, hB, hK, hwp⟩ := hv
  have hts := atoms_spec (ws := Cond.code y_Answer_put b_Answer_put 5 (Option.none : Option Jvm.ClassFile.FieldType) :: GW) B.pre
  have X : kX p s m _ meth c b_Answer_put 5 "TreeServer$Answer" t := ⟨B.exec, B.bytes, hml, findClass_of_methodNamed B.named, fun w h => hts w (List.mem_cons_of_mem _ h), B.notSynchronized, hK⟩
  have hZ : kZ t false s G s.heap [] := ⟨hB, va_S.rf, fun _ => ⟨rfl, rfl⟩⟩
  rw [lg_entry_eq]
  have hl := lv_entry ([.ref a0, .long p1, .int p3]) (n := 5) (by simp [lg_sl, rf_cat, cat_i, cat_l, cat_r])
  exact k_Answer_put X B.returns _ _ _ hwp s.heap [] _ hl hZ
abbrev b_Answer_begin : ByteArray := prog_2_method_2_code
def y_Answer_begin : MethodName := ⟨"TreeServer$Answer", "begin", "(II)V"⟩
theorem d_Answer_begin_0 : decode b_Answer_begin 0 = .ok (.aload_n 0, 1) := by decide +kernel
theorem d_Answer_begin_1 : decode b_Answer_begin 1 = .ok (.iconst 4, 1) := by decide +kernel
theorem d_Answer_begin_2 : decode b_Answer_begin 2 = .ok (.putfield 15, 3) := by decide +kernel
theorem d_Answer_begin_5 : decode b_Answer_begin 5 = .ok (.aload_n 0, 1) := by decide +kernel
theorem d_Answer_begin_6 : decode b_Answer_begin 6 = .ok (.iload_n 1, 1) := by decide +kernel
theorem d_Answer_begin_7 : decode b_Answer_begin 7 = .ok (.i2l, 1) := by decide +kernel
theorem d_Answer_begin_8 : decode b_Answer_begin 8 = .ok (.iconst 1, 1) := by decide +kernel
theorem d_Answer_begin_9 : decode b_Answer_begin 9 = .ok (.invokevirtual 19, 3) := by decide +kernel
theorem d_Answer_begin_12 : decode b_Answer_begin 12 = .ok (.aload_n 0, 1) := by decide +kernel
theorem d_Answer_begin_13 : decode b_Answer_begin 13 = .ok (.iload_n 2, 1) := by decide +kernel
theorem d_Answer_begin_14 : decode b_Answer_begin 14 = .ok (.i2l, 1) := by decide +kernel
theorem d_Answer_begin_15 : decode b_Answer_begin 15 = .ok (.iconst 2, 1) := by decide +kernel
theorem d_Answer_begin_16 : decode b_Answer_begin 16 = .ok (.invokevirtual 19, 3) := by decide +kernel
theorem d_Answer_begin_19 : decode b_Answer_begin 19 = .ok (.return_, 1) := by decide +kernel
abbrev rm_Answer_begin : Room := { frames := 1, cells := 0, slots := 0, locals := 24 }
set_option maxRecDepth 100000 in
set_option maxHeartbeats 4000000 in
theorem k_Answer_begin {p : Program} {l : Launch} {e : Env} {s : State} {m : MethodId} {args : Array Value} {below : List Frame} {meth : Method} {c : Code} {t : TY} {a0 : Nat} {K : GS → Prop} (X : kX p s m args meth c b_Answer_begin 3 "TreeServer$Answer" t) (hret : meth.sig.returnType = none) (G : GS) (p1 : Int32) (p2 : Int32) (hwp : w_Answer_begin t G a0 p1 p2 K) : kW p l e rm_Answer_begin s m args below meth c (MQ below (va_Qv (fun u : GS => K u) (fun u T => HB t u T.heap) (tA t)) args s 0 0 (tA t)) 3 t false 0 [(0, va_rf (some a0)), (1, .int p1), (2, .int p2)] [] G := by
  unfold w_Answer_begin at hwp
  refine kw_aload_n (pc := 0) X d_Answer_begin_0 rfl 0 rfl ?_
  refine kw_iconst (v := 4) (pc := 1) X d_Answer_begin_1 (by decide) ?_
  obtain ⟨f1, hwp⟩ := hwp
  refine kp_45 (a := a0) (x := (4 : Int32)) (pc := 2) X rfl d_Answer_begin_2 x_269 rfl f1 ?_
  obtain ⟨G2, e_G2⟩ : ∃ g, g = si G 45 a0 (4 : Int32) := ⟨_, rfl⟩
  have hwp := hwp G2 e_G2
  refine kW.g e_G2.symm ?_
  refine kw_aload_n (pc := 5) X d_Answer_begin_5 rfl 0 rfl ?_
  refine kw_iload_n (pc := 6) X d_Answer_begin_6 rfl 1 rfl ?_
  refine kw_i2l (pc := 7) X d_Answer_begin_7 ?_
  refine kw_iconst (v := 1) (pc := 8) X d_Answer_begin_8 (by decide) ?_
  refine kcV_v (n := 2) (As := [.long p1.toInt64, .int (1 : Int32)]) (rest := []) (pc := 9) X rfl (c_Answer_put l t G2 a0 p1.toInt64 (1 : Int32) _) (cwV_of (C := "TreeServer$Answer") X x_549 x_546 x_547 x_548 x_10 (by decide +kernel) ⟨rfl, rfl⟩ (by decide)) (rv_6 X f1) rfl rfl (by decide) d_Answer_begin_9 hwp (fun G3 hwp => ?_)
  refine kw_aload_n (pc := 12) X d_Answer_begin_12 rfl 0 rfl ?_
  refine kw_iload_n (pc := 13) X d_Answer_begin_13 rfl 2 rfl ?_
  refine kw_i2l (pc := 14) X d_Answer_begin_14 ?_
  refine kw_iconst (v := 2) (pc := 15) X d_Answer_begin_15 (by decide) ?_
  refine kcV_v (n := 2) (As := [.long p2.toInt64, .int (2 : Int32)]) (rest := []) (pc := 16) X rfl (c_Answer_put l t G3 a0 p2.toInt64 (2 : Int32) _) (cwV_of (C := "TreeServer$Answer") X x_549 x_546 x_547 x_548 x_10 (by decide +kernel) ⟨rfl, rfl⟩ (by decide)) (rv_6 X f1) rfl rfl (by decide) d_Answer_begin_16 hwp (fun G4 hwp => ?_)
  exact kr_v (pc := 19) X hret d_Answer_begin_19 hwp
set_option maxRecDepth 100000 in
set_option maxHeartbeats 4000000 in
theorem c_Answer_begin (l : Launch) (t : TY) (G : GS) (a0 : Nat) (p1 : Int32) (p2 : Int32) (K : GS → Prop) : Met l y_Answer_begin (Cond.code y_Answer_begin b_Answer_begin 3 (Option.none : Option Jvm.ClassFile.FieldType) :: GW) rm_Answer_begin (va_Pc [.ref a0, .int p1, .int p2] (fun U => HB t G U.heap ∧ HK t U ∧ w_Answer_begin t G a0 p1 p2 K)) (va_Qv (fun u : GS => K u) (fun u T => HB t u T.heap) (tA t)) 0 0 (tA t) := by
  refine Met.ofW (cc := b_Answer_begin) (maxL := 3) (ret := none) (by decide) rfl ?_
  intro p e s m args below meth c s₁ B hml hv
  obtain ⟨rfl, hB, hK, hwp⟩ := hv
  have hts := atoms_spec (ws := Cond.code y_Answer_begin b_Answer_begin 3 (Option.none : Option Jvm.ClassFile.FieldType) :: GW) B.pre
  have X : kX p s m _ meth c b_Answer_begin 3 "TreeServer$Answer" t := ⟨B.exec, B.bytes, hml, findClass_of_methodNamed B.named, fun w h => hts w (List.mem_cons_of_mem _ h), B.notSynchronized, hK⟩
  have hZ : kZ t false s G s.heap [] := ⟨hB, va_S.rf, fun _ => ⟨rfl, rfl⟩⟩
  rw [lg_entry_eq]
  have hl := lv_entry ([.ref a0, .int p1, .int p2]) (n := 3) (by simp [lg_sl, rf_cat, cat_i, cat_l, cat_r])
  exact k_Answer_begin X B.returns _ _ _ hwp s.heap [] _ hl hZ
abbrev b_Message_hasKnownType : ByteArray := prog_8_method_4_code
def y_Message_hasKnownType : MethodName := ⟨"TreeServer$Message", "hasKnownType", "()Z"⟩
theorem d_Message_hasKnownType_0 : decode b_Message_hasKnownType 0 = .ok (.aload_n 0, 1) := by decide +kernel
theorem d_Message_hasKnownType_1 : decode b_Message_hasKnownType 1 = .ok (.getfield 57, 3) := by decide +kernel
theorem d_Message_hasKnownType_4 : decode b_Message_hasKnownType 4 = .ok (.bipush 100, 2) := by decide +kernel
theorem d_Message_hasKnownType_6 : decode b_Message_hasKnownType 6 = .ok (.if_icmp .eq 30, 3) := by decide +kernel
theorem d_Message_hasKnownType_9 : decode b_Message_hasKnownType 9 = .ok (.aload_n 0, 1) := by decide +kernel
theorem d_Message_hasKnownType_10 : decode b_Message_hasKnownType 10 = .ok (.getfield 57, 3) := by decide +kernel
theorem d_Message_hasKnownType_13 : decode b_Message_hasKnownType 13 = .ok (.bipush 102, 2) := by decide +kernel
theorem d_Message_hasKnownType_15 : decode b_Message_hasKnownType 15 = .ok (.if_icmp .eq 21, 3) := by decide +kernel
theorem d_Message_hasKnownType_18 : decode b_Message_hasKnownType 18 = .ok (.aload_n 0, 1) := by decide +kernel
theorem d_Message_hasKnownType_19 : decode b_Message_hasKnownType 19 = .ok (.getfield 57, 3) := by decide +kernel
theorem d_Message_hasKnownType_22 : decode b_Message_hasKnownType 22 = .ok (.bipush 104, 2) := by decide +kernel
theorem d_Message_hasKnownType_24 : decode b_Message_hasKnownType 24 = .ok (.if_icmp .eq 12, 3) := by decide +kernel
theorem d_Message_hasKnownType_27 : decode b_Message_hasKnownType 27 = .ok (.aload_n 0, 1) := by decide +kernel
theorem d_Message_hasKnownType_28 : decode b_Message_hasKnownType 28 = .ok (.getfield 57, 3) := by decide +kernel
theorem d_Message_hasKnownType_31 : decode b_Message_hasKnownType 31 = .ok (.bipush 108, 2) := by decide +kernel
theorem d_Message_hasKnownType_33 : decode b_Message_hasKnownType 33 = .ok (.if_icmp .ne 5, 3) := by decide +kernel
theorem d_Message_hasKnownType_36 : decode b_Message_hasKnownType 36 = .ok (.iconst 1, 1) := by decide +kernel
theorem d_Message_hasKnownType_37 : decode b_Message_hasKnownType 37 = .ok (.ireturn, 1) := by decide +kernel
theorem d_Message_hasKnownType_38 : decode b_Message_hasKnownType 38 = .ok (.aload_n 0, 1) := by decide +kernel
theorem d_Message_hasKnownType_39 : decode b_Message_hasKnownType 39 = .ok (.getfield 57, 3) := by decide +kernel
theorem d_Message_hasKnownType_42 : decode b_Message_hasKnownType 42 = .ok (.bipush 110, 2) := by decide +kernel
theorem d_Message_hasKnownType_44 : decode b_Message_hasKnownType 44 = .ok (.if_icmp .lt 25, 3) := by decide +kernel
theorem d_Message_hasKnownType_47 : decode b_Message_hasKnownType 47 = .ok (.aload_n 0, 1) := by decide +kernel
theorem d_Message_hasKnownType_48 : decode b_Message_hasKnownType 48 = .ok (.getfield 57, 3) := by decide +kernel
theorem d_Message_hasKnownType_51 : decode b_Message_hasKnownType 51 = .ok (.bipush 126, 2) := by decide +kernel
theorem d_Message_hasKnownType_53 : decode b_Message_hasKnownType 53 = .ok (.if_icmp .gt 16, 3) := by decide +kernel
theorem d_Message_hasKnownType_56 : decode b_Message_hasKnownType 56 = .ok (.aload_n 0, 1) := by decide +kernel
theorem d_Message_hasKnownType_57 : decode b_Message_hasKnownType 57 = .ok (.getfield 57, 3) := by decide +kernel
theorem d_Message_hasKnownType_60 : decode b_Message_hasKnownType 60 = .ok (.iconst 2, 1) := by decide +kernel
theorem d_Message_hasKnownType_61 : decode b_Message_hasKnownType 61 = .ok (.irem, 1) := by decide +kernel
theorem d_Message_hasKnownType_62 : decode b_Message_hasKnownType 62 = .ok (.ifCond .ne 7, 3) := by decide +kernel
theorem d_Message_hasKnownType_65 : decode b_Message_hasKnownType 65 = .ok (.iconst 1, 1) := by decide +kernel
theorem d_Message_hasKnownType_66 : decode b_Message_hasKnownType 66 = .ok (.goto 4, 3) := by decide +kernel
theorem d_Message_hasKnownType_69 : decode b_Message_hasKnownType 69 = .ok (.iconst 0, 1) := by decide +kernel
theorem d_Message_hasKnownType_70 : decode b_Message_hasKnownType 70 = .ok (.ireturn, 1) := by decide +kernel
abbrev rm_Message_hasKnownType : Room := { frames := 0, cells := 0, slots := 0, locals := 0 }
set_option maxRecDepth 100000 in
set_option maxHeartbeats 4000000 in
theorem k_Message_hasKnownType {p : Program} {l : Launch} {e : Env} {s : State} {m : MethodId} {args : Array Value} {below : List Frame} {meth : Method} {c : Code} {t : TY} {a0 : Nat} {G : GS} {K : Int32 → Prop} (X : kX p s m args meth c b_Message_hasKnownType 1 "TreeServer$Message" t) (hret : meth.sig.returnType = some .boolean)  (hwp : w_Message_hasKnownType t G a0 K) : kW p l e rm_Message_hasKnownType s m args below meth c (MQ below (vp_Si (fun r => isB r ∧ K r)) args s 0 0 (fun _ => False)) 1 t true 0 [(0, va_rf (some a0))] [] G := by
  unfold w_Message_hasKnownType at hwp
  refine kw_aload_n (pc := 0) X d_Message_hasKnownType_0 rfl 0 rfl ?_
  obtain ⟨f1, hwp⟩ := hwp
  refine kg_38 (a := a0) (pc := 1) X d_Message_hasKnownType_1 x_233 rfl f1 ?_
  refine kw_bipush (v := 100) (pc := 4) X d_Message_hasKnownType_4 (by decide) ?_
  refine kw_icmp_eq (tgt := 36) (pc := 6) X d_Message_hasKnownType_6 (by decide) (fun h => ?_) (fun h => ?_)
  · have hwp := ite_t h hwp
    refine kw_iconst (v := 1) (pc := 36) X d_Message_hasKnownType_36 (by decide) ?_
    exact krp_z (pc := 37) X hret d_Message_hasKnownType_37 (Or.inr rfl) hwp
  · have hwp := ite_f h hwp
    refine kw_aload_n (pc := 9) X d_Message_hasKnownType_9 rfl 0 rfl ?_
    refine kg_38 (a := a0) (pc := 10) X d_Message_hasKnownType_10 x_233 rfl f1 ?_
    refine kw_bipush (v := 102) (pc := 13) X d_Message_hasKnownType_13 (by decide) ?_
    refine kw_icmp_eq (tgt := 36) (pc := 15) X d_Message_hasKnownType_15 (by decide) (fun h => ?_) (fun h => ?_)
    · have hwp := ite_t h hwp
      refine kw_iconst (v := 1) (pc := 36) X d_Message_hasKnownType_36 (by decide) ?_
      exact krp_z (pc := 37) X hret d_Message_hasKnownType_37 (Or.inr rfl) hwp
    · have hwp := ite_f h hwp
      refine kw_aload_n (pc := 18) X d_Message_hasKnownType_18 rfl 0 rfl ?_
      refine kg_38 (a := a0) (pc := 19) X d_Message_hasKnownType_19 x_233 rfl f1 ?_
      refine kw_bipush (v := 104) (pc := 22) X d_Message_hasKnownType_22 (by decide) ?_
      refine kw_icmp_eq (tgt := 36) (pc := 24) X d_Message_hasKnownType_24 (by decide) (fun h => ?_) (fun h => ?_)
      · have hwp := ite_t h hwp
        refine kw_iconst (v := 1) (pc := 36) X d_Message_hasKnownType_36 (by decide) ?_
        exact krp_z (pc := 37) X hret d_Message_hasKnownType_37 (Or.inr rfl) hwp
      · have hwp := ite_f h hwp
        refine kw_aload_n (pc := 27) X d_Message_hasKnownType_27 rfl 0 rfl ?_
        refine kg_38 (a := a0) (pc := 28) X d_Message_hasKnownType_28 x_233 rfl f1 ?_
        refine kw_bipush (v := 108) (pc := 31) X d_Message_hasKnownType_31 (by decide) ?_
        refine kw_icmp_ne (tgt := 38) (pc := 33) X d_Message_hasKnownType_33 (by decide) (fun h => ?_) (fun h => ?_)
        · have hwp := ite_t h hwp
          refine kw_aload_n (pc := 38) X d_Message_hasKnownType_38 rfl 0 rfl ?_
          refine kg_38 (a := a0) (pc := 39) X d_Message_hasKnownType_39 x_233 rfl f1 ?_
          refine kw_bipush (v := 110) (pc := 42) X d_Message_hasKnownType_42 (by decide) ?_
          refine kw_icmp_lt (tgt := 69) (pc := 44) X d_Message_hasKnownType_44 (by decide) (fun h => ?_) (fun h => ?_)
          · have hwp := ite_t h hwp
            refine kw_iconst (v := 0) (pc := 69) X d_Message_hasKnownType_69 (by decide) ?_
            exact krp_z (pc := 70) X hret d_Message_hasKnownType_70 (Or.inl rfl) hwp
          · have hwp := ite_f h hwp
            refine kw_aload_n (pc := 47) X d_Message_hasKnownType_47 rfl 0 rfl ?_
            refine kg_38 (a := a0) (pc := 48) X d_Message_hasKnownType_48 x_233 rfl f1 ?_
            refine kw_bipush (v := 126) (pc := 51) X d_Message_hasKnownType_51 (by decide) ?_
            refine kw_icmp_gt (tgt := 69) (pc := 53) X d_Message_hasKnownType_53 (by decide) (fun h => ?_) (fun h => ?_)
            · have hwp := ite_t h hwp
              refine kw_iconst (v := 0) (pc := 69) X d_Message_hasKnownType_69 (by decide) ?_
              exact krp_z (pc := 70) X hret d_Message_hasKnownType_70 (Or.inl rfl) hwp
            · have hwp := ite_f h hwp
              refine kw_aload_n (pc := 56) X d_Message_hasKnownType_56 rfl 0 rfl ?_
              refine kg_38 (a := a0) (pc := 57) X d_Message_hasKnownType_57 x_233 rfl f1 ?_
              refine kw_iconst (v := 2) (pc := 60) X d_Message_hasKnownType_60 (by decide) ?_
              refine kw_irem (pc := 61) X d_Message_hasKnownType_61 (by decide) ?_
              refine kw_if_ne (tgt := 69) (pc := 62) X d_Message_hasKnownType_62 (by decide) (fun h => ?_) (fun h => ?_)
              · have hwp := ite_t h hwp
                refine kw_iconst (v := 0) (pc := 69) X d_Message_hasKnownType_69 (by decide) ?_
                exact krp_z (pc := 70) X hret d_Message_hasKnownType_70 (Or.inl rfl) hwp
              · have hwp := ite_f (not_not_intro h) hwp
                refine kw_iconst (v := 1) (pc := 65) X d_Message_hasKnownType_65 (by decide) ?_
                refine kw_goto (tgt := 70) (pc := 66) X d_Message_hasKnownType_66 (by decide) ?_
                exact krp_z (pc := 70) X hret d_Message_hasKnownType_70 (Or.inr rfl) hwp
        · have hwp := ite_f (not_not_intro h) hwp
          refine kw_iconst (v := 1) (pc := 36) X d_Message_hasKnownType_36 (by decide) ?_
          exact krp_z (pc := 37) X hret d_Message_hasKnownType_37 (Or.inr rfl) hwp
set_option maxRecDepth 100000 in
set_option maxHeartbeats 4000000 in
theorem c_Message_hasKnownType (l : Launch) (t : TY) (G : GS) (a0 : Nat) (K : Int32 → Prop) : Met l y_Message_hasKnownType (Cond.code y_Message_hasKnownType b_Message_hasKnownType 1 (Option.some Jvm.ClassFile.FieldType.boolean) :: GW) rm_Message_hasKnownType (va_Pc [.ref a0] (fun U => HB t G U.heap ∧ HK t U ∧ w_Message_hasKnownType t G a0 K)) (vp_Si (fun r => isB r ∧ K r)) 0 0 (fun _ => False) := by
  refine Met.ofW (cc := b_Message_hasKnownType) (maxL := 1) (ret := some .boolean) (by decide) rfl ?_
  intro p e s m args below meth c s₁ B hml hv
  obtain ⟨rfl, hB, hK, hwp⟩ := hv
  have hts := atoms_spec (ws := Cond.code y_Message_hasKnownType b_Message_hasKnownType 1 (Option.some Jvm.ClassFile.FieldType.boolean) :: GW) B.pre
  have X : kX p s m _ meth c b_Message_hasKnownType 1 "TreeServer$Message" t := ⟨B.exec, B.bytes, hml, findClass_of_methodNamed B.named, fun w h => hts w (List.mem_cons_of_mem _ h), B.notSynchronized, hK⟩
  have hZ : kZ t true s G s.heap [] := ⟨hB, va_S.rf, fun _ => ⟨rfl, rfl⟩⟩
  rw [lg_entry_eq]
  have hl := lv_entry ([.ref a0]) (n := 1) (by simp [lg_sl, rf_cat, cat_i, cat_l, cat_r])
  exact k_Message_hasKnownType X B.returns hwp s.heap [] _ hl hZ
abbrev b_Message_splitTexts : ByteArray := prog_8_method_6_code
def y_Message_splitTexts : MethodName := ⟨"TreeServer$Message", "splitTexts", "(II)Z"⟩
theorem d_Message_splitTexts_0 : decode b_Message_splitTexts 0 = .ok (.iload_n 2, 1) := by decide +kernel
theorem d_Message_splitTexts_1 : decode b_Message_splitTexts 1 = .ok (.iconst 4, 1) := by decide +kernel
theorem d_Message_splitTexts_2 : decode b_Message_splitTexts 2 = .ok (.if_icmp .le 5, 3) := by decide +kernel
theorem d_Message_splitTexts_5 : decode b_Message_splitTexts 5 = .ok (.iconst 0, 1) := by decide +kernel
theorem d_Message_splitTexts_6 : decode b_Message_splitTexts 6 = .ok (.ireturn, 1) := by decide +kernel
theorem d_Message_splitTexts_7 : decode b_Message_splitTexts 7 = .ok (.iload_n 1, 1) := by decide +kernel
theorem d_Message_splitTexts_8 : decode b_Message_splitTexts 8 = .ok (.istore_n 3, 1) := by decide +kernel
theorem d_Message_splitTexts_9 : decode b_Message_splitTexts 9 = .ok (.iconst 0, 1) := by decide +kernel
theorem d_Message_splitTexts_10 : decode b_Message_splitTexts 10 = .ok (.istore 4, 2) := by decide +kernel
theorem d_Message_splitTexts_12 : decode b_Message_splitTexts 12 = .ok (.iload 4, 2) := by decide +kernel
theorem d_Message_splitTexts_14 : decode b_Message_splitTexts 14 = .ok (.iload_n 2, 1) := by decide +kernel
theorem d_Message_splitTexts_15 : decode b_Message_splitTexts 15 = .ok (.if_icmp .ge 45, 3) := by decide +kernel
theorem d_Message_splitTexts_18 : decode b_Message_splitTexts 18 = .ok (.aload_n 0, 1) := by decide +kernel
theorem d_Message_splitTexts_19 : decode b_Message_splitTexts 19 = .ok (.getfield 15, 3) := by decide +kernel
theorem d_Message_splitTexts_22 : decode b_Message_splitTexts 22 = .ok (.iload 4, 2) := by decide +kernel
theorem d_Message_splitTexts_24 : decode b_Message_splitTexts 24 = .ok (.iload_n 3, 1) := by decide +kernel
theorem d_Message_splitTexts_25 : decode b_Message_splitTexts 25 = .ok (.iconst 2, 1) := by decide +kernel
theorem d_Message_splitTexts_26 : decode b_Message_splitTexts 26 = .ok (.iadd, 1) := by decide +kernel
theorem d_Message_splitTexts_27 : decode b_Message_splitTexts 27 = .ok (.iastore, 1) := by decide +kernel
theorem d_Message_splitTexts_28 : decode b_Message_splitTexts 28 = .ok (.aload_n 0, 1) := by decide +kernel
theorem d_Message_splitTexts_29 : decode b_Message_splitTexts 29 = .ok (.getfield 19, 3) := by decide +kernel
theorem d_Message_splitTexts_32 : decode b_Message_splitTexts 32 = .ok (.iload 4, 2) := by decide +kernel
theorem d_Message_splitTexts_34 : decode b_Message_splitTexts 34 = .ok (.aload_n 0, 1) := by decide +kernel
theorem d_Message_splitTexts_35 : decode b_Message_splitTexts 35 = .ok (.iload_n 3, 1) := by decide +kernel
theorem d_Message_splitTexts_36 : decode b_Message_splitTexts 36 = .ok (.iconst 2, 1) := by decide +kernel
theorem d_Message_splitTexts_37 : decode b_Message_splitTexts 37 = .ok (.invokevirtual 53, 3) := by decide +kernel
theorem d_Message_splitTexts_40 : decode b_Message_splitTexts 40 = .ok (.l2i, 1) := by decide +kernel
theorem d_Message_splitTexts_41 : decode b_Message_splitTexts 41 = .ok (.iastore, 1) := by decide +kernel
theorem d_Message_splitTexts_42 : decode b_Message_splitTexts 42 = .ok (.iload_n 3, 1) := by decide +kernel
theorem d_Message_splitTexts_43 : decode b_Message_splitTexts 43 = .ok (.iconst 2, 1) := by decide +kernel
theorem d_Message_splitTexts_44 : decode b_Message_splitTexts 44 = .ok (.aload_n 0, 1) := by decide +kernel
theorem d_Message_splitTexts_45 : decode b_Message_splitTexts 45 = .ok (.getfield 19, 3) := by decide +kernel
theorem d_Message_splitTexts_48 : decode b_Message_splitTexts 48 = .ok (.iload 4, 2) := by decide +kernel
theorem d_Message_splitTexts_50 : decode b_Message_splitTexts 50 = .ok (.iaload, 1) := by decide +kernel
theorem d_Message_splitTexts_51 : decode b_Message_splitTexts 51 = .ok (.iadd, 1) := by decide +kernel
theorem d_Message_splitTexts_52 : decode b_Message_splitTexts 52 = .ok (.iadd, 1) := by decide +kernel
theorem d_Message_splitTexts_53 : decode b_Message_splitTexts 53 = .ok (.istore_n 3, 1) := by decide +kernel
theorem d_Message_splitTexts_54 : decode b_Message_splitTexts 54 = .ok (.iinc 4 1, 3) := by decide +kernel
theorem d_Message_splitTexts_57 : decode b_Message_splitTexts 57 = .ok (.goto (-45), 3) := by decide +kernel
theorem d_Message_splitTexts_60 : decode b_Message_splitTexts 60 = .ok (.aload_n 0, 1) := by decide +kernel
theorem d_Message_splitTexts_61 : decode b_Message_splitTexts 61 = .ok (.iload_n 2, 1) := by decide +kernel
theorem d_Message_splitTexts_62 : decode b_Message_splitTexts 62 = .ok (.putfield 63, 3) := by decide +kernel
theorem d_Message_splitTexts_65 : decode b_Message_splitTexts 65 = .ok (.aload_n 0, 1) := by decide +kernel
theorem d_Message_splitTexts_66 : decode b_Message_splitTexts 66 = .ok (.iload_n 3, 1) := by decide +kernel
theorem d_Message_splitTexts_67 : decode b_Message_splitTexts 67 = .ok (.putfield 70, 3) := by decide +kernel
theorem d_Message_splitTexts_70 : decode b_Message_splitTexts 70 = .ok (.iload_n 3, 1) := by decide +kernel
theorem d_Message_splitTexts_71 : decode b_Message_splitTexts 71 = .ok (.aload_n 0, 1) := by decide +kernel
theorem d_Message_splitTexts_72 : decode b_Message_splitTexts 72 = .ok (.getfield 36, 3) := by decide +kernel
theorem d_Message_splitTexts_75 : decode b_Message_splitTexts 75 = .ok (.if_icmp .gt 7, 3) := by decide +kernel
theorem d_Message_splitTexts_78 : decode b_Message_splitTexts 78 = .ok (.iconst 1, 1) := by decide +kernel
theorem d_Message_splitTexts_79 : decode b_Message_splitTexts 79 = .ok (.goto 4, 3) := by decide +kernel
theorem d_Message_splitTexts_82 : decode b_Message_splitTexts 82 = .ok (.iconst 0, 1) := by decide +kernel
theorem d_Message_splitTexts_83 : decode b_Message_splitTexts 83 = .ok (.ireturn, 1) := by decide +kernel
abbrev rm_Message_splitTexts : Room := { frames := 1, cells := 0, slots := 0, locals := 26 }
set_option maxRecDepth 100000 in
set_option maxHeartbeats 4000000 in
theorem k_Message_splitTexts_12 {p : Program} {l : Launch} {e : Env} {s : State} {m : MethodId} {args : Array Value} {below : List Frame} {meth : Method} {c : Code} {t : TY} {a0 : Nat} {K : GS → Int32 → Prop} (X : kX p s m args meth c b_Message_splitTexts 5 "TreeServer$Message" t) (hret : meth.sig.returnType = some .boolean) : ∀ (n : Nat) (l2 : Int32) (l3 : Int32) (l4 : Int32) (G : GS), w_Message_splitTexts_12 t a0 K n l2 l3 l4 G → kW p l e rm_Message_splitTexts s m args below meth c (MQ below (va_Qi (fun r (u : GS) => isB r ∧ K u r) (fun u T => HB t u T.heap) (tA t)) args s 0 0 (tA t)) 5 t false 12 [(0, va_rf (some a0)), (2, .int l2), (3, .int l3), (4, .int l4)] [] G := by
  intro n
  induction n with
  | zero => intro l2 l3 l4 G hwp; exact hwp.elim
  | succ n hr_12 =>
    intro l2 l3 l4 G hwp
    unfold w_Message_splitTexts_12 at hwp
    dsimp only at hwp
    refine kw_iload (pc := 12) X d_Message_splitTexts_12 3 rfl ?_
    refine kw_iload_n (pc := 14) X d_Message_splitTexts_14 rfl 1 rfl ?_
    refine kw_icmp_ge (tgt := 60) (pc := 15) X d_Message_splitTexts_15 (by decide) (fun h => ?_) (fun h => ?_)
    · have hwp := ite_t h hwp
      refine kw_aload_n (pc := 60) X d_Message_splitTexts_60 rfl 0 rfl ?_
      refine kw_iload_n (pc := 61) X d_Message_splitTexts_61 rfl 1 rfl ?_
      obtain ⟨f1, hwp⟩ := hwp
      refine kp_42 (a := a0) (x := l2) (pc := 62) X rfl d_Message_splitTexts_62 x_240 rfl f1 ?_
      obtain ⟨G2, e_G2⟩ : ∃ g, g = si G 42 a0 l2 := ⟨_, rfl⟩
      have hwp := hwp G2 e_G2
      refine kW.g e_G2.symm ?_
      refine kw_aload_n (pc := 65) X d_Message_splitTexts_65 rfl 0 rfl ?_
      refine kw_iload_n (pc := 66) X d_Message_splitTexts_66 rfl 2 rfl ?_
      refine kp_43 (a := a0) (x := l3) (pc := 67) X rfl d_Message_splitTexts_67 x_242 rfl f1 ?_
      obtain ⟨G3, e_G3⟩ : ∃ g, g = si G2 43 a0 l3 := ⟨_, rfl⟩
      have hwp := hwp G3 e_G3
      refine kW.g e_G3.symm ?_
      refine kw_iload_n (pc := 70) X d_Message_splitTexts_70 rfl 2 rfl ?_
      refine kw_aload_n (pc := 71) X d_Message_splitTexts_71 rfl 0 rfl ?_
      refine kg_37 (a := a0) (pc := 72) X d_Message_splitTexts_72 x_231 rfl f1 ?_
      refine kw_icmp_gt (tgt := 82) (pc := 75) X d_Message_splitTexts_75 (by decide) (fun h => ?_) (fun h => ?_)
      · have hwp := ite_t h hwp
        refine kw_iconst (v := 0) (pc := 82) X d_Message_splitTexts_82 (by decide) ?_
        exact kr_z (pc := 83) X hret d_Message_splitTexts_83 (Or.inl rfl) hwp
      · have hwp := ite_f h hwp
        refine kw_iconst (v := 1) (pc := 78) X d_Message_splitTexts_78 (by decide) ?_
        refine kw_goto (tgt := 83) (pc := 79) X d_Message_splitTexts_79 (by decide) ?_
        exact kr_z (pc := 83) X hret d_Message_splitTexts_83 (Or.inr rfl) hwp
    · have hwp := ite_f h hwp
      refine kw_aload_n (pc := 18) X d_Message_splitTexts_18 rfl 0 rfl ?_
      obtain ⟨f4, hwp⟩ := hwp
      refine kg_40 (a := a0) (pc := 19) X d_Message_splitTexts_19 x_237 rfl f4 ?_
      refine kw_iload (pc := 22) X d_Message_splitTexts_22 3 rfl ?_
      refine kw_iload_n (pc := 24) X d_Message_splitTexts_24 rfl 2 rfl ?_
      refine kw_iconst (v := 2) (pc := 25) X d_Message_splitTexts_25 (by decide) ?_
      refine kw_iadd (pc := 26) X d_Message_splitTexts_26 ?_
      obtain ⟨a5, h_a5, hwp⟩ := hwp
      obtain ⟨f6, hwp⟩ := hwp
      obtain ⟨f7, hwp⟩ := hwp
      refine ka_iast (a := a5) (pc := 27) X rfl d_Message_splitTexts_27 h_a5 f6 f7 ?_
      obtain ⟨G8, e_G8⟩ : ∃ g, g = ais G a5 l4.toNatClampNeg (l3 + (2 : Int32)) := ⟨_, rfl⟩
      have hwp := hwp G8 e_G8
      refine kW.g e_G8.symm ?_
      refine kw_aload_n (pc := 28) X d_Message_splitTexts_28 rfl 0 rfl ?_
      refine kg_41 (a := a0) (pc := 29) X d_Message_splitTexts_29 x_238 rfl f4 ?_
      refine kw_iload (pc := 32) X d_Message_splitTexts_32 3 rfl ?_
      refine kw_aload_n (pc := 34) X d_Message_splitTexts_34 rfl 0 rfl ?_
      refine kw_iload_n (pc := 35) X d_Message_splitTexts_35 rfl 2 rfl ?_
      refine kw_iconst (v := 2) (pc := 36) X d_Message_splitTexts_36 (by decide) ?_
      refine kcVp_l (n := 2) (As := [.int l3, .int (2 : Int32)]) (rest := [.int l4, va_rf (gr G8 41 a0)]) (pc := 37) X (c_Message_number l t G8 a0 l3 (2 : Int32) _) (cwV_of (C := "TreeServer$Message") X x_541 x_538 x_539 x_540 x_9 (by decide +kernel) ⟨rfl, rfl⟩ (by decide)) (rv_5 X f4) rfl rfl (by simp [rf_cat, cat_i, cat_l, cat_r]) d_Message_splitTexts_37 hwp (fun v9 hwp => ?_)
      refine kw_l2i (pc := 40) X d_Message_splitTexts_40 ?_
      obtain ⟨a10, h_a10, hwp⟩ := hwp
      obtain ⟨f11, hwp⟩ := hwp
      obtain ⟨f12, hwp⟩ := hwp
      refine ka_iast (a := a10) (pc := 41) X rfl d_Message_splitTexts_41 h_a10 f11 f12 ?_
      obtain ⟨G13, e_G13⟩ : ∃ g, g = ais G8 a10 l4.toNatClampNeg v9.toInt32 := ⟨_, rfl⟩
      have hwp := hwp G13 e_G13
      refine kW.g e_G13.symm ?_
      refine kw_iload_n (pc := 42) X d_Message_splitTexts_42 rfl 2 rfl ?_
      refine kw_iconst (v := 2) (pc := 43) X d_Message_splitTexts_43 (by decide) ?_
      refine kw_aload_n (pc := 44) X d_Message_splitTexts_44 rfl 0 rfl ?_
      refine kg_41 (a := a0) (pc := 45) X d_Message_splitTexts_45 x_238 rfl f4 ?_
      refine kw_iload (pc := 48) X d_Message_splitTexts_48 3 rfl ?_
      obtain ⟨a14, h_a14, hwp⟩ := hwp
      obtain ⟨f15, hwp⟩ := hwp
      obtain ⟨f16, hwp⟩ := hwp
      refine ka_iald (a := a14) (pc := 50) X d_Message_splitTexts_50 h_a14 f15 f16 ?_
      refine kw_iadd (pc := 51) X d_Message_splitTexts_51 ?_
      refine kw_iadd (pc := 52) X d_Message_splitTexts_52 ?_
      obtain ⟨v17, e_v17⟩ : ∃ z, z = (l3 + ((2 : Int32) + (ai G13 a14 l4.toNatClampNeg))) := ⟨_, rfl⟩
      have hwp := hwp v17 e_v17
      refine kW.st (st' := .int v17 :: _) (by rw [e_v17]) ?_
      refine kw_istore_n (i := 3) (lv' := [(3, .int v17), (0, va_rf (some a0)), (2, .int l2), (4, .int l4)]) (pc := 53) X d_Message_splitTexts_53 rfl (by decide) rfl ?_
      obtain ⟨v18, e_v18⟩ : ∃ z, z = (l4 + (1 : Int32)) := ⟨_, rfl⟩
      have hwp := hwp v18 e_v18
      refine kw_iinc (v := v18) (lv' := [(4, .int v18), (3, .int v17), (0, va_rf (some a0)), (2, .int l2)]) (pc := 54) X d_Message_splitTexts_54 3 rfl (by rw [e_v18]; rfl) (by decide) rfl ?_
      refine kw_goto (tgt := 12) (pc := 57) X d_Message_splitTexts_57 (by decide) ?_
      exact kW.sub [2, 3, 1, 0] rfl (hr_12 _ _ _ _ hwp)
set_option maxRecDepth 100000 in
set_option maxHeartbeats 4000000 in
theorem k_Message_splitTexts {p : Program} {l : Launch} {e : Env} {s : State} {m : MethodId} {args : Array Value} {below : List Frame} {meth : Method} {c : Code} {t : TY} {a0 : Nat} {K : GS → Int32 → Prop} (X : kX p s m args meth c b_Message_splitTexts 5 "TreeServer$Message" t) (hret : meth.sig.returnType = some .boolean) (G : GS) (p1 : Int32) (p2 : Int32) (hwp : w_Message_splitTexts t G a0 p1 p2 K) : kW p l e rm_Message_splitTexts s m args below meth c (MQ below (va_Qi (fun r (u : GS) => isB r ∧ K u r) (fun u T => HB t u T.heap) (tA t)) args s 0 0 (tA t)) 5 t false 0 [(0, va_rf (some a0)), (1, .int p1), (2, .int p2)] [] G := by
  unfold w_Message_splitTexts at hwp
  refine kw_iload_n (pc := 0) X d_Message_splitTexts_0 rfl 2 rfl ?_
  refine kw_iconst (v := 4) (pc := 1) X d_Message_splitTexts_1 (by decide) ?_
  refine kw_icmp_le (tgt := 7) (pc := 2) X d_Message_splitTexts_2 (by decide) (fun h => ?_) (fun h => ?_)
  · have hwp := ite_t h hwp
    refine kw_iload_n (pc := 7) X d_Message_splitTexts_7 rfl 1 rfl ?_
    refine kw_istore_n (i := 3) (lv' := [(3, .int p1), (0, va_rf (some a0)), (1, .int p1), (2, .int p2)]) (pc := 8) X d_Message_splitTexts_8 rfl (by decide) rfl ?_
    refine kw_iconst (v := 0) (pc := 9) X d_Message_splitTexts_9 (by decide) ?_
    refine kw_istore (i := 4) (lv' := [(4, .int (0 : Int32)), (3, .int p1), (0, va_rf (some a0)), (1, .int p1), (2, .int p2)]) (pc := 10) X d_Message_splitTexts_10 (by decide) rfl ?_
    obtain ⟨n, hwp⟩ := hwp
    exact kW.sub [2, 4, 1, 0] rfl (k_Message_splitTexts_12 X hret  n _ _ _ _ hwp)
  · have hwp := ite_f h hwp
    refine kw_iconst (v := 0) (pc := 5) X d_Message_splitTexts_5 (by decide) ?_
    exact kr_z (pc := 6) X hret d_Message_splitTexts_6 (Or.inl rfl) hwp
set_option maxRecDepth 100000 in
set_option maxHeartbeats 4000000 in
theorem c_Message_splitTexts (l : Launch) (t : TY) (G : GS) (a0 : Nat) (p1 : Int32) (p2 : Int32) (K : GS → Int32 → Prop) : Met l y_Message_splitTexts (Cond.code y_Message_splitTexts b_Message_splitTexts 5 (Option.some Jvm.ClassFile.FieldType.boolean) :: GW) rm_Message_splitTexts (va_Pc [.ref a0, .int p1, .int p2] (fun U => HB t G U.heap ∧ HK t U ∧ w_Message_splitTexts t G a0 p1 p2 K)) (va_Qi (fun r (u : GS) => isB r ∧ K u r) (fun u T => HB t u T.heap) (tA t)) 0 0 (tA t) := by
  refine Met.ofW (cc := b_Message_splitTexts) (maxL := 5) (ret := some .boolean) (by decide) rfl ?_
  intro p e s m args below meth c s₁ B hml hv
  obtain ⟨rfl, hB, hK, hwp⟩ := hv
  have hts := atoms_spec (ws := Cond.code y_Message_splitTexts b_Message_splitTexts 5 (Option.some Jvm.ClassFile.FieldType.boolean) :: GW) B.pre
  have X : kX p s m _ meth c b_Message_splitTexts 5 "TreeServer$Message" t := ⟨B.exec, B.bytes, hml, findClass_of_methodNamed B.named, fun w h => hts w (List.mem_cons_of_mem _ h), B.notSynchronized, hK⟩
  have hZ : kZ t false s G s.heap [] := ⟨hB, va_S.rf, fun _ => ⟨rfl, rfl⟩⟩
  rw [lg_entry_eq]
  have hl := lv_entry ([.ref a0, .int p1, .int p2]) (n := 5) (by simp [lg_sl, rf_cat, cat_i, cat_l, cat_r])
  exact k_Message_splitTexts X B.returns _ _ _ hwp s.heap [] _ hl hZ
abbrev b_Message_isWellFormed : ByteArray := prog_8_method_5_code
def y_Message_isWellFormed : MethodName := ⟨"TreeServer$Message", "isWellFormed", "()Z"⟩
theorem d_Message_isWellFormed_0 : decode b_Message_isWellFormed 0 = .ok (.aload_n 0, 1) := by decide +kernel
theorem d_Message_isWellFormed_1 : decode b_Message_isWellFormed 1 = .ok (.getfield 57, 3) := by decide +kernel
theorem d_Message_isWellFormed_4 : decode b_Message_isWellFormed 4 = .ok (.tableswitch 414 100 126 #[124, 414, 151, 414, 178, 414, 414, 414, 205, 414, 220, 414, 254, 414, 269, 414, 298, 414, 313, 414, 414, 414, 414, 414, 414, 414, 347], 124) := by decide +kernel
theorem d_Message_isWellFormed_128 : decode b_Message_isWellFormed 128 = .ok (.aload_n 0, 1) := by decide +kernel
theorem d_Message_isWellFormed_129 : decode b_Message_isWellFormed 129 = .ok (.bipush 11, 2) := by decide +kernel
theorem d_Message_isWellFormed_131 : decode b_Message_isWellFormed 131 = .ok (.iconst 1, 1) := by decide +kernel
theorem d_Message_isWellFormed_132 : decode b_Message_isWellFormed 132 = .ok (.invokevirtual 66, 3) := by decide +kernel
theorem d_Message_isWellFormed_135 : decode b_Message_isWellFormed 135 = .ok (.ifCond .eq 18, 3) := by decide +kernel
theorem d_Message_isWellFormed_138 : decode b_Message_isWellFormed 138 = .ok (.aload_n 0, 1) := by decide +kernel
theorem d_Message_isWellFormed_139 : decode b_Message_isWellFormed 139 = .ok (.getfield 70, 3) := by decide +kernel
theorem d_Message_isWellFormed_142 : decode b_Message_isWellFormed 142 = .ok (.aload_n 0, 1) := by decide +kernel
theorem d_Message_isWellFormed_143 : decode b_Message_isWellFormed 143 = .ok (.getfield 36, 3) := by decide +kernel
theorem d_Message_isWellFormed_146 : decode b_Message_isWellFormed 146 = .ok (.if_icmp .ne 7, 3) := by decide +kernel
theorem d_Message_isWellFormed_149 : decode b_Message_isWellFormed 149 = .ok (.iconst 1, 1) := by decide +kernel
theorem d_Message_isWellFormed_150 : decode b_Message_isWellFormed 150 = .ok (.goto 4, 3) := by decide +kernel
theorem d_Message_isWellFormed_153 : decode b_Message_isWellFormed 153 = .ok (.iconst 0, 1) := by decide +kernel
theorem d_Message_isWellFormed_154 : decode b_Message_isWellFormed 154 = .ok (.ireturn, 1) := by decide +kernel
theorem d_Message_isWellFormed_155 : decode b_Message_isWellFormed 155 = .ok (.aload_n 0, 1) := by decide +kernel
theorem d_Message_isWellFormed_156 : decode b_Message_isWellFormed 156 = .ok (.bipush 11, 2) := by decide +kernel
theorem d_Message_isWellFormed_158 : decode b_Message_isWellFormed 158 = .ok (.iconst 2, 1) := by decide +kernel
theorem d_Message_isWellFormed_159 : decode b_Message_isWellFormed 159 = .ok (.invokevirtual 66, 3) := by decide +kernel
theorem d_Message_isWellFormed_162 : decode b_Message_isWellFormed 162 = .ok (.ifCond .eq 18, 3) := by decide +kernel
theorem d_Message_isWellFormed_165 : decode b_Message_isWellFormed 165 = .ok (.aload_n 0, 1) := by decide +kernel
theorem d_Message_isWellFormed_166 : decode b_Message_isWellFormed 166 = .ok (.getfield 70, 3) := by decide +kernel
theorem d_Message_isWellFormed_169 : decode b_Message_isWellFormed 169 = .ok (.aload_n 0, 1) := by decide +kernel
theorem d_Message_isWellFormed_170 : decode b_Message_isWellFormed 170 = .ok (.getfield 36, 3) := by decide +kernel
theorem d_Message_isWellFormed_173 : decode b_Message_isWellFormed 173 = .ok (.if_icmp .ne 7, 3) := by decide +kernel
theorem d_Message_isWellFormed_176 : decode b_Message_isWellFormed 176 = .ok (.iconst 1, 1) := by decide +kernel
theorem d_Message_isWellFormed_177 : decode b_Message_isWellFormed 177 = .ok (.goto 4, 3) := by decide +kernel
theorem d_Message_isWellFormed_180 : decode b_Message_isWellFormed 180 = .ok (.iconst 0, 1) := by decide +kernel
theorem d_Message_isWellFormed_181 : decode b_Message_isWellFormed 181 = .ok (.ireturn, 1) := by decide +kernel
theorem d_Message_isWellFormed_182 : decode b_Message_isWellFormed 182 = .ok (.aload_n 0, 1) := by decide +kernel
theorem d_Message_isWellFormed_183 : decode b_Message_isWellFormed 183 = .ok (.bipush 15, 2) := by decide +kernel
theorem d_Message_isWellFormed_185 : decode b_Message_isWellFormed 185 = .ok (.iconst 2, 1) := by decide +kernel
theorem d_Message_isWellFormed_186 : decode b_Message_isWellFormed 186 = .ok (.invokevirtual 66, 3) := by decide +kernel
theorem d_Message_isWellFormed_189 : decode b_Message_isWellFormed 189 = .ok (.ifCond .eq 18, 3) := by decide +kernel
theorem d_Message_isWellFormed_192 : decode b_Message_isWellFormed 192 = .ok (.aload_n 0, 1) := by decide +kernel
theorem d_Message_isWellFormed_193 : decode b_Message_isWellFormed 193 = .ok (.getfield 70, 3) := by decide +kernel
theorem d_Message_isWellFormed_196 : decode b_Message_isWellFormed 196 = .ok (.aload_n 0, 1) := by decide +kernel
theorem d_Message_isWellFormed_197 : decode b_Message_isWellFormed 197 = .ok (.getfield 36, 3) := by decide +kernel
theorem d_Message_isWellFormed_200 : decode b_Message_isWellFormed 200 = .ok (.if_icmp .ne 7, 3) := by decide +kernel
theorem d_Message_isWellFormed_203 : decode b_Message_isWellFormed 203 = .ok (.iconst 1, 1) := by decide +kernel
theorem d_Message_isWellFormed_204 : decode b_Message_isWellFormed 204 = .ok (.goto 4, 3) := by decide +kernel
theorem d_Message_isWellFormed_207 : decode b_Message_isWellFormed 207 = .ok (.iconst 0, 1) := by decide +kernel
theorem d_Message_isWellFormed_208 : decode b_Message_isWellFormed 208 = .ok (.ireturn, 1) := by decide +kernel
theorem d_Message_isWellFormed_209 : decode b_Message_isWellFormed 209 = .ok (.aload_n 0, 1) := by decide +kernel
theorem d_Message_isWellFormed_210 : decode b_Message_isWellFormed 210 = .ok (.getfield 36, 3) := by decide +kernel
theorem d_Message_isWellFormed_213 : decode b_Message_isWellFormed 213 = .ok (.bipush 9, 2) := by decide +kernel
theorem d_Message_isWellFormed_215 : decode b_Message_isWellFormed 215 = .ok (.if_icmp .ne 7, 3) := by decide +kernel
theorem d_Message_isWellFormed_218 : decode b_Message_isWellFormed 218 = .ok (.iconst 1, 1) := by decide +kernel
theorem d_Message_isWellFormed_219 : decode b_Message_isWellFormed 219 = .ok (.goto 4, 3) := by decide +kernel
theorem d_Message_isWellFormed_222 : decode b_Message_isWellFormed 222 = .ok (.iconst 0, 1) := by decide +kernel
theorem d_Message_isWellFormed_223 : decode b_Message_isWellFormed 223 = .ok (.ireturn, 1) := by decide +kernel
theorem d_Message_isWellFormed_224 : decode b_Message_isWellFormed 224 = .ok (.aload_n 0, 1) := by decide +kernel
theorem d_Message_isWellFormed_225 : decode b_Message_isWellFormed 225 = .ok (.bipush 17, 2) := by decide +kernel
theorem d_Message_isWellFormed_227 : decode b_Message_isWellFormed 227 = .ok (.aload_n 0, 1) := by decide +kernel
theorem d_Message_isWellFormed_228 : decode b_Message_isWellFormed 228 = .ok (.bipush 15, 2) := by decide +kernel
theorem d_Message_isWellFormed_230 : decode b_Message_isWellFormed 230 = .ok (.iconst 2, 1) := by decide +kernel
theorem d_Message_isWellFormed_231 : decode b_Message_isWellFormed 231 = .ok (.invokevirtual 53, 3) := by decide +kernel
theorem d_Message_isWellFormed_234 : decode b_Message_isWellFormed 234 = .ok (.l2i, 1) := by decide +kernel
theorem d_Message_isWellFormed_235 : decode b_Message_isWellFormed 235 = .ok (.invokevirtual 66, 3) := by decide +kernel
theorem d_Message_isWellFormed_238 : decode b_Message_isWellFormed 238 = .ok (.ifCond .eq 18, 3) := by decide +kernel
theorem d_Message_isWellFormed_241 : decode b_Message_isWellFormed 241 = .ok (.aload_n 0, 1) := by decide +kernel
theorem d_Message_isWellFormed_242 : decode b_Message_isWellFormed 242 = .ok (.getfield 70, 3) := by decide +kernel
theorem d_Message_isWellFormed_245 : decode b_Message_isWellFormed 245 = .ok (.aload_n 0, 1) := by decide +kernel
theorem d_Message_isWellFormed_246 : decode b_Message_isWellFormed 246 = .ok (.getfield 36, 3) := by decide +kernel
theorem d_Message_isWellFormed_249 : decode b_Message_isWellFormed 249 = .ok (.if_icmp .ne 7, 3) := by decide +kernel
theorem d_Message_isWellFormed_252 : decode b_Message_isWellFormed 252 = .ok (.iconst 1, 1) := by decide +kernel
theorem d_Message_isWellFormed_253 : decode b_Message_isWellFormed 253 = .ok (.goto 4, 3) := by decide +kernel
theorem d_Message_isWellFormed_256 : decode b_Message_isWellFormed 256 = .ok (.iconst 0, 1) := by decide +kernel
theorem d_Message_isWellFormed_257 : decode b_Message_isWellFormed 257 = .ok (.ireturn, 1) := by decide +kernel
theorem d_Message_isWellFormed_258 : decode b_Message_isWellFormed 258 = .ok (.aload_n 0, 1) := by decide +kernel
theorem d_Message_isWellFormed_259 : decode b_Message_isWellFormed 259 = .ok (.getfield 36, 3) := by decide +kernel
theorem d_Message_isWellFormed_262 : decode b_Message_isWellFormed 262 = .ok (.bipush 12, 2) := by decide +kernel
theorem d_Message_isWellFormed_264 : decode b_Message_isWellFormed 264 = .ok (.if_icmp .ne 7, 3) := by decide +kernel
theorem d_Message_isWellFormed_267 : decode b_Message_isWellFormed 267 = .ok (.iconst 1, 1) := by decide +kernel
theorem d_Message_isWellFormed_268 : decode b_Message_isWellFormed 268 = .ok (.goto 4, 3) := by decide +kernel
theorem d_Message_isWellFormed_271 : decode b_Message_isWellFormed 271 = .ok (.iconst 0, 1) := by decide +kernel
theorem d_Message_isWellFormed_272 : decode b_Message_isWellFormed 272 = .ok (.ireturn, 1) := by decide +kernel
theorem d_Message_isWellFormed_273 : decode b_Message_isWellFormed 273 = .ok (.aload_n 0, 1) := by decide +kernel
theorem d_Message_isWellFormed_274 : decode b_Message_isWellFormed 274 = .ok (.bipush 11, 2) := by decide +kernel
theorem d_Message_isWellFormed_276 : decode b_Message_isWellFormed 276 = .ok (.iconst 1, 1) := by decide +kernel
theorem d_Message_isWellFormed_277 : decode b_Message_isWellFormed 277 = .ok (.invokevirtual 66, 3) := by decide +kernel
theorem d_Message_isWellFormed_280 : decode b_Message_isWellFormed 280 = .ok (.ifCond .eq 20, 3) := by decide +kernel
theorem d_Message_isWellFormed_283 : decode b_Message_isWellFormed 283 = .ok (.aload_n 0, 1) := by decide +kernel
theorem d_Message_isWellFormed_284 : decode b_Message_isWellFormed 284 = .ok (.getfield 70, 3) := by decide +kernel
theorem d_Message_isWellFormed_287 : decode b_Message_isWellFormed 287 = .ok (.iconst 5, 1) := by decide +kernel
theorem d_Message_isWellFormed_288 : decode b_Message_isWellFormed 288 = .ok (.iadd, 1) := by decide +kernel
theorem d_Message_isWellFormed_289 : decode b_Message_isWellFormed 289 = .ok (.aload_n 0, 1) := by decide +kernel
theorem d_Message_isWellFormed_290 : decode b_Message_isWellFormed 290 = .ok (.getfield 36, 3) := by decide +kernel
theorem d_Message_isWellFormed_293 : decode b_Message_isWellFormed 293 = .ok (.if_icmp .ne 7, 3) := by decide +kernel
theorem d_Message_isWellFormed_296 : decode b_Message_isWellFormed 296 = .ok (.iconst 1, 1) := by decide +kernel
theorem d_Message_isWellFormed_297 : decode b_Message_isWellFormed 297 = .ok (.goto 4, 3) := by decide +kernel
theorem d_Message_isWellFormed_300 : decode b_Message_isWellFormed 300 = .ok (.iconst 0, 1) := by decide +kernel
theorem d_Message_isWellFormed_301 : decode b_Message_isWellFormed 301 = .ok (.ireturn, 1) := by decide +kernel
theorem d_Message_isWellFormed_302 : decode b_Message_isWellFormed 302 = .ok (.aload_n 0, 1) := by decide +kernel
theorem d_Message_isWellFormed_303 : decode b_Message_isWellFormed 303 = .ok (.getfield 36, 3) := by decide +kernel
theorem d_Message_isWellFormed_306 : decode b_Message_isWellFormed 306 = .ok (.bipush 23, 2) := by decide +kernel
theorem d_Message_isWellFormed_308 : decode b_Message_isWellFormed 308 = .ok (.if_icmp .ne 7, 3) := by decide +kernel
theorem d_Message_isWellFormed_311 : decode b_Message_isWellFormed 311 = .ok (.iconst 1, 1) := by decide +kernel
theorem d_Message_isWellFormed_312 : decode b_Message_isWellFormed 312 = .ok (.goto 4, 3) := by decide +kernel
theorem d_Message_isWellFormed_315 : decode b_Message_isWellFormed 315 = .ok (.iconst 0, 1) := by decide +kernel
theorem d_Message_isWellFormed_316 : decode b_Message_isWellFormed 316 = .ok (.ireturn, 1) := by decide +kernel
theorem d_Message_isWellFormed_317 : decode b_Message_isWellFormed 317 = .ok (.aload_n 0, 1) := by decide +kernel
theorem d_Message_isWellFormed_318 : decode b_Message_isWellFormed 318 = .ok (.getfield 36, 3) := by decide +kernel
theorem d_Message_isWellFormed_321 : decode b_Message_isWellFormed 321 = .ok (.bipush 23, 2) := by decide +kernel
theorem d_Message_isWellFormed_323 : decode b_Message_isWellFormed 323 = .ok (.if_icmp .lt 26, 3) := by decide +kernel
theorem d_Message_isWellFormed_326 : decode b_Message_isWellFormed 326 = .ok (.aload_n 0, 1) := by decide +kernel
theorem d_Message_isWellFormed_327 : decode b_Message_isWellFormed 327 = .ok (.bipush 19, 2) := by decide +kernel
theorem d_Message_isWellFormed_329 : decode b_Message_isWellFormed 329 = .ok (.iconst 4, 1) := by decide +kernel
theorem d_Message_isWellFormed_330 : decode b_Message_isWellFormed 330 = .ok (.invokevirtual 53, 3) := by decide +kernel
theorem d_Message_isWellFormed_333 : decode b_Message_isWellFormed 333 = .ok (.aload_n 0, 1) := by decide +kernel
theorem d_Message_isWellFormed_334 : decode b_Message_isWellFormed 334 = .ok (.getfield 36, 3) := by decide +kernel
theorem d_Message_isWellFormed_337 : decode b_Message_isWellFormed 337 = .ok (.bipush 23, 2) := by decide +kernel
theorem d_Message_isWellFormed_339 : decode b_Message_isWellFormed 339 = .ok (.isub, 1) := by decide +kernel
theorem d_Message_isWellFormed_340 : decode b_Message_isWellFormed 340 = .ok (.i2l, 1) := by decide +kernel
theorem d_Message_isWellFormed_341 : decode b_Message_isWellFormed 341 = .ok (.lcmp, 1) := by decide +kernel
theorem d_Message_isWellFormed_342 : decode b_Message_isWellFormed 342 = .ok (.ifCond .ne 7, 3) := by decide +kernel
theorem d_Message_isWellFormed_345 : decode b_Message_isWellFormed 345 = .ok (.iconst 1, 1) := by decide +kernel
theorem d_Message_isWellFormed_346 : decode b_Message_isWellFormed 346 = .ok (.goto 4, 3) := by decide +kernel
theorem d_Message_isWellFormed_349 : decode b_Message_isWellFormed 349 = .ok (.iconst 0, 1) := by decide +kernel
theorem d_Message_isWellFormed_350 : decode b_Message_isWellFormed 350 = .ok (.ireturn, 1) := by decide +kernel
theorem d_Message_isWellFormed_351 : decode b_Message_isWellFormed 351 = .ok (.aload_n 0, 1) := by decide +kernel
theorem d_Message_isWellFormed_352 : decode b_Message_isWellFormed 352 = .ok (.bipush 11, 2) := by decide +kernel
theorem d_Message_isWellFormed_354 : decode b_Message_isWellFormed 354 = .ok (.iconst 2, 1) := by decide +kernel
theorem d_Message_isWellFormed_355 : decode b_Message_isWellFormed 355 = .ok (.invokevirtual 53, 3) := by decide +kernel
theorem d_Message_isWellFormed_358 : decode b_Message_isWellFormed 358 = .ok (.aload_n 0, 1) := by decide +kernel
theorem d_Message_isWellFormed_359 : decode b_Message_isWellFormed 359 = .ok (.getfield 36, 3) := by decide +kernel
theorem d_Message_isWellFormed_362 : decode b_Message_isWellFormed 362 = .ok (.bipush 13, 2) := by decide +kernel
theorem d_Message_isWellFormed_364 : decode b_Message_isWellFormed 364 = .ok (.isub, 1) := by decide +kernel
theorem d_Message_isWellFormed_365 : decode b_Message_isWellFormed 365 = .ok (.i2l, 1) := by decide +kernel
theorem d_Message_isWellFormed_366 : decode b_Message_isWellFormed 366 = .ok (.lcmp, 1) := by decide +kernel
theorem d_Message_isWellFormed_367 : decode b_Message_isWellFormed 367 = .ok (.ifCond .ne 49, 3) := by decide +kernel
theorem d_Message_isWellFormed_370 : decode b_Message_isWellFormed 370 = .ok (.aload_n 0, 1) := by decide +kernel
theorem d_Message_isWellFormed_371 : decode b_Message_isWellFormed 371 = .ok (.bipush 13, 2) := by decide +kernel
theorem d_Message_isWellFormed_373 : decode b_Message_isWellFormed 373 = .ok (.iconst 2, 1) := by decide +kernel
theorem d_Message_isWellFormed_374 : decode b_Message_isWellFormed 374 = .ok (.invokevirtual 53, 3) := by decide +kernel
theorem d_Message_isWellFormed_377 : decode b_Message_isWellFormed 377 = .ok (.aload_n 0, 1) := by decide +kernel
theorem d_Message_isWellFormed_378 : decode b_Message_isWellFormed 378 = .ok (.getfield 36, 3) := by decide +kernel
theorem d_Message_isWellFormed_381 : decode b_Message_isWellFormed 381 = .ok (.bipush 13, 2) := by decide +kernel
theorem d_Message_isWellFormed_383 : decode b_Message_isWellFormed 383 = .ok (.isub, 1) := by decide +kernel
theorem d_Message_isWellFormed_384 : decode b_Message_isWellFormed 384 = .ok (.iconst 2, 1) := by decide +kernel
theorem d_Message_isWellFormed_385 : decode b_Message_isWellFormed 385 = .ok (.isub, 1) := by decide +kernel
theorem d_Message_isWellFormed_386 : decode b_Message_isWellFormed 386 = .ok (.i2l, 1) := by decide +kernel
theorem d_Message_isWellFormed_387 : decode b_Message_isWellFormed 387 = .ok (.lcmp, 1) := by decide +kernel
theorem d_Message_isWellFormed_388 : decode b_Message_isWellFormed 388 = .ok (.ifCond .ne 28, 3) := by decide +kernel
theorem d_Message_isWellFormed_391 : decode b_Message_isWellFormed 391 = .ok (.aload_n 0, 1) := by decide +kernel
theorem d_Message_isWellFormed_392 : decode b_Message_isWellFormed 392 = .ok (.bipush 54, 2) := by decide +kernel
theorem d_Message_isWellFormed_394 : decode b_Message_isWellFormed 394 = .ok (.iconst 4, 1) := by decide +kernel
theorem d_Message_isWellFormed_395 : decode b_Message_isWellFormed 395 = .ok (.invokevirtual 66, 3) := by decide +kernel
theorem d_Message_isWellFormed_398 : decode b_Message_isWellFormed 398 = .ok (.ifCond .eq 18, 3) := by decide +kernel
theorem d_Message_isWellFormed_401 : decode b_Message_isWellFormed 401 = .ok (.aload_n 0, 1) := by decide +kernel
theorem d_Message_isWellFormed_402 : decode b_Message_isWellFormed 402 = .ok (.getfield 70, 3) := by decide +kernel
theorem d_Message_isWellFormed_405 : decode b_Message_isWellFormed 405 = .ok (.aload_n 0, 1) := by decide +kernel
theorem d_Message_isWellFormed_406 : decode b_Message_isWellFormed 406 = .ok (.getfield 36, 3) := by decide +kernel
theorem d_Message_isWellFormed_409 : decode b_Message_isWellFormed 409 = .ok (.if_icmp .ne 7, 3) := by decide +kernel
theorem d_Message_isWellFormed_412 : decode b_Message_isWellFormed 412 = .ok (.iconst 1, 1) := by decide +kernel
theorem d_Message_isWellFormed_413 : decode b_Message_isWellFormed 413 = .ok (.goto 4, 3) := by decide +kernel
theorem d_Message_isWellFormed_416 : decode b_Message_isWellFormed 416 = .ok (.iconst 0, 1) := by decide +kernel
theorem d_Message_isWellFormed_417 : decode b_Message_isWellFormed 417 = .ok (.ireturn, 1) := by decide +kernel
theorem d_Message_isWellFormed_418 : decode b_Message_isWellFormed 418 = .ok (.aload_n 0, 1) := by decide +kernel
theorem d_Message_isWellFormed_419 : decode b_Message_isWellFormed 419 = .ok (.getfield 36, 3) := by decide +kernel
theorem d_Message_isWellFormed_422 : decode b_Message_isWellFormed 422 = .ok (.bipush 11, 2) := by decide +kernel
theorem d_Message_isWellFormed_424 : decode b_Message_isWellFormed 424 = .ok (.if_icmp .ne 7, 3) := by decide +kernel
theorem d_Message_isWellFormed_427 : decode b_Message_isWellFormed 427 = .ok (.iconst 1, 1) := by decide +kernel
theorem d_Message_isWellFormed_428 : decode b_Message_isWellFormed 428 = .ok (.goto 4, 3) := by decide +kernel
theorem d_Message_isWellFormed_431 : decode b_Message_isWellFormed 431 = .ok (.iconst 0, 1) := by decide +kernel
theorem d_Message_isWellFormed_432 : decode b_Message_isWellFormed 432 = .ok (.ireturn, 1) := by decide +kernel
abbrev rm_Message_isWellFormed : Room := { frames := 2, cells := 0, slots := 0, locals := 50 }
set_option maxRecDepth 100000 in
set_option maxHeartbeats 4000000 in
theorem k_Message_isWellFormed_418 {p : Program} {l : Launch} {e : Env} {s : State} {m : MethodId} {args : Array Value} {below : List Frame} {meth : Method} {c : Code} {t : TY} {a0 : Nat} {K : GS → Int32 → Prop} (X : kX p s m args meth c b_Message_isWellFormed 1 "TreeServer$Message" t) (hret : meth.sig.returnType = some .boolean)  (G : GS) (hwp : w_Message_isWellFormed_418 t a0 K G) : kW p l e rm_Message_isWellFormed s m args below meth c (MQ below (va_Qi (fun r (u : GS) => isB r ∧ K u r) (fun u T => HB t u T.heap) (tA t)) args s 0 0 (tA t)) 1 t false 418 [(0, va_rf (some a0))] [] G := by
  unfold w_Message_isWellFormed_418 at hwp
  refine kw_aload_n (pc := 418) X d_Message_isWellFormed_418 rfl 0 rfl ?_
  obtain ⟨f1, hwp⟩ := hwp
  refine kg_37 (a := a0) (pc := 419) X d_Message_isWellFormed_419 x_231 rfl f1 ?_
  refine kw_bipush (v := 11) (pc := 422) X d_Message_isWellFormed_422 (by decide) ?_
  refine kw_icmp_ne (tgt := 431) (pc := 424) X d_Message_isWellFormed_424 (by decide) (fun h => ?_) (fun h => ?_)
  · have hwp := ite_t h hwp
    refine kw_iconst (v := 0) (pc := 431) X d_Message_isWellFormed_431 (by decide) ?_
    exact kr_z (pc := 432) X hret d_Message_isWellFormed_432 (Or.inl rfl) hwp
  · have hwp := ite_f (not_not_intro h) hwp
    refine kw_iconst (v := 1) (pc := 427) X d_Message_isWellFormed_427 (by decide) ?_
    refine kw_goto (tgt := 432) (pc := 428) X d_Message_isWellFormed_428 (by decide) ?_
    exact kr_z (pc := 432) X hret d_Message_isWellFormed_432 (Or.inr rfl) hwp
set_option maxRecDepth 100000 in
set_option maxHeartbeats 4000000 in
theorem k_Message_isWellFormed {p : Program} {l : Launch} {e : Env} {s : State} {m : MethodId} {args : Array Value} {below : List Frame} {meth : Method} {c : Code} {t : TY} {a0 : Nat} {K : GS → Int32 → Prop} (X : kX p s m args meth c b_Message_isWellFormed 1 "TreeServer$Message" t) (hret : meth.sig.returnType = some .boolean) (G : GS)  (hwp : w_Message_isWellFormed t G a0 K) : kW p l e rm_Message_isWellFormed s m args below meth c (MQ below (va_Qi (fun r (u : GS) => isB r ∧ K u r) (fun u T => HB t u T.heap) (tA t)) args s 0 0 (tA t)) 1 t false 0 [(0, va_rf (some a0))] [] G := by
  unfold w_Message_isWellFormed at hwp
  refine kw_aload_n (pc := 0) X d_Message_isWellFormed_0 rfl 0 rfl ?_
  obtain ⟨f1, hwp⟩ := hwp
  refine kg_38 (a := a0) (pc := 1) X d_Message_isWellFormed_1 x_233 rfl f1 ?_
  obtain ⟨v2, e_v2⟩ : ∃ z, z = (gi G 38 a0) := ⟨_, rfl⟩
  have hwp := hwp v2 e_v2
  refine kW.st (st' := .int v2 :: _) (by rw [e_v2]) ?_
  by_cases q100 : v2 = (100 : Int32)
  · have hwp := ite_t q100 hwp
    refine kW.st (st' := .int (100 : Int32) :: _) (by rw [q100]) ?_
    refine kw_tableIn (off := 124) (tgt := 128) (pc := 4) X d_Message_isWellFormed_4 (by decide) (by decide) (by decide) (by decide) ?_
    refine kw_aload_n (pc := 128) X d_Message_isWellFormed_128 rfl 0 rfl ?_
    refine kw_bipush (v := 11) (pc := 129) X d_Message_isWellFormed_129 (by decide) ?_
    refine kw_iconst (v := 1) (pc := 131) X d_Message_isWellFormed_131 (by decide) ?_
    refine kcV_i (n := 2) (As := [.int (11 : Int32), .int (1 : Int32)]) (rest := []) (pc := 132) X rfl (c_Message_splitTexts l t G a0 (11 : Int32) (1 : Int32) _) (cwV_of (C := "TreeServer$Message") X x_566 x_563 x_565 xp_10 x_9 (by decide +kernel) ⟨rfl, rfl⟩ (by decide)) (rv_5 X f1) rfl rfl (by decide) d_Message_isWellFormed_132 hwp (fun v4 G3 hwp => ?_)
    obtain ⟨b_v4, hwp⟩ := hwp
    refine kw_if_eq (tgt := 153) (pc := 135) X d_Message_isWellFormed_135 (by decide) (fun h => ?_) (fun h => ?_)
    · have hwp := ite_t h hwp
      refine kw_iconst (v := 0) (pc := 153) X d_Message_isWellFormed_153 (by decide) ?_
      exact kr_z (pc := 154) X hret d_Message_isWellFormed_154 (Or.inl rfl) hwp
    · have hwp := ite_f h hwp
      refine kw_aload_n (pc := 138) X d_Message_isWellFormed_138 rfl 0 rfl ?_
      refine kg_43 (a := a0) (pc := 139) X d_Message_isWellFormed_139 x_242 rfl f1 ?_
      refine kw_aload_n (pc := 142) X d_Message_isWellFormed_142 rfl 0 rfl ?_
      refine kg_37 (a := a0) (pc := 143) X d_Message_isWellFormed_143 x_231 rfl f1 ?_
      refine kw_icmp_ne (tgt := 153) (pc := 146) X d_Message_isWellFormed_146 (by decide) (fun h => ?_) (fun h => ?_)
      · have hwp := ite_t h hwp
        refine kw_iconst (v := 0) (pc := 153) X d_Message_isWellFormed_153 (by decide) ?_
        exact kr_z (pc := 154) X hret d_Message_isWellFormed_154 (Or.inl rfl) hwp
      · have hwp := ite_f (not_not_intro h) hwp
        refine kw_iconst (v := 1) (pc := 149) X d_Message_isWellFormed_149 (by decide) ?_
        refine kw_goto (tgt := 154) (pc := 150) X d_Message_isWellFormed_150 (by decide) ?_
        exact kr_z (pc := 154) X hret d_Message_isWellFormed_154 (Or.inr rfl) hwp
  have hwp := ite_f q100 hwp
  by_cases q102 : v2 = (102 : Int32)
  · have hwp := ite_t q102 hwp
    refine kW.st (st' := .int (102 : Int32) :: _) (by rw [q102]) ?_
    refine kw_tableIn (off := 151) (tgt := 155) (pc := 4) X d_Message_isWellFormed_4 (by decide) (by decide) (by decide) (by decide) ?_
    refine kw_aload_n (pc := 155) X d_Message_isWellFormed_155 rfl 0 rfl ?_
    refine kw_bipush (v := 11) (pc := 156) X d_Message_isWellFormed_156 (by decide) ?_
    refine kw_iconst (v := 2) (pc := 158) X d_Message_isWellFormed_158 (by decide) ?_
    refine kcV_i (n := 2) (As := [.int (11 : Int32), .int (2 : Int32)]) (rest := []) (pc := 159) X rfl (c_Message_splitTexts l t G a0 (11 : Int32) (2 : Int32) _) (cwV_of (C := "TreeServer$Message") X x_566 x_563 x_565 xp_10 x_9 (by decide +kernel) ⟨rfl, rfl⟩ (by decide)) (rv_5 X f1) rfl rfl (by decide) d_Message_isWellFormed_159 hwp (fun v6 G5 hwp => ?_)
    obtain ⟨b_v6, hwp⟩ := hwp
    refine kw_if_eq (tgt := 180) (pc := 162) X d_Message_isWellFormed_162 (by decide) (fun h => ?_) (fun h => ?_)
    · have hwp := ite_t h hwp
      refine kw_iconst (v := 0) (pc := 180) X d_Message_isWellFormed_180 (by decide) ?_
      exact kr_z (pc := 181) X hret d_Message_isWellFormed_181 (Or.inl rfl) hwp
    · have hwp := ite_f h hwp
      refine kw_aload_n (pc := 165) X d_Message_isWellFormed_165 rfl 0 rfl ?_
      refine kg_43 (a := a0) (pc := 166) X d_Message_isWellFormed_166 x_242 rfl f1 ?_
      refine kw_aload_n (pc := 169) X d_Message_isWellFormed_169 rfl 0 rfl ?_
      refine kg_37 (a := a0) (pc := 170) X d_Message_isWellFormed_170 x_231 rfl f1 ?_
      refine kw_icmp_ne (tgt := 180) (pc := 173) X d_Message_isWellFormed_173 (by decide) (fun h => ?_) (fun h => ?_)
      · have hwp := ite_t h hwp
        refine kw_iconst (v := 0) (pc := 180) X d_Message_isWellFormed_180 (by decide) ?_
        exact kr_z (pc := 181) X hret d_Message_isWellFormed_181 (Or.inl rfl) hwp
      · have hwp := ite_f (not_not_intro h) hwp
        refine kw_iconst (v := 1) (pc := 176) X d_Message_isWellFormed_176 (by decide) ?_
        refine kw_goto (tgt := 181) (pc := 177) X d_Message_isWellFormed_177 (by decide) ?_
        exact kr_z (pc := 181) X hret d_Message_isWellFormed_181 (Or.inr rfl) hwp
  have hwp := ite_f q102 hwp
  by_cases q104 : v2 = (104 : Int32)
  · have hwp := ite_t q104 hwp
    refine kW.st (st' := .int (104 : Int32) :: _) (by rw [q104]) ?_
    refine kw_tableIn (off := 178) (tgt := 182) (pc := 4) X d_Message_isWellFormed_4 (by decide) (by decide) (by decide) (by decide) ?_
    refine kw_aload_n (pc := 182) X d_Message_isWellFormed_182 rfl 0 rfl ?_
    refine kw_bipush (v := 15) (pc := 183) X d_Message_isWellFormed_183 (by decide) ?_
    refine kw_iconst (v := 2) (pc := 185) X d_Message_isWellFormed_185 (by decide) ?_
    refine kcV_i (n := 2) (As := [.int (15 : Int32), .int (2 : Int32)]) (rest := []) (pc := 186) X rfl (c_Message_splitTexts l t G a0 (15 : Int32) (2 : Int32) _) (cwV_of (C := "TreeServer$Message") X x_566 x_563 x_565 xp_10 x_9 (by decide +kernel) ⟨rfl, rfl⟩ (by decide)) (rv_5 X f1) rfl rfl (by decide) d_Message_isWellFormed_186 hwp (fun v8 G7 hwp => ?_)
    obtain ⟨b_v8, hwp⟩ := hwp
    refine kw_if_eq (tgt := 207) (pc := 189) X d_Message_isWellFormed_189 (by decide) (fun h => ?_) (fun h => ?_)
    · have hwp := ite_t h hwp
      refine kw_iconst (v := 0) (pc := 207) X d_Message_isWellFormed_207 (by decide) ?_
      exact kr_z (pc := 208) X hret d_Message_isWellFormed_208 (Or.inl rfl) hwp
    · have hwp := ite_f h hwp
      refine kw_aload_n (pc := 192) X d_Message_isWellFormed_192 rfl 0 rfl ?_
      refine kg_43 (a := a0) (pc := 193) X d_Message_isWellFormed_193 x_242 rfl f1 ?_
      refine kw_aload_n (pc := 196) X d_Message_isWellFormed_196 rfl 0 rfl ?_
      refine kg_37 (a := a0) (pc := 197) X d_Message_isWellFormed_197 x_231 rfl f1 ?_
      refine kw_icmp_ne (tgt := 207) (pc := 200) X d_Message_isWellFormed_200 (by decide) (fun h => ?_) (fun h => ?_)
      · have hwp := ite_t h hwp
        refine kw_iconst (v := 0) (pc := 207) X d_Message_isWellFormed_207 (by decide) ?_
        exact kr_z (pc := 208) X hret d_Message_isWellFormed_208 (Or.inl rfl) hwp
      · have hwp := ite_f (not_not_intro h) hwp
        refine kw_iconst (v := 1) (pc := 203) X d_Message_isWellFormed_203 (by decide) ?_
        refine kw_goto (tgt := 208) (pc := 204) X d_Message_isWellFormed_204 (by decide) ?_
        exact kr_z (pc := 208) X hret d_Message_isWellFormed_208 (Or.inr rfl) hwp
  have hwp := ite_f q104 hwp
  by_cases q108 : v2 = (108 : Int32)
  · have hwp := ite_t q108 hwp
    refine kW.st (st' := .int (108 : Int32) :: _) (by rw [q108]) ?_
    refine kw_tableIn (off := 205) (tgt := 209) (pc := 4) X d_Message_isWellFormed_4 (by decide) (by decide) (by decide) (by decide) ?_
    refine kw_aload_n (pc := 209) X d_Message_isWellFormed_209 rfl 0 rfl ?_
    refine kg_37 (a := a0) (pc := 210) X d_Message_isWellFormed_210 x_231 rfl f1 ?_
    refine kw_bipush (v := 9) (pc := 213) X d_Message_isWellFormed_213 (by decide) ?_
    refine kw_icmp_ne (tgt := 222) (pc := 215) X d_Message_isWellFormed_215 (by decide) (fun h => ?_) (fun h => ?_)
    · have hwp := ite_t h hwp
      refine kw_iconst (v := 0) (pc := 222) X d_Message_isWellFormed_222 (by decide) ?_
      exact kr_z (pc := 223) X hret d_Message_isWellFormed_223 (Or.inl rfl) hwp
    · have hwp := ite_f (not_not_intro h) hwp
      refine kw_iconst (v := 1) (pc := 218) X d_Message_isWellFormed_218 (by decide) ?_
      refine kw_goto (tgt := 223) (pc := 219) X d_Message_isWellFormed_219 (by decide) ?_
      exact kr_z (pc := 223) X hret d_Message_isWellFormed_223 (Or.inr rfl) hwp
  have hwp := ite_f q108 hwp
  by_cases q110 : v2 = (110 : Int32)
  · have hwp := ite_t q110 hwp
    refine kW.st (st' := .int (110 : Int32) :: _) (by rw [q110]) ?_
    refine kw_tableIn (off := 220) (tgt := 224) (pc := 4) X d_Message_isWellFormed_4 (by decide) (by decide) (by decide) (by decide) ?_
    refine kw_aload_n (pc := 224) X d_Message_isWellFormed_224 rfl 0 rfl ?_
    refine kw_bipush (v := 17) (pc := 225) X d_Message_isWellFormed_225 (by decide) ?_
    refine kw_aload_n (pc := 227) X d_Message_isWellFormed_227 rfl 0 rfl ?_
    refine kw_bipush (v := 15) (pc := 228) X d_Message_isWellFormed_228 (by decide) ?_
    refine kw_iconst (v := 2) (pc := 230) X d_Message_isWellFormed_230 (by decide) ?_
    refine kcVp_l (n := 2) (As := [.int (15 : Int32), .int (2 : Int32)]) (rest := [.int (17 : Int32), va_rf (some a0)]) (pc := 231) X (c_Message_number l t G a0 (15 : Int32) (2 : Int32) _) (cwV_of (C := "TreeServer$Message") X x_541 x_538 x_539 x_540 x_9 (by decide +kernel) ⟨rfl, rfl⟩ (by decide)) (rv_5 X f1) rfl rfl (by simp [rf_cat, cat_i, cat_l, cat_r]) d_Message_isWellFormed_231 hwp (fun v9 hwp => ?_)
    refine kw_l2i (pc := 234) X d_Message_isWellFormed_234 ?_
    refine kcV_i (n := 2) (As := [.int (17 : Int32), .int v9.toInt32]) (rest := []) (pc := 235) X rfl (c_Message_splitTexts l t G a0 (17 : Int32) v9.toInt32 _) (cwV_of (C := "TreeServer$Message") X x_566 x_563 x_565 xp_10 x_9 (by decide +kernel) ⟨rfl, rfl⟩ (by decide)) (rv_5 X f1) rfl rfl (by decide) d_Message_isWellFormed_235 hwp (fun v11 G10 hwp => ?_)
    obtain ⟨b_v11, hwp⟩ := hwp
    refine kw_if_eq (tgt := 256) (pc := 238) X d_Message_isWellFormed_238 (by decide) (fun h => ?_) (fun h => ?_)
    · have hwp := ite_t h hwp
      refine kw_iconst (v := 0) (pc := 256) X d_Message_isWellFormed_256 (by decide) ?_
      exact kr_z (pc := 257) X hret d_Message_isWellFormed_257 (Or.inl rfl) hwp
    · have hwp := ite_f h hwp
      refine kw_aload_n (pc := 241) X d_Message_isWellFormed_241 rfl 0 rfl ?_
      refine kg_43 (a := a0) (pc := 242) X d_Message_isWellFormed_242 x_242 rfl f1 ?_
      refine kw_aload_n (pc := 245) X d_Message_isWellFormed_245 rfl 0 rfl ?_
      refine kg_37 (a := a0) (pc := 246) X d_Message_isWellFormed_246 x_231 rfl f1 ?_
      refine kw_icmp_ne (tgt := 256) (pc := 249) X d_Message_isWellFormed_249 (by decide) (fun h => ?_) (fun h => ?_)
      · have hwp := ite_t h hwp
        refine kw_iconst (v := 0) (pc := 256) X d_Message_isWellFormed_256 (by decide) ?_
        exact kr_z (pc := 257) X hret d_Message_isWellFormed_257 (Or.inl rfl) hwp
      · have hwp := ite_f (not_not_intro h) hwp
        refine kw_iconst (v := 1) (pc := 252) X d_Message_isWellFormed_252 (by decide) ?_
        refine kw_goto (tgt := 257) (pc := 253) X d_Message_isWellFormed_253 (by decide) ?_
        exact kr_z (pc := 257) X hret d_Message_isWellFormed_257 (Or.inr rfl) hwp
  have hwp := ite_f q110 hwp
  by_cases q112 : v2 = (112 : Int32)
  · have hwp := ite_t q112 hwp
    refine kW.st (st' := .int (112 : Int32) :: _) (by rw [q112]) ?_
    refine kw_tableIn (off := 254) (tgt := 258) (pc := 4) X d_Message_isWellFormed_4 (by decide) (by decide) (by decide) (by decide) ?_
    refine kw_aload_n (pc := 258) X d_Message_isWellFormed_258 rfl 0 rfl ?_
    refine kg_37 (a := a0) (pc := 259) X d_Message_isWellFormed_259 x_231 rfl f1 ?_
    refine kw_bipush (v := 12) (pc := 262) X d_Message_isWellFormed_262 (by decide) ?_
    refine kw_icmp_ne (tgt := 271) (pc := 264) X d_Message_isWellFormed_264 (by decide) (fun h => ?_) (fun h => ?_)
    · have hwp := ite_t h hwp
      refine kw_iconst (v := 0) (pc := 271) X d_Message_isWellFormed_271 (by decide) ?_
      exact kr_z (pc := 272) X hret d_Message_isWellFormed_272 (Or.inl rfl) hwp
    · have hwp := ite_f (not_not_intro h) hwp
      refine kw_iconst (v := 1) (pc := 267) X d_Message_isWellFormed_267 (by decide) ?_
      refine kw_goto (tgt := 272) (pc := 268) X d_Message_isWellFormed_268 (by decide) ?_
      exact kr_z (pc := 272) X hret d_Message_isWellFormed_272 (Or.inr rfl) hwp
  have hwp := ite_f q112 hwp
  by_cases q114 : v2 = (114 : Int32)
  · have hwp := ite_t q114 hwp
    refine kW.st (st' := .int (114 : Int32) :: _) (by rw [q114]) ?_
    refine kw_tableIn (off := 269) (tgt := 273) (pc := 4) X d_Message_isWellFormed_4 (by decide) (by decide) (by decide) (by decide) ?_
    refine kw_aload_n (pc := 273) X d_Message_isWellFormed_273 rfl 0 rfl ?_
    refine kw_bipush (v := 11) (pc := 274) X d_Message_isWellFormed_274 (by decide) ?_
    refine kw_iconst (v := 1) (pc := 276) X d_Message_isWellFormed_276 (by decide) ?_
    refine kcV_i (n := 2) (As := [.int (11 : Int32), .int (1 : Int32)]) (rest := []) (pc := 277) X rfl (c_Message_splitTexts l t G a0 (11 : Int32) (1 : Int32) _) (cwV_of (C := "TreeServer$Message") X x_566 x_563 x_565 xp_10 x_9 (by decide +kernel) ⟨rfl, rfl⟩ (by decide)) (rv_5 X f1) rfl rfl (by decide) d_Message_isWellFormed_277 hwp (fun v13 G12 hwp => ?_)
    obtain ⟨b_v13, hwp⟩ := hwp
    refine kw_if_eq (tgt := 300) (pc := 280) X d_Message_isWellFormed_280 (by decide) (fun h => ?_) (fun h => ?_)
    · have hwp := ite_t h hwp
      refine kw_iconst (v := 0) (pc := 300) X d_Message_isWellFormed_300 (by decide) ?_
      exact kr_z (pc := 301) X hret d_Message_isWellFormed_301 (Or.inl rfl) hwp
    · have hwp := ite_f h hwp
      refine kw_aload_n (pc := 283) X d_Message_isWellFormed_283 rfl 0 rfl ?_
      refine kg_43 (a := a0) (pc := 284) X d_Message_isWellFormed_284 x_242 rfl f1 ?_
      refine kw_iconst (v := 5) (pc := 287) X d_Message_isWellFormed_287 (by decide) ?_
      refine kw_iadd (pc := 288) X d_Message_isWellFormed_288 ?_
      refine kw_aload_n (pc := 289) X d_Message_isWellFormed_289 rfl 0 rfl ?_
      refine kg_37 (a := a0) (pc := 290) X d_Message_isWellFormed_290 x_231 rfl f1 ?_
      refine kw_icmp_ne (tgt := 300) (pc := 293) X d_Message_isWellFormed_293 (by decide) (fun h => ?_) (fun h => ?_)
      · have hwp := ite_t h hwp
        refine kw_iconst (v := 0) (pc := 300) X d_Message_isWellFormed_300 (by decide) ?_
        exact kr_z (pc := 301) X hret d_Message_isWellFormed_301 (Or.inl rfl) hwp
      · have hwp := ite_f (not_not_intro h) hwp
        refine kw_iconst (v := 1) (pc := 296) X d_Message_isWellFormed_296 (by decide) ?_
        refine kw_goto (tgt := 301) (pc := 297) X d_Message_isWellFormed_297 (by decide) ?_
        exact kr_z (pc := 301) X hret d_Message_isWellFormed_301 (Or.inr rfl) hwp
  have hwp := ite_f q114 hwp
  by_cases q116 : v2 = (116 : Int32)
  · have hwp := ite_t q116 hwp
    refine kW.st (st' := .int (116 : Int32) :: _) (by rw [q116]) ?_
    refine kw_tableIn (off := 298) (tgt := 302) (pc := 4) X d_Message_isWellFormed_4 (by decide) (by decide) (by decide) (by decide) ?_
    refine kw_aload_n (pc := 302) X d_Message_isWellFormed_302 rfl 0 rfl ?_
    refine kg_37 (a := a0) (pc := 303) X d_Message_isWellFormed_303 x_231 rfl f1 ?_
    refine kw_bipush (v := 23) (pc := 306) X d_Message_isWellFormed_306 (by decide) ?_
    refine kw_icmp_ne (tgt := 315) (pc := 308) X d_Message_isWellFormed_308 (by decide) (fun h => ?_) (fun h => ?_)
    · have hwp := ite_t h hwp
      refine kw_iconst (v := 0) (pc := 315) X d_Message_isWellFormed_315 (by decide) ?_
      exact kr_z (pc := 316) X hret d_Message_isWellFormed_316 (Or.inl rfl) hwp
    · have hwp := ite_f (not_not_intro h) hwp
      refine kw_iconst (v := 1) (pc := 311) X d_Message_isWellFormed_311 (by decide) ?_
      refine kw_goto (tgt := 316) (pc := 312) X d_Message_isWellFormed_312 (by decide) ?_
      exact kr_z (pc := 316) X hret d_Message_isWellFormed_316 (Or.inr rfl) hwp
  have hwp := ite_f q116 hwp
  by_cases q118 : v2 = (118 : Int32)
  · have hwp := ite_t q118 hwp
    refine kW.st (st' := .int (118 : Int32) :: _) (by rw [q118]) ?_
    refine kw_tableIn (off := 313) (tgt := 317) (pc := 4) X d_Message_isWellFormed_4 (by decide) (by decide) (by decide) (by decide) ?_
    refine kw_aload_n (pc := 317) X d_Message_isWellFormed_317 rfl 0 rfl ?_
    refine kg_37 (a := a0) (pc := 318) X d_Message_isWellFormed_318 x_231 rfl f1 ?_
    refine kw_bipush (v := 23) (pc := 321) X d_Message_isWellFormed_321 (by decide) ?_
    refine kw_icmp_lt (tgt := 349) (pc := 323) X d_Message_isWellFormed_323 (by decide) (fun h => ?_) (fun h => ?_)
    · have hwp := ite_t h hwp
      refine kw_iconst (v := 0) (pc := 349) X d_Message_isWellFormed_349 (by decide) ?_
      exact kr_z (pc := 350) X hret d_Message_isWellFormed_350 (Or.inl rfl) hwp
    · have hwp := ite_f h hwp
      refine kw_aload_n (pc := 326) X d_Message_isWellFormed_326 rfl 0 rfl ?_
      refine kw_bipush (v := 19) (pc := 327) X d_Message_isWellFormed_327 (by decide) ?_
      refine kw_iconst (v := 4) (pc := 329) X d_Message_isWellFormed_329 (by decide) ?_
      refine kcVp_l (n := 2) (As := [.int (19 : Int32), .int (4 : Int32)]) (rest := []) (pc := 330) X (c_Message_number l t G a0 (19 : Int32) (4 : Int32) _) (cwV_of (C := "TreeServer$Message") X x_541 x_538 x_539 x_540 x_9 (by decide +kernel) ⟨rfl, rfl⟩ (by decide)) (rv_5 X f1) rfl rfl (by decide) d_Message_isWellFormed_330 hwp (fun v14 hwp => ?_)
      refine kw_aload_n (pc := 333) X d_Message_isWellFormed_333 rfl 0 rfl ?_
      refine kg_37 (a := a0) (pc := 334) X d_Message_isWellFormed_334 x_231 rfl f1 ?_
      refine kw_bipush (v := 23) (pc := 337) X d_Message_isWellFormed_337 (by decide) ?_
      refine kw_isub (pc := 339) X d_Message_isWellFormed_339 ?_
      refine kw_i2l (pc := 340) X d_Message_isWellFormed_340 ?_
      refine kw_lcmp_ne (tgt := 349) (pc := 341) X d_Message_isWellFormed_341 d_Message_isWellFormed_342 (by decide) (fun h => ?_) (fun h => ?_)
      · have hwp := ite_t h hwp
        refine kw_iconst (v := 0) (pc := 349) X d_Message_isWellFormed_349 (by decide) ?_
        exact kr_z (pc := 350) X hret d_Message_isWellFormed_350 (Or.inl rfl) hwp
      · have hwp := ite_f (not_not_intro h) hwp
        refine kw_iconst (v := 1) (pc := 345) X d_Message_isWellFormed_345 (by decide) ?_
        refine kw_goto (tgt := 350) (pc := 346) X d_Message_isWellFormed_346 (by decide) ?_
        exact kr_z (pc := 350) X hret d_Message_isWellFormed_350 (Or.inr rfl) hwp
  have hwp := ite_f q118 hwp
  by_cases q126 : v2 = (126 : Int32)
  · have hwp := ite_t q126 hwp
    refine kW.st (st' := .int (126 : Int32) :: _) (by rw [q126]) ?_
    refine kw_tableIn (off := 347) (tgt := 351) (pc := 4) X d_Message_isWellFormed_4 (by decide) (by decide) (by decide) (by decide) ?_
    refine kw_aload_n (pc := 351) X d_Message_isWellFormed_351 rfl 0 rfl ?_
    refine kw_bipush (v := 11) (pc := 352) X d_Message_isWellFormed_352 (by decide) ?_
    refine kw_iconst (v := 2) (pc := 354) X d_Message_isWellFormed_354 (by decide) ?_
    refine kcVp_l (n := 2) (As := [.int (11 : Int32), .int (2 : Int32)]) (rest := []) (pc := 355) X (c_Message_number l t G a0 (11 : Int32) (2 : Int32) _) (cwV_of (C := "TreeServer$Message") X x_541 x_538 x_539 x_540 x_9 (by decide +kernel) ⟨rfl, rfl⟩ (by decide)) (rv_5 X f1) rfl rfl (by decide) d_Message_isWellFormed_355 hwp (fun v15 hwp => ?_)
    refine kw_aload_n (pc := 358) X d_Message_isWellFormed_358 rfl 0 rfl ?_
    refine kg_37 (a := a0) (pc := 359) X d_Message_isWellFormed_359 x_231 rfl f1 ?_
    refine kw_bipush (v := 13) (pc := 362) X d_Message_isWellFormed_362 (by decide) ?_
    refine kw_isub (pc := 364) X d_Message_isWellFormed_364 ?_
    refine kw_i2l (pc := 365) X d_Message_isWellFormed_365 ?_
    refine kw_lcmp_ne (tgt := 416) (pc := 366) X d_Message_isWellFormed_366 d_Message_isWellFormed_367 (by decide) (fun h => ?_) (fun h => ?_)
    · have hwp := ite_t h hwp
      refine kw_iconst (v := 0) (pc := 416) X d_Message_isWellFormed_416 (by decide) ?_
      exact kr_z (pc := 417) X hret d_Message_isWellFormed_417 (Or.inl rfl) hwp
    · have hwp := ite_f (not_not_intro h) hwp
      refine kw_aload_n (pc := 370) X d_Message_isWellFormed_370 rfl 0 rfl ?_
      refine kw_bipush (v := 13) (pc := 371) X d_Message_isWellFormed_371 (by decide) ?_
      refine kw_iconst (v := 2) (pc := 373) X d_Message_isWellFormed_373 (by decide) ?_
      refine kcVp_l (n := 2) (As := [.int (13 : Int32), .int (2 : Int32)]) (rest := []) (pc := 374) X (c_Message_number l t G a0 (13 : Int32) (2 : Int32) _) (cwV_of (C := "TreeServer$Message") X x_541 x_538 x_539 x_540 x_9 (by decide +kernel) ⟨rfl, rfl⟩ (by decide)) (rv_5 X f1) rfl rfl (by decide) d_Message_isWellFormed_374 hwp (fun v16 hwp => ?_)
      refine kw_aload_n (pc := 377) X d_Message_isWellFormed_377 rfl 0 rfl ?_
      refine kg_37 (a := a0) (pc := 378) X d_Message_isWellFormed_378 x_231 rfl f1 ?_
      refine kw_bipush (v := 13) (pc := 381) X d_Message_isWellFormed_381 (by decide) ?_
      refine kw_isub (pc := 383) X d_Message_isWellFormed_383 ?_
      refine kw_iconst (v := 2) (pc := 384) X d_Message_isWellFormed_384 (by decide) ?_
      refine kw_isub (pc := 385) X d_Message_isWellFormed_385 ?_
      refine kw_i2l (pc := 386) X d_Message_isWellFormed_386 ?_
      refine kw_lcmp_ne (tgt := 416) (pc := 387) X d_Message_isWellFormed_387 d_Message_isWellFormed_388 (by decide) (fun h => ?_) (fun h => ?_)
      · have hwp := ite_t h hwp
        refine kw_iconst (v := 0) (pc := 416) X d_Message_isWellFormed_416 (by decide) ?_
        exact kr_z (pc := 417) X hret d_Message_isWellFormed_417 (Or.inl rfl) hwp
      · have hwp := ite_f (not_not_intro h) hwp
        refine kw_aload_n (pc := 391) X d_Message_isWellFormed_391 rfl 0 rfl ?_
        refine kw_bipush (v := 54) (pc := 392) X d_Message_isWellFormed_392 (by decide) ?_
        refine kw_iconst (v := 4) (pc := 394) X d_Message_isWellFormed_394 (by decide) ?_
        refine kcV_i (n := 2) (As := [.int (54 : Int32), .int (4 : Int32)]) (rest := []) (pc := 395) X rfl (c_Message_splitTexts l t G a0 (54 : Int32) (4 : Int32) _) (cwV_of (C := "TreeServer$Message") X x_566 x_563 x_565 xp_10 x_9 (by decide +kernel) ⟨rfl, rfl⟩ (by decide)) (rv_5 X f1) rfl rfl (by decide) d_Message_isWellFormed_395 hwp (fun v18 G17 hwp => ?_)
        obtain ⟨b_v18, hwp⟩ := hwp
        refine kw_if_eq (tgt := 416) (pc := 398) X d_Message_isWellFormed_398 (by decide) (fun h => ?_) (fun h => ?_)
        · have hwp := ite_t h hwp
          refine kw_iconst (v := 0) (pc := 416) X d_Message_isWellFormed_416 (by decide) ?_
          exact kr_z (pc := 417) X hret d_Message_isWellFormed_417 (Or.inl rfl) hwp
        · have hwp := ite_f h hwp
          refine kw_aload_n (pc := 401) X d_Message_isWellFormed_401 rfl 0 rfl ?_
          refine kg_43 (a := a0) (pc := 402) X d_Message_isWellFormed_402 x_242 rfl f1 ?_
          refine kw_aload_n (pc := 405) X d_Message_isWellFormed_405 rfl 0 rfl ?_
          refine kg_37 (a := a0) (pc := 406) X d_Message_isWellFormed_406 x_231 rfl f1 ?_
          refine kw_icmp_ne (tgt := 416) (pc := 409) X d_Message_isWellFormed_409 (by decide) (fun h => ?_) (fun h => ?_)
          · have hwp := ite_t h hwp
            refine kw_iconst (v := 0) (pc := 416) X d_Message_isWellFormed_416 (by decide) ?_
            exact kr_z (pc := 417) X hret d_Message_isWellFormed_417 (Or.inl rfl) hwp
          · have hwp := ite_f (not_not_intro h) hwp
            refine kw_iconst (v := 1) (pc := 412) X d_Message_isWellFormed_412 (by decide) ?_
            refine kw_goto (tgt := 417) (pc := 413) X d_Message_isWellFormed_413 (by decide) ?_
            exact kr_z (pc := 417) X hret d_Message_isWellFormed_417 (Or.inr rfl) hwp
  have hwp := ite_f q126 hwp
  refine kw_tableDef [(100 : Int32), (102 : Int32), (104 : Int32), (108 : Int32), (110 : Int32), (112 : Int32), (114 : Int32), (116 : Int32), (118 : Int32), (126 : Int32)] (tgt := 418) (pc := 4) X d_Message_isWellFormed_4 (by decide +kernel) (by simp only [List.mem_cons, List.not_mem_nil, or_false, not_or]; exact ⟨q100, q102, q104, q108, q110, q112, q114, q116, q118, q126⟩) (by decide) ?_
  exact kW.sub [0] rfl (k_Message_isWellFormed_418 X hret  _ hwp)
set_option maxRecDepth 100000 in
set_option maxHeartbeats 4000000 in
theorem c_Message_isWellFormed (l : Launch) (t : TY) (G : GS) (a0 : Nat) (K : GS → Int32 → Prop) : Met l y_Message_isWellFormed (Cond.code y_Message_isWellFormed b_Message_isWellFormed 1 (Option.some Jvm.ClassFile.FieldType.boolean) :: GW) rm_Message_isWellFormed (va_Pc [.ref a0] (fun U => HB t G U.heap ∧ HK t U ∧ w_Message_isWellFormed t G a0 K)) (va_Qi (fun r (u : GS) => isB r ∧ K u r) (fun u T => HB t u T.heap) (tA t)) 0 0 (tA t) := by
  refine Met.ofW (cc := b_Message_isWellFormed) (maxL := 1) (ret := some .boolean) (by decide) rfl ?_
  intro p e s m args below meth c s₁ B hml hv
  obtain ⟨rfl, hB, hK, hwp⟩ := hv
  have hts := atoms_spec (ws := Cond.code y_Message_isWellFormed b_Message_isWellFormed 1 (Option.some Jvm.ClassFile.FieldType.boolean) :: GW) B.pre
  have X : kX p s m _ meth c b_Message_isWellFormed 1 "TreeServer$Message" t := ⟨B.exec, B.bytes, hml, findClass_of_methodNamed B.named, fun w h => hts w (List.mem_cons_of_mem _ h), B.notSynchronized, hK⟩
  have hZ : kZ t false s G s.heap [] := ⟨hB, va_S.rf, fun _ => ⟨rfl, rfl⟩⟩
  rw [lg_entry_eq]
  have hl := lv_entry ([.ref a0]) (n := 1) (by simp [lg_sl, rf_cat, cat_i, cat_l, cat_r])
  exact k_Message_isWellFormed X B.returns _ hwp s.heap [] _ hl hZ
abbrev b_S_firstRefusal : ByteArray := prog_1_method_18_code
def y_S_firstRefusal : MethodName := ⟨"TreeServer", "firstRefusal", "(LTreeServer$Link;)Ljava/lang/String;"⟩
theorem d_S_firstRefusal_0 : decode b_S_firstRefusal 0 = .ok (.aload_n 0, 1) := by decide +kernel
theorem d_S_firstRefusal_1 : decode b_S_firstRefusal 1 = .ok (.getfield 33, 3) := by decide +kernel
theorem d_S_firstRefusal_4 : decode b_S_firstRefusal 4 = .ok (.invokevirtual 165, 3) := by decide +kernel
theorem d_S_firstRefusal_7 : decode b_S_firstRefusal 7 = .ok (.ifCond .ne 6, 3) := by decide +kernel
theorem d_S_firstRefusal_10 : decode b_S_firstRefusal 10 = .ok (.ldc 168, 2) := by decide +kernel
theorem d_S_firstRefusal_12 : decode b_S_firstRefusal 12 = .ok (.areturn, 1) := by decide +kernel
theorem d_S_firstRefusal_13 : decode b_S_firstRefusal 13 = .ok (.aload_n 0, 1) := by decide +kernel
theorem d_S_firstRefusal_14 : decode b_S_firstRefusal 14 = .ok (.getfield 33, 3) := by decide +kernel
theorem d_S_firstRefusal_17 : decode b_S_firstRefusal 17 = .ok (.invokevirtual 169, 3) := by decide +kernel
theorem d_S_firstRefusal_20 : decode b_S_firstRefusal 20 = .ok (.ifCond .ne 6, 3) := by decide +kernel
theorem d_S_firstRefusal_23 : decode b_S_firstRefusal 23 = .ok (.ldc 172, 2) := by decide +kernel
theorem d_S_firstRefusal_25 : decode b_S_firstRefusal 25 = .ok (.areturn, 1) := by decide +kernel
theorem d_S_firstRefusal_26 : decode b_S_firstRefusal 26 = .ok (.aload_n 1, 1) := by decide +kernel
theorem d_S_firstRefusal_27 : decode b_S_firstRefusal 27 = .ok (.getfield 88, 3) := by decide +kernel
theorem d_S_firstRefusal_30 : decode b_S_firstRefusal 30 = .ok (.ifCond .ne 15, 3) := by decide +kernel
theorem d_S_firstRefusal_33 : decode b_S_firstRefusal 33 = .ok (.aload_n 0, 1) := by decide +kernel
theorem d_S_firstRefusal_34 : decode b_S_firstRefusal 34 = .ok (.getfield 33, 3) := by decide +kernel
theorem d_S_firstRefusal_37 : decode b_S_firstRefusal 37 = .ok (.getfield 130, 3) := by decide +kernel
theorem d_S_firstRefusal_40 : decode b_S_firstRefusal 40 = .ok (.bipush 100, 2) := by decide +kernel
theorem d_S_firstRefusal_42 : decode b_S_firstRefusal 42 = .ok (.if_icmp .ne 8, 3) := by decide +kernel
theorem d_S_firstRefusal_45 : decode b_S_firstRefusal 45 = .ok (.ldc 174, 2) := by decide +kernel
theorem d_S_firstRefusal_47 : decode b_S_firstRefusal 47 = .ok (.goto 5, 3) := by decide +kernel
theorem d_S_firstRefusal_50 : decode b_S_firstRefusal 50 = .ok (.ldc 176, 2) := by decide +kernel
theorem d_S_firstRefusal_52 : decode b_S_firstRefusal 52 = .ok (.areturn, 1) := by decide +kernel
abbrev rm_S_firstRefusal : Room := { frames := 3, cells := 0, slots := 0, locals := 70 }
set_option maxRecDepth 100000 in
set_option maxHeartbeats 4000000 in
theorem k_S_firstRefusal {p : Program} {l : Launch} {e : Env} {s : State} {m : MethodId} {args : Array Value} {below : List Frame} {meth : Method} {c : Code} {t : TY} {a0 : Nat} {K : GS → Option Nat → Prop} (X : kX p s m args meth c b_S_firstRefusal 2 "TreeServer" t) (hret : meth.sig.returnType = some (.object "java/lang/String")) (G : GS) (p1 : Nat) (hwp : w_S_firstRefusal t G a0 p1 K) : kW p l e rm_S_firstRefusal s m args below meth c (MQ below (va_Qq (fun r (u : GS) => K u r) (fun u T => HB t u T.heap) (tA t)) args s 0 0 (tA t)) 2 t false 0 [(0, va_rf (some a0)), (1, va_rf (some p1))] [] G := by
  unfold w_S_firstRefusal at hwp
  refine kw_aload_n (pc := 0) X d_S_firstRefusal_0 rfl 0 rfl ?_
  obtain ⟨f1, hwp⟩ := hwp
  refine kg_66 (a := a0) (pc := 1) X d_S_firstRefusal_1 x_367 rfl f1 ?_
  obtain ⟨a2, h_a2, hwp⟩ := hwp
  obtain ⟨f3, hwp⟩ := hwp
  refine kW.st (st' := [.ref a2]) (by simp only [h_a2]; rfl) ?_
  refine kcVp_i (n := 0) (As := []) (rest := []) (pc := 4) X (c_Message_hasKnownType l t G a2 _) (cwV_of (C := "TreeServer$Message") X x_557 x_554 x_555 x_556 x_9 (by decide +kernel) ⟨rfl, rfl⟩ (by decide)) (rv_5 X f3) rfl rfl (by decide) d_S_firstRefusal_4 hwp (fun v4 hwp => ?_)
  obtain ⟨b_v4, hwp⟩ := hwp
  refine kw_if_ne (tgt := 13) (pc := 7) X d_S_firstRefusal_7 (by decide) (fun h => ?_) (fun h => ?_)
  · have hwp := ite_t h hwp
    refine kw_aload_n (pc := 13) X d_S_firstRefusal_13 rfl 0 rfl ?_
    refine kg_66 (a := a0) (pc := 14) X d_S_firstRefusal_14 x_367 rfl f1 ?_
    refine kW.st (st' := [.ref a2]) (by simp only [h_a2]; rfl) ?_
    refine kcV_i (n := 0) (As := []) (rest := []) (pc := 17) X rfl (c_Message_isWellFormed l t G a2 _) (cwV_of (C := "TreeServer$Message") X x_562 x_559 x_560 x_561 x_9 (by decide +kernel) ⟨rfl, rfl⟩ (by decide)) (rv_5 X f3) rfl rfl (by decide) d_S_firstRefusal_17 hwp (fun v6 G5 hwp => ?_)
    obtain ⟨b_v6, hwp⟩ := hwp
    refine kw_if_ne (tgt := 26) (pc := 20) X d_S_firstRefusal_20 (by decide) (fun h => ?_) (fun h => ?_)
    · have hwp := ite_t h hwp
      refine kw_aload_n (pc := 26) X d_S_firstRefusal_26 rfl 1 rfl ?_
      obtain ⟨f7, hwp⟩ := hwp
      refine kg_60 (a := p1) (pc := 27) X d_S_firstRefusal_27 x_343 rfl f7 ?_
      refine kw_if_ne (tgt := 45) (pc := 30) X d_S_firstRefusal_30 (by decide) (fun h => ?_) (fun h => ?_)
      · have hwp := ite_t h hwp
        refine kw_ldcS (tx := "") (j := 2) (pc := 45) X d_S_firstRefusal_45 (by decide) rfl ?_
        refine kw_goto (tgt := 52) (pc := 47) X d_S_firstRefusal_47 (by decide) ?_
        exact kr_q (pc := 52) X hret d_S_firstRefusal_52 (Or.inl ⟨_, rfl⟩) hwp
      · have hwp := ite_f (not_not_intro h) hwp
        refine kw_aload_n (pc := 33) X d_S_firstRefusal_33 rfl 0 rfl ?_
        refine kg_66 (a := a0) (pc := 34) X d_S_firstRefusal_34 x_367 rfl f1 ?_
        obtain ⟨a8, h_a8, hwp⟩ := hwp
        obtain ⟨f9, hwp⟩ := hwp
        refine kg_38 (a := a8) (pc := 37) X d_S_firstRefusal_37 x_234 h_a8 f9 ?_
        refine kw_bipush (v := 100) (pc := 40) X d_S_firstRefusal_40 (by decide) ?_
        refine kw_icmp_ne (tgt := 50) (pc := 42) X d_S_firstRefusal_42 (by decide) (fun h => ?_) (fun h => ?_)
        · have hwp := ite_t h hwp
          refine kw_ldcS (tx := "") (j := 3) (pc := 50) X d_S_firstRefusal_50 (by decide) rfl ?_
          exact kr_q (pc := 52) X hret d_S_firstRefusal_52 (Or.inl ⟨_, rfl⟩) hwp
        · have hwp := ite_f (not_not_intro h) hwp
          refine kw_ldcS (tx := "") (j := 2) (pc := 45) X d_S_firstRefusal_45 (by decide) rfl ?_
          refine kw_goto (tgt := 52) (pc := 47) X d_S_firstRefusal_47 (by decide) ?_
          exact kr_q (pc := 52) X hret d_S_firstRefusal_52 (Or.inl ⟨_, rfl⟩) hwp
    · have hwp := ite_f (not_not_intro h) hwp
      refine kw_ldcS (tx := "") (j := 1) (pc := 23) X d_S_firstRefusal_23 (by decide) rfl ?_
      exact kr_q (pc := 25) X hret d_S_firstRefusal_25 (Or.inl ⟨_, rfl⟩) hwp
  · have hwp := ite_f (not_not_intro h) hwp
    refine kw_ldcS (tx := "") (j := 0) (pc := 10) X d_S_firstRefusal_10 (by decide) rfl ?_
    exact kr_q (pc := 12) X hret d_S_firstRefusal_12 (Or.inl ⟨_, rfl⟩) hwp
set_option maxRecDepth 100000 in
set_option maxHeartbeats 4000000 in
theorem c_S_firstRefusal (l : Launch) (t : TY) (G : GS) (a0 : Nat) (p1 : Nat) (K : GS → Option Nat → Prop) : Met l y_S_firstRefusal (Cond.code y_S_firstRefusal b_S_firstRefusal 2 (Option.some (Jvm.ClassFile.FieldType.object "java/lang/String")) :: GW) rm_S_firstRefusal (va_Pc [.ref a0, .ref p1] (fun U => HB t G U.heap ∧ HK t U ∧ w_S_firstRefusal t G a0 p1 K)) (va_Qq (fun r (u : GS) => K u r) (fun u T => HB t u T.heap) (tA t)) 0 0 (tA t) := by
  refine Met.ofW (cc := b_S_firstRefusal) (maxL := 2) (ret := some (.object "java/lang/String")) (by decide) rfl ?_
  intro p e s m args below meth c s₁ B hml hv
  obtain ⟨rfl, hB, hK, hwp⟩ := hv
  have hts := atoms_spec (ws := Cond.code y_S_firstRefusal b_S_firstRefusal 2 (Option.some (Jvm.ClassFile.FieldType.object "java/lang/String")) :: GW) B.pre
  have X : kX p s m _ meth c b_S_firstRefusal 2 "TreeServer" t := ⟨B.exec, B.bytes, hml, findClass_of_methodNamed B.named, fun w h => hts w (List.mem_cons_of_mem _ h), B.notSynchronized, hK⟩
  have hZ : kZ t false s G s.heap [] := ⟨hB, va_S.rf, fun _ => ⟨rfl, rfl⟩⟩
  rw [lg_entry_eq]
  have hl := lv_entry ([.ref a0, .ref p1]) (n := 2) (by simp [lg_sl, rf_cat, cat_i, cat_l, cat_r])
  exact k_S_firstRefusal X B.returns _ _ hwp s.heap [] _ hl hZ
abbrev b_Message_textBegins : ByteArray := prog_8_method_9_code
def y_Message_textBegins : MethodName := ⟨"TreeServer$Message", "textBegins", "(ILjava/lang/String;)Z"⟩
theorem d_Message_textBegins_0 : decode b_Message_textBegins 0 = .ok (.aload_n 0, 1) := by decide +kernel
theorem d_Message_textBegins_1 : decode b_Message_textBegins 1 = .ok (.getfield 19, 3) := by decide +kernel
theorem d_Message_textBegins_4 : decode b_Message_textBegins 4 = .ok (.iload_n 1, 1) := by decide +kernel
theorem d_Message_textBegins_5 : decode b_Message_textBegins 5 = .ok (.iaload, 1) := by decide +kernel
theorem d_Message_textBegins_6 : decode b_Message_textBegins 6 = .ok (.aload_n 2, 1) := by decide +kernel
theorem d_Message_textBegins_7 : decode b_Message_textBegins 7 = .ok (.invokevirtual 75, 3) := by decide +kernel
theorem d_Message_textBegins_10 : decode b_Message_textBegins 10 = .ok (.if_icmp .ge 5, 3) := by decide +kernel
theorem d_Message_textBegins_13 : decode b_Message_textBegins 13 = .ok (.iconst 0, 1) := by decide +kernel
theorem d_Message_textBegins_14 : decode b_Message_textBegins 14 = .ok (.ireturn, 1) := by decide +kernel
theorem d_Message_textBegins_15 : decode b_Message_textBegins 15 = .ok (.iconst 0, 1) := by decide +kernel
theorem d_Message_textBegins_16 : decode b_Message_textBegins 16 = .ok (.istore_n 3, 1) := by decide +kernel
theorem d_Message_textBegins_17 : decode b_Message_textBegins 17 = .ok (.iload_n 3, 1) := by decide +kernel
theorem d_Message_textBegins_18 : decode b_Message_textBegins 18 = .ok (.aload_n 2, 1) := by decide +kernel
theorem d_Message_textBegins_19 : decode b_Message_textBegins 19 = .ok (.invokevirtual 75, 3) := by decide +kernel
theorem d_Message_textBegins_22 : decode b_Message_textBegins 22 = .ok (.if_icmp .ge 34, 3) := by decide +kernel
theorem d_Message_textBegins_25 : decode b_Message_textBegins 25 = .ok (.aload_n 0, 1) := by decide +kernel
theorem d_Message_textBegins_26 : decode b_Message_textBegins 26 = .ok (.aload_n 0, 1) := by decide +kernel
theorem d_Message_textBegins_27 : decode b_Message_textBegins 27 = .ok (.getfield 15, 3) := by decide +kernel
theorem d_Message_textBegins_30 : decode b_Message_textBegins 30 = .ok (.iload_n 1, 1) := by decide +kernel
theorem d_Message_textBegins_31 : decode b_Message_textBegins 31 = .ok (.iaload, 1) := by decide +kernel
theorem d_Message_textBegins_32 : decode b_Message_textBegins 32 = .ok (.iload_n 3, 1) := by decide +kernel
theorem d_Message_textBegins_33 : decode b_Message_textBegins 33 = .ok (.iadd, 1) := by decide +kernel
theorem d_Message_textBegins_34 : decode b_Message_textBegins 34 = .ok (.iconst 1, 1) := by decide +kernel
theorem d_Message_textBegins_35 : decode b_Message_textBegins 35 = .ok (.invokevirtual 53, 3) := by decide +kernel
theorem d_Message_textBegins_38 : decode b_Message_textBegins 38 = .ok (.aload_n 2, 1) := by decide +kernel
theorem d_Message_textBegins_39 : decode b_Message_textBegins 39 = .ok (.iload_n 3, 1) := by decide +kernel
theorem d_Message_textBegins_40 : decode b_Message_textBegins 40 = .ok (.invokevirtual 81, 3) := by decide +kernel
theorem d_Message_textBegins_43 : decode b_Message_textBegins 43 = .ok (.i2l, 1) := by decide +kernel
theorem d_Message_textBegins_44 : decode b_Message_textBegins 44 = .ok (.lcmp, 1) := by decide +kernel
theorem d_Message_textBegins_45 : decode b_Message_textBegins 45 = .ok (.ifCond .eq 5, 3) := by decide +kernel
theorem d_Message_textBegins_48 : decode b_Message_textBegins 48 = .ok (.iconst 0, 1) := by decide +kernel
theorem d_Message_textBegins_49 : decode b_Message_textBegins 49 = .ok (.ireturn, 1) := by decide +kernel
theorem d_Message_textBegins_50 : decode b_Message_textBegins 50 = .ok (.iinc 3 1, 3) := by decide +kernel
theorem d_Message_textBegins_53 : decode b_Message_textBegins 53 = .ok (.goto (-36), 3) := by decide +kernel
theorem d_Message_textBegins_56 : decode b_Message_textBegins 56 = .ok (.iconst 1, 1) := by decide +kernel
theorem d_Message_textBegins_57 : decode b_Message_textBegins 57 = .ok (.ireturn, 1) := by decide +kernel
abbrev rm_Message_textBegins : Room := { frames := 4, cells := 0, slots := 0, locals := 100 }
set_option maxRecDepth 100000 in
set_option maxHeartbeats 4000000 in
theorem k_Message_textBegins_17 {p : Program} {l : Launch} {e : Env} {s : State} {m : MethodId} {args : Array Value} {below : List Frame} {meth : Method} {c : Code} {t : TY} {a0 : Nat} {G : GS} {K : Int32 → Prop} (X : kX p s m args meth c b_Message_textBegins 4 "TreeServer$Message" t) (hret : meth.sig.returnType = some .boolean) : ∀ (n : Nat) (l1 : Int32) (l2 : Option Nat) (l3 : Int32), w_Message_textBegins_17 t G a0 K n l1 l2 l3 → kW p l e rm_Message_textBegins s m args below meth c (MQ below (vp_Si (fun r => isB r ∧ K r)) args s 0 0 (fun _ => False)) 4 t true 17 [(0, va_rf (some a0)), (1, .int l1), (2, va_rf l2), (3, .int l3)] [] G := by
  intro n
  induction n with
  | zero => intro l1 l2 l3 hwp; exact hwp.elim
  | succ n hr_17 =>
    intro l1 l2 l3 hwp
    unfold w_Message_textBegins_17 at hwp
    dsimp only at hwp
    refine kw_iload_n (pc := 17) X d_Message_textBegins_17 rfl 3 rfl ?_
    refine kw_aload_n (pc := 18) X d_Message_textBegins_18 rfl 2 rfl ?_
    obtain ⟨j2, g_j2, h_j2, hwp⟩ := hwp
    refine kc_str_length (j := j2) (pc := 19) X d_Message_textBegins_19 x_592 g_j2 h_j2 (by decide) (by simp [rf_cat, cat_i, cat_l, cat_r]) ?_
    obtain ⟨v1, e_v1⟩ : ∃ z, z = nI (slen j2) := ⟨_, rfl⟩
    rw [← e_v1] at hwp ⊢
    refine kw_icmp_ge (tgt := 56) (pc := 22) X d_Message_textBegins_22 (by decide) (fun h => ?_) (fun h => ?_)
    · have hwp := ite_t h hwp
      refine kw_iconst (v := 1) (pc := 56) X d_Message_textBegins_56 (by decide) ?_
      exact krp_z (pc := 57) X hret d_Message_textBegins_57 (Or.inr rfl) hwp
    · have hwp := ite_f h hwp
      refine kw_aload_n (pc := 25) X d_Message_textBegins_25 rfl 0 rfl ?_
      refine kw_aload_n (pc := 26) X d_Message_textBegins_26 rfl 0 rfl ?_
      obtain ⟨f3, hwp⟩ := hwp
      refine kg_40 (a := a0) (pc := 27) X d_Message_textBegins_27 x_237 rfl f3 ?_
      refine kw_iload_n (pc := 30) X d_Message_textBegins_30 rfl 1 rfl ?_
      obtain ⟨a4, h_a4, hwp⟩ := hwp
      obtain ⟨f5, hwp⟩ := hwp
      obtain ⟨f6, hwp⟩ := hwp
      refine ka_iald (a := a4) (pc := 31) X d_Message_textBegins_31 h_a4 f5 f6 ?_
      refine kw_iload_n (pc := 32) X d_Message_textBegins_32 rfl 3 rfl ?_
      refine kw_iadd (pc := 33) X d_Message_textBegins_33 ?_
      refine kw_iconst (v := 1) (pc := 34) X d_Message_textBegins_34 (by decide) ?_
      refine kcVp_l (n := 2) (As := [.int ((ai G a4 l1.toNatClampNeg) + l3), .int (1 : Int32)]) (rest := []) (pc := 35) X (c_Message_number l t G a0 ((ai G a4 l1.toNatClampNeg) + l3) (1 : Int32) _) (cwV_of (C := "TreeServer$Message") X x_541 x_538 x_539 x_540 x_9 (by decide +kernel) ⟨rfl, rfl⟩ (by decide)) (rv_5 X f3) rfl rfl (by decide) d_Message_textBegins_35 hwp (fun v7 hwp => ?_)
      refine kw_aload_n (pc := 38) X d_Message_textBegins_38 rfl 2 rfl ?_
      refine kw_iload_n (pc := 39) X d_Message_textBegins_39 rfl 3 rfl ?_
      obtain ⟨j9, g_j9, h_j9, g_j9k, hwp⟩ := hwp
      refine kc_str_charAt (j := j9) (pc := 40) X d_Message_textBegins_40 x_602 g_j9 h_j9 g_j9k (by decide) (by simp [rf_cat, cat_i, cat_l, cat_r]) ?_
      obtain ⟨v8, e_v8⟩ : ∃ z, z = sch j9 l3.toNatClampNeg := ⟨_, rfl⟩
      rw [← e_v8] at hwp ⊢
      refine kw_i2l (pc := 43) X d_Message_textBegins_43 ?_
      refine kw_lcmp_eq (tgt := 50) (pc := 44) X d_Message_textBegins_44 d_Message_textBegins_45 (by decide) (fun h => ?_) (fun h => ?_)
      · have hwp := ite_t h hwp
        obtain ⟨v10, e_v10⟩ : ∃ z, z = (l3 + (1 : Int32)) := ⟨_, rfl⟩
        have hwp := hwp v10 e_v10
        refine kw_iinc (v := v10) (lv' := [(3, .int v10), (0, va_rf (some a0)), (1, .int l1), (2, va_rf l2)]) (pc := 50) X d_Message_textBegins_50 3 rfl (by rw [e_v10]; rfl) (by decide) (by simp [rf_cat, cat_i, cat_l, cat_r]) ?_
        refine kw_goto (tgt := 17) (pc := 53) X d_Message_textBegins_53 (by decide) ?_
        exact kW.sub [1, 2, 3, 0] rfl (hr_17 _ _ _ hwp)
      · have hwp := ite_f h hwp
        refine kw_iconst (v := 0) (pc := 48) X d_Message_textBegins_48 (by decide) ?_
        exact krp_z (pc := 49) X hret d_Message_textBegins_49 (Or.inl rfl) hwp
set_option maxRecDepth 100000 in
set_option maxHeartbeats 4000000 in
theorem k_Message_textBegins {p : Program} {l : Launch} {e : Env} {s : State} {m : MethodId} {args : Array Value} {below : List Frame} {meth : Method} {c : Code} {t : TY} {a0 : Nat} {G : GS} {K : Int32 → Prop} (X : kX p s m args meth c b_Message_textBegins 4 "TreeServer$Message" t) (hret : meth.sig.returnType = some .boolean) (p1 : Int32) (p2 : Option Nat) (hwp : w_Message_textBegins t G a0 p1 p2 K) : kW p l e rm_Message_textBegins s m args below meth c (MQ below (vp_Si (fun r => isB r ∧ K r)) args s 0 0 (fun _ => False)) 4 t true 0 [(0, va_rf (some a0)), (1, .int p1), (2, va_rf p2)] [] G := by
  unfold w_Message_textBegins at hwp
  refine kw_aload_n (pc := 0) X d_Message_textBegins_0 rfl 0 rfl ?_
  obtain ⟨f1, hwp⟩ := hwp
  refine kg_41 (a := a0) (pc := 1) X d_Message_textBegins_1 x_238 rfl f1 ?_
  refine kw_iload_n (pc := 4) X d_Message_textBegins_4 rfl 1 rfl ?_
  obtain ⟨a2, h_a2, hwp⟩ := hwp
  obtain ⟨f3, hwp⟩ := hwp
  obtain ⟨f4, hwp⟩ := hwp
  refine ka_iald (a := a2) (pc := 5) X d_Message_textBegins_5 h_a2 f3 f4 ?_
  refine kw_aload_n (pc := 6) X d_Message_textBegins_6 rfl 2 rfl ?_
  obtain ⟨j6, g_j6, h_j6, hwp⟩ := hwp
  refine kc_str_length (j := j6) (pc := 7) X d_Message_textBegins_7 x_592 g_j6 h_j6 (by decide) (by simp [rf_cat, cat_i, cat_l, cat_r]) ?_
  obtain ⟨v5, e_v5⟩ : ∃ z, z = nI (slen j6) := ⟨_, rfl⟩
  rw [← e_v5] at hwp ⊢
  refine kw_icmp_ge (tgt := 15) (pc := 10) X d_Message_textBegins_10 (by decide) (fun h => ?_) (fun h => ?_)
  · have hwp := ite_t h hwp
    refine kw_iconst (v := 0) (pc := 15) X d_Message_textBegins_15 (by decide) ?_
    refine kw_istore_n (i := 3) (lv' := [(3, .int (0 : Int32)), (0, va_rf (some a0)), (1, .int p1), (2, va_rf p2)]) (pc := 16) X d_Message_textBegins_16 rfl (by decide) (by simp [rf_cat, cat_i, cat_l, cat_r]) ?_
    obtain ⟨n, hwp⟩ := hwp
    exact kW.sub [1, 2, 3, 0] rfl (k_Message_textBegins_17 X hret  n _ _ _ hwp)
  · have hwp := ite_f h hwp
    refine kw_iconst (v := 0) (pc := 13) X d_Message_textBegins_13 (by decide) ?_
    exact krp_z (pc := 14) X hret d_Message_textBegins_14 (Or.inl rfl) hwp
set_option maxRecDepth 100000 in
set_option maxHeartbeats 4000000 in
theorem c_Message_textBegins (l : Launch) (t : TY) (G : GS) (a0 : Nat) (p1 : Int32) (p2 : Option Nat) (K : Int32 → Prop) : Met l y_Message_textBegins (Cond.code y_Message_textBegins b_Message_textBegins 4 (Option.some Jvm.ClassFile.FieldType.boolean) :: GW) rm_Message_textBegins (va_Pc [.ref a0, .int p1, va_rf p2] (fun U => HB t G U.heap ∧ HK t U ∧ w_Message_textBegins t G a0 p1 p2 K)) (vp_Si (fun r => isB r ∧ K r)) 0 0 (fun _ => False) := by
  refine Met.ofW (cc := b_Message_textBegins) (maxL := 4) (ret := some .boolean) (by decide) rfl ?_
  intro p e s m args below meth c s₁ B hml hv
  obtain ⟨rfl, hB, hK, hwp⟩ := hv
  have hts := atoms_spec (ws := Cond.code y_Message_textBegins b_Message_textBegins 4 (Option.some Jvm.ClassFile.FieldType.boolean) :: GW) B.pre
  have X : kX p s m _ meth c b_Message_textBegins 4 "TreeServer$Message" t := ⟨B.exec, B.bytes, hml, findClass_of_methodNamed B.named, fun w h => hts w (List.mem_cons_of_mem _ h), B.notSynchronized, hK⟩
  have hZ : kZ t true s G s.heap [] := ⟨hB, va_S.rf, fun _ => ⟨rfl, rfl⟩⟩
  rw [lg_entry_eq]
  have hl := lv_entry ([.ref a0, .int p1, va_rf p2]) (n := 4) (by simp [lg_sl, rf_cat, cat_i, cat_l, cat_r])
  rw [show lv_args 0 [.ref a0, .int p1, va_rf p2] = [(0, .ref a0), (1, .int p1), (2, va_rf p2)] from by simp [lv_args, rf_cat, cat_i, cat_l, cat_r]] at hl
  exact k_Message_textBegins X B.returns _ _ hwp s.heap [] _ hl hZ
abbrev b_Answer_putText : ByteArray := prog_2_method_6_code
def y_Answer_putText : MethodName := ⟨"TreeServer$Answer", "putText", "(Ljava/lang/String;)V"⟩
theorem d_Answer_putText_0 : decode b_Answer_putText 0 = .ok (.aload_n 0, 1) := by decide +kernel
theorem d_Answer_putText_1 : decode b_Answer_putText 1 = .ok (.aload_n 1, 1) := by decide +kernel
theorem d_Answer_putText_2 : decode b_Answer_putText 2 = .ok (.invokevirtual 53, 3) := by decide +kernel
theorem d_Answer_putText_5 : decode b_Answer_putText 5 = .ok (.i2l, 1) := by decide +kernel
theorem d_Answer_putText_6 : decode b_Answer_putText 6 = .ok (.iconst 2, 1) := by decide +kernel
theorem d_Answer_putText_7 : decode b_Answer_putText 7 = .ok (.invokevirtual 19, 3) := by decide +kernel
theorem d_Answer_putText_10 : decode b_Answer_putText 10 = .ok (.iconst 0, 1) := by decide +kernel
theorem d_Answer_putText_11 : decode b_Answer_putText 11 = .ok (.istore_n 2, 1) := by decide +kernel
theorem d_Answer_putText_12 : decode b_Answer_putText 12 = .ok (.iload_n 2, 1) := by decide +kernel
theorem d_Answer_putText_13 : decode b_Answer_putText 13 = .ok (.aload_n 1, 1) := by decide +kernel
theorem d_Answer_putText_14 : decode b_Answer_putText 14 = .ok (.invokevirtual 53, 3) := by decide +kernel
theorem d_Answer_putText_17 : decode b_Answer_putText 17 = .ok (.if_icmp .ge 20, 3) := by decide +kernel
theorem d_Answer_putText_20 : decode b_Answer_putText 20 = .ok (.aload_n 0, 1) := by decide +kernel
theorem d_Answer_putText_21 : decode b_Answer_putText 21 = .ok (.aload_n 1, 1) := by decide +kernel
theorem d_Answer_putText_22 : decode b_Answer_putText 22 = .ok (.iload_n 2, 1) := by decide +kernel
theorem d_Answer_putText_23 : decode b_Answer_putText 23 = .ok (.invokevirtual 56, 3) := by decide +kernel
theorem d_Answer_putText_26 : decode b_Answer_putText 26 = .ok (.i2l, 1) := by decide +kernel
theorem d_Answer_putText_27 : decode b_Answer_putText 27 = .ok (.iconst 1, 1) := by decide +kernel
theorem d_Answer_putText_28 : decode b_Answer_putText 28 = .ok (.invokevirtual 19, 3) := by decide +kernel
theorem d_Answer_putText_31 : decode b_Answer_putText 31 = .ok (.iinc 2 1, 3) := by decide +kernel
theorem d_Answer_putText_34 : decode b_Answer_putText 34 = .ok (.goto (-22), 3) := by decide +kernel
theorem d_Answer_putText_37 : decode b_Answer_putText 37 = .ok (.return_, 1) := by decide +kernel
abbrev rm_Answer_putText : Room := { frames := 4, cells := 0, slots := 0, locals := 100 }
set_option maxRecDepth 100000 in
set_option maxHeartbeats 4000000 in
theorem k_Answer_putText_12 {p : Program} {l : Launch} {e : Env} {s : State} {m : MethodId} {args : Array Value} {below : List Frame} {meth : Method} {c : Code} {t : TY} {a0 : Nat} {K : GS → Prop} (X : kX p s m args meth c b_Answer_putText 3 "TreeServer$Answer" t) (hret : meth.sig.returnType = none) : ∀ (n : Nat) (l1 : Option Nat) (l2 : Int32) (G : GS), w_Answer_putText_12 t a0 K n l1 l2 G → kW p l e rm_Answer_putText s m args below meth c (MQ below (va_Qv (fun u : GS => K u) (fun u T => HB t u T.heap) (tA t)) args s 0 0 (tA t)) 3 t false 12 [(0, va_rf (some a0)), (1, va_rf l1), (2, .int l2)] [] G := by
  intro n
  induction n with
  | zero => intro l1 l2 G hwp; exact hwp.elim
  | succ n hr_12 =>
    intro l1 l2 G hwp
    unfold w_Answer_putText_12 at hwp
    dsimp only at hwp
    refine kw_iload_n (pc := 12) X d_Answer_putText_12 rfl 2 rfl ?_
    refine kw_aload_n (pc := 13) X d_Answer_putText_13 rfl 1 rfl ?_
    obtain ⟨j2, g_j2, h_j2, hwp⟩ := hwp
    refine kc_str_length (j := j2) (pc := 14) X d_Answer_putText_14 x_646 g_j2 h_j2 (by decide) (by simp [rf_cat, cat_i, cat_l, cat_r]) ?_
    obtain ⟨v1, e_v1⟩ : ∃ z, z = nI (slen j2) := ⟨_, rfl⟩
    rw [← e_v1] at hwp ⊢
    refine kw_icmp_ge (tgt := 37) (pc := 17) X d_Answer_putText_17 (by decide) (fun h => ?_) (fun h => ?_)
    · have hwp := ite_t h hwp
      exact kr_v (pc := 37) X hret d_Answer_putText_37 hwp
    · have hwp := ite_f h hwp
      refine kw_aload_n (pc := 20) X d_Answer_putText_20 rfl 0 rfl ?_
      refine kw_aload_n (pc := 21) X d_Answer_putText_21 rfl 1 rfl ?_
      refine kw_iload_n (pc := 22) X d_Answer_putText_22 rfl 2 rfl ?_
      obtain ⟨j4, g_j4, h_j4, g_j4k, hwp⟩ := hwp
      refine kc_str_charAt (j := j4) (pc := 23) X d_Answer_putText_23 x_647 g_j4 h_j4 g_j4k (by decide) (by simp [rf_cat, cat_i, cat_l, cat_r]) ?_
      obtain ⟨v3, e_v3⟩ : ∃ z, z = sch j4 l2.toNatClampNeg := ⟨_, rfl⟩
      rw [← e_v3] at hwp ⊢
      refine kw_i2l (pc := 26) X d_Answer_putText_26 ?_
      refine kw_iconst (v := 1) (pc := 27) X d_Answer_putText_27 (by decide) ?_
      obtain ⟨f5, hwp⟩ := hwp
      refine kcV_v (n := 2) (As := [.long v3.toInt64, .int (1 : Int32)]) (rest := []) (pc := 28) X rfl (c_Answer_put l t G a0 v3.toInt64 (1 : Int32) _) (cwV_of (C := "TreeServer$Answer") X x_549 x_546 x_547 x_548 x_10 (by decide +kernel) ⟨rfl, rfl⟩ (by decide)) (rv_6 X f5) rfl rfl (by decide) d_Answer_putText_28 hwp (fun G6 hwp => ?_)
      obtain ⟨v7, e_v7⟩ : ∃ z, z = (l2 + (1 : Int32)) := ⟨_, rfl⟩
      have hwp := hwp v7 e_v7
      refine kw_iinc (v := v7) (lv' := [(2, .int v7), (0, va_rf (some a0)), (1, va_rf l1)]) (pc := 31) X d_Answer_putText_31 2 rfl (by rw [e_v7]; rfl) (by decide) (by simp [rf_cat, cat_i, cat_l, cat_r]) ?_
      refine kw_goto (tgt := 12) (pc := 34) X d_Answer_putText_34 (by decide) ?_
      exact kW.sub [1, 2, 0] rfl (hr_12 _ _ _ hwp)
set_option maxRecDepth 100000 in
set_option maxHeartbeats 4000000 in
theorem k_Answer_putText {p : Program} {l : Launch} {e : Env} {s : State} {m : MethodId} {args : Array Value} {below : List Frame} {meth : Method} {c : Code} {t : TY} {a0 : Nat} {K : GS → Prop} (X : kX p s m args meth c b_Answer_putText 3 "TreeServer$Answer" t) (hret : meth.sig.returnType = none) (G : GS) (p1 : Option Nat) (hwp : w_Answer_putText t G a0 p1 K) : kW p l e rm_Answer_putText s m args below meth c (MQ below (va_Qv (fun u : GS => K u) (fun u T => HB t u T.heap) (tA t)) args s 0 0 (tA t)) 3 t false 0 [(0, va_rf (some a0)), (1, va_rf p1)] [] G := by
  unfold w_Answer_putText at hwp
  refine kw_aload_n (pc := 0) X d_Answer_putText_0 rfl 0 rfl ?_
  refine kw_aload_n (pc := 1) X d_Answer_putText_1 rfl 1 rfl ?_
  obtain ⟨j2, g_j2, h_j2, hwp⟩ := hwp
  refine kc_str_length (j := j2) (pc := 2) X d_Answer_putText_2 x_646 g_j2 h_j2 (by decide) (by simp [rf_cat, cat_i, cat_l, cat_r]) ?_
  obtain ⟨v1, e_v1⟩ : ∃ z, z = nI (slen j2) := ⟨_, rfl⟩
  rw [← e_v1] at hwp ⊢
  refine kw_i2l (pc := 5) X d_Answer_putText_5 ?_
  refine kw_iconst (v := 2) (pc := 6) X d_Answer_putText_6 (by decide) ?_
  obtain ⟨f3, hwp⟩ := hwp
  refine kcV_v (n := 2) (As := [.long v1.toInt64, .int (2 : Int32)]) (rest := []) (pc := 7) X rfl (c_Answer_put l t G a0 v1.toInt64 (2 : Int32) _) (cwV_of (C := "TreeServer$Answer") X x_549 x_546 x_547 x_548 x_10 (by decide +kernel) ⟨rfl, rfl⟩ (by decide)) (rv_6 X f3) rfl rfl (by decide) d_Answer_putText_7 hwp (fun G4 hwp => ?_)
  refine kw_iconst (v := 0) (pc := 10) X d_Answer_putText_10 (by decide) ?_
  refine kw_istore_n (i := 2) (lv' := [(2, .int (0 : Int32)), (0, va_rf (some a0)), (1, va_rf p1)]) (pc := 11) X d_Answer_putText_11 rfl (by decide) (by simp [rf_cat, cat_i, cat_l, cat_r]) ?_
  obtain ⟨n, hwp⟩ := hwp
  exact kW.sub [1, 2, 0] rfl (k_Answer_putText_12 X hret  n _ _ _ hwp)
set_option maxRecDepth 100000 in
set_option maxHeartbeats 4000000 in
theorem c_Answer_putText (l : Launch) (t : TY) (G : GS) (a0 : Nat) (p1 : Option Nat) (K : GS → Prop) : Met l y_Answer_putText (Cond.code y_Answer_putText b_Answer_putText 3 (Option.none : Option Jvm.ClassFile.FieldType) :: GW) rm_Answer_putText (va_Pc [.ref a0, va_rf p1] (fun U => HB t G U.heap ∧ HK t U ∧ w_Answer_putText t G a0 p1 K)) (va_Qv (fun u : GS => K u) (fun u T => HB t u T.heap) (tA t)) 0 0 (tA t) := by
  refine Met.ofW (cc := b_Answer_putText) (maxL := 3) (ret := none) (by decide) rfl ?_
  intro p e s m args below meth c s₁ B hml hv
  obtain ⟨rfl, hB, hK, hwp⟩ := hv
  have hts := atoms_spec (ws := Cond.code y_Answer_putText b_Answer_putText 3 (Option.none : Option Jvm.ClassFile.FieldType) :: GW) B.pre
  have X : kX p s m _ meth c b_Answer_putText 3 "TreeServer$Answer" t := ⟨B.exec, B.bytes, hml, findClass_of_methodNamed B.named, fun w h => hts w (List.mem_cons_of_mem _ h), B.notSynchronized, hK⟩
  have hZ : kZ t false s G s.heap [] := ⟨hB, va_S.rf, fun _ => ⟨rfl, rfl⟩⟩
  rw [lg_entry_eq]
  have hl := lv_entry ([.ref a0, va_rf p1]) (n := 3) (by simp [lg_sl, rf_cat, cat_i, cat_l, cat_r])
  rw [show lv_args 0 [.ref a0, va_rf p1] = [(0, .ref a0), (1, va_rf p1)] from by simp [lv_args, rf_cat, cat_i, cat_l, cat_r]] at hl
  exact k_Answer_putText X B.returns _ _ hwp s.heap [] _ hl hZ
abbrev b_S_agree : ByteArray := prog_1_method_25_code
def y_S_agree : MethodName := ⟨"TreeServer", "agree", "(LTreeServer$Link;)V"⟩
theorem d_S_agree_0 : decode b_S_agree 0 = .ok (.aload_n 0, 1) := by decide +kernel
theorem d_S_agree_1 : decode b_S_agree 1 = .ok (.getfield 19, 3) := by decide +kernel
theorem d_S_agree_4 : decode b_S_agree 4 = .ok (.getfield 55, 3) := by decide +kernel
theorem d_S_agree_7 : decode b_S_agree 7 = .ok (.ifCond .ne 4, 3) := by decide +kernel
theorem d_S_agree_10 : decode b_S_agree 10 = .ok (.return_, 1) := by decide +kernel
theorem d_S_agree_11 : decode b_S_agree 11 = .ok (.aload_n 1, 1) := by decide +kernel
theorem d_S_agree_12 : decode b_S_agree 12 = .ok (.aload_n 0, 1) := by decide +kernel
theorem d_S_agree_13 : decode b_S_agree 13 = .ok (.getfield 33, 3) := by decide +kernel
theorem d_S_agree_16 : decode b_S_agree 16 = .ok (.bipush 7, 2) := by decide +kernel
theorem d_S_agree_18 : decode b_S_agree 18 = .ok (.iconst 4, 1) := by decide +kernel
theorem d_S_agree_19 : decode b_S_agree 19 = .ok (.invokevirtual 178, 3) := by decide +kernel
theorem d_S_agree_22 : decode b_S_agree 22 = .ok (.ldc2_w 292, 3) := by decide +kernel
theorem d_S_agree_25 : decode b_S_agree 25 = .ok (.invokestatic 294, 3) := by decide +kernel
theorem d_S_agree_28 : decode b_S_agree 28 = .ok (.l2i, 1) := by decide +kernel
theorem d_S_agree_29 : decode b_S_agree 29 = .ok (.putfield 223, 3) := by decide +kernel
theorem d_S_agree_32 : decode b_S_agree 32 = .ok (.aload_n 1, 1) := by decide +kernel
theorem d_S_agree_33 : decode b_S_agree 33 = .ok (.aload_n 0, 1) := by decide +kernel
theorem d_S_agree_34 : decode b_S_agree 34 = .ok (.getfield 33, 3) := by decide +kernel
theorem d_S_agree_37 : decode b_S_agree 37 = .ok (.iconst 0, 1) := by decide +kernel
theorem d_S_agree_38 : decode b_S_agree 38 = .ok (.ldc_w 300, 3) := by decide +kernel
theorem d_S_agree_41 : decode b_S_agree 41 = .ok (.invokevirtual 302, 3) := by decide +kernel
theorem d_S_agree_44 : decode b_S_agree 44 = .ok (.putfield 88, 3) := by decide +kernel
theorem d_S_agree_47 : decode b_S_agree 47 = .ok (.aload_n 0, 1) := by decide +kernel
theorem d_S_agree_48 : decode b_S_agree 48 = .ok (.getfield 40, 3) := by decide +kernel
theorem d_S_agree_51 : decode b_S_agree 51 = .ok (.aload_n 1, 1) := by decide +kernel
theorem d_S_agree_52 : decode b_S_agree 52 = .ok (.getfield 223, 3) := by decide +kernel
theorem d_S_agree_55 : decode b_S_agree 55 = .ok (.i2l, 1) := by decide +kernel
theorem d_S_agree_56 : decode b_S_agree 56 = .ok (.iconst 4, 1) := by decide +kernel
theorem d_S_agree_57 : decode b_S_agree 57 = .ok (.invokevirtual 306, 3) := by decide +kernel
theorem d_S_agree_60 : decode b_S_agree 60 = .ok (.aload_n 0, 1) := by decide +kernel
theorem d_S_agree_61 : decode b_S_agree 61 = .ok (.getfield 40, 3) := by decide +kernel
theorem d_S_agree_64 : decode b_S_agree 64 = .ok (.aload_n 1, 1) := by decide +kernel
theorem d_S_agree_65 : decode b_S_agree 65 = .ok (.getfield 88, 3) := by decide +kernel
theorem d_S_agree_68 : decode b_S_agree 68 = .ok (.ifCond .eq 9, 3) := by decide +kernel
theorem d_S_agree_71 : decode b_S_agree 71 = .ok (.ldc_w 300, 3) := by decide +kernel
theorem d_S_agree_74 : decode b_S_agree 74 = .ok (.goto 6, 3) := by decide +kernel
theorem d_S_agree_77 : decode b_S_agree 77 = .ok (.ldc_w 309, 3) := by decide +kernel
theorem d_S_agree_80 : decode b_S_agree 80 = .ok (.invokevirtual 311, 3) := by decide +kernel
theorem d_S_agree_83 : decode b_S_agree 83 = .ok (.return_, 1) := by decide +kernel
abbrev rm_S_agree : Room := { frames := 5, cells := 0, slots := 0, locals := 123 }
set_option maxRecDepth 100000 in
set_option maxHeartbeats 4000000 in
theorem k_S_agree_80 {p : Program} {l : Launch} {e : Env} {s : State} {m : MethodId} {args : Array Value} {below : List Frame} {meth : Method} {c : Code} {t : TY} {a0 : Nat} {K : GS → Prop} (X : kX p s m args meth c b_S_agree 2 "TreeServer" t) (hret : meth.sig.returnType = none) (s0 : Option Nat) (s1 : Option Nat) (G : GS) (hwp : w_S_agree_80 t a0 K s0 s1 G) : kW p l e rm_S_agree s m args below meth c (MQ below (va_Qv (fun u : GS => K u) (fun u T => HB t u T.heap) (tA t)) args s 0 0 (tA t)) 2 t false 80 [(0, va_rf (some a0))] [va_rf s1, va_rf s0] G := by
  unfold w_S_agree_80 at hwp
  obtain ⟨a1, h_a1, hwp⟩ := hwp
  obtain ⟨f2, hwp⟩ := hwp
  refine kW.st (st' := [va_rf s1, .ref a1]) (by simp only [h_a1]; rfl) ?_
  refine kcV_v (n := 1) (As := [va_rf s1]) (rest := []) (pc := 80) X rfl (c_Answer_putText l t G a1 s1 _) (cwV_of (C := "TreeServer$Answer") X x_645 x_642 x_643 x_644 x_10 (by decide +kernel) ⟨rfl, rfl⟩ (by decide)) (rv_6 X f2) rfl rfl (by decide) d_S_agree_80 hwp (fun G3 hwp => ?_)
  exact kr_v (pc := 83) X hret d_S_agree_83 hwp
set_option maxRecDepth 100000 in
set_option maxHeartbeats 4000000 in
theorem k_S_agree {p : Program} {l : Launch} {e : Env} {s : State} {m : MethodId} {args : Array Value} {below : List Frame} {meth : Method} {c : Code} {t : TY} {a0 : Nat} {K : GS → Prop} (X : kX p s m args meth c b_S_agree 2 "TreeServer" t) (hret : meth.sig.returnType = none) (G : GS) (p1 : Nat) (hwp : w_S_agree t G a0 p1 K) : kW p l e rm_S_agree s m args below meth c (MQ below (va_Qv (fun u : GS => K u) (fun u T => HB t u T.heap) (tA t)) args s 0 0 (tA t)) 2 t false 0 [(0, va_rf (some a0)), (1, va_rf (some p1))] [] G := by
  unfold w_S_agree at hwp
  refine kw_aload_n (pc := 0) X d_S_agree_0 rfl 0 rfl ?_
  obtain ⟨f1, hwp⟩ := hwp
  refine kg_64 (a := a0) (pc := 1) X d_S_agree_1 x_365 rfl f1 ?_
  obtain ⟨a2, h_a2, hwp⟩ := hwp
  obtain ⟨f3, hwp⟩ := hwp
  refine kg_19 (a := a2) (pc := 4) X d_S_agree_4 x_146 h_a2 f3 ?_
  refine kw_if_ne (tgt := 11) (pc := 7) X d_S_agree_7 (by decide) (fun h => ?_) (fun h => ?_)
  · have hwp := ite_t h hwp
    refine kw_aload_n (pc := 11) X d_S_agree_11 rfl 1 rfl ?_
    refine kw_aload_n (pc := 12) X d_S_agree_12 rfl 0 rfl ?_
    refine kg_66 (a := a0) (pc := 13) X d_S_agree_13 x_367 rfl f1 ?_
    refine kw_bipush (v := 7) (pc := 16) X d_S_agree_16 (by decide) ?_
    refine kw_iconst (v := 4) (pc := 18) X d_S_agree_18 (by decide) ?_
    obtain ⟨a4, h_a4, hwp⟩ := hwp
    obtain ⟨f5, hwp⟩ := hwp
    refine kW.st (st' := [.int (4 : Int32), .int (7 : Int32), .ref a4, va_rf (some p1)]) (by simp only [h_a4]; rfl) ?_
    refine kcVp_l (n := 2) (As := [.int (7 : Int32), .int (4 : Int32)]) (rest := [va_rf (some p1)]) (pc := 19) X (c_Message_number l t G a4 (7 : Int32) (4 : Int32) _) (cwV_of (C := "TreeServer$Message") X x_541 x_578 x_539 x_540 x_9 (by decide +kernel) ⟨rfl, rfl⟩ (by decide)) (rv_5 X f5) rfl rfl (by simp [rf_cat, cat_i, cat_l, cat_r]) d_S_agree_19 hwp (fun v6 hwp => ?_)
    refine kw_ldc2 (v := 128) (pc := 22) X d_S_agree_22 x_585 ?_
    refine km_minl (pc := 25) X d_S_agree_25 x_586 x_530 x_15 x_531 (by decide) (by simp [rf_cat, cat_i, cat_l, cat_r]) ?_
    refine kw_l2i (pc := 28) X d_S_agree_28 ?_
    obtain ⟨f7, hwp⟩ := hwp
    refine kp_59 (a := p1) (x := (lmin v6 (128 : Int64)).toInt32) (pc := 29) X rfl d_S_agree_29 x_341 rfl f7 ?_
    obtain ⟨G8, e_G8⟩ : ∃ g, g = si G 59 p1 ((lmin v6 (128 : Int64)).toInt32) := ⟨_, rfl⟩
    have hwp := hwp G8 e_G8
    refine kW.g e_G8.symm ?_
    refine kw_aload_n (pc := 32) X d_S_agree_32 rfl 1 rfl ?_
    refine kw_aload_n (pc := 33) X d_S_agree_33 rfl 0 rfl ?_
    refine kg_66 (a := a0) (pc := 34) X d_S_agree_34 x_367 rfl f1 ?_
    refine kw_iconst (v := 0) (pc := 37) X d_S_agree_37 (by decide) ?_
    refine kw_ldcwS (j := 5) (pc := 38) X d_S_agree_38 (by decide) rfl ?_
    obtain ⟨a9, h_a9, hwp⟩ := hwp
    obtain ⟨f10, hwp⟩ := hwp
    refine kW.st (st' := [va_rf (some (tks t 5)), .int (0 : Int32), .ref a9, va_rf (some p1)]) (by simp only [h_a9]; rfl) ?_
    refine kcVp_i (n := 2) (As := [.int (0 : Int32), va_rf (some (tks t 5))]) (rest := [va_rf (some p1)]) (pc := 41) X (c_Message_textBegins l t G8 a9 (0 : Int32) (some (tks t 5)) _) (cwV_of (C := "TreeServer$Message") X x_591 x_588 x_589 x_590 x_9 (by decide +kernel) ⟨rfl, rfl⟩ (by decide)) (rv_5 X f10) rfl rfl (by simp [rf_cat, cat_i, cat_l, cat_r]) d_S_agree_41 hwp (fun v11 hwp => ?_)
    obtain ⟨b_v11, hwp⟩ := hwp
    refine kp_60 (a := p1) (x := v11) (pc := 44) X rfl d_S_agree_44 x_343 rfl f7 b_v11 ?_
    obtain ⟨G12, e_G12⟩ : ∃ g, g = si G8 60 p1 v11 := ⟨_, rfl⟩
    have hwp := hwp G12 e_G12
    refine kW.g e_G12.symm ?_
    refine kw_aload_n (pc := 47) X d_S_agree_47 rfl 0 rfl ?_
    refine kg_67 (a := a0) (pc := 48) X d_S_agree_48 x_368 rfl f1 ?_
    refine kw_aload_n (pc := 51) X d_S_agree_51 rfl 1 rfl ?_
    refine kg_59 (a := p1) (pc := 52) X d_S_agree_52 x_341 rfl f7 ?_
    refine kw_i2l (pc := 55) X d_S_agree_55 ?_
    refine kw_iconst (v := 4) (pc := 56) X d_S_agree_56 (by decide) ?_
    obtain ⟨a13, h_a13, hwp⟩ := hwp
    obtain ⟨f14, hwp⟩ := hwp
    refine kW.st (st' := [.int (4 : Int32), .long ((gi G12 59 p1).toInt64), .ref a13]) (by simp only [h_a13]; rfl) ?_
    refine kcV_v (n := 2) (As := [.long ((gi G12 59 p1).toInt64), .int (4 : Int32)]) (rest := []) (pc := 57) X rfl (c_Answer_put l t G12 a13 ((gi G12 59 p1).toInt64) (4 : Int32) _) (cwV_of (C := "TreeServer$Answer") X x_549 x_640 x_547 x_548 x_10 (by decide +kernel) ⟨rfl, rfl⟩ (by decide)) (rv_6 X f14) rfl rfl (by decide) d_S_agree_57 hwp (fun G15 hwp => ?_)
    refine kw_aload_n (pc := 60) X d_S_agree_60 rfl 0 rfl ?_
    refine kg_67 (a := a0) (pc := 61) X d_S_agree_61 x_368 rfl f1 ?_
    refine kw_aload_n (pc := 64) X d_S_agree_64 rfl 1 rfl ?_
    refine kg_60 (a := p1) (pc := 65) X d_S_agree_65 x_343 rfl f7 ?_
    refine kw_if_eq (tgt := 77) (pc := 68) X d_S_agree_68 (by decide) (fun h => ?_) (fun h => ?_)
    · have hwp := ite_t h hwp
      refine kw_ldcwS (j := 6) (pc := 77) X d_S_agree_77 (by decide) rfl ?_
      exact kW.sub [0] rfl (k_S_agree_80 X hret  _ _ _ hwp)
    · have hwp := ite_f h hwp
      refine kw_ldcwS (j := 5) (pc := 71) X d_S_agree_71 (by decide) rfl ?_
      refine kw_goto (tgt := 80) (pc := 74) X d_S_agree_74 (by decide) ?_
      exact kW.sub [0] rfl (k_S_agree_80 X hret  _ _ _ hwp)
  · have hwp := ite_f (not_not_intro h) hwp
    exact kr_v (pc := 10) X hret d_S_agree_10 hwp
set_option maxRecDepth 100000 in
set_option maxHeartbeats 4000000 in
theorem c_S_agree (l : Launch) (t : TY) (G : GS) (a0 : Nat) (p1 : Nat) (K : GS → Prop) : Met l y_S_agree (Cond.code y_S_agree b_S_agree 2 (Option.none : Option Jvm.ClassFile.FieldType) :: GW) rm_S_agree (va_Pc [.ref a0, .ref p1] (fun U => HB t G U.heap ∧ HK t U ∧ w_S_agree t G a0 p1 K)) (va_Qv (fun u : GS => K u) (fun u T => HB t u T.heap) (tA t)) 0 0 (tA t) := by
  refine Met.ofW (cc := b_S_agree) (maxL := 2) (ret := none) (by decide) rfl ?_
  intro p e s m args below meth c s₁ B hml hv
  obtain ⟨rfl, hB, hK, hwp⟩ := hv
  have hts := atoms_spec (ws := Cond.code y_S_agree b_S_agree 2 (Option.none : Option Jvm.ClassFile.FieldType) :: GW) B.pre
  have X : kX p s m _ meth c b_S_agree 2 "TreeServer" t := ⟨B.exec, B.bytes, hml, findClass_of_methodNamed B.named, fun w h => hts w (List.mem_cons_of_mem _ h), B.notSynchronized, hK⟩
  have hZ : kZ t false s G s.heap [] := ⟨hB, va_S.rf, fun _ => ⟨rfl, rfl⟩⟩
  rw [lg_entry_eq]
  have hl := lv_entry ([.ref a0, .ref p1]) (n := 2) (by simp [lg_sl, rf_cat, cat_i, cat_l, cat_r])
  exact k_S_agree X B.returns _ _ hwp s.heap [] _ hl hZ
abbrev b_Link_find : ByteArray := prog_6_method_11_code
def y_Link_find : MethodName := ⟨"TreeServer$Link", "find", "(J)LTreeServer$Fid;"⟩
theorem d_Link_find_0 : decode b_Link_find 0 = .ok (.iconst 0, 1) := by decide +kernel
theorem d_Link_find_1 : decode b_Link_find 1 = .ok (.istore_n 3, 1) := by decide +kernel
theorem d_Link_find_2 : decode b_Link_find 2 = .ok (.iload_n 3, 1) := by decide +kernel
theorem d_Link_find_3 : decode b_Link_find 3 = .ok (.bipush 6, 2) := by decide +kernel
theorem d_Link_find_5 : decode b_Link_find 5 = .ok (.if_icmp .ge 42, 3) := by decide +kernel
theorem d_Link_find_8 : decode b_Link_find 8 = .ok (.aload_n 0, 1) := by decide +kernel
theorem d_Link_find_9 : decode b_Link_find 9 = .ok (.getfield 24, 3) := by decide +kernel
theorem d_Link_find_12 : decode b_Link_find 12 = .ok (.iload_n 3, 1) := by decide +kernel
theorem d_Link_find_13 : decode b_Link_find 13 = .ok (.aaload, 1) := by decide +kernel
theorem d_Link_find_14 : decode b_Link_find 14 = .ok (.getfield 47, 3) := by decide +kernel
theorem d_Link_find_17 : decode b_Link_find 17 = .ok (.ifCond .eq 24, 3) := by decide +kernel
theorem d_Link_find_20 : decode b_Link_find 20 = .ok (.aload_n 0, 1) := by decide +kernel
theorem d_Link_find_21 : decode b_Link_find 21 = .ok (.getfield 24, 3) := by decide +kernel
theorem d_Link_find_24 : decode b_Link_find 24 = .ok (.iload_n 3, 1) := by decide +kernel
theorem d_Link_find_25 : decode b_Link_find 25 = .ok (.aaload, 1) := by decide +kernel
theorem d_Link_find_26 : decode b_Link_find 26 = .ok (.getfield 70, 3) := by decide +kernel
theorem d_Link_find_29 : decode b_Link_find 29 = .ok (.lload_n 1, 1) := by decide +kernel
theorem d_Link_find_30 : decode b_Link_find 30 = .ok (.lcmp, 1) := by decide +kernel
theorem d_Link_find_31 : decode b_Link_find 31 = .ok (.ifCond .ne 10, 3) := by decide +kernel
theorem d_Link_find_34 : decode b_Link_find 34 = .ok (.aload_n 0, 1) := by decide +kernel
theorem d_Link_find_35 : decode b_Link_find 35 = .ok (.getfield 24, 3) := by decide +kernel
theorem d_Link_find_38 : decode b_Link_find 38 = .ok (.iload_n 3, 1) := by decide +kernel
theorem d_Link_find_39 : decode b_Link_find 39 = .ok (.aaload, 1) := by decide +kernel
theorem d_Link_find_40 : decode b_Link_find 40 = .ok (.areturn, 1) := by decide +kernel
theorem d_Link_find_41 : decode b_Link_find 41 = .ok (.iinc 3 1, 3) := by decide +kernel
theorem d_Link_find_44 : decode b_Link_find 44 = .ok (.goto (-42), 3) := by decide +kernel
theorem d_Link_find_47 : decode b_Link_find 47 = .ok (.aconst_null, 1) := by decide +kernel
theorem d_Link_find_48 : decode b_Link_find 48 = .ok (.areturn, 1) := by decide +kernel
abbrev rm_Link_find : Room := { frames := 0, cells := 0, slots := 0, locals := 0 }
set_option maxRecDepth 100000 in
set_option maxHeartbeats 4000000 in
theorem k_Link_find_2 {p : Program} {l : Launch} {e : Env} {s : State} {m : MethodId} {args : Array Value} {below : List Frame} {meth : Method} {c : Code} {t : TY} {a0 : Nat} {G : GS} {K : Option Nat → Prop} (X : kX p s m args meth c b_Link_find 4 "TreeServer$Link" t) (hret : meth.sig.returnType = some (.object "TreeServer$Fid")) : ∀ (n : Nat) (l1 : Int64) (l3 : Int32), w_Link_find_2 t G a0 K n l1 l3 → kW p l e rm_Link_find s m args below meth c (MQ below (va_Sq K) args s 0 0 (fun _ => False)) 4 t true 2 [(0, va_rf (some a0)), (1, .long l1), (3, .int l3)] [] G := by
  intro n
  induction n with
  | zero => intro l1 l3 hwp; exact hwp.elim
  | succ n hr_2 =>
    intro l1 l3 hwp
    unfold w_Link_find_2 at hwp
    dsimp only at hwp
    refine kw_iload_n (pc := 2) X d_Link_find_2 rfl 2 rfl ?_
    refine kw_bipush (v := 6) (pc := 3) X d_Link_find_3 (by decide) ?_
    refine kw_icmp_ge (tgt := 47) (pc := 5) X d_Link_find_5 (by decide) (fun h => ?_) (fun h => ?_)
    · have hwp := ite_t h hwp
      refine kw_null (pc := 47) X d_Link_find_47 ?_
      exact krp_q (pc := 48) X hret d_Link_find_48 (Or.inl ⟨_, rfl⟩) hwp
    · have hwp := ite_f h hwp
      refine kw_aload_n (pc := 8) X d_Link_find_8 rfl 0 rfl ?_
      obtain ⟨f1, hwp⟩ := hwp
      refine kg_62 (a := a0) (pc := 9) X d_Link_find_9 x_346 rfl f1 ?_
      refine kw_iload_n (pc := 12) X d_Link_find_12 rfl 2 rfl ?_
      obtain ⟨a2, h_a2, hwp⟩ := hwp
      obtain ⟨f3, hwp⟩ := hwp
      obtain ⟨f4, hwp⟩ := hwp
      refine ka_aald56 (a := a2) (pc := 13) X d_Link_find_13 h_a2 f3 f4 ?_
      obtain ⟨a5, h_a5, hwp⟩ := hwp
      obtain ⟨f6, hwp⟩ := hwp
      refine kg_46 (a := a5) (pc := 14) X d_Link_find_14 x_293 h_a5 f6 ?_
      refine kw_if_eq (tgt := 41) (pc := 17) X d_Link_find_17 (by decide) (fun h => ?_) (fun h => ?_)
      · have hwp := ite_t h hwp
        obtain ⟨v7, e_v7⟩ : ∃ z, z = (l3 + (1 : Int32)) := ⟨_, rfl⟩
        have hwp := hwp v7 e_v7
        refine kw_iinc (v := v7) (lv' := [(3, .int v7), (0, va_rf (some a0)), (1, .long l1)]) (pc := 41) X d_Link_find_41 2 rfl (by rw [e_v7]; rfl) (by decide) rfl ?_
        refine kw_goto (tgt := 2) (pc := 44) X d_Link_find_44 (by decide) ?_
        exact kW.sub [1, 2, 0] rfl (hr_2 _ _ hwp)
      · have hwp := ite_f h hwp
        refine kw_aload_n (pc := 20) X d_Link_find_20 rfl 0 rfl ?_
        refine kg_62 (a := a0) (pc := 21) X d_Link_find_21 x_346 rfl f1 ?_
        refine kw_iload_n (pc := 24) X d_Link_find_24 rfl 2 rfl ?_
        refine ka_aald56 (a := a2) (pc := 25) X d_Link_find_25 h_a2 f3 f4 ?_
        refine kg_47 (a := a5) (pc := 26) X d_Link_find_26 x_296 h_a5 f6 ?_
        refine kw_lload_n (pc := 29) X d_Link_find_29 rfl 1 rfl ?_
        refine kw_lcmp_ne (tgt := 41) (pc := 30) X d_Link_find_30 d_Link_find_31 (by decide) (fun h => ?_) (fun h => ?_)
        · have hwp := ite_t h hwp
          obtain ⟨v8, e_v8⟩ : ∃ z, z = (l3 + (1 : Int32)) := ⟨_, rfl⟩
          have hwp := hwp v8 e_v8
          refine kw_iinc (v := v8) (lv' := [(3, .int v8), (0, va_rf (some a0)), (1, .long l1)]) (pc := 41) X d_Link_find_41 2 rfl (by rw [e_v8]; rfl) (by decide) rfl ?_
          refine kw_goto (tgt := 2) (pc := 44) X d_Link_find_44 (by decide) ?_
          exact kW.sub [1, 2, 0] rfl (hr_2 _ _ hwp)
        · have hwp := ite_f (not_not_intro h) hwp
          refine kw_aload_n (pc := 34) X d_Link_find_34 rfl 0 rfl ?_
          refine kg_62 (a := a0) (pc := 35) X d_Link_find_35 x_346 rfl f1 ?_
          refine kw_iload_n (pc := 38) X d_Link_find_38 rfl 2 rfl ?_
          refine ka_aald56 (a := a2) (pc := 39) X d_Link_find_39 h_a2 f3 f4 ?_
          exact krp_q (pc := 40) X hret d_Link_find_40 (Or.inl ⟨_, rfl⟩) hwp
set_option maxRecDepth 100000 in
set_option maxHeartbeats 4000000 in
theorem k_Link_find {p : Program} {l : Launch} {e : Env} {s : State} {m : MethodId} {args : Array Value} {below : List Frame} {meth : Method} {c : Code} {t : TY} {a0 : Nat} {G : GS} {K : Option Nat → Prop} (X : kX p s m args meth c b_Link_find 4 "TreeServer$Link" t) (hret : meth.sig.returnType = some (.object "TreeServer$Fid")) (p1 : Int64) (hwp : w_Link_find t G a0 p1 K) : kW p l e rm_Link_find s m args below meth c (MQ below (va_Sq K) args s 0 0 (fun _ => False)) 4 t true 0 [(0, va_rf (some a0)), (1, .long p1)] [] G := by
  unfold w_Link_find at hwp
  refine kw_iconst (v := 0) (pc := 0) X d_Link_find_0 (by decide) ?_
  refine kw_istore_n (i := 3) (lv' := [(3, .int (0 : Int32)), (0, va_rf (some a0)), (1, .long p1)]) (pc := 1) X d_Link_find_1 rfl (by decide) rfl ?_
  obtain ⟨n, hwp⟩ := hwp
  exact kW.sub [1, 2, 0] rfl (k_Link_find_2 X hret  n _ _ hwp)
set_option maxRecDepth 100000 in
set_option maxHeartbeats 4000000 in
theorem c_Link_find (l : Launch) (t : TY) (G : GS) (a0 : Nat) (p1 : Int64) (K : Option Nat → Prop) : Met l y_Link_find (Cond.code y_Link_find b_Link_find 4 (Option.some (Jvm.ClassFile.FieldType.object "TreeServer$Fid")) :: GW) rm_Link_find (va_Pc [.ref a0, .long p1] (fun U => HB t G U.heap ∧ HK t U ∧ w_Link_find t G a0 p1 K)) (va_Sq K) 0 0 (fun _ => False) := by
  refine Met.ofW (cc := b_Link_find) (maxL := 4) (ret := some (.object "TreeServer$Fid")) (by decide) rfl ?_
  intro p e s m args below meth c s₁ B hml hv
  obtain ⟨rfl, hB, hK, hwp⟩ := hv
  have hts := atoms_spec (ws := Cond.code y_Link_find b_Link_find 4 (Option.some (Jvm.ClassFile.FieldType.object "TreeServer$Fid")) :: GW) B.pre
  have X : kX p s m _ meth c b_Link_find 4 "TreeServer$Link" t := ⟨B.exec, B.bytes, hml, findClass_of_methodNamed B.named, fun w h => hts w (List.mem_cons_of_mem _ h), B.notSynchronized, hK⟩
  have hZ : kZ t true s G s.heap [] := ⟨hB, va_S.rf, fun _ => ⟨rfl, rfl⟩⟩
  rw [lg_entry_eq]
  have hl := lv_entry ([.ref a0, .long p1]) (n := 4) (by simp [lg_sl, rf_cat, cat_i, cat_l, cat_r])
  exact k_Link_find X B.returns _ hwp s.heap [] _ hl hZ
