abbrev b_S_linkOf : ByteArray := prog_1_method_15_code
def y_S_linkOf : MethodName := ⟨"TreeServer", "linkOf", "(I)LTreeServer$Link;"⟩
theorem d_S_linkOf_0 : decode b_S_linkOf 0 = .ok (.iload_n 1, 1) := by decide +kernel
theorem d_S_linkOf_1 : decode b_S_linkOf 1 = .ok (.ifCond .lt 8, 3) := by decide +kernel
theorem d_S_linkOf_4 : decode b_S_linkOf 4 = .ok (.iload_n 1, 1) := by decide +kernel
theorem d_S_linkOf_5 : decode b_S_linkOf 5 = .ok (.iconst 2, 1) := by decide +kernel
theorem d_S_linkOf_6 : decode b_S_linkOf 6 = .ok (.if_icmp .lt 7, 3) := by decide +kernel
theorem d_S_linkOf_9 : decode b_S_linkOf 9 = .ok (.aconst_null, 1) := by decide +kernel
theorem d_S_linkOf_10 : decode b_S_linkOf 10 = .ok (.goto 9, 3) := by decide +kernel
theorem d_S_linkOf_13 : decode b_S_linkOf 13 = .ok (.aload_n 0, 1) := by decide +kernel
theorem d_S_linkOf_14 : decode b_S_linkOf 14 = .ok (.getfield 46, 3) := by decide +kernel
theorem d_S_linkOf_17 : decode b_S_linkOf 17 = .ok (.iload_n 1, 1) := by decide +kernel
theorem d_S_linkOf_18 : decode b_S_linkOf 18 = .ok (.aaload, 1) := by decide +kernel
theorem d_S_linkOf_19 : decode b_S_linkOf 19 = .ok (.areturn, 1) := by decide +kernel
abbrev rm_S_linkOf : Room := { frames := 0, cells := 0, slots := 0, locals := 0 }
set_option maxRecDepth 100000 in
set_option maxHeartbeats 4000000 in
theorem k_S_linkOf {p : Program} {l : Launch} {e : Env} {s : State} {m : MethodId} {args : Array Value} {below : List Frame} {meth : Method} {c : Code} {t : TY} {a0 : Nat} {G : GS} {K : Option Nat → Prop} (X : kX p s m args meth c b_S_linkOf 2 "TreeServer" t) (hret : meth.sig.returnType = some (.object "TreeServer$Link")) (p1 : Int32) (hwp : w_S_linkOf t G a0 p1 K) : kW p l e rm_S_linkOf s m args below meth c (MQ below (va_Sq K) args s 0 0 (fun _ => False)) 2 t true 0 [(0, va_rf (some a0)), (1, .int p1)] [] G := by
  unfold w_S_linkOf at hwp
  refine kw_iload_n (pc := 0) X d_S_linkOf_0 rfl 1 rfl ?_
  refine kw_if_lt (tgt := 9) (pc := 1) X d_S_linkOf_1 (by decide) (fun h => ?_) (fun h => ?_)
  · have hwp := ite_t h hwp
    refine kw_null (pc := 9) X d_S_linkOf_9 ?_
    refine kw_goto (tgt := 19) (pc := 10) X d_S_linkOf_10 (by decide) ?_
    exact krp_q (pc := 19) X hret d_S_linkOf_19 (Or.inl ⟨_, rfl⟩) hwp
  · have hwp := ite_f h hwp
    refine kw_iload_n (pc := 4) X d_S_linkOf_4 rfl 1 rfl ?_
    refine kw_iconst (v := 2) (pc := 5) X d_S_linkOf_5 (by decide) ?_
    refine kw_icmp_lt (tgt := 13) (pc := 6) X d_S_linkOf_6 (by decide) (fun h => ?_) (fun h => ?_)
    · have hwp := ite_t h hwp
      refine kw_aload_n (pc := 13) X d_S_linkOf_13 rfl 0 rfl ?_
      obtain ⟨f1, hwp⟩ := hwp
      refine kg_68 (a := a0) (pc := 14) X d_S_linkOf_14 x_369 rfl f1 ?_
      refine kw_iload_n (pc := 17) X d_S_linkOf_17 rfl 1 rfl ?_
      obtain ⟨a2, h_a2, hwp⟩ := hwp
      obtain ⟨f3, hwp⟩ := hwp
      obtain ⟨f4, hwp⟩ := hwp
      refine ka_aald55 (a := a2) (pc := 18) X d_S_linkOf_18 h_a2 f3 f4 ?_
      exact krp_q (pc := 19) X hret d_S_linkOf_19 (Or.inl ⟨_, rfl⟩) hwp
    · have hwp := ite_f h hwp
      refine kw_null (pc := 9) X d_S_linkOf_9 ?_
      refine kw_goto (tgt := 19) (pc := 10) X d_S_linkOf_10 (by decide) ?_
      exact krp_q (pc := 19) X hret d_S_linkOf_19 (Or.inl ⟨_, rfl⟩) hwp
set_option maxRecDepth 100000 in
set_option maxHeartbeats 4000000 in
theorem c_S_linkOf (l : Launch) (t : TY) (G : GS) (a0 : Nat) (p1 : Int32) (K : Option Nat → Prop) : Met l y_S_linkOf (Cond.code y_S_linkOf b_S_linkOf 2 (Option.some (Jvm.ClassFile.FieldType.object "TreeServer$Link")) :: GW) rm_S_linkOf (va_Pc [.ref a0, .int p1] (fun U => HB t G U.heap ∧ HK t U ∧ w_S_linkOf t G a0 p1 K)) (va_Sq K) 0 0 (fun _ => False) := by
  refine Met.ofW (cc := b_S_linkOf) (maxL := 2) (ret := some (.object "TreeServer$Link")) (by decide) rfl ?_
  intro p e s m args below meth c s₁ B hml hv
  obtain ⟨rfl, hB, hK, hwp⟩ := hv
  have hts := atoms_spec (ws := Cond.code y_S_linkOf b_S_linkOf 2 (Option.some (Jvm.ClassFile.FieldType.object "TreeServer$Link")) :: GW) B.pre
  have X : kX p s m _ meth c b_S_linkOf 2 "TreeServer" t := ⟨B.exec, B.bytes, hml, findClass_of_methodNamed B.named, fun w h => hts w (List.mem_cons_of_mem _ h), B.notSynchronized, hK⟩
  have hZ : kZ t true s G s.heap [] := ⟨hB, va_S.rf, fun _ => ⟨rfl, rfl⟩⟩
  rw [lg_entry_eq]
  have hl := lv_entry ([.ref a0, .int p1]) (n := 2) (by simp [lg_sl, rf_cat, cat_i, cat_l, cat_r])
  exact k_S_linkOf X B.returns _ hwp s.heap [] _ hl hZ
abbrev b_Link_hasRoomFor : ByteArray := prog_6_method_4_code
def y_Link_hasRoomFor : MethodName := ⟨"TreeServer$Link", "hasRoomFor", "(I)Z"⟩
theorem d_Link_hasRoomFor_0 : decode b_Link_hasRoomFor 0 = .ok (.aload_n 0, 1) := by decide +kernel
theorem d_Link_hasRoomFor_1 : decode b_Link_hasRoomFor 1 = .ok (.getfield 44, 3) := by decide +kernel
theorem d_Link_hasRoomFor_4 : decode b_Link_hasRoomFor 4 = .ok (.ifCond .ne 19, 3) := by decide +kernel
theorem d_Link_hasRoomFor_7 : decode b_Link_hasRoomFor 7 = .ok (.aload_n 0, 1) := by decide +kernel
theorem d_Link_hasRoomFor_8 : decode b_Link_hasRoomFor 8 = .ok (.getfield 34, 3) := by decide +kernel
theorem d_Link_hasRoomFor_11 : decode b_Link_hasRoomFor 11 = .ok (.iload_n 1, 1) := by decide +kernel
theorem d_Link_hasRoomFor_12 : decode b_Link_hasRoomFor 12 = .ok (.iadd, 1) := by decide +kernel
theorem d_Link_hasRoomFor_13 : decode b_Link_hasRoomFor 13 = .ok (.sipush 160, 3) := by decide +kernel
theorem d_Link_hasRoomFor_16 : decode b_Link_hasRoomFor 16 = .ok (.if_icmp .gt 7, 3) := by decide +kernel
theorem d_Link_hasRoomFor_19 : decode b_Link_hasRoomFor 19 = .ok (.iconst 1, 1) := by decide +kernel
theorem d_Link_hasRoomFor_20 : decode b_Link_hasRoomFor 20 = .ok (.goto 4, 3) := by decide +kernel
theorem d_Link_hasRoomFor_23 : decode b_Link_hasRoomFor 23 = .ok (.iconst 0, 1) := by decide +kernel
theorem d_Link_hasRoomFor_24 : decode b_Link_hasRoomFor 24 = .ok (.ireturn, 1) := by decide +kernel
abbrev rm_Link_hasRoomFor : Room := { frames := 0, cells := 0, slots := 0, locals := 0 }
set_option maxRecDepth 100000 in
set_option maxHeartbeats 4000000 in
theorem k_Link_hasRoomFor {p : Program} {l : Launch} {e : Env} {s : State} {m : MethodId} {args : Array Value} {below : List Frame} {meth : Method} {c : Code} {t : TY} {a0 : Nat} {G : GS} {K : Int32 → Prop} (X : kX p s m args meth c b_Link_hasRoomFor 2 "TreeServer$Link" t) (hret : meth.sig.returnType = some .boolean) (p1 : Int32) (hwp : w_Link_hasRoomFor t G a0 p1 K) : kW p l e rm_Link_hasRoomFor s m args below meth c (MQ below (vp_Si (fun r => isB r ∧ K r)) args s 0 0 (fun _ => False)) 2 t true 0 [(0, va_rf (some a0)), (1, .int p1)] [] G := by
  unfold w_Link_hasRoomFor at hwp
  refine kw_aload_n (pc := 0) X d_Link_hasRoomFor_0 rfl 0 rfl ?_
  obtain ⟨f1, hwp⟩ := hwp
  refine kg_61 (a := a0) (pc := 1) X d_Link_hasRoomFor_1 x_344 rfl f1 ?_
  refine kw_if_ne (tgt := 23) (pc := 4) X d_Link_hasRoomFor_4 (by decide) (fun h => ?_) (fun h => ?_)
  · have hwp := ite_t h hwp
    refine kw_iconst (v := 0) (pc := 23) X d_Link_hasRoomFor_23 (by decide) ?_
    exact krp_z (pc := 24) X hret d_Link_hasRoomFor_24 (Or.inl rfl) hwp
  · have hwp := ite_f (not_not_intro h) hwp
    refine kw_aload_n (pc := 7) X d_Link_hasRoomFor_7 rfl 0 rfl ?_
    refine kg_56 (a := a0) (pc := 8) X d_Link_hasRoomFor_8 x_334 rfl f1 ?_
    refine kw_iload_n (pc := 11) X d_Link_hasRoomFor_11 rfl 1 rfl ?_
    refine kw_iadd (pc := 12) X d_Link_hasRoomFor_12 ?_
    refine kw_sipush (v := 160) (pc := 13) X d_Link_hasRoomFor_13 (by decide) ?_
    refine kw_icmp_gt (tgt := 23) (pc := 16) X d_Link_hasRoomFor_16 (by decide) (fun h => ?_) (fun h => ?_)
    · have hwp := ite_t h hwp
      refine kw_iconst (v := 0) (pc := 23) X d_Link_hasRoomFor_23 (by decide) ?_
      exact krp_z (pc := 24) X hret d_Link_hasRoomFor_24 (Or.inl rfl) hwp
    · have hwp := ite_f h hwp
      refine kw_iconst (v := 1) (pc := 19) X d_Link_hasRoomFor_19 (by decide) ?_
      refine kw_goto (tgt := 24) (pc := 20) X d_Link_hasRoomFor_20 (by decide) ?_
      exact krp_z (pc := 24) X hret d_Link_hasRoomFor_24 (Or.inr rfl) hwp
set_option maxRecDepth 100000 in
set_option maxHeartbeats 4000000 in
theorem c_Link_hasRoomFor (l : Launch) (t : TY) (G : GS) (a0 : Nat) (p1 : Int32) (K : Int32 → Prop) : Met l y_Link_hasRoomFor (Cond.code y_Link_hasRoomFor b_Link_hasRoomFor 2 (Option.some Jvm.ClassFile.FieldType.boolean) :: GW) rm_Link_hasRoomFor (va_Pc [.ref a0, .int p1] (fun U => HB t G U.heap ∧ HK t U ∧ w_Link_hasRoomFor t G a0 p1 K)) (vp_Si (fun r => isB r ∧ K r)) 0 0 (fun _ => False) := by
  refine Met.ofW (cc := b_Link_hasRoomFor) (maxL := 2) (ret := some .boolean) (by decide) rfl ?_
  intro p e s m args below meth c s₁ B hml hv
  obtain ⟨rfl, hB, hK, hwp⟩ := hv
  have hts := atoms_spec (ws := Cond.code y_Link_hasRoomFor b_Link_hasRoomFor 2 (Option.some Jvm.ClassFile.FieldType.boolean) :: GW) B.pre
  have X : kX p s m _ meth c b_Link_hasRoomFor 2 "TreeServer$Link" t := ⟨B.exec, B.bytes, hml, findClass_of_methodNamed B.named, fun w h => hts w (List.mem_cons_of_mem _ h), B.notSynchronized, hK⟩
  have hZ : kZ t true s G s.heap [] := ⟨hB, va_S.rf, fun _ => ⟨rfl, rfl⟩⟩
  rw [lg_entry_eq]
  have hl := lv_entry ([.ref a0, .int p1]) (n := 2) (by simp [lg_sl, rf_cat, cat_i, cat_l, cat_r])
  exact k_Link_hasRoomFor X B.returns _ hwp s.heap [] _ hl hZ
abbrev b_Link_append : ByteArray := prog_6_method_5_code
def y_Link_append : MethodName := ⟨"TreeServer$Link", "append", "(JI)V"⟩
theorem d_Link_append_0 : decode b_Link_append 0 = .ok (.iconst 0, 1) := by decide +kernel
theorem d_Link_append_1 : decode b_Link_append 1 = .ok (.istore 4, 2) := by decide +kernel
theorem d_Link_append_3 : decode b_Link_append 3 = .ok (.iload 4, 2) := by decide +kernel
theorem d_Link_append_5 : decode b_Link_append 5 = .ok (.iload_n 3, 1) := by decide +kernel
theorem d_Link_append_6 : decode b_Link_append 6 = .ok (.if_icmp .ge 47, 3) := by decide +kernel
theorem d_Link_append_9 : decode b_Link_append 9 = .ok (.aload_n 0, 1) := by decide +kernel
theorem d_Link_append_10 : decode b_Link_append 10 = .ok (.getfield 34, 3) := by decide +kernel
theorem d_Link_append_13 : decode b_Link_append 13 = .ok (.sipush 160, 3) := by decide +kernel
theorem d_Link_append_16 : decode b_Link_append 16 = .ok (.if_icmp .ge 37, 3) := by decide +kernel
theorem d_Link_append_19 : decode b_Link_append 19 = .ok (.aload_n 0, 1) := by decide +kernel
theorem d_Link_append_20 : decode b_Link_append 20 = .ok (.getfield 9, 3) := by decide +kernel
theorem d_Link_append_23 : decode b_Link_append 23 = .ok (.aload_n 0, 1) := by decide +kernel
theorem d_Link_append_24 : decode b_Link_append 24 = .ok (.getfield 34, 3) := by decide +kernel
theorem d_Link_append_27 : decode b_Link_append 27 = .ok (.lload_n 1, 1) := by decide +kernel
theorem d_Link_append_28 : decode b_Link_append 28 = .ok (.bipush 8, 2) := by decide +kernel
theorem d_Link_append_30 : decode b_Link_append 30 = .ok (.iload 4, 2) := by decide +kernel
theorem d_Link_append_32 : decode b_Link_append 32 = .ok (.imul, 1) := by decide +kernel
theorem d_Link_append_33 : decode b_Link_append 33 = .ok (.lushr, 1) := by decide +kernel
theorem d_Link_append_34 : decode b_Link_append 34 = .ok (.l2i, 1) := by decide +kernel
theorem d_Link_append_35 : decode b_Link_append 35 = .ok (.i2b, 1) := by decide +kernel
theorem d_Link_append_36 : decode b_Link_append 36 = .ok (.bastore, 1) := by decide +kernel
theorem d_Link_append_37 : decode b_Link_append 37 = .ok (.aload_n 0, 1) := by decide +kernel
theorem d_Link_append_38 : decode b_Link_append 38 = .ok (.dup, 1) := by decide +kernel
theorem d_Link_append_39 : decode b_Link_append 39 = .ok (.getfield 34, 3) := by decide +kernel
theorem d_Link_append_42 : decode b_Link_append 42 = .ok (.iconst 1, 1) := by decide +kernel
theorem d_Link_append_43 : decode b_Link_append 43 = .ok (.iadd, 1) := by decide +kernel
theorem d_Link_append_44 : decode b_Link_append 44 = .ok (.putfield 34, 3) := by decide +kernel
theorem d_Link_append_47 : decode b_Link_append 47 = .ok (.iinc 4 1, 3) := by decide +kernel
theorem d_Link_append_50 : decode b_Link_append 50 = .ok (.goto (-47), 3) := by decide +kernel
theorem d_Link_append_53 : decode b_Link_append 53 = .ok (.return_, 1) := by decide +kernel
abbrev rm_Link_append : Room := { frames := 0, cells := 0, slots := 0, locals := 0 }
set_option maxRecDepth 100000 in
set_option maxHeartbeats 4000000 in
theorem k_Link_append_3 {p : Program} {l : Launch} {e : Env} {s : State} {m : MethodId} {args : Array Value} {below : List Frame} {meth : Method} {c : Code} {t : TY} {a0 : Nat} {K : GS → Prop} (X : kX p s m args meth c b_Link_append 5 "TreeServer$Link" t) (hret : meth.sig.returnType = none) : ∀ (n : Nat) (l1 : Int64) (l3 : Int32) (l4 : Int32) (G : GS), w_Link_append_3 t a0 K n l1 l3 l4 G → kW p l e rm_Link_append s m args below meth c (MQ below (va_Qv (fun u : GS => K u) (fun u T => HB t u T.heap) (tA t)) args s 0 0 (tA t)) 5 t false 3 [(0, va_rf (some a0)), (1, .long l1), (3, .int l3), (4, .int l4)] [] G := by
  intro n
  induction n with
  | zero => intro l1 l3 l4 G hwp; exact hwp.elim
  | succ n hr_3 =>
    intro l1 l3 l4 G hwp
    unfold w_Link_append_3 at hwp
    dsimp only at hwp
    refine kw_iload (pc := 3) X d_Link_append_3 3 rfl ?_
    refine kw_iload_n (pc := 5) X d_Link_append_5 rfl 2 rfl ?_
    refine kw_icmp_ge (tgt := 53) (pc := 6) X d_Link_append_6 (by decide) (fun h => ?_) (fun h => ?_)
    · have hwp := ite_t h hwp
      exact kr_v (pc := 53) X hret d_Link_append_53 hwp
    · have hwp := ite_f h hwp
      refine kw_aload_n (pc := 9) X d_Link_append_9 rfl 0 rfl ?_
      obtain ⟨f1, hwp⟩ := hwp
      refine kg_56 (a := a0) (pc := 10) X d_Link_append_10 x_334 rfl f1 ?_
      refine kw_sipush (v := 160) (pc := 13) X d_Link_append_13 (by decide) ?_
      refine kw_icmp_ge (tgt := 53) (pc := 16) X d_Link_append_16 (by decide) (fun h => ?_) (fun h => ?_)
      · have hwp := ite_t h hwp
        exact kr_v (pc := 53) X hret d_Link_append_53 hwp
      · have hwp := ite_f h hwp
        refine kw_aload_n (pc := 19) X d_Link_append_19 rfl 0 rfl ?_
        refine kg_55 (a := a0) (pc := 20) X d_Link_append_20 x_332 rfl f1 ?_
        refine kw_aload_n (pc := 23) X d_Link_append_23 rfl 0 rfl ?_
        refine kg_56 (a := a0) (pc := 24) X d_Link_append_24 x_334 rfl f1 ?_
        refine kw_lload_n (pc := 27) X d_Link_append_27 rfl 1 rfl ?_
        refine kw_bipush (v := 8) (pc := 28) X d_Link_append_28 (by decide) ?_
        refine kw_iload (pc := 30) X d_Link_append_30 3 rfl ?_
        refine kw_imul (pc := 32) X d_Link_append_32 ?_
        refine kw_lushr (pc := 33) X d_Link_append_33 ?_
        refine kw_l2i (pc := 34) X d_Link_append_34 ?_
        refine kw_i2b (pc := 35) X d_Link_append_35 ?_
        obtain ⟨a2, h_a2, hwp⟩ := hwp
        obtain ⟨f3, hwp⟩ := hwp
        obtain ⟨f4, hwp⟩ := hwp
        refine ka_bast (a := a2) (pc := 36) X rfl d_Link_append_36 h_a2 f3 f4 ?_
        obtain ⟨G5, e_G5⟩ : ∃ g, g = ais G a2 (gi G 56 a0).toNatClampNeg (vp_nar .byte ((l1.toUInt64 >>> (((8 : Int32) * l4).toInt64.toUInt64 &&& Int64.toUInt64 63)).toInt64.toInt32.toInt8.toInt32)) := ⟨_, rfl⟩
        have hwp := hwp G5 e_G5
        refine kW.g e_G5.symm ?_
        refine kw_aload_n (pc := 37) X d_Link_append_37 rfl 0 rfl ?_
        refine kw_dup (pc := 38) X d_Link_append_38 rfl ?_
        refine kg_56 (a := a0) (pc := 39) X d_Link_append_39 x_334 rfl f1 ?_
        refine kw_iconst (v := 1) (pc := 42) X d_Link_append_42 (by decide) ?_
        refine kw_iadd (pc := 43) X d_Link_append_43 ?_
        refine kp_56 (a := a0) (x := ((gi G5 56 a0) + (1 : Int32))) (pc := 44) X rfl d_Link_append_44 x_334 rfl f1 ?_
        obtain ⟨G6, e_G6⟩ : ∃ g, g = si G5 56 a0 ((gi G5 56 a0) + (1 : Int32)) := ⟨_, rfl⟩
        have hwp := hwp G6 e_G6
        refine kW.g e_G6.symm ?_
        obtain ⟨v7, e_v7⟩ : ∃ z, z = (l4 + (1 : Int32)) := ⟨_, rfl⟩
        have hwp := hwp v7 e_v7
        refine kw_iinc (v := v7) (lv' := [(4, .int v7), (0, va_rf (some a0)), (1, .long l1), (3, .int l3)]) (pc := 47) X d_Link_append_47 3 rfl (by rw [e_v7]; rfl) (by decide) rfl ?_
        refine kw_goto (tgt := 3) (pc := 50) X d_Link_append_50 (by decide) ?_
        exact kW.sub [1, 2, 3, 0] rfl (hr_3 _ _ _ _ hwp)
set_option maxRecDepth 100000 in
set_option maxHeartbeats 4000000 in
theorem k_Link_append {p : Program} {l : Launch} {e : Env} {s : State} {m : MethodId} {args : Array Value} {below : List Frame} {meth : Method} {c : Code} {t : TY} {a0 : Nat} {K : GS → Prop} (X : kX p s m args meth c b_Link_append 5 "TreeServer$Link" t) (hret : meth.sig.returnType = none) (G : GS) (p1 : Int64) (p3 : Int32) (hwp : w_Link_append t G a0 p1 p3 K) : kW p l e rm_Link_append s m args below meth c (MQ below (va_Qv (fun u : GS => K u) (fun u T => HB t u T.heap) (tA t)) args s 0 0 (tA t)) 5 t false 0 [(0, va_rf (some a0)), (1, .long p1), (3, .int p3)] [] G := by
  unfold w_Link_append at hwp
  refine kw_iconst (v := 0) (pc := 0) X d_Link_append_0 (by decide) ?_
  refine kw_istore (i := 4) (lv' := [(4, .int (0 : Int32)), (0, va_rf (some a0)), (1, .long p1), (3, .int p3)]) (pc := 1) X d_Link_append_1 (by decide) rfl ?_
  obtain ⟨n, hwp⟩ := hwp
  exact kW.sub [1, 2, 3, 0] rfl (k_Link_append_3 X hret  n _ _ _ _ hwp)
set_option maxRecDepth 100000 in
set_option maxHeartbeats 4000000 in
theorem c_Link_append (l : Launch) (t : TY) (G : GS) (a0 : Nat) (p1 : Int64) (p3 : Int32) (K : GS → Prop) : Met l y_Link_append (Cond.code y_Link_append b_Link_append 5 (Option.none : Option Jvm.ClassFile.FieldType) :: GW) rm_Link_append (va_Pc [.ref a0, .long p1, .int p3] (fun U => HB t G U.heap ∧ HK t U ∧ w_Link_append t G a0 p1 p3 K)) (va_Qv (fun u : GS => K u) (fun u T => HB t u T.heap) (tA t)) 0 0 (tA t) := by
  refine Met.ofW (cc := b_Link_append) (maxL := 5) (ret := none) (by decide) rfl ?_
  intro p e s m args below meth c s₁ B hml hv
  obtain ⟨rfl, hB, hK, hwp⟩ := hv
  have hts := atoms_spec (ws := Cond.code y_Link_append b_Link_append 5 (Option.none : Option Jvm.ClassFile.FieldType) :: GW) B.pre
  have X : kX p s m _ meth c b_Link_append 5 "TreeServer$Link" t := ⟨B.exec, B.bytes, hml, findClass_of_methodNamed B.named, fun w h => hts w (List.mem_cons_of_mem _ h), B.notSynchronized, hK⟩
  have hZ : kZ t false s G s.heap [] := ⟨hB, va_S.rf, fun _ => ⟨rfl, rfl⟩⟩
  rw [lg_entry_eq]
  have hl := lv_entry ([.ref a0, .long p1, .int p3]) (n := 5) (by simp [lg_sl, rf_cat, cat_i, cat_l, cat_r])
  exact k_Link_append X B.returns _ _ _ hwp s.heap [] _ hl hZ
abbrev b_Link_firstSize : ByteArray := prog_6_method_8_code
def y_Link_firstSize : MethodName := ⟨"TreeServer$Link", "firstSize", "()J"⟩
theorem d_Link_firstSize_0 : decode b_Link_firstSize 0 = .ok (.aload_n 0, 1) := by decide +kernel
theorem d_Link_firstSize_1 : decode b_Link_firstSize 1 = .ok (.getfield 9, 3) := by decide +kernel
theorem d_Link_firstSize_4 : decode b_Link_firstSize 4 = .ok (.iconst 0, 1) := by decide +kernel
theorem d_Link_firstSize_5 : decode b_Link_firstSize 5 = .ok (.baload, 1) := by decide +kernel
theorem d_Link_firstSize_6 : decode b_Link_firstSize 6 = .ok (.i2l, 1) := by decide +kernel
theorem d_Link_firstSize_7 : decode b_Link_firstSize 7 = .ok (.ldc2_w 62, 3) := by decide +kernel
theorem d_Link_firstSize_10 : decode b_Link_firstSize 10 = .ok (.land, 1) := by decide +kernel
theorem d_Link_firstSize_11 : decode b_Link_firstSize 11 = .ok (.aload_n 0, 1) := by decide +kernel
theorem d_Link_firstSize_12 : decode b_Link_firstSize 12 = .ok (.getfield 9, 3) := by decide +kernel
theorem d_Link_firstSize_15 : decode b_Link_firstSize 15 = .ok (.iconst 1, 1) := by decide +kernel
theorem d_Link_firstSize_16 : decode b_Link_firstSize 16 = .ok (.baload, 1) := by decide +kernel
theorem d_Link_firstSize_17 : decode b_Link_firstSize 17 = .ok (.i2l, 1) := by decide +kernel
theorem d_Link_firstSize_18 : decode b_Link_firstSize 18 = .ok (.ldc2_w 62, 3) := by decide +kernel
theorem d_Link_firstSize_21 : decode b_Link_firstSize 21 = .ok (.land, 1) := by decide +kernel
theorem d_Link_firstSize_22 : decode b_Link_firstSize 22 = .ok (.bipush 8, 2) := by decide +kernel
theorem d_Link_firstSize_24 : decode b_Link_firstSize 24 = .ok (.lshl, 1) := by decide +kernel
theorem d_Link_firstSize_25 : decode b_Link_firstSize 25 = .ok (.lor, 1) := by decide +kernel
theorem d_Link_firstSize_26 : decode b_Link_firstSize 26 = .ok (.aload_n 0, 1) := by decide +kernel
theorem d_Link_firstSize_27 : decode b_Link_firstSize 27 = .ok (.getfield 9, 3) := by decide +kernel
theorem d_Link_firstSize_30 : decode b_Link_firstSize 30 = .ok (.iconst 2, 1) := by decide +kernel
theorem d_Link_firstSize_31 : decode b_Link_firstSize 31 = .ok (.baload, 1) := by decide +kernel
theorem d_Link_firstSize_32 : decode b_Link_firstSize 32 = .ok (.i2l, 1) := by decide +kernel
theorem d_Link_firstSize_33 : decode b_Link_firstSize 33 = .ok (.ldc2_w 62, 3) := by decide +kernel
theorem d_Link_firstSize_36 : decode b_Link_firstSize 36 = .ok (.land, 1) := by decide +kernel
theorem d_Link_firstSize_37 : decode b_Link_firstSize 37 = .ok (.bipush 16, 2) := by decide +kernel
theorem d_Link_firstSize_39 : decode b_Link_firstSize 39 = .ok (.lshl, 1) := by decide +kernel
theorem d_Link_firstSize_40 : decode b_Link_firstSize 40 = .ok (.lor, 1) := by decide +kernel
theorem d_Link_firstSize_41 : decode b_Link_firstSize 41 = .ok (.aload_n 0, 1) := by decide +kernel
theorem d_Link_firstSize_42 : decode b_Link_firstSize 42 = .ok (.getfield 9, 3) := by decide +kernel
theorem d_Link_firstSize_45 : decode b_Link_firstSize 45 = .ok (.iconst 3, 1) := by decide +kernel
theorem d_Link_firstSize_46 : decode b_Link_firstSize 46 = .ok (.baload, 1) := by decide +kernel
theorem d_Link_firstSize_47 : decode b_Link_firstSize 47 = .ok (.i2l, 1) := by decide +kernel
theorem d_Link_firstSize_48 : decode b_Link_firstSize 48 = .ok (.ldc2_w 62, 3) := by decide +kernel
theorem d_Link_firstSize_51 : decode b_Link_firstSize 51 = .ok (.land, 1) := by decide +kernel
theorem d_Link_firstSize_52 : decode b_Link_firstSize 52 = .ok (.bipush 24, 2) := by decide +kernel
theorem d_Link_firstSize_54 : decode b_Link_firstSize 54 = .ok (.lshl, 1) := by decide +kernel
theorem d_Link_firstSize_55 : decode b_Link_firstSize 55 = .ok (.lor, 1) := by decide +kernel
theorem d_Link_firstSize_56 : decode b_Link_firstSize 56 = .ok (.lreturn, 1) := by decide +kernel
abbrev rm_Link_firstSize : Room := { frames := 0, cells := 0, slots := 0, locals := 0 }
set_option maxRecDepth 100000 in
set_option maxHeartbeats 4000000 in
theorem k_Link_firstSize {p : Program} {l : Launch} {e : Env} {s : State} {m : MethodId} {args : Array Value} {below : List Frame} {meth : Method} {c : Code} {t : TY} {a0 : Nat} {G : GS} {K : Int64 → Prop} (X : kX p s m args meth c b_Link_firstSize 1 "TreeServer$Link" t) (hret : meth.sig.returnType = some .long)  (hwp : w_Link_firstSize t G a0 K) : kW p l e rm_Link_firstSize s m args below meth c (MQ below (vp_Sl K) args s 0 0 (fun _ => False)) 1 t true 0 [(0, va_rf (some a0))] [] G := by
  unfold w_Link_firstSize at hwp
  refine kw_aload_n (pc := 0) X d_Link_firstSize_0 rfl 0 rfl ?_
  obtain ⟨f1, hwp⟩ := hwp
  refine kg_55 (a := a0) (pc := 1) X d_Link_firstSize_1 x_332 rfl f1 ?_
  refine kw_iconst (v := 0) (pc := 4) X d_Link_firstSize_4 (by decide) ?_
  obtain ⟨a2, h_a2, hwp⟩ := hwp
  obtain ⟨f3, hwp⟩ := hwp
  obtain ⟨f4, hwp⟩ := hwp
  refine ka_bald (a := a2) (pc := 5) X d_Link_firstSize_5 h_a2 f3 f4 ?_
  refine kw_i2l (pc := 6) X d_Link_firstSize_6 ?_
  refine kw_ldc2 (v := 255) (pc := 7) X d_Link_firstSize_7 x_418 ?_
  refine kw_land (pc := 10) X d_Link_firstSize_10 ?_
  refine kw_aload_n (pc := 11) X d_Link_firstSize_11 rfl 0 rfl ?_
  refine kg_55 (a := a0) (pc := 12) X d_Link_firstSize_12 x_332 rfl f1 ?_
  refine kw_iconst (v := 1) (pc := 15) X d_Link_firstSize_15 (by decide) ?_
  obtain ⟨f5, hwp⟩ := hwp
  refine ka_bald (a := a2) (pc := 16) X d_Link_firstSize_16 h_a2 f3 f5 ?_
  refine kw_i2l (pc := 17) X d_Link_firstSize_17 ?_
  refine kw_ldc2 (v := 255) (pc := 18) X d_Link_firstSize_18 x_418 ?_
  refine kw_land (pc := 21) X d_Link_firstSize_21 ?_
  refine kw_bipush (v := 8) (pc := 22) X d_Link_firstSize_22 (by decide) ?_
  refine kw_lshl (pc := 24) X d_Link_firstSize_24 ?_
  refine kw_lor (pc := 25) X d_Link_firstSize_25 ?_
  refine kw_aload_n (pc := 26) X d_Link_firstSize_26 rfl 0 rfl ?_
  refine kg_55 (a := a0) (pc := 27) X d_Link_firstSize_27 x_332 rfl f1 ?_
  refine kw_iconst (v := 2) (pc := 30) X d_Link_firstSize_30 (by decide) ?_
  obtain ⟨f6, hwp⟩ := hwp
  refine ka_bald (a := a2) (pc := 31) X d_Link_firstSize_31 h_a2 f3 f6 ?_
  refine kw_i2l (pc := 32) X d_Link_firstSize_32 ?_
  refine kw_ldc2 (v := 255) (pc := 33) X d_Link_firstSize_33 x_418 ?_
  refine kw_land (pc := 36) X d_Link_firstSize_36 ?_
  refine kw_bipush (v := 16) (pc := 37) X d_Link_firstSize_37 (by decide) ?_
  refine kw_lshl (pc := 39) X d_Link_firstSize_39 ?_
  refine kw_lor (pc := 40) X d_Link_firstSize_40 ?_
  refine kw_aload_n (pc := 41) X d_Link_firstSize_41 rfl 0 rfl ?_
  refine kg_55 (a := a0) (pc := 42) X d_Link_firstSize_42 x_332 rfl f1 ?_
  refine kw_iconst (v := 3) (pc := 45) X d_Link_firstSize_45 (by decide) ?_
  obtain ⟨f7, hwp⟩ := hwp
  refine ka_bald (a := a2) (pc := 46) X d_Link_firstSize_46 h_a2 f3 f7 ?_
  refine kw_i2l (pc := 47) X d_Link_firstSize_47 ?_
  refine kw_ldc2 (v := 255) (pc := 48) X d_Link_firstSize_48 x_418 ?_
  refine kw_land (pc := 51) X d_Link_firstSize_51 ?_
  refine kw_bipush (v := 24) (pc := 52) X d_Link_firstSize_52 (by decide) ?_
  refine kw_lshl (pc := 54) X d_Link_firstSize_54 ?_
  refine kw_lor (pc := 55) X d_Link_firstSize_55 ?_
  exact krp_l (pc := 56) X hret d_Link_firstSize_56 hwp
set_option maxRecDepth 100000 in
set_option maxHeartbeats 4000000 in
theorem c_Link_firstSize (l : Launch) (t : TY) (G : GS) (a0 : Nat) (K : Int64 → Prop) : Met l y_Link_firstSize (Cond.code y_Link_firstSize b_Link_firstSize 1 (Option.some Jvm.ClassFile.FieldType.long) :: GW) rm_Link_firstSize (va_Pc [.ref a0] (fun U => HB t G U.heap ∧ HK t U ∧ w_Link_firstSize t G a0 K)) (vp_Sl K) 0 0 (fun _ => False) := by
  refine Met.ofW (cc := b_Link_firstSize) (maxL := 1) (ret := some .long) (by decide) rfl ?_
  intro p e s m args below meth c s₁ B hml hv
  obtain ⟨rfl, hB, hK, hwp⟩ := hv
  have hts := atoms_spec (ws := Cond.code y_Link_firstSize b_Link_firstSize 1 (Option.some Jvm.ClassFile.FieldType.long) :: GW) B.pre
  have X : kX p s m _ meth c b_Link_firstSize 1 "TreeServer$Link" t := ⟨B.exec, B.bytes, hml, findClass_of_methodNamed B.named, fun w h => hts w (List.mem_cons_of_mem _ h), B.notSynchronized, hK⟩
  have hZ : kZ t true s G s.heap [] := ⟨hB, va_S.rf, fun _ => ⟨rfl, rfl⟩⟩
  rw [lg_entry_eq]
  have hl := lv_entry ([.ref a0]) (n := 1) (by simp [lg_sl, rf_cat, cat_i, cat_l, cat_r])
  exact k_Link_firstSize X B.returns hwp s.heap [] _ hl hZ
abbrev b_Link_isMissized : ByteArray := prog_6_method_9_code
def y_Link_isMissized : MethodName := ⟨"TreeServer$Link", "isMissized", "()Z"⟩
theorem d_Link_isMissized_0 : decode b_Link_isMissized 0 = .ok (.aload_n 0, 1) := by decide +kernel
theorem d_Link_isMissized_1 : decode b_Link_isMissized 1 = .ok (.getfield 34, 3) := by decide +kernel
theorem d_Link_isMissized_4 : decode b_Link_isMissized 4 = .ok (.iconst 4, 1) := by decide +kernel
theorem d_Link_isMissized_5 : decode b_Link_isMissized 5 = .ok (.if_icmp .lt 31, 3) := by decide +kernel
theorem d_Link_isMissized_8 : decode b_Link_isMissized 8 = .ok (.aload_n 0, 1) := by decide +kernel
theorem d_Link_isMissized_9 : decode b_Link_isMissized 9 = .ok (.invokevirtual 64, 3) := by decide +kernel
theorem d_Link_isMissized_12 : decode b_Link_isMissized 12 = .ok (.ldc2_w 68, 3) := by decide +kernel
theorem d_Link_isMissized_15 : decode b_Link_isMissized 15 = .ok (.lcmp, 1) := by decide +kernel
theorem d_Link_isMissized_16 : decode b_Link_isMissized 16 = .ok (.ifCond .lt 16, 3) := by decide +kernel
theorem d_Link_isMissized_19 : decode b_Link_isMissized 19 = .ok (.aload_n 0, 1) := by decide +kernel
theorem d_Link_isMissized_20 : decode b_Link_isMissized 20 = .ok (.invokevirtual 64, 3) := by decide +kernel
theorem d_Link_isMissized_23 : decode b_Link_isMissized 23 = .ok (.aload_n 0, 1) := by decide +kernel
theorem d_Link_isMissized_24 : decode b_Link_isMissized 24 = .ok (.getfield 18, 3) := by decide +kernel
theorem d_Link_isMissized_27 : decode b_Link_isMissized 27 = .ok (.i2l, 1) := by decide +kernel
theorem d_Link_isMissized_28 : decode b_Link_isMissized 28 = .ok (.lcmp, 1) := by decide +kernel
theorem d_Link_isMissized_29 : decode b_Link_isMissized 29 = .ok (.ifCond .le 7, 3) := by decide +kernel
theorem d_Link_isMissized_32 : decode b_Link_isMissized 32 = .ok (.iconst 1, 1) := by decide +kernel
theorem d_Link_isMissized_33 : decode b_Link_isMissized 33 = .ok (.goto 4, 3) := by decide +kernel
theorem d_Link_isMissized_36 : decode b_Link_isMissized 36 = .ok (.iconst 0, 1) := by decide +kernel
theorem d_Link_isMissized_37 : decode b_Link_isMissized 37 = .ok (.ireturn, 1) := by decide +kernel
abbrev rm_Link_isMissized : Room := { frames := 1, cells := 0, slots := 0, locals := 20 }
set_option maxRecDepth 100000 in
set_option maxHeartbeats 4000000 in
theorem k_Link_isMissized {p : Program} {l : Launch} {e : Env} {s : State} {m : MethodId} {args : Array Value} {below : List Frame} {meth : Method} {c : Code} {t : TY} {a0 : Nat} {G : GS} {K : Int32 → Prop} (X : kX p s m args meth c b_Link_isMissized 1 "TreeServer$Link" t) (hret : meth.sig.returnType = some .boolean)  (hwp : w_Link_isMissized t G a0 K) : kW p l e rm_Link_isMissized s m args below meth c (MQ below (vp_Si (fun r => isB r ∧ K r)) args s 0 0 (fun _ => False)) 1 t true 0 [(0, va_rf (some a0))] [] G := by
  unfold w_Link_isMissized at hwp
  refine kw_aload_n (pc := 0) X d_Link_isMissized_0 rfl 0 rfl ?_
  obtain ⟨f1, hwp⟩ := hwp
  refine kg_56 (a := a0) (pc := 1) X d_Link_isMissized_1 x_334 rfl f1 ?_
  refine kw_iconst (v := 4) (pc := 4) X d_Link_isMissized_4 (by decide) ?_
  refine kw_icmp_lt (tgt := 36) (pc := 5) X d_Link_isMissized_5 (by decide) (fun h => ?_) (fun h => ?_)
  · have hwp := ite_t h hwp
    refine kw_iconst (v := 0) (pc := 36) X d_Link_isMissized_36 (by decide) ?_
    exact krp_z (pc := 37) X hret d_Link_isMissized_37 (Or.inl rfl) hwp
  · have hwp := ite_f h hwp
    refine kw_aload_n (pc := 8) X d_Link_isMissized_8 rfl 0 rfl ?_
    refine kcVp_l (n := 0) (As := []) (rest := []) (pc := 9) X (c_Link_firstSize l t G a0 _) (cwV_of (C := "TreeServer$Link") X x_417 x_414 x_415 x_416 x_11 (by decide +kernel) ⟨rfl, rfl⟩ (by decide)) (rv_8 X f1) rfl rfl (by decide) d_Link_isMissized_9 hwp (fun v2 hwp => ?_)
    refine kw_ldc2 (v := 7) (pc := 12) X d_Link_isMissized_12 x_419 ?_
    refine kw_lcmp_lt (tgt := 32) (pc := 15) X d_Link_isMissized_15 d_Link_isMissized_16 (by decide) (fun h => ?_) (fun h => ?_)
    · have hwp := ite_t h hwp
      refine kw_iconst (v := 1) (pc := 32) X d_Link_isMissized_32 (by decide) ?_
      refine kw_goto (tgt := 37) (pc := 33) X d_Link_isMissized_33 (by decide) ?_
      exact krp_z (pc := 37) X hret d_Link_isMissized_37 (Or.inr rfl) hwp
    · have hwp := ite_f h hwp
      refine kw_aload_n (pc := 19) X d_Link_isMissized_19 rfl 0 rfl ?_
      refine kcVp_l (n := 0) (As := []) (rest := []) (pc := 20) X (c_Link_firstSize l t G a0 _) (cwV_of (C := "TreeServer$Link") X x_417 x_414 x_415 x_416 x_11 (by decide +kernel) ⟨rfl, rfl⟩ (by decide)) (rv_8 X f1) rfl rfl (by decide) d_Link_isMissized_20 hwp (fun v3 hwp => ?_)
      refine kw_aload_n (pc := 23) X d_Link_isMissized_23 rfl 0 rfl ?_
      refine kg_59 (a := a0) (pc := 24) X d_Link_isMissized_24 x_340 rfl f1 ?_
      refine kw_i2l (pc := 27) X d_Link_isMissized_27 ?_
      refine kw_lcmp_le (tgt := 36) (pc := 28) X d_Link_isMissized_28 d_Link_isMissized_29 (by decide) (fun h => ?_) (fun h => ?_)
      · have hwp := ite_t h hwp
        refine kw_iconst (v := 0) (pc := 36) X d_Link_isMissized_36 (by decide) ?_
        exact krp_z (pc := 37) X hret d_Link_isMissized_37 (Or.inl rfl) hwp
      · have hwp := ite_f h hwp
        refine kw_iconst (v := 1) (pc := 32) X d_Link_isMissized_32 (by decide) ?_
        refine kw_goto (tgt := 37) (pc := 33) X d_Link_isMissized_33 (by decide) ?_
        exact krp_z (pc := 37) X hret d_Link_isMissized_37 (Or.inr rfl) hwp
set_option maxRecDepth 100000 in
set_option maxHeartbeats 4000000 in
theorem c_Link_isMissized (l : Launch) (t : TY) (G : GS) (a0 : Nat) (K : Int32 → Prop) : Met l y_Link_isMissized (Cond.code y_Link_isMissized b_Link_isMissized 1 (Option.some Jvm.ClassFile.FieldType.boolean) :: GW) rm_Link_isMissized (va_Pc [.ref a0] (fun U => HB t G U.heap ∧ HK t U ∧ w_Link_isMissized t G a0 K)) (vp_Si (fun r => isB r ∧ K r)) 0 0 (fun _ => False) := by
  refine Met.ofW (cc := b_Link_isMissized) (maxL := 1) (ret := some .boolean) (by decide) rfl ?_
  intro p e s m args below meth c s₁ B hml hv
  obtain ⟨rfl, hB, hK, hwp⟩ := hv
  have hts := atoms_spec (ws := Cond.code y_Link_isMissized b_Link_isMissized 1 (Option.some Jvm.ClassFile.FieldType.boolean) :: GW) B.pre
  have X : kX p s m _ meth c b_Link_isMissized 1 "TreeServer$Link" t := ⟨B.exec, B.bytes, hml, findClass_of_methodNamed B.named, fun w h => hts w (List.mem_cons_of_mem _ h), B.notSynchronized, hK⟩
  have hZ : kZ t true s G s.heap [] := ⟨hB, va_S.rf, fun _ => ⟨rfl, rfl⟩⟩
  rw [lg_entry_eq]
  have hl := lv_entry ([.ref a0]) (n := 1) (by simp [lg_sl, rf_cat, cat_i, cat_l, cat_r])
  exact k_Link_isMissized X B.returns hwp s.heap [] _ hl hZ
abbrev b_Link_lowestFid : ByteArray := prog_6_method_13_code
def y_Link_lowestFid : MethodName := ⟨"TreeServer$Link", "lowestFid", "()LTreeServer$Fid;"⟩
theorem d_Link_lowestFid_0 : decode b_Link_lowestFid 0 = .ok (.aconst_null, 1) := by decide +kernel
theorem d_Link_lowestFid_1 : decode b_Link_lowestFid 1 = .ok (.astore_n 1, 1) := by decide +kernel
theorem d_Link_lowestFid_2 : decode b_Link_lowestFid 2 = .ok (.iconst 0, 1) := by decide +kernel
theorem d_Link_lowestFid_3 : decode b_Link_lowestFid 3 = .ok (.istore_n 2, 1) := by decide +kernel
theorem d_Link_lowestFid_4 : decode b_Link_lowestFid 4 = .ok (.iload_n 2, 1) := by decide +kernel
theorem d_Link_lowestFid_5 : decode b_Link_lowestFid 5 = .ok (.bipush 6, 2) := by decide +kernel
theorem d_Link_lowestFid_7 : decode b_Link_lowestFid 7 = .ok (.if_icmp .ge 41, 3) := by decide +kernel
theorem d_Link_lowestFid_10 : decode b_Link_lowestFid 10 = .ok (.aload_n 0, 1) := by decide +kernel
theorem d_Link_lowestFid_11 : decode b_Link_lowestFid 11 = .ok (.getfield 24, 3) := by decide +kernel
theorem d_Link_lowestFid_14 : decode b_Link_lowestFid 14 = .ok (.iload_n 2, 1) := by decide +kernel
theorem d_Link_lowestFid_15 : decode b_Link_lowestFid 15 = .ok (.aaload, 1) := by decide +kernel
theorem d_Link_lowestFid_16 : decode b_Link_lowestFid 16 = .ok (.astore_n 3, 1) := by decide +kernel
theorem d_Link_lowestFid_17 : decode b_Link_lowestFid 17 = .ok (.aload_n 3, 1) := by decide +kernel
theorem d_Link_lowestFid_18 : decode b_Link_lowestFid 18 = .ok (.getfield 47, 3) := by decide +kernel
theorem d_Link_lowestFid_21 : decode b_Link_lowestFid 21 = .ok (.ifCond .eq 21, 3) := by decide +kernel
theorem d_Link_lowestFid_24 : decode b_Link_lowestFid 24 = .ok (.aload_n 1, 1) := by decide +kernel
theorem d_Link_lowestFid_25 : decode b_Link_lowestFid 25 = .ok (.ifnull 15, 3) := by decide +kernel
theorem d_Link_lowestFid_28 : decode b_Link_lowestFid 28 = .ok (.aload_n 3, 1) := by decide +kernel
theorem d_Link_lowestFid_29 : decode b_Link_lowestFid 29 = .ok (.getfield 70, 3) := by decide +kernel
theorem d_Link_lowestFid_32 : decode b_Link_lowestFid 32 = .ok (.aload_n 1, 1) := by decide +kernel
theorem d_Link_lowestFid_33 : decode b_Link_lowestFid 33 = .ok (.getfield 70, 3) := by decide +kernel
theorem d_Link_lowestFid_36 : decode b_Link_lowestFid 36 = .ok (.lcmp, 1) := by decide +kernel
theorem d_Link_lowestFid_37 : decode b_Link_lowestFid 37 = .ok (.ifCond .ge 5, 3) := by decide +kernel
theorem d_Link_lowestFid_40 : decode b_Link_lowestFid 40 = .ok (.aload_n 3, 1) := by decide +kernel
theorem d_Link_lowestFid_41 : decode b_Link_lowestFid 41 = .ok (.astore_n 1, 1) := by decide +kernel
theorem d_Link_lowestFid_42 : decode b_Link_lowestFid 42 = .ok (.iinc 2 1, 3) := by decide +kernel
theorem d_Link_lowestFid_45 : decode b_Link_lowestFid 45 = .ok (.goto (-41), 3) := by decide +kernel
theorem d_Link_lowestFid_48 : decode b_Link_lowestFid 48 = .ok (.aload_n 1, 1) := by decide +kernel
theorem d_Link_lowestFid_49 : decode b_Link_lowestFid 49 = .ok (.areturn, 1) := by decide +kernel
abbrev rm_Link_lowestFid : Room := { frames := 0, cells := 0, slots := 0, locals := 0 }
set_option maxRecDepth 100000 in
set_option maxHeartbeats 4000000 in
theorem k_Link_lowestFid_4 {p : Program} {l : Launch} {e : Env} {s : State} {m : MethodId} {args : Array Value} {below : List Frame} {meth : Method} {c : Code} {t : TY} {a0 : Nat} {G : GS} {K : Option Nat → Prop} (X : kX p s m args meth c b_Link_lowestFid 4 "TreeServer$Link" t) (hret : meth.sig.returnType = some (.object "TreeServer$Fid")) : ∀ (n : Nat) (l1 : Option Nat) (l2 : Int32), w_Link_lowestFid_4 t G a0 K n l1 l2 → kW p l e rm_Link_lowestFid s m args below meth c (MQ below (va_Sq K) args s 0 0 (fun _ => False)) 4 t true 4 [(0, va_rf (some a0)), (1, va_rf l1), (2, .int l2)] [] G := by
  intro n
  induction n with
  | zero => intro l1 l2 hwp; exact hwp.elim
  | succ n hr_4 =>
    intro l1 l2 hwp
    unfold w_Link_lowestFid_4 at hwp
    dsimp only at hwp
    refine kw_iload_n (pc := 4) X d_Link_lowestFid_4 rfl 2 rfl ?_
    refine kw_bipush (v := 6) (pc := 5) X d_Link_lowestFid_5 (by decide) ?_
    refine kw_icmp_ge (tgt := 48) (pc := 7) X d_Link_lowestFid_7 (by decide) (fun h => ?_) (fun h => ?_)
    · have hwp := ite_t h hwp
      refine kw_aload_n (pc := 48) X d_Link_lowestFid_48 rfl 1 rfl ?_
      exact krp_q (pc := 49) X hret d_Link_lowestFid_49 (Or.inl ⟨_, rfl⟩) hwp
    · have hwp := ite_f h hwp
      refine kw_aload_n (pc := 10) X d_Link_lowestFid_10 rfl 0 rfl ?_
      obtain ⟨f1, hwp⟩ := hwp
      refine kg_62 (a := a0) (pc := 11) X d_Link_lowestFid_11 x_346 rfl f1 ?_
      refine kw_iload_n (pc := 14) X d_Link_lowestFid_14 rfl 2 rfl ?_
      obtain ⟨a2, h_a2, hwp⟩ := hwp
      obtain ⟨f3, hwp⟩ := hwp
      obtain ⟨f4, hwp⟩ := hwp
      refine ka_aald56 (a := a2) (pc := 15) X d_Link_lowestFid_15 h_a2 f3 f4 ?_
      refine kw_astore_n (i := 3) (lv' := [(3, va_rf (ar G a2 l2.toNatClampNeg)), (0, va_rf (some a0)), (1, va_rf l1), (2, .int l2)]) (pc := 16) X d_Link_lowestFid_16 rfl (by decide) rfl ?_
      refine kw_aload_n (pc := 17) X d_Link_lowestFid_17 rfl 0 rfl ?_
      obtain ⟨a5, h_a5, hwp⟩ := hwp
      obtain ⟨f6, hwp⟩ := hwp
      refine kg_46 (a := a5) (pc := 18) X d_Link_lowestFid_18 x_293 h_a5 f6 ?_
      refine kw_if_eq (tgt := 42) (pc := 21) X d_Link_lowestFid_21 (by decide) (fun h => ?_) (fun h => ?_)
      · have hwp := ite_t h hwp
        obtain ⟨v7, e_v7⟩ : ∃ z, z = (l2 + (1 : Int32)) := ⟨_, rfl⟩
        have hwp := hwp v7 e_v7
        refine kw_iinc (v := v7) (lv' := [(2, .int v7), (3, va_rf (ar G a2 l2.toNatClampNeg)), (0, va_rf (some a0)), (1, va_rf l1)]) (pc := 42) X d_Link_lowestFid_42 3 rfl (by rw [e_v7]; rfl) (by decide) (by simp [rf_cat, cat_i, cat_l, cat_r]) ?_
        refine kw_goto (tgt := 4) (pc := 45) X d_Link_lowestFid_45 (by decide) ?_
        exact kW.sub [2, 3, 0] rfl (hr_4 _ _ hwp)
      · have hwp := ite_f h hwp
        refine kw_aload_n (pc := 24) X d_Link_lowestFid_24 rfl 2 rfl ?_
        refine kw_ifnull (tgt := 40) (pc := 25) X d_Link_lowestFid_25 (by decide) (fun h => ?_) (fun h => ?_)
        · have hwp := ite_t h hwp
          refine kw_aload_n (pc := 40) X d_Link_lowestFid_40 rfl 0 rfl ?_
          refine kw_astore_n (i := 1) (lv' := [(1, va_rf (ar G a2 l2.toNatClampNeg)), (3, va_rf (ar G a2 l2.toNatClampNeg)), (0, va_rf (some a0)), (2, .int l2)]) (pc := 41) X d_Link_lowestFid_41 rfl (by decide) rfl ?_
          obtain ⟨v8, e_v8⟩ : ∃ z, z = (l2 + (1 : Int32)) := ⟨_, rfl⟩
          have hwp := hwp v8 e_v8
          refine kw_iinc (v := v8) (lv' := [(2, .int v8), (1, va_rf (ar G a2 l2.toNatClampNeg)), (3, va_rf (ar G a2 l2.toNatClampNeg)), (0, va_rf (some a0))]) (pc := 42) X d_Link_lowestFid_42 3 rfl (by rw [e_v8]; rfl) (by decide) (by simp [rf_cat, cat_i, cat_l, cat_r]) ?_
          refine kw_goto (tgt := 4) (pc := 45) X d_Link_lowestFid_45 (by decide) ?_
          exact kW.sub [3, 1, 0] rfl (hr_4 _ _ hwp)
        · have hwp := ite_f h hwp
          refine kw_aload_n (pc := 28) X d_Link_lowestFid_28 rfl 0 rfl ?_
          refine kg_47 (a := a5) (pc := 29) X d_Link_lowestFid_29 x_296 h_a5 f6 ?_
          refine kw_aload_n (pc := 32) X d_Link_lowestFid_32 rfl 2 rfl ?_
          obtain ⟨a9, h_a9, hwp⟩ := hwp
          obtain ⟨f10, hwp⟩ := hwp
          refine kg_47 (a := a9) (pc := 33) X d_Link_lowestFid_33 x_296 h_a9 f10 ?_
          refine kw_lcmp_ge (tgt := 42) (pc := 36) X d_Link_lowestFid_36 d_Link_lowestFid_37 (by decide) (fun h => ?_) (fun h => ?_)
          · have hwp := ite_t h hwp
            obtain ⟨v11, e_v11⟩ : ∃ z, z = (l2 + (1 : Int32)) := ⟨_, rfl⟩
            have hwp := hwp v11 e_v11
            refine kw_iinc (v := v11) (lv' := [(2, .int v11), (3, va_rf (ar G a2 l2.toNatClampNeg)), (0, va_rf (some a0)), (1, va_rf l1)]) (pc := 42) X d_Link_lowestFid_42 3 rfl (by rw [e_v11]; rfl) (by decide) (by simp [rf_cat, cat_i, cat_l, cat_r]) ?_
            refine kw_goto (tgt := 4) (pc := 45) X d_Link_lowestFid_45 (by decide) ?_
            exact kW.sub [2, 3, 0] rfl (hr_4 _ _ hwp)
          · have hwp := ite_f h hwp
            refine kw_aload_n (pc := 40) X d_Link_lowestFid_40 rfl 0 rfl ?_
            refine kw_astore_n (i := 1) (lv' := [(1, va_rf (ar G a2 l2.toNatClampNeg)), (3, va_rf (ar G a2 l2.toNatClampNeg)), (0, va_rf (some a0)), (2, .int l2)]) (pc := 41) X d_Link_lowestFid_41 rfl (by decide) rfl ?_
            obtain ⟨v12, e_v12⟩ : ∃ z, z = (l2 + (1 : Int32)) := ⟨_, rfl⟩
            have hwp := hwp v12 e_v12
            refine kw_iinc (v := v12) (lv' := [(2, .int v12), (1, va_rf (ar G a2 l2.toNatClampNeg)), (3, va_rf (ar G a2 l2.toNatClampNeg)), (0, va_rf (some a0))]) (pc := 42) X d_Link_lowestFid_42 3 rfl (by rw [e_v12]; rfl) (by decide) (by simp [rf_cat, cat_i, cat_l, cat_r]) ?_
            refine kw_goto (tgt := 4) (pc := 45) X d_Link_lowestFid_45 (by decide) ?_
            exact kW.sub [3, 1, 0] rfl (hr_4 _ _ hwp)
set_option maxRecDepth 100000 in
set_option maxHeartbeats 4000000 in
theorem k_Link_lowestFid {p : Program} {l : Launch} {e : Env} {s : State} {m : MethodId} {args : Array Value} {below : List Frame} {meth : Method} {c : Code} {t : TY} {a0 : Nat} {G : GS} {K : Option Nat → Prop} (X : kX p s m args meth c b_Link_lowestFid 4 "TreeServer$Link" t) (hret : meth.sig.returnType = some (.object "TreeServer$Fid"))  (hwp : w_Link_lowestFid t G a0 K) : kW p l e rm_Link_lowestFid s m args below meth c (MQ below (va_Sq K) args s 0 0 (fun _ => False)) 4 t true 0 [(0, va_rf (some a0))] [] G := by
  unfold w_Link_lowestFid at hwp
  refine kw_null (pc := 0) X d_Link_lowestFid_0 ?_
  refine kw_astore_n (i := 1) (lv' := [(1, va_rf none), (0, va_rf (some a0))]) (pc := 1) X d_Link_lowestFid_1 rfl (by decide) rfl ?_
  refine kw_iconst (v := 0) (pc := 2) X d_Link_lowestFid_2 (by decide) ?_
  refine kw_istore_n (i := 2) (lv' := [(2, .int (0 : Int32)), (1, va_rf none), (0, va_rf (some a0))]) (pc := 3) X d_Link_lowestFid_3 rfl (by decide) (by simp [rf_cat, cat_i, cat_l, cat_r]) ?_
  obtain ⟨n, hwp⟩ := hwp
  exact kW.sub [2, 1, 0] rfl (k_Link_lowestFid_4 X hret  n _ _ hwp)
set_option maxRecDepth 100000 in
set_option maxHeartbeats 4000000 in
theorem c_Link_lowestFid (l : Launch) (t : TY) (G : GS) (a0 : Nat) (K : Option Nat → Prop) : Met l y_Link_lowestFid (Cond.code y_Link_lowestFid b_Link_lowestFid 4 (Option.some (Jvm.ClassFile.FieldType.object "TreeServer$Fid")) :: GW) rm_Link_lowestFid (va_Pc [.ref a0] (fun U => HB t G U.heap ∧ HK t U ∧ w_Link_lowestFid t G a0 K)) (va_Sq K) 0 0 (fun _ => False) := by
  refine Met.ofW (cc := b_Link_lowestFid) (maxL := 4) (ret := some (.object "TreeServer$Fid")) (by decide) rfl ?_
  intro p e s m args below meth c s₁ B hml hv
  obtain ⟨rfl, hB, hK, hwp⟩ := hv
  have hts := atoms_spec (ws := Cond.code y_Link_lowestFid b_Link_lowestFid 4 (Option.some (Jvm.ClassFile.FieldType.object "TreeServer$Fid")) :: GW) B.pre
  have X : kX p s m _ meth c b_Link_lowestFid 4 "TreeServer$Link" t := ⟨B.exec, B.bytes, hml, findClass_of_methodNamed B.named, fun w h => hts w (List.mem_cons_of_mem _ h), B.notSynchronized, hK⟩
  have hZ : kZ t true s G s.heap [] := ⟨hB, va_S.rf, fun _ => ⟨rfl, rfl⟩⟩
  rw [lg_entry_eq]
  have hl := lv_entry ([.ref a0]) (n := 4) (by simp [lg_sl, rf_cat, cat_i, cat_l, cat_r])
  exact k_Link_lowestFid X B.returns hwp s.heap [] _ hl hZ
abbrev b_Fid_isGone : ByteArray := prog_4_method_4_code
def y_Fid_isGone : MethodName := ⟨"TreeServer$Fid", "isGone", "()Z"⟩
theorem d_Fid_isGone_0 : decode b_Fid_isGone 0 = .ok (.aload_n 0, 1) := by decide +kernel
theorem d_Fid_isGone_1 : decode b_Fid_isGone 1 = .ok (.getfield 24, 3) := by decide +kernel
theorem d_Fid_isGone_4 : decode b_Fid_isGone 4 = .ok (.getfield 36, 3) := by decide +kernel
theorem d_Fid_isGone_7 : decode b_Fid_isGone 7 = .ok (.aload_n 0, 1) := by decide +kernel
theorem d_Fid_isGone_8 : decode b_Fid_isGone 8 = .ok (.getfield 41, 3) := by decide +kernel
theorem d_Fid_isGone_11 : decode b_Fid_isGone 11 = .ok (.if_icmp .eq 7, 3) := by decide +kernel
theorem d_Fid_isGone_14 : decode b_Fid_isGone 14 = .ok (.iconst 1, 1) := by decide +kernel
theorem d_Fid_isGone_15 : decode b_Fid_isGone 15 = .ok (.goto 4, 3) := by decide +kernel
theorem d_Fid_isGone_18 : decode b_Fid_isGone 18 = .ok (.iconst 0, 1) := by decide +kernel
theorem d_Fid_isGone_19 : decode b_Fid_isGone 19 = .ok (.ireturn, 1) := by decide +kernel
abbrev rm_Fid_isGone : Room := { frames := 0, cells := 0, slots := 0, locals := 0 }
set_option maxRecDepth 100000 in
set_option maxHeartbeats 4000000 in
theorem k_Fid_isGone {p : Program} {l : Launch} {e : Env} {s : State} {m : MethodId} {args : Array Value} {below : List Frame} {meth : Method} {c : Code} {t : TY} {a0 : Nat} {G : GS} {K : Int32 → Prop} (X : kX p s m args meth c b_Fid_isGone 1 "TreeServer$Fid" t) (hret : meth.sig.returnType = some .boolean)  (hwp : w_Fid_isGone t G a0 K) : kW p l e rm_Fid_isGone s m args below meth c (MQ below (vp_Si (fun r => isB r ∧ K r)) args s 0 0 (fun _ => False)) 1 t true 0 [(0, va_rf (some a0))] [] G := by
  unfold w_Fid_isGone at hwp
  refine kw_aload_n (pc := 0) X d_Fid_isGone_0 rfl 0 rfl ?_
  obtain ⟨f1, hwp⟩ := hwp
  refine kg_48 (a := a0) (pc := 1) X d_Fid_isGone_1 x_298 rfl f1 ?_
  obtain ⟨a2, h_a2, hwp⟩ := hwp
  obtain ⟨f3, hwp⟩ := hwp
  refine kg_0 (a := a2) (pc := 4) X d_Fid_isGone_4 x_44 h_a2 f3 ?_
  refine kw_aload_n (pc := 7) X d_Fid_isGone_7 rfl 0 rfl ?_
  refine kg_49 (a := a0) (pc := 8) X d_Fid_isGone_8 x_301 rfl f1 ?_
  refine kw_icmp_eq (tgt := 18) (pc := 11) X d_Fid_isGone_11 (by decide) (fun h => ?_) (fun h => ?_)
  · have hwp := ite_t h hwp
    refine kw_iconst (v := 0) (pc := 18) X d_Fid_isGone_18 (by decide) ?_
    exact krp_z (pc := 19) X hret d_Fid_isGone_19 (Or.inl rfl) hwp
  · have hwp := ite_f h hwp
    refine kw_iconst (v := 1) (pc := 14) X d_Fid_isGone_14 (by decide) ?_
    refine kw_goto (tgt := 19) (pc := 15) X d_Fid_isGone_15 (by decide) ?_
    exact krp_z (pc := 19) X hret d_Fid_isGone_19 (Or.inr rfl) hwp
set_option maxRecDepth 100000 in
set_option maxHeartbeats 4000000 in
theorem c_Fid_isGone (l : Launch) (t : TY) (G : GS) (a0 : Nat) (K : Int32 → Prop) : Met l y_Fid_isGone (Cond.code y_Fid_isGone b_Fid_isGone 1 (Option.some Jvm.ClassFile.FieldType.boolean) :: GW) rm_Fid_isGone (va_Pc [.ref a0] (fun U => HB t G U.heap ∧ HK t U ∧ w_Fid_isGone t G a0 K)) (vp_Si (fun r => isB r ∧ K r)) 0 0 (fun _ => False) := by
  refine Met.ofW (cc := b_Fid_isGone) (maxL := 1) (ret := some .boolean) (by decide) rfl ?_
  intro p e s m args below meth c s₁ B hml hv
  obtain ⟨rfl, hB, hK, hwp⟩ := hv
  have hts := atoms_spec (ws := Cond.code y_Fid_isGone b_Fid_isGone 1 (Option.some Jvm.ClassFile.FieldType.boolean) :: GW) B.pre
  have X : kX p s m _ meth c b_Fid_isGone 1 "TreeServer$Fid" t := ⟨B.exec, B.bytes, hml, findClass_of_methodNamed B.named, fun w h => hts w (List.mem_cons_of_mem _ h), B.notSynchronized, hK⟩
  have hZ : kZ t true s G s.heap [] := ⟨hB, va_S.rf, fun _ => ⟨rfl, rfl⟩⟩
  rw [lg_entry_eq]
  have hl := lv_entry ([.ref a0]) (n := 1) (by simp [lg_sl, rf_cat, cat_i, cat_l, cat_r])
  exact k_Fid_isGone X B.returns hwp s.heap [] _ hl hZ
abbrev b_User_isIn : ByteArray := prog_11_method_4_code
def y_User_isIn : MethodName := ⟨"TreeServer$User", "isIn", "(LTreeServer$User;)Z"⟩
theorem d_User_isIn_0 : decode b_User_isIn 0 = .ok (.aload_n 0, 1) := by decide +kernel
theorem d_User_isIn_1 : decode b_User_isIn 1 = .ok (.aload_n 1, 1) := by decide +kernel
theorem d_User_isIn_2 : decode b_User_isIn 2 = .ok (.if_acmp .eq 17, 3) := by decide +kernel
theorem d_User_isIn_5 : decode b_User_isIn 5 = .ok (.aload_n 0, 1) := by decide +kernel
theorem d_User_isIn_6 : decode b_User_isIn 6 = .ok (.getstatic 7, 3) := by decide +kernel
theorem d_User_isIn_9 : decode b_User_isIn 9 = .ok (.if_acmp .ne 14, 3) := by decide +kernel
theorem d_User_isIn_12 : decode b_User_isIn 12 = .ok (.aload_n 1, 1) := by decide +kernel
theorem d_User_isIn_13 : decode b_User_isIn 13 = .ok (.getstatic 3, 3) := by decide +kernel
theorem d_User_isIn_16 : decode b_User_isIn 16 = .ok (.if_acmp .ne 7, 3) := by decide +kernel
theorem d_User_isIn_19 : decode b_User_isIn 19 = .ok (.iconst 1, 1) := by decide +kernel
theorem d_User_isIn_20 : decode b_User_isIn 20 = .ok (.goto 4, 3) := by decide +kernel
theorem d_User_isIn_23 : decode b_User_isIn 23 = .ok (.iconst 0, 1) := by decide +kernel
theorem d_User_isIn_24 : decode b_User_isIn 24 = .ok (.ireturn, 1) := by decide +kernel
abbrev rm_User_isIn : Room := { frames := 0, cells := 0, slots := 0, locals := 0 }
set_option maxRecDepth 100000 in
set_option maxHeartbeats 4000000 in
theorem k_User_isIn {p : Program} {l : Launch} {e : Env} {s : State} {m : MethodId} {args : Array Value} {below : List Frame} {meth : Method} {c : Code} {t : TY} {a0 : Nat} {G : GS} {K : Int32 → Prop} (X : kX p s m args meth c b_User_isIn 2 "TreeServer$User" t) (hret : meth.sig.returnType = some .boolean) (p1 : Option Nat) (hwp : w_User_isIn t G a0 p1 K) : kW p l e rm_User_isIn s m args below meth c (MQ below (vp_Si (fun r => isB r ∧ K r)) args s 0 0 (fun _ => False)) 2 t true 0 [(0, va_rf (some a0)), (1, va_rf p1)] [] G := by
  unfold w_User_isIn at hwp
  refine kw_aload_n (pc := 0) X d_User_isIn_0 rfl 0 rfl ?_
  refine kw_aload_n (pc := 1) X d_User_isIn_1 rfl 1 rfl ?_
  refine kw_acmp_eq (tgt := 19) (pc := 2) X d_User_isIn_2 (by decide) (fun h => ?_) (fun h => ?_)
  · have hwp := ite_t h hwp
    refine kw_iconst (v := 1) (pc := 19) X d_User_isIn_19 (by decide) ?_
    refine kw_goto (tgt := 24) (pc := 20) X d_User_isIn_20 (by decide) ?_
    exact krp_z (pc := 24) X hret d_User_isIn_24 (Or.inr rfl) hwp
  · have hwp := ite_f h hwp
    refine kw_aload_n (pc := 5) X d_User_isIn_5 rfl 0 rfl ?_
    refine ks_1 (pc := 6) X d_User_isIn_6 x_444 ?_
    refine kw_acmp_ne (tgt := 23) (pc := 9) X d_User_isIn_9 (by decide) (fun h => ?_) (fun h => ?_)
    · have hwp := ite_t h hwp
      refine kw_iconst (v := 0) (pc := 23) X d_User_isIn_23 (by decide) ?_
      exact krp_z (pc := 24) X hret d_User_isIn_24 (Or.inl rfl) hwp
    · have hwp := ite_f (not_not_intro h) hwp
      refine kw_aload_n (pc := 12) X d_User_isIn_12 rfl 1 rfl ?_
      refine ks_0 (pc := 13) X d_User_isIn_13 x_446 ?_
      refine kw_acmp_ne (tgt := 23) (pc := 16) X d_User_isIn_16 (by decide) (fun h => ?_) (fun h => ?_)
      · have hwp := ite_t h hwp
        refine kw_iconst (v := 0) (pc := 23) X d_User_isIn_23 (by decide) ?_
        exact krp_z (pc := 24) X hret d_User_isIn_24 (Or.inl rfl) hwp
      · have hwp := ite_f (not_not_intro h) hwp
        refine kw_iconst (v := 1) (pc := 19) X d_User_isIn_19 (by decide) ?_
        refine kw_goto (tgt := 24) (pc := 20) X d_User_isIn_20 (by decide) ?_
        exact krp_z (pc := 24) X hret d_User_isIn_24 (Or.inr rfl) hwp
set_option maxRecDepth 100000 in
set_option maxHeartbeats 4000000 in
theorem c_User_isIn (l : Launch) (t : TY) (G : GS) (a0 : Nat) (p1 : Option Nat) (K : Int32 → Prop) : Met l y_User_isIn (Cond.code y_User_isIn b_User_isIn 2 (Option.some Jvm.ClassFile.FieldType.boolean) :: GW) rm_User_isIn (va_Pc [.ref a0, va_rf p1] (fun U => HB t G U.heap ∧ HK t U ∧ w_User_isIn t G a0 p1 K)) (vp_Si (fun r => isB r ∧ K r)) 0 0 (fun _ => False) := by
  refine Met.ofW (cc := b_User_isIn) (maxL := 2) (ret := some .boolean) (by decide) rfl ?_
  intro p e s m args below meth c s₁ B hml hv
  obtain ⟨rfl, hB, hK, hwp⟩ := hv
  have hts := atoms_spec (ws := Cond.code y_User_isIn b_User_isIn 2 (Option.some Jvm.ClassFile.FieldType.boolean) :: GW) B.pre
  have X : kX p s m _ meth c b_User_isIn 2 "TreeServer$User" t := ⟨B.exec, B.bytes, hml, findClass_of_methodNamed B.named, fun w h => hts w (List.mem_cons_of_mem _ h), B.notSynchronized, hK⟩
  have hZ : kZ t true s G s.heap [] := ⟨hB, va_S.rf, fun _ => ⟨rfl, rfl⟩⟩
  rw [lg_entry_eq]
  have hl := lv_entry ([.ref a0, va_rf p1]) (n := 2) (by simp [lg_sl, rf_cat, cat_i, cat_l, cat_r])
  rw [show lv_args 0 [.ref a0, va_rf p1] = [(0, .ref a0), (1, va_rf p1)] from by simp [lv_args, rf_cat, cat_i, cat_l, cat_r]] at hl
  exact k_User_isIn X B.returns _ hwp s.heap [] _ hl hZ
abbrev b_Node_lets : ByteArray := prog_9_method_4_code
def y_Node_lets : MethodName := ⟨"TreeServer$Node", "lets", "(LTreeServer$User;I)Z"⟩
theorem d_Node_lets_0 : decode b_Node_lets 0 = .ok (.aload_n 0, 1) := by decide +kernel
theorem d_Node_lets_1 : decode b_Node_lets 1 = .ok (.getfield 37, 3) := by decide +kernel
theorem d_Node_lets_4 : decode b_Node_lets 4 = .ok (.iload_n 2, 1) := by decide +kernel
theorem d_Node_lets_5 : decode b_Node_lets 5 = .ok (.iand, 1) := by decide +kernel
theorem d_Node_lets_6 : decode b_Node_lets 6 = .ok (.ifCond .eq 5, 3) := by decide +kernel
theorem d_Node_lets_9 : decode b_Node_lets 9 = .ok (.iconst 1, 1) := by decide +kernel
theorem d_Node_lets_10 : decode b_Node_lets 10 = .ok (.ireturn, 1) := by decide +kernel
theorem d_Node_lets_11 : decode b_Node_lets 11 = .ok (.aload_n 0, 1) := by decide +kernel
theorem d_Node_lets_12 : decode b_Node_lets 12 = .ok (.getfield 37, 3) := by decide +kernel
theorem d_Node_lets_15 : decode b_Node_lets 15 = .ok (.iconst 3, 1) := by decide +kernel
theorem d_Node_lets_16 : decode b_Node_lets 16 = .ok (.ishr, 1) := by decide +kernel
theorem d_Node_lets_17 : decode b_Node_lets 17 = .ok (.iload_n 2, 1) := by decide +kernel
theorem d_Node_lets_18 : decode b_Node_lets 18 = .ok (.iand, 1) := by decide +kernel
theorem d_Node_lets_19 : decode b_Node_lets 19 = .ok (.ifCond .eq 16, 3) := by decide +kernel
theorem d_Node_lets_22 : decode b_Node_lets 22 = .ok (.aload_n 1, 1) := by decide +kernel
theorem d_Node_lets_23 : decode b_Node_lets 23 = .ok (.aload_n 0, 1) := by decide +kernel
theorem d_Node_lets_24 : decode b_Node_lets 24 = .ok (.getfield 24, 3) := by decide +kernel
theorem d_Node_lets_27 : decode b_Node_lets 27 = .ok (.invokevirtual 41, 3) := by decide +kernel
theorem d_Node_lets_30 : decode b_Node_lets 30 = .ok (.ifCond .eq 5, 3) := by decide +kernel
theorem d_Node_lets_33 : decode b_Node_lets 33 = .ok (.iconst 1, 1) := by decide +kernel
theorem d_Node_lets_34 : decode b_Node_lets 34 = .ok (.ireturn, 1) := by decide +kernel
theorem d_Node_lets_35 : decode b_Node_lets 35 = .ok (.aload_n 0, 1) := by decide +kernel
theorem d_Node_lets_36 : decode b_Node_lets 36 = .ok (.getfield 37, 3) := by decide +kernel
theorem d_Node_lets_39 : decode b_Node_lets 39 = .ok (.bipush 6, 2) := by decide +kernel
theorem d_Node_lets_41 : decode b_Node_lets 41 = .ok (.ishr, 1) := by decide +kernel
theorem d_Node_lets_42 : decode b_Node_lets 42 = .ok (.iload_n 2, 1) := by decide +kernel
theorem d_Node_lets_43 : decode b_Node_lets 43 = .ok (.iand, 1) := by decide +kernel
theorem d_Node_lets_44 : decode b_Node_lets 44 = .ok (.ifCond .eq 15, 3) := by decide +kernel
theorem d_Node_lets_47 : decode b_Node_lets 47 = .ok (.aload_n 1, 1) := by decide +kernel
theorem d_Node_lets_48 : decode b_Node_lets 48 = .ok (.aload_n 0, 1) := by decide +kernel
theorem d_Node_lets_49 : decode b_Node_lets 49 = .ok (.getfield 21, 3) := by decide +kernel
theorem d_Node_lets_52 : decode b_Node_lets 52 = .ok (.if_acmp .ne 7, 3) := by decide +kernel
theorem d_Node_lets_55 : decode b_Node_lets 55 = .ok (.iconst 1, 1) := by decide +kernel
theorem d_Node_lets_56 : decode b_Node_lets 56 = .ok (.goto 4, 3) := by decide +kernel
theorem d_Node_lets_59 : decode b_Node_lets 59 = .ok (.iconst 0, 1) := by decide +kernel
theorem d_Node_lets_60 : decode b_Node_lets 60 = .ok (.ireturn, 1) := by decide +kernel
abbrev rm_Node_lets : Room := { frames := 1, cells := 0, slots := 0, locals := 21 }
set_option maxRecDepth 100000 in
set_option maxHeartbeats 4000000 in
theorem k_Node_lets_35 {p : Program} {l : Launch} {e : Env} {s : State} {m : MethodId} {args : Array Value} {below : List Frame} {meth : Method} {c : Code} {t : TY} {a0 : Nat} {G : GS} {K : Int32 → Prop} (X : kX p s m args meth c b_Node_lets 3 "TreeServer$Node" t) (hret : meth.sig.returnType = some .boolean) (l1 : Option Nat) (l2 : Int32) (hwp : w_Node_lets_35 t G a0 K l1 l2) : kW p l e rm_Node_lets s m args below meth c (MQ below (vp_Si (fun r => isB r ∧ K r)) args s 0 0 (fun _ => False)) 3 t true 35 [(0, va_rf (some a0)), (1, va_rf l1), (2, .int l2)] [] G := by
  unfold w_Node_lets_35 at hwp
  refine kw_aload_n (pc := 35) X d_Node_lets_35 rfl 0 rfl ?_
  obtain ⟨f1, hwp⟩ := hwp
  refine kg_2 (a := a0) (pc := 36) X d_Node_lets_36 x_51 rfl f1 ?_
  refine kw_bipush (v := 6) (pc := 39) X d_Node_lets_39 (by decide) ?_
  refine kw_ishr (pc := 41) X d_Node_lets_41 ?_
  refine kw_iload_n (pc := 42) X d_Node_lets_42 rfl 2 rfl ?_
  refine kw_iand (pc := 43) X d_Node_lets_43 ?_
  refine kw_if_eq (tgt := 59) (pc := 44) X d_Node_lets_44 (by decide) (fun h => ?_) (fun h => ?_)
  · have hwp := ite_t h hwp
    refine kw_iconst (v := 0) (pc := 59) X d_Node_lets_59 (by decide) ?_
    exact krp_z (pc := 60) X hret d_Node_lets_60 (Or.inl rfl) hwp
  · have hwp := ite_f h hwp
    refine kw_aload_n (pc := 47) X d_Node_lets_47 rfl 1 rfl ?_
    refine kw_aload_n (pc := 48) X d_Node_lets_48 rfl 0 rfl ?_
    refine kg_4 (a := a0) (pc := 49) X d_Node_lets_49 x_58 rfl f1 ?_
    refine kw_acmp_ne (tgt := 59) (pc := 52) X d_Node_lets_52 (by decide) (fun h => ?_) (fun h => ?_)
    · have hwp := ite_t h hwp
      refine kw_iconst (v := 0) (pc := 59) X d_Node_lets_59 (by decide) ?_
      exact krp_z (pc := 60) X hret d_Node_lets_60 (Or.inl rfl) hwp
    · have hwp := ite_f (not_not_intro h) hwp
      refine kw_iconst (v := 1) (pc := 55) X d_Node_lets_55 (by decide) ?_
      refine kw_goto (tgt := 60) (pc := 56) X d_Node_lets_56 (by decide) ?_
      exact krp_z (pc := 60) X hret d_Node_lets_60 (Or.inr rfl) hwp
set_option maxRecDepth 100000 in
set_option maxHeartbeats 4000000 in
theorem k_Node_lets {p : Program} {l : Launch} {e : Env} {s : State} {m : MethodId} {args : Array Value} {below : List Frame} {meth : Method} {c : Code} {t : TY} {a0 : Nat} {G : GS} {K : Int32 → Prop} (X : kX p s m args meth c b_Node_lets 3 "TreeServer$Node" t) (hret : meth.sig.returnType = some .boolean) (p1 : Option Nat) (p2 : Int32) (hwp : w_Node_lets t G a0 p1 p2 K) : kW p l e rm_Node_lets s m args below meth c (MQ below (vp_Si (fun r => isB r ∧ K r)) args s 0 0 (fun _ => False)) 3 t true 0 [(0, va_rf (some a0)), (1, va_rf p1), (2, .int p2)] [] G := by
  unfold w_Node_lets at hwp
  refine kw_aload_n (pc := 0) X d_Node_lets_0 rfl 0 rfl ?_
  obtain ⟨f1, hwp⟩ := hwp
  refine kg_2 (a := a0) (pc := 1) X d_Node_lets_1 x_51 rfl f1 ?_
  refine kw_iload_n (pc := 4) X d_Node_lets_4 rfl 2 rfl ?_
  refine kw_iand (pc := 5) X d_Node_lets_5 ?_
  refine kw_if_eq (tgt := 11) (pc := 6) X d_Node_lets_6 (by decide) (fun h => ?_) (fun h => ?_)
  · have hwp := ite_t h hwp
    refine kw_aload_n (pc := 11) X d_Node_lets_11 rfl 0 rfl ?_
    refine kg_2 (a := a0) (pc := 12) X d_Node_lets_12 x_51 rfl f1 ?_
    refine kw_iconst (v := 3) (pc := 15) X d_Node_lets_15 (by decide) ?_
    refine kw_ishr (pc := 16) X d_Node_lets_16 ?_
    refine kw_iload_n (pc := 17) X d_Node_lets_17 rfl 2 rfl ?_
    refine kw_iand (pc := 18) X d_Node_lets_18 ?_
    refine kw_if_eq (tgt := 35) (pc := 19) X d_Node_lets_19 (by decide) (fun h => ?_) (fun h => ?_)
    · have hwp := ite_t h hwp
      exact kW.sub [0, 1, 2] rfl (k_Node_lets_35 X hret  _ _ hwp)
    · have hwp := ite_f h hwp
      refine kw_aload_n (pc := 22) X d_Node_lets_22 rfl 1 rfl ?_
      refine kw_aload_n (pc := 23) X d_Node_lets_23 rfl 0 rfl ?_
      refine kg_5 (a := a0) (pc := 24) X d_Node_lets_24 x_62 rfl f1 ?_
      obtain ⟨a2, h_a2, hwp⟩ := hwp
      obtain ⟨f3, hwp⟩ := hwp
      refine kW.st (st' := [va_rf (gr G 5 a0), .ref a2]) (by simp only [h_a2]; rfl) ?_
      refine kcVp_i (n := 1) (As := [va_rf (gr G 5 a0)]) (rest := []) (pc := 27) X (c_User_isIn l t G a2 (gr G 5 a0) _) (cwV_of (C := "TreeServer$User") X x_443 x_440 x_441 x_442 x_5 (by decide +kernel) ⟨rfl, rfl⟩ (by decide)) (rv_U X f3) rfl rfl (by decide) d_Node_lets_27 hwp (fun v4 hwp => ?_)
      obtain ⟨b_v4, hwp⟩ := hwp
      refine kw_if_eq (tgt := 35) (pc := 30) X d_Node_lets_30 (by decide) (fun h => ?_) (fun h => ?_)
      · have hwp := ite_t h hwp
        exact kW.sub [0, 1, 2] rfl (k_Node_lets_35 X hret  _ _ hwp)
      · have hwp := ite_f h hwp
        refine kw_iconst (v := 1) (pc := 33) X d_Node_lets_33 (by decide) ?_
        exact krp_z (pc := 34) X hret d_Node_lets_34 (Or.inr rfl) hwp
  · have hwp := ite_f h hwp
    refine kw_iconst (v := 1) (pc := 9) X d_Node_lets_9 (by decide) ?_
    exact krp_z (pc := 10) X hret d_Node_lets_10 (Or.inr rfl) hwp
set_option maxRecDepth 100000 in
set_option maxHeartbeats 4000000 in
theorem c_Node_lets (l : Launch) (t : TY) (G : GS) (a0 : Nat) (p1 : Option Nat) (p2 : Int32) (K : Int32 → Prop) : Met l y_Node_lets (Cond.code y_Node_lets b_Node_lets 3 (Option.some Jvm.ClassFile.FieldType.boolean) :: GW) rm_Node_lets (va_Pc [.ref a0, va_rf p1, .int p2] (fun U => HB t G U.heap ∧ HK t U ∧ w_Node_lets t G a0 p1 p2 K)) (vp_Si (fun r => isB r ∧ K r)) 0 0 (fun _ => False) := by
  refine Met.ofW (cc := b_Node_lets) (maxL := 3) (ret := some .boolean) (by decide) rfl ?_
  intro p e s m args below meth c s₁ B hml hv
  obtain ⟨rfl, hB, hK, hwp⟩ := hv
  have hts := atoms_spec (ws := Cond.code y_Node_lets b_Node_lets 3 (Option.some Jvm.ClassFile.FieldType.boolean) :: GW) B.pre
  have X : kX p s m _ meth c b_Node_lets 3 "TreeServer$Node" t := ⟨B.exec, B.bytes, hml, findClass_of_methodNamed B.named, fun w h => hts w (List.mem_cons_of_mem _ h), B.notSynchronized, hK⟩
  have hZ : kZ t true s G s.heap [] := ⟨hB, va_S.rf, fun _ => ⟨rfl, rfl⟩⟩
  rw [lg_entry_eq]
  have hl := lv_entry ([.ref a0, va_rf p1, .int p2]) (n := 3) (by simp [lg_sl, rf_cat, cat_i, cat_l, cat_r])
  rw [show lv_args 0 [.ref a0, va_rf p1, .int p2] = [(0, .ref a0), (1, va_rf p1), (2, .int p2)] from by simp [lv_args, rf_cat, cat_i, cat_l, cat_r]] at hl
  exact k_Node_lets X B.returns _ _ hwp s.heap [] _ hl hZ
abbrev b_Change_begin : ByteArray := prog_3_method_2_code
def y_Change_begin : MethodName := ⟨"TreeServer$Change", "begin", "(LTreeServer$Kind;LTreeServer$Node;LTreeServer$User;I)V"⟩
theorem d_Change_begin_0 : decode b_Change_begin 0 = .ok (.aload_n 0, 1) := by decide +kernel
theorem d_Change_begin_1 : decode b_Change_begin 1 = .ok (.aload_n 1, 1) := by decide +kernel
theorem d_Change_begin_2 : decode b_Change_begin 2 = .ok (.putfield 15, 3) := by decide +kernel
theorem d_Change_begin_5 : decode b_Change_begin 5 = .ok (.aload_n 0, 1) := by decide +kernel
theorem d_Change_begin_6 : decode b_Change_begin 6 = .ok (.aload_n 2, 1) := by decide +kernel
theorem d_Change_begin_7 : decode b_Change_begin 7 = .ok (.putfield 36, 3) := by decide +kernel
theorem d_Change_begin_10 : decode b_Change_begin 10 = .ok (.aload_n 0, 1) := by decide +kernel
theorem d_Change_begin_11 : decode b_Change_begin 11 = .ok (.aload_n 3, 1) := by decide +kernel
theorem d_Change_begin_12 : decode b_Change_begin 12 = .ok (.putfield 26, 3) := by decide +kernel
theorem d_Change_begin_15 : decode b_Change_begin 15 = .ok (.aload_n 0, 1) := by decide +kernel
theorem d_Change_begin_16 : decode b_Change_begin 16 = .ok (.iload 4, 2) := by decide +kernel
theorem d_Change_begin_18 : decode b_Change_begin 18 = .ok (.putfield 40, 3) := by decide +kernel
theorem d_Change_begin_21 : decode b_Change_begin 21 = .ok (.aload_n 0, 1) := by decide +kernel
theorem d_Change_begin_22 : decode b_Change_begin 22 = .ok (.iconst (-1), 1) := by decide +kernel
theorem d_Change_begin_23 : decode b_Change_begin 23 = .ok (.putfield 44, 3) := by decide +kernel
theorem d_Change_begin_26 : decode b_Change_begin 26 = .ok (.aload_n 0, 1) := by decide +kernel
theorem d_Change_begin_27 : decode b_Change_begin 27 = .ok (.iconst 0, 1) := by decide +kernel
theorem d_Change_begin_28 : decode b_Change_begin 28 = .ok (.putfield 47, 3) := by decide +kernel
theorem d_Change_begin_31 : decode b_Change_begin 31 = .ok (.aload_n 0, 1) := by decide +kernel
theorem d_Change_begin_32 : decode b_Change_begin 32 = .ok (.iconst 0, 1) := by decide +kernel
theorem d_Change_begin_33 : decode b_Change_begin 33 = .ok (.putfield 51, 3) := by decide +kernel
theorem d_Change_begin_36 : decode b_Change_begin 36 = .ok (.aload_n 0, 1) := by decide +kernel
theorem d_Change_begin_37 : decode b_Change_begin 37 = .ok (.aconst_null, 1) := by decide +kernel
theorem d_Change_begin_38 : decode b_Change_begin 38 = .ok (.putfield 54, 3) := by decide +kernel
theorem d_Change_begin_41 : decode b_Change_begin 41 = .ok (.aload_n 0, 1) := by decide +kernel
theorem d_Change_begin_42 : decode b_Change_begin 42 = .ok (.iconst 0, 1) := by decide +kernel
theorem d_Change_begin_43 : decode b_Change_begin 43 = .ok (.putfield 57, 3) := by decide +kernel
theorem d_Change_begin_46 : decode b_Change_begin 46 = .ok (.return_, 1) := by decide +kernel
abbrev rm_Change_begin : Room := { frames := 0, cells := 0, slots := 0, locals := 0 }
set_option maxRecDepth 100000 in
set_option maxHeartbeats 4000000 in
theorem k_Change_begin {p : Program} {l : Launch} {e : Env} {s : State} {m : MethodId} {args : Array Value} {below : List Frame} {meth : Method} {c : Code} {t : TY} {a0 : Nat} {K : GS → Prop} (X : kX p s m args meth c b_Change_begin 5 "TreeServer$Change" t) (hret : meth.sig.returnType = none) (G : GS) (p1 : Option Nat) (p2 : Nat) (p3 : Option Nat) (p4 : Int32) (hwp : w_Change_begin t G a0 p1 p2 p3 p4 K) : kW p l e rm_Change_begin s m args below meth c (MQ below (va_Qv (fun u : GS => K u) (fun u T => HB t u T.heap) (tA t)) args s 0 0 (tA t)) 5 t false 0 [(0, va_rf (some a0)), (1, va_rf p1), (2, va_rf (some p2)), (3, va_rf p3), (4, .int p4)] [] G := by
  unfold w_Change_begin at hwp
  refine kw_aload_n (pc := 0) X d_Change_begin_0 rfl 0 rfl ?_
  refine kw_aload_n (pc := 1) X d_Change_begin_1 rfl 1 rfl ?_
  obtain ⟨f1, hwp⟩ := hwp
  refine kp_21 (a := a0) (x := p1) (pc := 2) X rfl d_Change_begin_2 x_167 rfl f1 ?_
  obtain ⟨G2, e_G2⟩ : ∃ g, g = sr G 21 a0 p1 := ⟨_, rfl⟩
  have hwp := hwp G2 e_G2
  refine kW.g e_G2.symm ?_
  refine kw_aload_n (pc := 5) X d_Change_begin_5 rfl 0 rfl ?_
  refine kw_aload_n (pc := 6) X d_Change_begin_6 rfl 2 rfl ?_
  refine kp_22 (a := a0) (x := some p2) (pc := 7) X rfl d_Change_begin_7 x_168 rfl f1 ?_
  obtain ⟨G3, e_G3⟩ : ∃ g, g = sr G2 22 a0 (some p2) := ⟨_, rfl⟩
  have hwp := hwp G3 e_G3
  refine kW.g e_G3.symm ?_
  refine kw_aload_n (pc := 10) X d_Change_begin_10 rfl 0 rfl ?_
  refine kw_aload_n (pc := 11) X d_Change_begin_11 rfl 3 rfl ?_
  refine kp_23 (a := a0) (x := p3) (pc := 12) X rfl d_Change_begin_12 x_169 rfl f1 ?_
  obtain ⟨G4, e_G4⟩ : ∃ g, g = sr G3 23 a0 p3 := ⟨_, rfl⟩
  have hwp := hwp G4 e_G4
  refine kW.g e_G4.symm ?_
  refine kw_aload_n (pc := 15) X d_Change_begin_15 rfl 0 rfl ?_
  refine kw_iload (pc := 16) X d_Change_begin_16 4 rfl ?_
  refine kp_24 (a := a0) (x := p4) (pc := 18) X rfl d_Change_begin_18 x_170 rfl f1 ?_
  obtain ⟨G5, e_G5⟩ : ∃ g, g = si G4 24 a0 p4 := ⟨_, rfl⟩
  have hwp := hwp G5 e_G5
  refine kW.g e_G5.symm ?_
  refine kw_aload_n (pc := 21) X d_Change_begin_21 rfl 0 rfl ?_
  refine kw_iconst (v := -1) (pc := 22) X d_Change_begin_22 (by decide) ?_
  refine kp_25 (a := a0) (x := (-1 : Int32)) (pc := 23) X rfl d_Change_begin_23 x_171 rfl f1 ?_
  obtain ⟨G6, e_G6⟩ : ∃ g, g = si G5 25 a0 (-1 : Int32) := ⟨_, rfl⟩
  have hwp := hwp G6 e_G6
  refine kW.g e_G6.symm ?_
  refine kw_aload_n (pc := 26) X d_Change_begin_26 rfl 0 rfl ?_
  refine kw_iconst (v := 0) (pc := 27) X d_Change_begin_27 (by decide) ?_
  refine kp_26 (a := a0) (x := (0 : Int32)) (pc := 28) X rfl d_Change_begin_28 x_173 rfl f1 (Or.inl rfl) ?_
  obtain ⟨G7, e_G7⟩ : ∃ g, g = si G6 26 a0 (0 : Int32) := ⟨_, rfl⟩
  have hwp := hwp G7 e_G7
  refine kW.g e_G7.symm ?_
  refine kw_aload_n (pc := 31) X d_Change_begin_31 rfl 0 rfl ?_
  refine kw_iconst (v := 0) (pc := 32) X d_Change_begin_32 (by decide) ?_
  refine kp_28 (a := a0) (x := (0 : Int32)) (pc := 33) X rfl d_Change_begin_33 x_177 rfl f1 (Or.inl rfl) ?_
  obtain ⟨G8, e_G8⟩ : ∃ g, g = si G7 28 a0 (0 : Int32) := ⟨_, rfl⟩
  have hwp := hwp G8 e_G8
  refine kW.g e_G8.symm ?_
  refine kw_aload_n (pc := 36) X d_Change_begin_36 rfl 0 rfl ?_
  refine kw_null (pc := 37) X d_Change_begin_37 ?_
  refine kp_30 (a := a0) (x := none) (pc := 38) X rfl d_Change_begin_38 x_181 rfl f1 ?_
  obtain ⟨G9, e_G9⟩ : ∃ g, g = sr G8 30 a0 none := ⟨_, rfl⟩
  have hwp := hwp G9 e_G9
  refine kW.g e_G9.symm ?_
  refine kw_aload_n (pc := 41) X d_Change_begin_41 rfl 0 rfl ?_
  refine kw_iconst (v := 0) (pc := 42) X d_Change_begin_42 (by decide) ?_
  refine kp_32 (a := a0) (x := (0 : Int32)) (pc := 43) X rfl d_Change_begin_43 x_185 rfl f1 ?_
  obtain ⟨G10, e_G10⟩ : ∃ g, g = si G9 32 a0 (0 : Int32) := ⟨_, rfl⟩
  have hwp := hwp G10 e_G10
  refine kW.g e_G10.symm ?_
  exact kr_v (pc := 46) X hret d_Change_begin_46 hwp
set_option maxRecDepth 100000 in
set_option maxHeartbeats 4000000 in
theorem c_Change_begin (l : Launch) (t : TY) (G : GS) (a0 : Nat) (p1 : Option Nat) (p2 : Nat) (p3 : Option Nat) (p4 : Int32) (K : GS → Prop) : Met l y_Change_begin (Cond.code y_Change_begin b_Change_begin 5 (Option.none : Option Jvm.ClassFile.FieldType) :: GW) rm_Change_begin (va_Pc [.ref a0, va_rf p1, .ref p2, va_rf p3, .int p4] (fun U => HB t G U.heap ∧ HK t U ∧ w_Change_begin t G a0 p1 p2 p3 p4 K)) (va_Qv (fun u : GS => K u) (fun u T => HB t u T.heap) (tA t)) 0 0 (tA t) := by
  refine Met.ofW (cc := b_Change_begin) (maxL := 5) (ret := none) (by decide) rfl ?_
  intro p e s m args below meth c s₁ B hml hv
  obtain ⟨rfl, hB, hK, hwp⟩ := hv
  have hts := atoms_spec (ws := Cond.code y_Change_begin b_Change_begin 5 (Option.none : Option Jvm.ClassFile.FieldType) :: GW) B.pre
  have X : kX p s m _ meth c b_Change_begin 5 "TreeServer$Change" t := ⟨B.exec, B.bytes, hml, findClass_of_methodNamed B.named, fun w h => hts w (List.mem_cons_of_mem _ h), B.notSynchronized, hK⟩
  have hZ : kZ t false s G s.heap [] := ⟨hB, va_S.rf, fun _ => ⟨rfl, rfl⟩⟩
  rw [lg_entry_eq]
  have hl := lv_entry ([.ref a0, va_rf p1, .ref p2, va_rf p3, .int p4]) (n := 5) (by simp [lg_sl, rf_cat, cat_i, cat_l, cat_r])
  rw [show lv_args 0 [.ref a0, va_rf p1, .ref p2, va_rf p3, .int p4] = [(0, .ref a0), (1, va_rf p1), (2, .ref p2), (3, va_rf p3), (4, .int p4)] from by simp [lv_args, rf_cat, cat_i, cat_l, cat_r]] at hl
  exact k_Change_begin X B.returns _ _ _ _ _ hwp s.heap [] _ hl hZ
abbrev b_S_stageRelease : ByteArray := prog_1_method_24_code
def y_S_stageRelease : MethodName := ⟨"TreeServer", "stageRelease", "(LTreeServer$Fid;)Z"⟩
theorem d_S_stageRelease_0 : decode b_S_stageRelease 0 = .ok (.aload_n 1, 1) := by decide +kernel
theorem d_S_stageRelease_1 : decode b_S_stageRelease 1 = .ok (.iconst 0, 1) := by decide +kernel
theorem d_S_stageRelease_2 : decode b_S_stageRelease 2 = .ok (.putfield 261, 3) := by decide +kernel
theorem d_S_stageRelease_5 : decode b_S_stageRelease 5 = .ok (.aload_n 1, 1) := by decide +kernel
theorem d_S_stageRelease_6 : decode b_S_stageRelease 6 = .ok (.getfield 232, 3) := by decide +kernel
theorem d_S_stageRelease_9 : decode b_S_stageRelease 9 = .ok (.astore_n 2, 1) := by decide +kernel
theorem d_S_stageRelease_10 : decode b_S_stageRelease 10 = .ok (.aload_n 1, 1) := by decide +kernel
theorem d_S_stageRelease_11 : decode b_S_stageRelease 11 = .ok (.getfield 264, 3) := by decide +kernel
theorem d_S_stageRelease_14 : decode b_S_stageRelease 14 = .ok (.ifCond .eq 39, 3) := by decide +kernel
theorem d_S_stageRelease_17 : decode b_S_stageRelease 17 = .ok (.aload_n 1, 1) := by decide +kernel
theorem d_S_stageRelease_18 : decode b_S_stageRelease 18 = .ok (.invokevirtual 210, 3) := by decide +kernel
theorem d_S_stageRelease_21 : decode b_S_stageRelease 21 = .ok (.ifCond .ne 32, 3) := by decide +kernel
theorem d_S_stageRelease_24 : decode b_S_stageRelease 24 = .ok (.aload_n 2, 1) := by decide +kernel
theorem d_S_stageRelease_25 : decode b_S_stageRelease 25 = .ok (.getfield 267, 3) := by decide +kernel
theorem d_S_stageRelease_28 : decode b_S_stageRelease 28 = .ok (.ifnull 25, 3) := by decide +kernel
theorem d_S_stageRelease_31 : decode b_S_stageRelease 31 = .ok (.aload_n 2, 1) := by decide +kernel
theorem d_S_stageRelease_32 : decode b_S_stageRelease 32 = .ok (.getfield 272, 3) := by decide +kernel
theorem d_S_stageRelease_35 : decode b_S_stageRelease 35 = .ok (.ifCond .gt 18, 3) := by decide +kernel
theorem d_S_stageRelease_38 : decode b_S_stageRelease 38 = .ok (.aload_n 2, 1) := by decide +kernel
theorem d_S_stageRelease_39 : decode b_S_stageRelease 39 = .ok (.getfield 267, 3) := by decide +kernel
theorem d_S_stageRelease_42 : decode b_S_stageRelease 42 = .ok (.aload_n 1, 1) := by decide +kernel
theorem d_S_stageRelease_43 : decode b_S_stageRelease 43 = .ok (.getfield 275, 3) := by decide +kernel
theorem d_S_stageRelease_46 : decode b_S_stageRelease 46 = .ok (.iconst 2, 1) := by decide +kernel
theorem d_S_stageRelease_47 : decode b_S_stageRelease 47 = .ok (.invokevirtual 279, 3) := by decide +kernel
theorem d_S_stageRelease_50 : decode b_S_stageRelease 50 = .ok (.ifCond .ne 5, 3) := by decide +kernel
theorem d_S_stageRelease_53 : decode b_S_stageRelease 53 = .ok (.iconst 0, 1) := by decide +kernel
theorem d_S_stageRelease_54 : decode b_S_stageRelease 54 = .ok (.ireturn, 1) := by decide +kernel
theorem d_S_stageRelease_55 : decode b_S_stageRelease 55 = .ok (.aload_n 0, 1) := by decide +kernel
theorem d_S_stageRelease_56 : decode b_S_stageRelease 56 = .ok (.getfield 26, 3) := by decide +kernel
theorem d_S_stageRelease_59 : decode b_S_stageRelease 59 = .ok (.getstatic 283, 3) := by decide +kernel
theorem d_S_stageRelease_62 : decode b_S_stageRelease 62 = .ok (.aload_n 2, 1) := by decide +kernel
theorem d_S_stageRelease_63 : decode b_S_stageRelease 63 = .ok (.aload_n 1, 1) := by decide +kernel
theorem d_S_stageRelease_64 : decode b_S_stageRelease 64 = .ok (.getfield 275, 3) := by decide +kernel
theorem d_S_stageRelease_67 : decode b_S_stageRelease 67 = .ok (.aload_n 0, 1) := by decide +kernel
theorem d_S_stageRelease_68 : decode b_S_stageRelease 68 = .ok (.getfield 95, 3) := by decide +kernel
theorem d_S_stageRelease_71 : decode b_S_stageRelease 71 = .ok (.invokevirtual 289, 3) := by decide +kernel
theorem d_S_stageRelease_74 : decode b_S_stageRelease 74 = .ok (.iconst 1, 1) := by decide +kernel
theorem d_S_stageRelease_75 : decode b_S_stageRelease 75 = .ok (.ireturn, 1) := by decide +kernel
abbrev rm_S_stageRelease : Room := { frames := 2, cells := 0, slots := 0, locals := 43 }
set_option maxRecDepth 100000 in
set_option maxHeartbeats 4000000 in
theorem k_S_stageRelease {p : Program} {l : Launch} {e : Env} {s : State} {m : MethodId} {args : Array Value} {below : List Frame} {meth : Method} {c : Code} {t : TY} {a0 : Nat} {K : GS → Int32 → Prop} (X : kX p s m args meth c b_S_stageRelease 3 "TreeServer" t) (hret : meth.sig.returnType = some .boolean) (G : GS) (p1 : Nat) (hwp : w_S_stageRelease t G a0 p1 K) : kW p l e rm_S_stageRelease s m args below meth c (MQ below (va_Qi (fun r (u : GS) => isB r ∧ K u r) (fun u T => HB t u T.heap) (tA t)) args s 0 0 (tA t)) 3 t false 0 [(0, va_rf (some a0)), (1, va_rf (some p1))] [] G := by
  unfold w_S_stageRelease at hwp
  refine kw_aload_n (pc := 0) X d_S_stageRelease_0 rfl 1 rfl ?_
  refine kw_iconst (v := 0) (pc := 1) X d_S_stageRelease_1 (by decide) ?_
  obtain ⟨f1, hwp⟩ := hwp
  refine kp_46 (a := p1) (x := (0 : Int32)) (pc := 2) X rfl d_S_stageRelease_2 x_294 rfl f1 (Or.inl rfl) ?_
  obtain ⟨G2, e_G2⟩ : ∃ g, g = si G 46 p1 (0 : Int32) := ⟨_, rfl⟩
  have hwp := hwp G2 e_G2
  refine kW.g e_G2.symm ?_
  refine kw_aload_n (pc := 5) X d_S_stageRelease_5 rfl 1 rfl ?_
  refine kg_48 (a := p1) (pc := 6) X d_S_stageRelease_6 x_300 rfl f1 ?_
  refine kw_astore_n (i := 2) (lv' := [(2, va_rf (gr G2 48 p1)), (0, va_rf (some a0)), (1, va_rf (some p1))]) (pc := 9) X d_S_stageRelease_9 rfl (by decide) rfl ?_
  refine kw_aload_n (pc := 10) X d_S_stageRelease_10 rfl 2 rfl ?_
  refine kg_52 (a := p1) (pc := 11) X d_S_stageRelease_11 x_308 rfl f1 ?_
  refine kw_if_eq (tgt := 53) (pc := 14) X d_S_stageRelease_14 (by decide) (fun h => ?_) (fun h => ?_)
  · have hwp := ite_t h hwp
    refine kw_iconst (v := 0) (pc := 53) X d_S_stageRelease_53 (by decide) ?_
    exact kr_z (pc := 54) X hret d_S_stageRelease_54 (Or.inl rfl) hwp
  · have hwp := ite_f h hwp
    refine kw_aload_n (pc := 17) X d_S_stageRelease_17 rfl 2 rfl ?_
    refine kcVp_i (n := 0) (As := []) (rest := []) (pc := 18) X (c_Fid_isGone l t G2 p1 _) (cwV_of (C := "TreeServer$Fid") X x_435 x_432 x_433 x_434 x_12 (by decide +kernel) ⟨rfl, rfl⟩ (by decide)) (rv_7 X f1) rfl rfl (by decide) d_S_stageRelease_18 hwp (fun v3 hwp => ?_)
    obtain ⟨b_v3, hwp⟩ := hwp
    refine kw_if_ne (tgt := 53) (pc := 21) X d_S_stageRelease_21 (by decide) (fun h => ?_) (fun h => ?_)
    · have hwp := ite_t h hwp
      refine kw_iconst (v := 0) (pc := 53) X d_S_stageRelease_53 (by decide) ?_
      exact kr_z (pc := 54) X hret d_S_stageRelease_54 (Or.inl rfl) hwp
    · have hwp := ite_f (not_not_intro h) hwp
      refine kw_aload_n (pc := 24) X d_S_stageRelease_24 rfl 0 rfl ?_
      obtain ⟨a4, h_a4, hwp⟩ := hwp
      obtain ⟨f5, hwp⟩ := hwp
      refine kg_7 (a := a4) (pc := 25) X d_S_stageRelease_25 x_71 h_a4 f5 ?_
      refine kw_ifnull (tgt := 53) (pc := 28) X d_S_stageRelease_28 (by decide) (fun h => ?_) (fun h => ?_)
      · have hwp := ite_t h hwp
        refine kw_iconst (v := 0) (pc := 53) X d_S_stageRelease_53 (by decide) ?_
        exact kr_z (pc := 54) X hret d_S_stageRelease_54 (Or.inl rfl) hwp
      · have hwp := ite_f h hwp
        refine kw_aload_n (pc := 31) X d_S_stageRelease_31 rfl 0 rfl ?_
        refine kg_8 (a := a4) (pc := 32) X d_S_stageRelease_32 x_75 h_a4 f5 ?_
        refine kw_if_gt (tgt := 53) (pc := 35) X d_S_stageRelease_35 (by decide) (fun h => ?_) (fun h => ?_)
        · have hwp := ite_t h hwp
          refine kw_iconst (v := 0) (pc := 53) X d_S_stageRelease_53 (by decide) ?_
          exact kr_z (pc := 54) X hret d_S_stageRelease_54 (Or.inl rfl) hwp
        · have hwp := ite_f h hwp
          refine kw_aload_n (pc := 38) X d_S_stageRelease_38 rfl 0 rfl ?_
          refine kg_7 (a := a4) (pc := 39) X d_S_stageRelease_39 x_71 h_a4 f5 ?_
          refine kw_aload_n (pc := 42) X d_S_stageRelease_42 rfl 2 rfl ?_
          refine kg_50 (a := p1) (pc := 43) X d_S_stageRelease_43 x_303 rfl f1 ?_
          refine kw_iconst (v := 2) (pc := 46) X d_S_stageRelease_46 (by decide) ?_
          obtain ⟨a6, h_a6, hwp⟩ := hwp
          obtain ⟨f7, hwp⟩ := hwp
          refine kW.st (st' := [.int (2 : Int32), va_rf (gr G2 50 p1), .ref a6]) (by simp only [h_a6]; rfl) ?_
          refine kcVp_i (n := 2) (As := [va_rf (gr G2 50 p1), .int (2 : Int32)]) (rest := []) (pc := 47) X (c_Node_lets l t G2 a6 (gr G2 50 p1) (2 : Int32) _) (cwV_of (C := "TreeServer$Node") X x_439 x_436 x_437 x_438 x_3 (by decide +kernel) ⟨rfl, rfl⟩ (by decide)) (rv_1 X f7) rfl rfl (by decide) d_S_stageRelease_47 hwp (fun v8 hwp => ?_)
          obtain ⟨b_v8, hwp⟩ := hwp
          refine kw_if_ne (tgt := 55) (pc := 50) X d_S_stageRelease_50 (by decide) (fun h => ?_) (fun h => ?_)
          · have hwp := ite_t h hwp
            refine kw_aload_n (pc := 55) X d_S_stageRelease_55 rfl 1 rfl ?_
            obtain ⟨f9, hwp⟩ := hwp
            refine kg_65 (a := a0) (pc := 56) X d_S_stageRelease_56 x_366 rfl f9 ?_
            refine ks_5 (pc := 59) X d_S_stageRelease_59 x_447 ?_
            refine kw_aload_n (pc := 62) X d_S_stageRelease_62 rfl 0 rfl ?_
            refine kw_aload_n (pc := 63) X d_S_stageRelease_63 rfl 2 rfl ?_
            refine kg_50 (a := p1) (pc := 64) X d_S_stageRelease_64 x_303 rfl f1 ?_
            refine kw_aload_n (pc := 67) X d_S_stageRelease_67 rfl 1 rfl ?_
            refine kg_69 (a := a0) (pc := 68) X d_S_stageRelease_68 x_370 rfl f9 ?_
            obtain ⟨a10, h_a10, hwp⟩ := hwp
            obtain ⟨f11, hwp⟩ := hwp
            refine kW.st (st' := [.int (gi G2 69 a0), va_rf (gr G2 50 p1), .ref a4, va_rf (some (tad t 5)), .ref a10]) (by simp only [h_a4, h_a10]; rfl) ?_
            refine kcV_v (n := 4) (As := [va_rf (some (tad t 5)), .ref a4, va_rf (gr G2 50 p1), .int (gi G2 69 a0)]) (rest := []) (pc := 71) X rfl (c_Change_begin l t G2 a10 (some (tad t 5)) a4 (gr G2 50 p1) (gi G2 69 a0) _) (cwV_of (C := "TreeServer$Change") X x_452 x_449 x_450 x_451 x_7 (by decide +kernel) ⟨rfl, rfl⟩ (by decide)) (rv_4 X f11) rfl rfl (by decide) d_S_stageRelease_71 hwp (fun G12 hwp => ?_)
            refine kw_iconst (v := 1) (pc := 74) X d_S_stageRelease_74 (by decide) ?_
            exact kr_z (pc := 75) X hret d_S_stageRelease_75 (Or.inr rfl) hwp
          · have hwp := ite_f (not_not_intro h) hwp
            refine kw_iconst (v := 0) (pc := 53) X d_S_stageRelease_53 (by decide) ?_
            exact kr_z (pc := 54) X hret d_S_stageRelease_54 (Or.inl rfl) hwp
set_option maxRecDepth 100000 in
set_option maxHeartbeats 4000000 in
theorem c_S_stageRelease (l : Launch) (t : TY) (G : GS) (a0 : Nat) (p1 : Nat) (K : GS → Int32 → Prop) : Met l y_S_stageRelease (Cond.code y_S_stageRelease b_S_stageRelease 3 (Option.some Jvm.ClassFile.FieldType.boolean) :: GW) rm_S_stageRelease (va_Pc [.ref a0, .ref p1] (fun U => HB t G U.heap ∧ HK t U ∧ w_S_stageRelease t G a0 p1 K)) (va_Qi (fun r (u : GS) => isB r ∧ K u r) (fun u T => HB t u T.heap) (tA t)) 0 0 (tA t) := by
  refine Met.ofW (cc := b_S_stageRelease) (maxL := 3) (ret := some .boolean) (by decide) rfl ?_
  intro p e s m args below meth c s₁ B hml hv
  obtain ⟨rfl, hB, hK, hwp⟩ := hv
  have hts := atoms_spec (ws := Cond.code y_S_stageRelease b_S_stageRelease 3 (Option.some Jvm.ClassFile.FieldType.boolean) :: GW) B.pre
  have X : kX p s m _ meth c b_S_stageRelease 3 "TreeServer" t := ⟨B.exec, B.bytes, hml, findClass_of_methodNamed B.named, fun w h => hts w (List.mem_cons_of_mem _ h), B.notSynchronized, hK⟩
  have hZ : kZ t false s G s.heap [] := ⟨hB, va_S.rf, fun _ => ⟨rfl, rfl⟩⟩
  rw [lg_entry_eq]
  have hl := lv_entry ([.ref a0, .ref p1]) (n := 3) (by simp [lg_sl, rf_cat, cat_i, cat_l, cat_r])
  exact k_S_stageRelease X B.returns _ _ hwp s.heap [] _ hl hZ
abbrev b_Log_admits : ByteArray := prog_7_method_2_code
def y_Log_admits : MethodName := ⟨"TreeServer$Log", "admits", "(I)Z"⟩
theorem d_Log_admits_0 : decode b_Log_admits 0 = .ok (.iload_n 1, 1) := by decide +kernel
theorem d_Log_admits_1 : decode b_Log_admits 1 = .ok (.bipush 15, 2) := by decide +kernel
theorem d_Log_admits_3 : decode b_Log_admits 3 = .ok (.iadd, 1) := by decide +kernel
theorem d_Log_admits_4 : decode b_Log_admits 4 = .ok (.bipush 16, 2) := by decide +kernel
theorem d_Log_admits_6 : decode b_Log_admits 6 = .ok (.idiv, 1) := by decide +kernel
theorem d_Log_admits_7 : decode b_Log_admits 7 = .ok (.istore_n 2, 1) := by decide +kernel
theorem d_Log_admits_8 : decode b_Log_admits 8 = .ok (.iload_n 2, 1) := by decide +kernel
theorem d_Log_admits_9 : decode b_Log_admits 9 = .ok (.iconst 2, 1) := by decide +kernel
theorem d_Log_admits_10 : decode b_Log_admits 10 = .ok (.iadd, 1) := by decide +kernel
theorem d_Log_admits_11 : decode b_Log_admits 11 = .ok (.istore_n 3, 1) := by decide +kernel
theorem d_Log_admits_12 : decode b_Log_admits 12 = .ok (.aload_n 0, 1) := by decide +kernel
theorem d_Log_admits_13 : decode b_Log_admits 13 = .ok (.getfield 7, 3) := by decide +kernel
theorem d_Log_admits_16 : decode b_Log_admits 16 = .ok (.istore 4, 2) := by decide +kernel
theorem d_Log_admits_18 : decode b_Log_admits 18 = .ok (.aload_n 0, 1) := by decide +kernel
theorem d_Log_admits_19 : decode b_Log_admits 19 = .ok (.iconst (-1), 1) := by decide +kernel
theorem d_Log_admits_20 : decode b_Log_admits 20 = .ok (.putfield 7, 3) := by decide +kernel
theorem d_Log_admits_23 : decode b_Log_admits 23 = .ok (.iload 4, 2) := by decide +kernel
theorem d_Log_admits_25 : decode b_Log_admits 25 = .ok (.ifCond .lt 9, 3) := by decide +kernel
theorem d_Log_admits_28 : decode b_Log_admits 28 = .ok (.iload 4, 2) := by decide +kernel
theorem d_Log_admits_30 : decode b_Log_admits 30 = .ok (.iload_n 3, 1) := by decide +kernel
theorem d_Log_admits_31 : decode b_Log_admits 31 = .ok (.if_icmp .lt 15, 3) := by decide +kernel
theorem d_Log_admits_34 : decode b_Log_admits 34 = .ok (.aload_n 0, 1) := by decide +kernel
theorem d_Log_admits_35 : decode b_Log_admits 35 = .ok (.dup, 1) := by decide +kernel
theorem d_Log_admits_36 : decode b_Log_admits 36 = .ok (.getfield 17, 3) := by decide +kernel
theorem d_Log_admits_39 : decode b_Log_admits 39 = .ok (.iload_n 3, 1) := by decide +kernel
theorem d_Log_admits_40 : decode b_Log_admits 40 = .ok (.iadd, 1) := by decide +kernel
theorem d_Log_admits_41 : decode b_Log_admits 41 = .ok (.putfield 17, 3) := by decide +kernel
theorem d_Log_admits_44 : decode b_Log_admits 44 = .ok (.iconst 1, 1) := by decide +kernel
theorem d_Log_admits_45 : decode b_Log_admits 45 = .ok (.ireturn, 1) := by decide +kernel
theorem d_Log_admits_46 : decode b_Log_admits 46 = .ok (.aload_n 0, 1) := by decide +kernel
theorem d_Log_admits_47 : decode b_Log_admits 47 = .ok (.dup, 1) := by decide +kernel
theorem d_Log_admits_48 : decode b_Log_admits 48 = .ok (.getfield 17, 3) := by decide +kernel
theorem d_Log_admits_51 : decode b_Log_admits 51 = .ok (.iload 4, 2) := by decide +kernel
theorem d_Log_admits_53 : decode b_Log_admits 53 = .ok (.iadd, 1) := by decide +kernel
theorem d_Log_admits_54 : decode b_Log_admits 54 = .ok (.putfield 17, 3) := by decide +kernel
theorem d_Log_admits_57 : decode b_Log_admits 57 = .ok (.aload_n 0, 1) := by decide +kernel
theorem d_Log_admits_58 : decode b_Log_admits 58 = .ok (.iload 4, 2) := by decide +kernel
theorem d_Log_admits_60 : decode b_Log_admits 60 = .ok (.iload_n 2, 1) := by decide +kernel
theorem d_Log_admits_61 : decode b_Log_admits 61 = .ok (.iconst 1, 1) := by decide +kernel
theorem d_Log_admits_62 : decode b_Log_admits 62 = .ok (.iadd, 1) := by decide +kernel
theorem d_Log_admits_63 : decode b_Log_admits 63 = .ok (.if_icmp .ne 7, 3) := by decide +kernel
theorem d_Log_admits_66 : decode b_Log_admits 66 = .ok (.iconst 1, 1) := by decide +kernel
theorem d_Log_admits_67 : decode b_Log_admits 67 = .ok (.goto 4, 3) := by decide +kernel
theorem d_Log_admits_70 : decode b_Log_admits 70 = .ok (.iconst 0, 1) := by decide +kernel
theorem d_Log_admits_71 : decode b_Log_admits 71 = .ok (.putfield 20, 3) := by decide +kernel
theorem d_Log_admits_74 : decode b_Log_admits 74 = .ok (.aload_n 0, 1) := by decide +kernel
theorem d_Log_admits_75 : decode b_Log_admits 75 = .ok (.iconst 0, 1) := by decide +kernel
theorem d_Log_admits_76 : decode b_Log_admits 76 = .ok (.putfield 13, 3) := by decide +kernel
theorem d_Log_admits_79 : decode b_Log_admits 79 = .ok (.iconst 0, 1) := by decide +kernel
theorem d_Log_admits_80 : decode b_Log_admits 80 = .ok (.ireturn, 1) := by decide +kernel
abbrev rm_Log_admits : Room := { frames := 0, cells := 0, slots := 0, locals := 0 }
set_option maxRecDepth 100000 in
set_option maxHeartbeats 4000000 in
theorem k_Log_admits_34 {p : Program} {l : Launch} {e : Env} {s : State} {m : MethodId} {args : Array Value} {below : List Frame} {meth : Method} {c : Code} {t : TY} {a0 : Nat} {K : GS → Int32 → Prop} (X : kX p s m args meth c b_Log_admits 5 "TreeServer$Log" t) (hret : meth.sig.returnType = some .boolean) (l3 : Int32) (G : GS) (hwp : w_Log_admits_34 t a0 K l3 G) : kW p l e rm_Log_admits s m args below meth c (MQ below (va_Qi (fun r (u : GS) => isB r ∧ K u r) (fun u T => HB t u T.heap) (tA t)) args s 0 0 (tA t)) 5 t false 34 [(0, va_rf (some a0)), (3, .int l3)] [] G := by
  unfold w_Log_admits_34 at hwp
  refine kw_aload_n (pc := 34) X d_Log_admits_34 rfl 0 rfl ?_
  refine kw_dup (pc := 35) X d_Log_admits_35 rfl ?_
  obtain ⟨f1, hwp⟩ := hwp
  refine kg_17 (a := a0) (pc := 36) X d_Log_admits_36 x_141 rfl f1 ?_
  refine kw_iload_n (pc := 39) X d_Log_admits_39 rfl 1 rfl ?_
  refine kw_iadd (pc := 40) X d_Log_admits_40 ?_
  refine kp_17 (a := a0) (x := ((gi G 17 a0) + l3)) (pc := 41) X rfl d_Log_admits_41 x_141 rfl f1 ?_
  obtain ⟨G2, e_G2⟩ : ∃ g, g = si G 17 a0 ((gi G 17 a0) + l3) := ⟨_, rfl⟩
  have hwp := hwp G2 e_G2
  refine kW.g e_G2.symm ?_
  refine kw_iconst (v := 1) (pc := 44) X d_Log_admits_44 (by decide) ?_
  exact kr_z (pc := 45) X hret d_Log_admits_45 (Or.inr rfl) hwp
set_option maxRecDepth 100000 in
set_option maxHeartbeats 4000000 in
theorem k_Log_admits_71 {p : Program} {l : Launch} {e : Env} {s : State} {m : MethodId} {args : Array Value} {below : List Frame} {meth : Method} {c : Code} {t : TY} {a0 : Nat} {K : GS → Int32 → Prop} (X : kX p s m args meth c b_Log_admits 5 "TreeServer$Log" t) (hret : meth.sig.returnType = some .boolean) (s0 : Option Nat) (s1 : Int32) (G : GS) (hwp : w_Log_admits_71 t a0 K s0 s1 G) : kW p l e rm_Log_admits s m args below meth c (MQ below (va_Qi (fun r (u : GS) => isB r ∧ K u r) (fun u T => HB t u T.heap) (tA t)) args s 0 0 (tA t)) 5 t false 71 [(0, va_rf (some a0))] [.int s1, va_rf s0] G := by
  unfold w_Log_admits_71 at hwp
  obtain ⟨a1, h_a1, hwp⟩ := hwp
  obtain ⟨f2, hwp⟩ := hwp
  obtain ⟨f3, hwp⟩ := hwp
  refine kp_20 (a := a1) (x := s1) (pc := 71) X rfl d_Log_admits_71 x_147 h_a1 f2 f3 ?_
  obtain ⟨G4, e_G4⟩ : ∃ g, g = si G 20 a1 s1 := ⟨_, rfl⟩
  have hwp := hwp G4 e_G4
  refine kW.g e_G4.symm ?_
  refine kw_aload_n (pc := 74) X d_Log_admits_74 rfl 0 rfl ?_
  refine kw_iconst (v := 0) (pc := 75) X d_Log_admits_75 (by decide) ?_
  obtain ⟨f5, hwp⟩ := hwp
  refine kp_19 (a := a0) (x := (0 : Int32)) (pc := 76) X rfl d_Log_admits_76 x_145 rfl f5 (Or.inl rfl) ?_
  obtain ⟨G6, e_G6⟩ : ∃ g, g = si G4 19 a0 (0 : Int32) := ⟨_, rfl⟩
  have hwp := hwp G6 e_G6
  refine kW.g e_G6.symm ?_
  refine kw_iconst (v := 0) (pc := 79) X d_Log_admits_79 (by decide) ?_
  exact kr_z (pc := 80) X hret d_Log_admits_80 (Or.inl rfl) hwp
set_option maxRecDepth 100000 in
set_option maxHeartbeats 4000000 in
theorem k_Log_admits {p : Program} {l : Launch} {e : Env} {s : State} {m : MethodId} {args : Array Value} {below : List Frame} {meth : Method} {c : Code} {t : TY} {a0 : Nat} {K : GS → Int32 → Prop} (X : kX p s m args meth c b_Log_admits 5 "TreeServer$Log" t) (hret : meth.sig.returnType = some .boolean) (G : GS) (p1 : Int32) (hwp : w_Log_admits t G a0 p1 K) : kW p l e rm_Log_admits s m args below meth c (MQ below (va_Qi (fun r (u : GS) => isB r ∧ K u r) (fun u T => HB t u T.heap) (tA t)) args s 0 0 (tA t)) 5 t false 0 [(0, va_rf (some a0)), (1, .int p1)] [] G := by
  unfold w_Log_admits at hwp
  refine kw_iload_n (pc := 0) X d_Log_admits_0 rfl 1 rfl ?_
  refine kw_bipush (v := 15) (pc := 1) X d_Log_admits_1 (by decide) ?_
  refine kw_iadd (pc := 3) X d_Log_admits_3 ?_
  refine kw_bipush (v := 16) (pc := 4) X d_Log_admits_4 (by decide) ?_
  refine kw_idiv (pc := 6) X d_Log_admits_6 (by decide) ?_
  obtain ⟨v1, e_v1⟩ : ∃ z, z = ((p1 + (15 : Int32)) / (16 : Int32)) := ⟨_, rfl⟩
  have hwp := hwp v1 e_v1
  refine kW.st (st' := .int v1 :: _) (by rw [e_v1]) ?_
  refine kw_istore_n (i := 2) (lv' := [(2, .int v1), (0, va_rf (some a0)), (1, .int p1)]) (pc := 7) X d_Log_admits_7 rfl (by decide) rfl ?_
  refine kw_iload_n (pc := 8) X d_Log_admits_8 rfl 0 rfl ?_
  refine kw_iconst (v := 2) (pc := 9) X d_Log_admits_9 (by decide) ?_
  refine kw_iadd (pc := 10) X d_Log_admits_10 ?_
  obtain ⟨v2, e_v2⟩ : ∃ z, z = (v1 + (2 : Int32)) := ⟨_, rfl⟩
  have hwp := hwp v2 e_v2
  refine kW.st (st' := .int v2 :: _) (by rw [e_v2]) ?_
  refine kw_istore_n (i := 3) (lv' := [(3, .int v2), (2, .int v1), (0, va_rf (some a0)), (1, .int p1)]) (pc := 11) X d_Log_admits_11 rfl (by decide) rfl ?_
  refine kw_aload_n (pc := 12) X d_Log_admits_12 rfl 2 rfl ?_
  obtain ⟨f3, hwp⟩ := hwp
  refine kg_18 (a := a0) (pc := 13) X d_Log_admits_13 x_143 rfl f3 ?_
  obtain ⟨v4, e_v4⟩ : ∃ z, z = (gi G 18 a0) := ⟨_, rfl⟩
  have hwp := hwp v4 e_v4
  refine kW.st (st' := .int v4 :: _) (by rw [e_v4]) ?_
  refine kw_istore (i := 4) (lv' := [(4, .int v4), (3, .int v2), (2, .int v1), (0, va_rf (some a0)), (1, .int p1)]) (pc := 16) X d_Log_admits_16 (by decide) rfl ?_
  refine kw_aload_n (pc := 18) X d_Log_admits_18 rfl 3 rfl ?_
  refine kw_iconst (v := -1) (pc := 19) X d_Log_admits_19 (by decide) ?_
  refine kp_18 (a := a0) (x := (-1 : Int32)) (pc := 20) X rfl d_Log_admits_20 x_143 rfl f3 ?_
  obtain ⟨G5, e_G5⟩ : ∃ g, g = si G 18 a0 (-1 : Int32) := ⟨_, rfl⟩
  have hwp := hwp G5 e_G5
  refine kW.g e_G5.symm ?_
  refine kw_iload (pc := 23) X d_Log_admits_23 0 rfl ?_
  refine kw_if_lt (tgt := 34) (pc := 25) X d_Log_admits_25 (by decide) (fun h => ?_) (fun h => ?_)
  · have hwp := ite_t h hwp
    exact kW.sub [3, 1] rfl (k_Log_admits_34 X hret  _ _ hwp)
  · have hwp := ite_f h hwp
    refine kw_iload (pc := 28) X d_Log_admits_28 0 rfl ?_
    refine kw_iload_n (pc := 30) X d_Log_admits_30 rfl 1 rfl ?_
    refine kw_icmp_lt (tgt := 46) (pc := 31) X d_Log_admits_31 (by decide) (fun h => ?_) (fun h => ?_)
    · have hwp := ite_t h hwp
      refine kw_aload_n (pc := 46) X d_Log_admits_46 rfl 3 rfl ?_
      refine kw_dup (pc := 47) X d_Log_admits_47 rfl ?_
      refine kg_17 (a := a0) (pc := 48) X d_Log_admits_48 x_141 rfl f3 ?_
      refine kw_iload (pc := 51) X d_Log_admits_51 0 rfl ?_
      refine kw_iadd (pc := 53) X d_Log_admits_53 ?_
      refine kp_17 (a := a0) (x := ((gi G5 17 a0) + v4)) (pc := 54) X rfl d_Log_admits_54 x_141 rfl f3 ?_
      obtain ⟨G6, e_G6⟩ : ∃ g, g = si G5 17 a0 ((gi G5 17 a0) + v4) := ⟨_, rfl⟩
      have hwp := hwp G6 e_G6
      refine kW.g e_G6.symm ?_
      refine kw_aload_n (pc := 57) X d_Log_admits_57 rfl 3 rfl ?_
      refine kw_iload (pc := 58) X d_Log_admits_58 0 rfl ?_
      refine kw_iload_n (pc := 60) X d_Log_admits_60 rfl 2 rfl ?_
      refine kw_iconst (v := 1) (pc := 61) X d_Log_admits_61 (by decide) ?_
      refine kw_iadd (pc := 62) X d_Log_admits_62 ?_
      refine kw_icmp_ne (tgt := 70) (pc := 63) X d_Log_admits_63 (by decide) (fun h => ?_) (fun h => ?_)
      · have hwp := ite_t h hwp
        refine kw_iconst (v := 0) (pc := 70) X d_Log_admits_70 (by decide) ?_
        exact kW.sub [3] rfl (k_Log_admits_71 X hret  _ _ _ hwp)
      · have hwp := ite_f (not_not_intro h) hwp
        refine kw_iconst (v := 1) (pc := 66) X d_Log_admits_66 (by decide) ?_
        refine kw_goto (tgt := 71) (pc := 67) X d_Log_admits_67 (by decide) ?_
        exact kW.sub [3] rfl (k_Log_admits_71 X hret  _ _ _ hwp)
    · have hwp := ite_f h hwp
      exact kW.sub [3, 1] rfl (k_Log_admits_34 X hret  _ _ hwp)
set_option maxRecDepth 100000 in
set_option maxHeartbeats 4000000 in
theorem c_Log_admits (l : Launch) (t : TY) (G : GS) (a0 : Nat) (p1 : Int32) (K : GS → Int32 → Prop) : Met l y_Log_admits (Cond.code y_Log_admits b_Log_admits 5 (Option.some Jvm.ClassFile.FieldType.boolean) :: GW) rm_Log_admits (va_Pc [.ref a0, .int p1] (fun U => HB t G U.heap ∧ HK t U ∧ w_Log_admits t G a0 p1 K)) (va_Qi (fun r (u : GS) => isB r ∧ K u r) (fun u T => HB t u T.heap) (tA t)) 0 0 (tA t) := by
  refine Met.ofW (cc := b_Log_admits) (maxL := 5) (ret := some .boolean) (by decide) rfl ?_
  intro p e s m args below meth c s₁ B hml hv
  obtain ⟨rfl, hB, hK, hwp⟩ := hv
  have hts := atoms_spec (ws := Cond.code y_Log_admits b_Log_admits 5 (Option.some Jvm.ClassFile.FieldType.boolean) :: GW) B.pre
  have X : kX p s m _ meth c b_Log_admits 5 "TreeServer$Log" t := ⟨B.exec, B.bytes, hml, findClass_of_methodNamed B.named, fun w h => hts w (List.mem_cons_of_mem _ h), B.notSynchronized, hK⟩
  have hZ : kZ t false s G s.heap [] := ⟨hB, va_S.rf, fun _ => ⟨rfl, rfl⟩⟩
  rw [lg_entry_eq]
  have hl := lv_entry ([.ref a0, .int p1]) (n := 5) (by simp [lg_sl, rf_cat, cat_i, cat_l, cat_r])
  exact k_Log_admits X B.returns _ _ hwp s.heap [] _ hl hZ
abbrev b_Tree_add : ByteArray := prog_10_method_7_code
def y_Tree_add : MethodName := ⟨"TreeServer$Tree", "add", "(LTreeServer$Node;)LTreeServer$Node;"⟩
theorem d_Tree_add_0 : decode b_Tree_add 0 = .ok (.aload_n 0, 1) := by decide +kernel
theorem d_Tree_add_1 : decode b_Tree_add 1 = .ok (.getfield 44, 3) := by decide +kernel
theorem d_Tree_add_4 : decode b_Tree_add 4 = .ok (.bipush 20, 2) := by decide +kernel
theorem d_Tree_add_6 : decode b_Tree_add 6 = .ok (.if_icmp .lt 5, 3) := by decide +kernel
theorem d_Tree_add_9 : decode b_Tree_add 9 = .ok (.aconst_null, 1) := by decide +kernel
theorem d_Tree_add_10 : decode b_Tree_add 10 = .ok (.areturn, 1) := by decide +kernel
theorem d_Tree_add_11 : decode b_Tree_add 11 = .ok (.aload_n 0, 1) := by decide +kernel
theorem d_Tree_add_12 : decode b_Tree_add 12 = .ok (.getfield 18, 3) := by decide +kernel
theorem d_Tree_add_15 : decode b_Tree_add 15 = .ok (.aload_n 0, 1) := by decide +kernel
theorem d_Tree_add_16 : decode b_Tree_add 16 = .ok (.getfield 44, 3) := by decide +kernel
theorem d_Tree_add_19 : decode b_Tree_add 19 = .ok (.aaload, 1) := by decide +kernel
theorem d_Tree_add_20 : decode b_Tree_add 20 = .ok (.astore_n 2, 1) := by decide +kernel
theorem d_Tree_add_21 : decode b_Tree_add 21 = .ok (.aload_n 0, 1) := by decide +kernel
theorem d_Tree_add_22 : decode b_Tree_add 22 = .ok (.dup, 1) := by decide +kernel
theorem d_Tree_add_23 : decode b_Tree_add 23 = .ok (.getfield 44, 3) := by decide +kernel
theorem d_Tree_add_26 : decode b_Tree_add 26 = .ok (.iconst 1, 1) := by decide +kernel
theorem d_Tree_add_27 : decode b_Tree_add 27 = .ok (.iadd, 1) := by decide +kernel
theorem d_Tree_add_28 : decode b_Tree_add 28 = .ok (.putfield 44, 3) := by decide +kernel
theorem d_Tree_add_31 : decode b_Tree_add 31 = .ok (.aload_n 2, 1) := by decide +kernel
theorem d_Tree_add_32 : decode b_Tree_add 32 = .ok (.aload_n 0, 1) := by decide +kernel
theorem d_Tree_add_33 : decode b_Tree_add 33 = .ok (.getfield 22, 3) := by decide +kernel
theorem d_Tree_add_36 : decode b_Tree_add 36 = .ok (.putfield 26, 3) := by decide +kernel
theorem d_Tree_add_39 : decode b_Tree_add 39 = .ok (.aload_n 0, 1) := by decide +kernel
theorem d_Tree_add_40 : decode b_Tree_add 40 = .ok (.dup, 1) := by decide +kernel
theorem d_Tree_add_41 : decode b_Tree_add 41 = .ok (.getfield 22, 3) := by decide +kernel
theorem d_Tree_add_44 : decode b_Tree_add 44 = .ok (.iconst 1, 1) := by decide +kernel
theorem d_Tree_add_45 : decode b_Tree_add 45 = .ok (.iadd, 1) := by decide +kernel
theorem d_Tree_add_46 : decode b_Tree_add 46 = .ok (.putfield 22, 3) := by decide +kernel
theorem d_Tree_add_49 : decode b_Tree_add 49 = .ok (.aload_n 2, 1) := by decide +kernel
theorem d_Tree_add_50 : decode b_Tree_add 50 = .ok (.aload_n 1, 1) := by decide +kernel
theorem d_Tree_add_51 : decode b_Tree_add 51 = .ok (.putfield 59, 3) := by decide +kernel
theorem d_Tree_add_54 : decode b_Tree_add 54 = .ok (.aload_n 1, 1) := by decide +kernel
theorem d_Tree_add_55 : decode b_Tree_add 55 = .ok (.dup, 1) := by decide +kernel
theorem d_Tree_add_56 : decode b_Tree_add 56 = .ok (.getfield 47, 3) := by decide +kernel
theorem d_Tree_add_59 : decode b_Tree_add 59 = .ok (.iconst 1, 1) := by decide +kernel
theorem d_Tree_add_60 : decode b_Tree_add 60 = .ok (.iadd, 1) := by decide +kernel
theorem d_Tree_add_61 : decode b_Tree_add 61 = .ok (.putfield 47, 3) := by decide +kernel
theorem d_Tree_add_64 : decode b_Tree_add 64 = .ok (.aload_n 2, 1) := by decide +kernel
theorem d_Tree_add_65 : decode b_Tree_add 65 = .ok (.areturn, 1) := by decide +kernel
abbrev rm_Tree_add : Room := { frames := 0, cells := 0, slots := 0, locals := 0 }
set_option maxRecDepth 100000 in
set_option maxHeartbeats 4000000 in
theorem k_Tree_add {p : Program} {l : Launch} {e : Env} {s : State} {m : MethodId} {args : Array Value} {below : List Frame} {meth : Method} {c : Code} {t : TY} {a0 : Nat} {K : GS → Option Nat → Prop} (X : kX p s m args meth c b_Tree_add 3 "TreeServer$Tree" t) (hret : meth.sig.returnType = some (.object "TreeServer$Node")) (G : GS) (p1 : Nat) (hwp : w_Tree_add t G a0 p1 K) : kW p l e rm_Tree_add s m args below meth c (MQ below (va_Qq (fun r (u : GS) => K u r) (fun u T => HB t u T.heap) (tA t)) args s 0 0 (tA t)) 3 t false 0 [(0, va_rf (some a0)), (1, va_rf (some p1))] [] G := by
  unfold w_Tree_add at hwp
  refine kw_aload_n (pc := 0) X d_Tree_add_0 rfl 0 rfl ?_
  obtain ⟨f1, hwp⟩ := hwp
  refine kg_15 (a := a0) (pc := 1) X d_Tree_add_1 x_123 rfl f1 ?_
  refine kw_bipush (v := 20) (pc := 4) X d_Tree_add_4 (by decide) ?_
  refine kw_icmp_lt (tgt := 11) (pc := 6) X d_Tree_add_6 (by decide) (fun h => ?_) (fun h => ?_)
  · have hwp := ite_t h hwp
    refine kw_aload_n (pc := 11) X d_Tree_add_11 rfl 0 rfl ?_
    refine kg_14 (a := a0) (pc := 12) X d_Tree_add_12 x_121 rfl f1 ?_
    refine kw_aload_n (pc := 15) X d_Tree_add_15 rfl 0 rfl ?_
    refine kg_15 (a := a0) (pc := 16) X d_Tree_add_16 x_123 rfl f1 ?_
    obtain ⟨a2, h_a2, hwp⟩ := hwp
    obtain ⟨f3, hwp⟩ := hwp
    obtain ⟨f4, hwp⟩ := hwp
    refine ka_aald54 (a := a2) (pc := 19) X d_Tree_add_19 h_a2 f3 f4 ?_
    refine kw_astore_n (i := 2) (lv' := [(2, va_rf (ar G a2 (gi G 15 a0).toNatClampNeg)), (0, va_rf (some a0)), (1, va_rf (some p1))]) (pc := 20) X d_Tree_add_20 rfl (by decide) rfl ?_
    refine kw_aload_n (pc := 21) X d_Tree_add_21 rfl 1 rfl ?_
    refine kw_dup (pc := 22) X d_Tree_add_22 rfl ?_
    refine kg_15 (a := a0) (pc := 23) X d_Tree_add_23 x_123 rfl f1 ?_
    refine kw_iconst (v := 1) (pc := 26) X d_Tree_add_26 (by decide) ?_
    refine kw_iadd (pc := 27) X d_Tree_add_27 ?_
    refine kp_15 (a := a0) (x := ((gi G 15 a0) + (1 : Int32))) (pc := 28) X rfl d_Tree_add_28 x_123 rfl f1 ?_
    obtain ⟨G5, e_G5⟩ : ∃ g, g = si G 15 a0 ((gi G 15 a0) + (1 : Int32)) := ⟨_, rfl⟩
    have hwp := hwp G5 e_G5
    refine kW.g e_G5.symm ?_
    refine kw_aload_n (pc := 31) X d_Tree_add_31 rfl 0 rfl ?_
    refine kw_aload_n (pc := 32) X d_Tree_add_32 rfl 1 rfl ?_
    refine kg_16 (a := a0) (pc := 33) X d_Tree_add_33 x_125 rfl f1 ?_
    obtain ⟨a6, h_a6, hwp⟩ := hwp
    obtain ⟨f7, hwp⟩ := hwp
    refine kp_0 (a := a6) (x := (gi G5 16 a0)) (pc := 36) X rfl d_Tree_add_36 x_43 h_a6 f7 ?_
    obtain ⟨G8, e_G8⟩ : ∃ g, g = si G5 0 a6 (gi G5 16 a0) := ⟨_, rfl⟩
    have hwp := hwp G8 e_G8
    refine kW.g e_G8.symm ?_
    refine kw_aload_n (pc := 39) X d_Tree_add_39 rfl 1 rfl ?_
    refine kw_dup (pc := 40) X d_Tree_add_40 rfl ?_
    refine kg_16 (a := a0) (pc := 41) X d_Tree_add_41 x_125 rfl f1 ?_
    refine kw_iconst (v := 1) (pc := 44) X d_Tree_add_44 (by decide) ?_
    refine kw_iadd (pc := 45) X d_Tree_add_45 ?_
    refine kp_16 (a := a0) (x := ((gi G8 16 a0) + (1 : Int32))) (pc := 46) X rfl d_Tree_add_46 x_125 rfl f1 ?_
    obtain ⟨G9, e_G9⟩ : ∃ g, g = si G8 16 a0 ((gi G8 16 a0) + (1 : Int32)) := ⟨_, rfl⟩
    have hwp := hwp G9 e_G9
    refine kW.g e_G9.symm ?_
    refine kw_aload_n (pc := 49) X d_Tree_add_49 rfl 0 rfl ?_
    refine kw_aload_n (pc := 50) X d_Tree_add_50 rfl 2 rfl ?_
    refine kp_7 (a := a6) (x := some p1) (pc := 51) X rfl d_Tree_add_51 x_70 h_a6 f7 ?_
    obtain ⟨G10, e_G10⟩ : ∃ g, g = sr G9 7 a6 (some p1) := ⟨_, rfl⟩
    have hwp := hwp G10 e_G10
    refine kW.g e_G10.symm ?_
    refine kw_aload_n (pc := 54) X d_Tree_add_54 rfl 2 rfl ?_
    refine kw_dup (pc := 55) X d_Tree_add_55 rfl ?_
    obtain ⟨f11, hwp⟩ := hwp
    refine kg_8 (a := p1) (pc := 56) X d_Tree_add_56 x_72 rfl f11 ?_
    refine kw_iconst (v := 1) (pc := 59) X d_Tree_add_59 (by decide) ?_
    refine kw_iadd (pc := 60) X d_Tree_add_60 ?_
    refine kp_8 (a := p1) (x := ((gi G10 8 p1) + (1 : Int32))) (pc := 61) X rfl d_Tree_add_61 x_72 rfl f11 ?_
    obtain ⟨G12, e_G12⟩ : ∃ g, g = si G10 8 p1 ((gi G10 8 p1) + (1 : Int32)) := ⟨_, rfl⟩
    have hwp := hwp G12 e_G12
    refine kW.g e_G12.symm ?_
    refine kw_aload_n (pc := 64) X d_Tree_add_64 rfl 0 rfl ?_
    exact kr_q (pc := 65) X hret d_Tree_add_65 (Or.inl ⟨_, rfl⟩) hwp
  · have hwp := ite_f h hwp
    refine kw_null (pc := 9) X d_Tree_add_9 ?_
    exact kr_q (pc := 10) X hret d_Tree_add_10 (Or.inl ⟨_, rfl⟩) hwp
set_option maxRecDepth 100000 in
set_option maxHeartbeats 4000000 in
theorem c_Tree_add (l : Launch) (t : TY) (G : GS) (a0 : Nat) (p1 : Nat) (K : GS → Option Nat → Prop) : Met l y_Tree_add (Cond.code y_Tree_add b_Tree_add 3 (Option.some (Jvm.ClassFile.FieldType.object "TreeServer$Node")) :: GW) rm_Tree_add (va_Pc [.ref a0, .ref p1] (fun U => HB t G U.heap ∧ HK t U ∧ w_Tree_add t G a0 p1 K)) (va_Qq (fun r (u : GS) => K u r) (fun u T => HB t u T.heap) (tA t)) 0 0 (tA t) := by
  refine Met.ofW (cc := b_Tree_add) (maxL := 3) (ret := some (.object "TreeServer$Node")) (by decide) rfl ?_
  intro p e s m args below meth c s₁ B hml hv
  obtain ⟨rfl, hB, hK, hwp⟩ := hv
  have hts := atoms_spec (ws := Cond.code y_Tree_add b_Tree_add 3 (Option.some (Jvm.ClassFile.FieldType.object "TreeServer$Node")) :: GW) B.pre
  have X : kX p s m _ meth c b_Tree_add 3 "TreeServer$Tree" t := ⟨B.exec, B.bytes, hml, findClass_of_methodNamed B.named, fun w h => hts w (List.mem_cons_of_mem _ h), B.notSynchronized, hK⟩
  have hZ : kZ t false s G s.heap [] := ⟨hB, va_S.rf, fun _ => ⟨rfl, rfl⟩⟩
  rw [lg_entry_eq]
  have hl := lv_entry ([.ref a0, .ref p1]) (n := 3) (by simp [lg_sl, rf_cat, cat_i, cat_l, cat_r])
  exact k_Tree_add X B.returns _ _ hwp s.heap [] _ hl hZ
abbrev b_Node_resize : ByteArray := prog_9_method_10_code
def y_Node_resize : MethodName := ⟨"TreeServer$Node", "resize", "(I)V"⟩
theorem d_Node_resize_0 : decode b_Node_resize 0 = .ok (.iload_n 1, 1) := by decide +kernel
theorem d_Node_resize_1 : decode b_Node_resize 1 = .ok (.istore_n 2, 1) := by decide +kernel
theorem d_Node_resize_2 : decode b_Node_resize 2 = .ok (.iload_n 2, 1) := by decide +kernel
theorem d_Node_resize_3 : decode b_Node_resize 3 = .ok (.aload_n 0, 1) := by decide +kernel
theorem d_Node_resize_4 : decode b_Node_resize 4 = .ok (.getfield 56, 3) := by decide +kernel
theorem d_Node_resize_7 : decode b_Node_resize 7 = .ok (.if_icmp .ge 16, 3) := by decide +kernel
theorem d_Node_resize_10 : decode b_Node_resize 10 = .ok (.aload_n 0, 1) := by decide +kernel
theorem d_Node_resize_11 : decode b_Node_resize 11 = .ok (.getfield 34, 3) := by decide +kernel
theorem d_Node_resize_14 : decode b_Node_resize 14 = .ok (.iload_n 2, 1) := by decide +kernel
theorem d_Node_resize_15 : decode b_Node_resize 15 = .ok (.iconst 0, 1) := by decide +kernel
theorem d_Node_resize_16 : decode b_Node_resize 16 = .ok (.bastore, 1) := by decide +kernel
theorem d_Node_resize_17 : decode b_Node_resize 17 = .ok (.iinc 2 1, 3) := by decide +kernel
theorem d_Node_resize_20 : decode b_Node_resize 20 = .ok (.goto (-18), 3) := by decide +kernel
theorem d_Node_resize_23 : decode b_Node_resize 23 = .ok (.aload_n 0, 1) := by decide +kernel
theorem d_Node_resize_24 : decode b_Node_resize 24 = .ok (.iload_n 1, 1) := by decide +kernel
theorem d_Node_resize_25 : decode b_Node_resize 25 = .ok (.putfield 56, 3) := by decide +kernel
theorem d_Node_resize_28 : decode b_Node_resize 28 = .ok (.return_, 1) := by decide +kernel
abbrev rm_Node_resize : Room := { frames := 0, cells := 0, slots := 0, locals := 0 }
set_option maxRecDepth 100000 in
set_option maxHeartbeats 4000000 in
theorem k_Node_resize_2 {p : Program} {l : Launch} {e : Env} {s : State} {m : MethodId} {args : Array Value} {below : List Frame} {meth : Method} {c : Code} {t : TY} {a0 : Nat} {K : GS → Prop} (X : kX p s m args meth c b_Node_resize 3 "TreeServer$Node" t) (hret : meth.sig.returnType = none) : ∀ (n : Nat) (l1 : Int32) (l2 : Int32) (G : GS), w_Node_resize_2 t a0 K n l1 l2 G → kW p l e rm_Node_resize s m args below meth c (MQ below (va_Qv (fun u : GS => K u) (fun u T => HB t u T.heap) (tA t)) args s 0 0 (tA t)) 3 t false 2 [(0, va_rf (some a0)), (1, .int l1), (2, .int l2)] [] G := by
  intro n
  induction n with
  | zero => intro l1 l2 G hwp; exact hwp.elim
  | succ n hr_2 =>
    intro l1 l2 G hwp
    unfold w_Node_resize_2 at hwp
    dsimp only at hwp
    refine kw_iload_n (pc := 2) X d_Node_resize_2 rfl 2 rfl ?_
    refine kw_aload_n (pc := 3) X d_Node_resize_3 rfl 0 rfl ?_
    obtain ⟨f1, hwp⟩ := hwp
    refine kg_12 (a := a0) (pc := 4) X d_Node_resize_4 x_86 rfl f1 ?_
    refine kw_icmp_ge (tgt := 23) (pc := 7) X d_Node_resize_7 (by decide) (fun h => ?_) (fun h => ?_)
    · have hwp := ite_t h hwp
      refine kw_aload_n (pc := 23) X d_Node_resize_23 rfl 0 rfl ?_
      refine kw_iload_n (pc := 24) X d_Node_resize_24 rfl 1 rfl ?_
      refine kp_12 (a := a0) (x := l1) (pc := 25) X rfl d_Node_resize_25 x_86 rfl f1 ?_
      obtain ⟨G2, e_G2⟩ : ∃ g, g = si G 12 a0 l1 := ⟨_, rfl⟩
      have hwp := hwp G2 e_G2
      refine kW.g e_G2.symm ?_
      exact kr_v (pc := 28) X hret d_Node_resize_28 hwp
    · have hwp := ite_f h hwp
      refine kw_aload_n (pc := 10) X d_Node_resize_10 rfl 0 rfl ?_
      refine kg_11 (a := a0) (pc := 11) X d_Node_resize_11 x_84 rfl f1 ?_
      refine kw_iload_n (pc := 14) X d_Node_resize_14 rfl 2 rfl ?_
      refine kw_iconst (v := 0) (pc := 15) X d_Node_resize_15 (by decide) ?_
      obtain ⟨a3, h_a3, hwp⟩ := hwp
      obtain ⟨f4, hwp⟩ := hwp
      obtain ⟨f5, hwp⟩ := hwp
      refine ka_bast (a := a3) (pc := 16) X rfl d_Node_resize_16 h_a3 f4 f5 ?_
      obtain ⟨G6, e_G6⟩ : ∃ g, g = ais G a3 l2.toNatClampNeg (vp_nar .byte (0 : Int32)) := ⟨_, rfl⟩
      have hwp := hwp G6 e_G6
      refine kW.g e_G6.symm ?_
      obtain ⟨v7, e_v7⟩ : ∃ z, z = (l2 + (1 : Int32)) := ⟨_, rfl⟩
      have hwp := hwp v7 e_v7
      refine kw_iinc (v := v7) (lv' := [(2, .int v7), (0, va_rf (some a0)), (1, .int l1)]) (pc := 17) X d_Node_resize_17 2 rfl (by rw [e_v7]; rfl) (by decide) rfl ?_
      refine kw_goto (tgt := 2) (pc := 20) X d_Node_resize_20 (by decide) ?_
      exact kW.sub [1, 2, 0] rfl (hr_2 _ _ _ hwp)
set_option maxRecDepth 100000 in
set_option maxHeartbeats 4000000 in
theorem k_Node_resize {p : Program} {l : Launch} {e : Env} {s : State} {m : MethodId} {args : Array Value} {below : List Frame} {meth : Method} {c : Code} {t : TY} {a0 : Nat} {K : GS → Prop} (X : kX p s m args meth c b_Node_resize 3 "TreeServer$Node" t) (hret : meth.sig.returnType = none) (G : GS) (p1 : Int32) (hwp : w_Node_resize t G a0 p1 K) : kW p l e rm_Node_resize s m args below meth c (MQ below (va_Qv (fun u : GS => K u) (fun u T => HB t u T.heap) (tA t)) args s 0 0 (tA t)) 3 t false 0 [(0, va_rf (some a0)), (1, .int p1)] [] G := by
  unfold w_Node_resize at hwp
  refine kw_iload_n (pc := 0) X d_Node_resize_0 rfl 1 rfl ?_
  refine kw_istore_n (i := 2) (lv' := [(2, .int p1), (0, va_rf (some a0)), (1, .int p1)]) (pc := 1) X d_Node_resize_1 rfl (by decide) rfl ?_
  obtain ⟨n, hwp⟩ := hwp
  exact kW.sub [1, 2, 0] rfl (k_Node_resize_2 X hret  n _ _ _ hwp)
set_option maxRecDepth 100000 in
set_option maxHeartbeats 4000000 in
theorem c_Node_resize (l : Launch) (t : TY) (G : GS) (a0 : Nat) (p1 : Int32) (K : GS → Prop) : Met l y_Node_resize (Cond.code y_Node_resize b_Node_resize 3 (Option.none : Option Jvm.ClassFile.FieldType) :: GW) rm_Node_resize (va_Pc [.ref a0, .int p1] (fun U => HB t G U.heap ∧ HK t U ∧ w_Node_resize t G a0 p1 K)) (va_Qv (fun u : GS => K u) (fun u T => HB t u T.heap) (tA t)) 0 0 (tA t) := by
  refine Met.ofW (cc := b_Node_resize) (maxL := 3) (ret := none) (by decide) rfl ?_
  intro p e s m args below meth c s₁ B hml hv
  obtain ⟨rfl, hB, hK, hwp⟩ := hv
  have hts := atoms_spec (ws := Cond.code y_Node_resize b_Node_resize 3 (Option.none : Option Jvm.ClassFile.FieldType) :: GW) B.pre
  have X : kX p s m _ meth c b_Node_resize 3 "TreeServer$Node" t := ⟨B.exec, B.bytes, hml, findClass_of_methodNamed B.named, fun w h => hts w (List.mem_cons_of_mem _ h), B.notSynchronized, hK⟩
  have hZ : kZ t false s G s.heap [] := ⟨hB, va_S.rf, fun _ => ⟨rfl, rfl⟩⟩
  rw [lg_entry_eq]
  have hl := lv_entry ([.ref a0, .int p1]) (n := 3) (by simp [lg_sl, rf_cat, cat_i, cat_l, cat_r])
  exact k_Node_resize X B.returns _ _ hwp s.heap [] _ hl hZ
abbrev b_Node_rename : ByteArray := prog_9_method_9_code
def y_Node_rename : MethodName := ⟨"TreeServer$Node", "rename", "([BI)V"⟩
theorem d_Node_rename_0 : decode b_Node_rename 0 = .ok (.aload_n 0, 1) := by decide +kernel
theorem d_Node_rename_1 : decode b_Node_rename 1 = .ok (.iconst 0, 1) := by decide +kernel
theorem d_Node_rename_2 : decode b_Node_rename 2 = .ok (.putfield 59, 3) := by decide +kernel
theorem d_Node_rename_5 : decode b_Node_rename 5 = .ok (.iconst 0, 1) := by decide +kernel
theorem d_Node_rename_6 : decode b_Node_rename 6 = .ok (.istore_n 3, 1) := by decide +kernel
theorem d_Node_rename_7 : decode b_Node_rename 7 = .ok (.iload_n 3, 1) := by decide +kernel
theorem d_Node_rename_8 : decode b_Node_rename 8 = .ok (.iload_n 2, 1) := by decide +kernel
theorem d_Node_rename_9 : decode b_Node_rename 9 = .ok (.if_icmp .ge 34, 3) := by decide +kernel
theorem d_Node_rename_12 : decode b_Node_rename 12 = .ok (.iload_n 3, 1) := by decide +kernel
theorem d_Node_rename_13 : decode b_Node_rename 13 = .ok (.bipush 8, 2) := by decide +kernel
theorem d_Node_rename_15 : decode b_Node_rename 15 = .ok (.if_icmp .ge 28, 3) := by decide +kernel
theorem d_Node_rename_18 : decode b_Node_rename 18 = .ok (.aload_n 0, 1) := by decide +kernel
theorem d_Node_rename_19 : decode b_Node_rename 19 = .ok (.getfield 30, 3) := by decide +kernel
theorem d_Node_rename_22 : decode b_Node_rename 22 = .ok (.iload_n 3, 1) := by decide +kernel
theorem d_Node_rename_23 : decode b_Node_rename 23 = .ok (.aload_n 1, 1) := by decide +kernel
theorem d_Node_rename_24 : decode b_Node_rename 24 = .ok (.iload_n 3, 1) := by decide +kernel
theorem d_Node_rename_25 : decode b_Node_rename 25 = .ok (.baload, 1) := by decide +kernel
theorem d_Node_rename_26 : decode b_Node_rename 26 = .ok (.bastore, 1) := by decide +kernel
theorem d_Node_rename_27 : decode b_Node_rename 27 = .ok (.aload_n 0, 1) := by decide +kernel
theorem d_Node_rename_28 : decode b_Node_rename 28 = .ok (.dup, 1) := by decide +kernel
theorem d_Node_rename_29 : decode b_Node_rename 29 = .ok (.getfield 59, 3) := by decide +kernel
theorem d_Node_rename_32 : decode b_Node_rename 32 = .ok (.iconst 1, 1) := by decide +kernel
theorem d_Node_rename_33 : decode b_Node_rename 33 = .ok (.iadd, 1) := by decide +kernel
theorem d_Node_rename_34 : decode b_Node_rename 34 = .ok (.putfield 59, 3) := by decide +kernel
theorem d_Node_rename_37 : decode b_Node_rename 37 = .ok (.iinc 3 1, 3) := by decide +kernel
theorem d_Node_rename_40 : decode b_Node_rename 40 = .ok (.goto (-33), 3) := by decide +kernel
theorem d_Node_rename_43 : decode b_Node_rename 43 = .ok (.return_, 1) := by decide +kernel
abbrev rm_Node_rename : Room := { frames := 0, cells := 0, slots := 0, locals := 0 }
set_option maxRecDepth 100000 in
set_option maxHeartbeats 4000000 in
theorem k_Node_rename_7 {p : Program} {l : Launch} {e : Env} {s : State} {m : MethodId} {args : Array Value} {below : List Frame} {meth : Method} {c : Code} {t : TY} {a0 : Nat} {K : GS → Prop} (X : kX p s m args meth c b_Node_rename 4 "TreeServer$Node" t) (hret : meth.sig.returnType = none) : ∀ (n : Nat) (p1 : Nat) (l2 : Int32) (l3 : Int32) (G : GS), w_Node_rename_7 t a0 K n p1 l2 l3 G → kW p l e rm_Node_rename s m args below meth c (MQ below (va_Qv (fun u : GS => K u) (fun u T => HB t u T.heap) (tA t)) args s 0 0 (tA t)) 4 t false 7 [(0, va_rf (some a0)), (1, va_rf (some p1)), (2, .int l2), (3, .int l3)] [] G := by
  intro n
  induction n with
  | zero => intro p1 l2 l3 G hwp; exact hwp.elim
  | succ n hr_7 =>
    intro p1 l2 l3 G hwp
    unfold w_Node_rename_7 at hwp
    dsimp only at hwp
    refine kw_iload_n (pc := 7) X d_Node_rename_7 rfl 3 rfl ?_
    refine kw_iload_n (pc := 8) X d_Node_rename_8 rfl 2 rfl ?_
    refine kw_icmp_ge (tgt := 43) (pc := 9) X d_Node_rename_9 (by decide) (fun h => ?_) (fun h => ?_)
    · have hwp := ite_t h hwp
      exact kr_v (pc := 43) X hret d_Node_rename_43 hwp
    · have hwp := ite_f h hwp
      refine kw_iload_n (pc := 12) X d_Node_rename_12 rfl 3 rfl ?_
      refine kw_bipush (v := 8) (pc := 13) X d_Node_rename_13 (by decide) ?_
      refine kw_icmp_ge (tgt := 43) (pc := 15) X d_Node_rename_15 (by decide) (fun h => ?_) (fun h => ?_)
      · have hwp := ite_t h hwp
        exact kr_v (pc := 43) X hret d_Node_rename_43 hwp
      · have hwp := ite_f h hwp
        refine kw_aload_n (pc := 18) X d_Node_rename_18 rfl 0 rfl ?_
        obtain ⟨f1, hwp⟩ := hwp
        refine kg_9 (a := a0) (pc := 19) X d_Node_rename_19 x_76 rfl f1 ?_
        refine kw_iload_n (pc := 22) X d_Node_rename_22 rfl 3 rfl ?_
        refine kw_aload_n (pc := 23) X d_Node_rename_23 rfl 1 rfl ?_
        refine kw_iload_n (pc := 24) X d_Node_rename_24 rfl 3 rfl ?_
        obtain ⟨f2, hwp⟩ := hwp
        obtain ⟨f3, hwp⟩ := hwp
        refine ka_bald (a := p1) (pc := 25) X d_Node_rename_25 rfl f2 f3 ?_
        obtain ⟨a4, h_a4, hwp⟩ := hwp
        obtain ⟨f5, hwp⟩ := hwp
        obtain ⟨f6, hwp⟩ := hwp
        refine ka_bast (a := a4) (pc := 26) X rfl d_Node_rename_26 h_a4 f5 f6 ?_
        obtain ⟨G7, e_G7⟩ : ∃ g, g = ais G a4 l3.toNatClampNeg (vp_nar .byte (ai G p1 l3.toNatClampNeg)) := ⟨_, rfl⟩
        have hwp := hwp G7 e_G7
        refine kW.g e_G7.symm ?_
        refine kw_aload_n (pc := 27) X d_Node_rename_27 rfl 0 rfl ?_
        refine kw_dup (pc := 28) X d_Node_rename_28 rfl ?_
        refine kg_10 (a := a0) (pc := 29) X d_Node_rename_29 x_81 rfl f1 ?_
        refine kw_iconst (v := 1) (pc := 32) X d_Node_rename_32 (by decide) ?_
        refine kw_iadd (pc := 33) X d_Node_rename_33 ?_
        refine kp_10 (a := a0) (x := ((gi G7 10 a0) + (1 : Int32))) (pc := 34) X rfl d_Node_rename_34 x_81 rfl f1 ?_
        obtain ⟨G8, e_G8⟩ : ∃ g, g = si G7 10 a0 ((gi G7 10 a0) + (1 : Int32)) := ⟨_, rfl⟩
        have hwp := hwp G8 e_G8
        refine kW.g e_G8.symm ?_
        obtain ⟨v9, e_v9⟩ : ∃ z, z = (l3 + (1 : Int32)) := ⟨_, rfl⟩
        have hwp := hwp v9 e_v9
        refine kw_iinc (v := v9) (lv' := [(3, .int v9), (0, va_rf (some a0)), (1, va_rf (some p1)), (2, .int l2)]) (pc := 37) X d_Node_rename_37 3 rfl (by rw [e_v9]; rfl) (by decide) rfl ?_
        refine kw_goto (tgt := 7) (pc := 40) X d_Node_rename_40 (by decide) ?_
        exact kW.sub [1, 2, 3, 0] rfl (hr_7 _ _ _ _ hwp)
set_option maxRecDepth 100000 in
set_option maxHeartbeats 4000000 in
theorem k_Node_rename {p : Program} {l : Launch} {e : Env} {s : State} {m : MethodId} {args : Array Value} {below : List Frame} {meth : Method} {c : Code} {t : TY} {a0 : Nat} {K : GS → Prop} (X : kX p s m args meth c b_Node_rename 4 "TreeServer$Node" t) (hret : meth.sig.returnType = none) (G : GS) (p1 : Nat) (p2 : Int32) (hwp : w_Node_rename t G a0 p1 p2 K) : kW p l e rm_Node_rename s m args below meth c (MQ below (va_Qv (fun u : GS => K u) (fun u T => HB t u T.heap) (tA t)) args s 0 0 (tA t)) 4 t false 0 [(0, va_rf (some a0)), (1, va_rf (some p1)), (2, .int p2)] [] G := by
  unfold w_Node_rename at hwp
  refine kw_aload_n (pc := 0) X d_Node_rename_0 rfl 0 rfl ?_
  refine kw_iconst (v := 0) (pc := 1) X d_Node_rename_1 (by decide) ?_
  obtain ⟨f1, hwp⟩ := hwp
  refine kp_10 (a := a0) (x := (0 : Int32)) (pc := 2) X rfl d_Node_rename_2 x_81 rfl f1 ?_
  obtain ⟨G2, e_G2⟩ : ∃ g, g = si G 10 a0 (0 : Int32) := ⟨_, rfl⟩
  have hwp := hwp G2 e_G2
  refine kW.g e_G2.symm ?_
  refine kw_iconst (v := 0) (pc := 5) X d_Node_rename_5 (by decide) ?_
  refine kw_istore_n (i := 3) (lv' := [(3, .int (0 : Int32)), (0, va_rf (some a0)), (1, va_rf (some p1)), (2, .int p2)]) (pc := 6) X d_Node_rename_6 rfl (by decide) rfl ?_
  obtain ⟨n, hwp⟩ := hwp
  exact kW.sub [1, 2, 3, 0] rfl (k_Node_rename_7 X hret  n _ _ _ _ hwp)
set_option maxRecDepth 100000 in
set_option maxHeartbeats 4000000 in
theorem c_Node_rename (l : Launch) (t : TY) (G : GS) (a0 : Nat) (p1 : Nat) (p2 : Int32) (K : GS → Prop) : Met l y_Node_rename (Cond.code y_Node_rename b_Node_rename 4 (Option.none : Option Jvm.ClassFile.FieldType) :: GW) rm_Node_rename (va_Pc [.ref a0, .ref p1, .int p2] (fun U => HB t G U.heap ∧ HK t U ∧ w_Node_rename t G a0 p1 p2 K)) (va_Qv (fun u : GS => K u) (fun u T => HB t u T.heap) (tA t)) 0 0 (tA t) := by
  refine Met.ofW (cc := b_Node_rename) (maxL := 4) (ret := none) (by decide) rfl ?_
  intro p e s m args below meth c s₁ B hml hv
  obtain ⟨rfl, hB, hK, hwp⟩ := hv
  have hts := atoms_spec (ws := Cond.code y_Node_rename b_Node_rename 4 (Option.none : Option Jvm.ClassFile.FieldType) :: GW) B.pre
  have X : kX p s m _ meth c b_Node_rename 4 "TreeServer$Node" t := ⟨B.exec, B.bytes, hml, findClass_of_methodNamed B.named, fun w h => hts w (List.mem_cons_of_mem _ h), B.notSynchronized, hK⟩
  have hZ : kZ t false s G s.heap [] := ⟨hB, va_S.rf, fun _ => ⟨rfl, rfl⟩⟩
  rw [lg_entry_eq]
  have hl := lv_entry ([.ref a0, .ref p1, .int p2]) (n := 4) (by simp [lg_sl, rf_cat, cat_i, cat_l, cat_r])
  exact k_Node_rename X B.returns _ _ _ hwp s.heap [] _ hl hZ
abbrev b_Node_changeBy : ByteArray := prog_9_method_8_code
def y_Node_changeBy : MethodName := ⟨"TreeServer$Node", "changeBy", "(LTreeServer$User;I)V"⟩
theorem d_Node_changeBy_0 : decode b_Node_changeBy 0 = .ok (.aload_n 0, 1) := by decide +kernel
theorem d_Node_changeBy_1 : decode b_Node_changeBy 1 = .ok (.dup, 1) := by decide +kernel
theorem d_Node_changeBy_2 : decode b_Node_changeBy 2 = .ok (.getfield 71, 3) := by decide +kernel
theorem d_Node_changeBy_5 : decode b_Node_changeBy 5 = .ok (.iconst 1, 1) := by decide +kernel
theorem d_Node_changeBy_6 : decode b_Node_changeBy 6 = .ok (.iadd, 1) := by decide +kernel
theorem d_Node_changeBy_7 : decode b_Node_changeBy 7 = .ok (.putfield 71, 3) := by decide +kernel
theorem d_Node_changeBy_10 : decode b_Node_changeBy 10 = .ok (.aload_n 0, 1) := by decide +kernel
theorem d_Node_changeBy_11 : decode b_Node_changeBy 11 = .ok (.iload_n 2, 1) := by decide +kernel
theorem d_Node_changeBy_12 : decode b_Node_changeBy 12 = .ok (.putfield 74, 3) := by decide +kernel
theorem d_Node_changeBy_15 : decode b_Node_changeBy 15 = .ok (.aload_n 0, 1) := by decide +kernel
theorem d_Node_changeBy_16 : decode b_Node_changeBy 16 = .ok (.aload_n 1, 1) := by decide +kernel
theorem d_Node_changeBy_17 : decode b_Node_changeBy 17 = .ok (.putfield 27, 3) := by decide +kernel
theorem d_Node_changeBy_20 : decode b_Node_changeBy 20 = .ok (.return_, 1) := by decide +kernel
abbrev rm_Node_changeBy : Room := { frames := 0, cells := 0, slots := 0, locals := 0 }
set_option maxRecDepth 100000 in
set_option maxHeartbeats 4000000 in
theorem k_Node_changeBy {p : Program} {l : Launch} {e : Env} {s : State} {m : MethodId} {args : Array Value} {below : List Frame} {meth : Method} {c : Code} {t : TY} {a0 : Nat} {K : GS → Prop} (X : kX p s m args meth c b_Node_changeBy 3 "TreeServer$Node" t) (hret : meth.sig.returnType = none) (G : GS) (p1 : Option Nat) (p2 : Int32) (hwp : w_Node_changeBy t G a0 p1 p2 K) : kW p l e rm_Node_changeBy s m args below meth c (MQ below (va_Qv (fun u : GS => K u) (fun u T => HB t u T.heap) (tA t)) args s 0 0 (tA t)) 3 t false 0 [(0, va_rf (some a0)), (1, va_rf p1), (2, .int p2)] [] G := by
  unfold w_Node_changeBy at hwp
  refine kw_aload_n (pc := 0) X d_Node_changeBy_0 rfl 0 rfl ?_
  refine kw_dup (pc := 1) X d_Node_changeBy_1 rfl ?_
  obtain ⟨f1, hwp⟩ := hwp
  refine kg_1 (a := a0) (pc := 2) X d_Node_changeBy_2 x_48 rfl f1 ?_
  refine kw_iconst (v := 1) (pc := 5) X d_Node_changeBy_5 (by decide) ?_
  refine kw_iadd (pc := 6) X d_Node_changeBy_6 ?_
  refine kp_1 (a := a0) (x := ((gi G 1 a0) + (1 : Int32))) (pc := 7) X rfl d_Node_changeBy_7 x_48 rfl f1 ?_
  obtain ⟨G2, e_G2⟩ : ∃ g, g = si G 1 a0 ((gi G 1 a0) + (1 : Int32)) := ⟨_, rfl⟩
  have hwp := hwp G2 e_G2
  refine kW.g e_G2.symm ?_
  refine kw_aload_n (pc := 10) X d_Node_changeBy_10 rfl 0 rfl ?_
  refine kw_iload_n (pc := 11) X d_Node_changeBy_11 rfl 2 rfl ?_
  refine kp_3 (a := a0) (x := p2) (pc := 12) X rfl d_Node_changeBy_12 x_56 rfl f1 ?_
  obtain ⟨G3, e_G3⟩ : ∃ g, g = si G2 3 a0 p2 := ⟨_, rfl⟩
  have hwp := hwp G3 e_G3
  refine kW.g e_G3.symm ?_
  refine kw_aload_n (pc := 15) X d_Node_changeBy_15 rfl 0 rfl ?_
  refine kw_aload_n (pc := 16) X d_Node_changeBy_16 rfl 1 rfl ?_
  refine kp_6 (a := a0) (x := p1) (pc := 17) X rfl d_Node_changeBy_17 x_65 rfl f1 ?_
  obtain ⟨G4, e_G4⟩ : ∃ g, g = sr G3 6 a0 p1 := ⟨_, rfl⟩
  have hwp := hwp G4 e_G4
  refine kW.g e_G4.symm ?_
  exact kr_v (pc := 20) X hret d_Node_changeBy_20 hwp
set_option maxRecDepth 100000 in
set_option maxHeartbeats 4000000 in
theorem c_Node_changeBy (l : Launch) (t : TY) (G : GS) (a0 : Nat) (p1 : Option Nat) (p2 : Int32) (K : GS → Prop) : Met l y_Node_changeBy (Cond.code y_Node_changeBy b_Node_changeBy 3 (Option.none : Option Jvm.ClassFile.FieldType) :: GW) rm_Node_changeBy (va_Pc [.ref a0, va_rf p1, .int p2] (fun U => HB t G U.heap ∧ HK t U ∧ w_Node_changeBy t G a0 p1 p2 K)) (va_Qv (fun u : GS => K u) (fun u T => HB t u T.heap) (tA t)) 0 0 (tA t) := by
  refine Met.ofW (cc := b_Node_changeBy) (maxL := 3) (ret := none) (by decide) rfl ?_
  intro p e s m args below meth c s₁ B hml hv
  obtain ⟨rfl, hB, hK, hwp⟩ := hv
  have hts := atoms_spec (ws := Cond.code y_Node_changeBy b_Node_changeBy 3 (Option.none : Option Jvm.ClassFile.FieldType) :: GW) B.pre
  have X : kX p s m _ meth c b_Node_changeBy 3 "TreeServer$Node" t := ⟨B.exec, B.bytes, hml, findClass_of_methodNamed B.named, fun w h => hts w (List.mem_cons_of_mem _ h), B.notSynchronized, hK⟩
  have hZ : kZ t false s G s.heap [] := ⟨hB, va_S.rf, fun _ => ⟨rfl, rfl⟩⟩
  rw [lg_entry_eq]
  have hl := lv_entry ([.ref a0, va_rf p1, .int p2]) (n := 3) (by simp [lg_sl, rf_cat, cat_i, cat_l, cat_r])
  rw [show lv_args 0 [.ref a0, va_rf p1, .int p2] = [(0, .ref a0), (1, va_rf p1), (2, .int p2)] from by simp [lv_args, rf_cat, cat_i, cat_l, cat_r]] at hl
  exact k_Node_changeBy X B.returns _ _ _ hwp s.heap [] _ hl hZ
abbrev b_Change_create : ByteArray := prog_3_method_5_code
def y_Change_create : MethodName := ⟨"TreeServer$Change", "create", "(LTreeServer$Tree;)V"⟩
theorem d_Change_create_0 : decode b_Change_create 0 = .ok (.aload_n 1, 1) := by decide +kernel
theorem d_Change_create_1 : decode b_Change_create 1 = .ok (.aload_n 0, 1) := by decide +kernel
theorem d_Change_create_2 : decode b_Change_create 2 = .ok (.getfield 36, 3) := by decide +kernel
theorem d_Change_create_5 : decode b_Change_create 5 = .ok (.invokevirtual 98, 3) := by decide +kernel
theorem d_Change_create_8 : decode b_Change_create 8 = .ok (.astore_n 2, 1) := by decide +kernel
theorem d_Change_create_9 : decode b_Change_create 9 = .ok (.aload_n 2, 1) := by decide +kernel
theorem d_Change_create_10 : decode b_Change_create 10 = .ok (.ifnonnull 4, 3) := by decide +kernel
theorem d_Change_create_13 : decode b_Change_create 13 = .ok (.return_, 1) := by decide +kernel
theorem d_Change_create_14 : decode b_Change_create 14 = .ok (.aload_n 2, 1) := by decide +kernel
theorem d_Change_create_15 : decode b_Change_create 15 = .ok (.iconst 0, 1) := by decide +kernel
theorem d_Change_create_16 : decode b_Change_create 16 = .ok (.putfield 102, 3) := by decide +kernel
theorem d_Change_create_19 : decode b_Change_create 19 = .ok (.aload_n 2, 1) := by decide +kernel
theorem d_Change_create_20 : decode b_Change_create 20 = .ok (.aload_n 0, 1) := by decide +kernel
theorem d_Change_create_21 : decode b_Change_create 21 = .ok (.getfield 105, 3) := by decide +kernel
theorem d_Change_create_24 : decode b_Change_create 24 = .ok (.putfield 108, 3) := by decide +kernel
theorem d_Change_create_27 : decode b_Change_create 27 = .ok (.aload_n 2, 1) := by decide +kernel
theorem d_Change_create_28 : decode b_Change_create 28 = .ok (.aload_n 0, 1) := by decide +kernel
theorem d_Change_create_29 : decode b_Change_create 29 = .ok (.getfield 40, 3) := by decide +kernel
theorem d_Change_create_32 : decode b_Change_create 32 = .ok (.putfield 109, 3) := by decide +kernel
theorem d_Change_create_35 : decode b_Change_create 35 = .ok (.aload_n 2, 1) := by decide +kernel
theorem d_Change_create_36 : decode b_Change_create 36 = .ok (.aload_n 0, 1) := by decide +kernel
theorem d_Change_create_37 : decode b_Change_create 37 = .ok (.getfield 26, 3) := by decide +kernel
theorem d_Change_create_40 : decode b_Change_create 40 = .ok (.putfield 112, 3) := by decide +kernel
theorem d_Change_create_43 : decode b_Change_create 43 = .ok (.aload_n 2, 1) := by decide +kernel
theorem d_Change_create_44 : decode b_Change_create 44 = .ok (.aload_n 0, 1) := by decide +kernel
theorem d_Change_create_45 : decode b_Change_create 45 = .ok (.getfield 36, 3) := by decide +kernel
theorem d_Change_create_48 : decode b_Change_create 48 = .ok (.getfield 115, 3) := by decide +kernel
theorem d_Change_create_51 : decode b_Change_create 51 = .ok (.putfield 115, 3) := by decide +kernel
theorem d_Change_create_54 : decode b_Change_create 54 = .ok (.aload_n 2, 1) := by decide +kernel
theorem d_Change_create_55 : decode b_Change_create 55 = .ok (.aload_n 0, 1) := by decide +kernel
theorem d_Change_create_56 : decode b_Change_create 56 = .ok (.getfield 26, 3) := by decide +kernel
theorem d_Change_create_59 : decode b_Change_create 59 = .ok (.putfield 116, 3) := by decide +kernel
theorem d_Change_create_62 : decode b_Change_create 62 = .ok (.aload_n 2, 1) := by decide +kernel
theorem d_Change_create_63 : decode b_Change_create 63 = .ok (.iconst 0, 1) := by decide +kernel
theorem d_Change_create_64 : decode b_Change_create 64 = .ok (.putfield 119, 3) := by decide +kernel
theorem d_Change_create_67 : decode b_Change_create 67 = .ok (.aload_n 2, 1) := by decide +kernel
theorem d_Change_create_68 : decode b_Change_create 68 = .ok (.iconst 0, 1) := by decide +kernel
theorem d_Change_create_69 : decode b_Change_create 69 = .ok (.invokevirtual 122, 3) := by decide +kernel
theorem d_Change_create_72 : decode b_Change_create 72 = .ok (.aload_n 2, 1) := by decide +kernel
theorem d_Change_create_73 : decode b_Change_create 73 = .ok (.aload_n 0, 1) := by decide +kernel
theorem d_Change_create_74 : decode b_Change_create 74 = .ok (.getfield 29, 3) := by decide +kernel
theorem d_Change_create_77 : decode b_Change_create 77 = .ok (.aload_n 0, 1) := by decide +kernel
theorem d_Change_create_78 : decode b_Change_create 78 = .ok (.getfield 57, 3) := by decide +kernel
theorem d_Change_create_81 : decode b_Change_create 81 = .ok (.invokevirtual 126, 3) := by decide +kernel
theorem d_Change_create_84 : decode b_Change_create 84 = .ok (.aload_n 0, 1) := by decide +kernel
theorem d_Change_create_85 : decode b_Change_create 85 = .ok (.getfield 36, 3) := by decide +kernel
theorem d_Change_create_88 : decode b_Change_create 88 = .ok (.aload_n 0, 1) := by decide +kernel
theorem d_Change_create_89 : decode b_Change_create 89 = .ok (.getfield 26, 3) := by decide +kernel
theorem d_Change_create_92 : decode b_Change_create 92 = .ok (.aload_n 0, 1) := by decide +kernel
theorem d_Change_create_93 : decode b_Change_create 93 = .ok (.getfield 40, 3) := by decide +kernel
theorem d_Change_create_96 : decode b_Change_create 96 = .ok (.invokevirtual 82, 3) := by decide +kernel
theorem d_Change_create_99 : decode b_Change_create 99 = .ok (.return_, 1) := by decide +kernel
abbrev rm_Change_create : Room := { frames := 1, cells := 0, slots := 0, locals := 23 }
set_option maxRecDepth 100000 in
set_option maxHeartbeats 4000000 in
theorem k_Change_create {p : Program} {l : Launch} {e : Env} {s : State} {m : MethodId} {args : Array Value} {below : List Frame} {meth : Method} {c : Code} {t : TY} {a0 : Nat} {K : GS → Prop} (X : kX p s m args meth c b_Change_create 3 "TreeServer$Change" t) (hret : meth.sig.returnType = none) (G : GS) (p1 : Nat) (hwp : w_Change_create t G a0 p1 K) : kW p l e rm_Change_create s m args below meth c (MQ below (va_Qv (fun u : GS => K u) (fun u T => HB t u T.heap) (tA t)) args s 0 0 (tA t)) 3 t false 0 [(0, va_rf (some a0)), (1, va_rf (some p1))] [] G := by
  unfold w_Change_create at hwp
  refine kw_aload_n (pc := 0) X d_Change_create_0 rfl 1 rfl ?_
  refine kw_aload_n (pc := 1) X d_Change_create_1 rfl 0 rfl ?_
  obtain ⟨f1, hwp⟩ := hwp
  refine kg_22 (a := a0) (pc := 2) X d_Change_create_2 x_168 rfl f1 ?_
  obtain ⟨f2, hwp⟩ := hwp
  obtain ⟨a3, h_a3, hwp⟩ := hwp
  refine kW.st (st' := [.ref a3, .ref p1]) (by simp only [h_a3]; rfl) ?_
  refine kcV_q (n := 1) (As := [.ref a3]) (rest := []) (pc := 5) X rfl (c_Tree_add l t G p1 a3 _) (cwV_of (C := "TreeServer$Tree") X x_474 x_471 x_472 x_473 x_2 (by decide +kernel) ⟨rfl, rfl⟩ (by decide)) (rv_2 X f2) rfl rfl (by decide) d_Change_create_5 hwp (fun x5 G4 hwp => ?_)
  refine kw_astore_n (i := 2) (lv' := [(2, va_rf x5), (0, va_rf (some a0)), (1, va_rf (some p1))]) (pc := 8) X d_Change_create_8 rfl (by decide) rfl ?_
  refine kw_aload_n (pc := 9) X d_Change_create_9 rfl 0 rfl ?_
  refine kw_ifnonnull (tgt := 14) (pc := 10) X d_Change_create_10 (by decide) (fun h => ?_) (fun h => ?_)
  · have hwp := ite_t h hwp
    refine kw_aload_n (pc := 14) X d_Change_create_14 rfl 0 rfl ?_
    refine kw_iconst (v := 0) (pc := 15) X d_Change_create_15 (by decide) ?_
    obtain ⟨a6, h_a6, hwp⟩ := hwp
    obtain ⟨f7, hwp⟩ := hwp
    refine kp_1 (a := a6) (x := (0 : Int32)) (pc := 16) X rfl d_Change_create_16 x_47 h_a6 f7 ?_
    obtain ⟨G8, e_G8⟩ : ∃ g, g = si G4 1 a6 (0 : Int32) := ⟨_, rfl⟩
    have hwp := hwp G8 e_G8
    refine kW.g e_G8.symm ?_
    refine kw_aload_n (pc := 19) X d_Change_create_19 rfl 0 rfl ?_
    refine kw_aload_n (pc := 20) X d_Change_create_20 rfl 1 rfl ?_
    refine kg_27 (a := a0) (pc := 21) X d_Change_create_21 x_175 rfl f1 ?_
    refine kp_2 (a := a6) (x := (gi G8 27 a0)) (pc := 24) X rfl d_Change_create_24 x_52 h_a6 f7 ?_
    obtain ⟨G9, e_G9⟩ : ∃ g, g = si G8 2 a6 (gi G8 27 a0) := ⟨_, rfl⟩
    have hwp := hwp G9 e_G9
    refine kW.g e_G9.symm ?_
    refine kw_aload_n (pc := 27) X d_Change_create_27 rfl 0 rfl ?_
    refine kw_aload_n (pc := 28) X d_Change_create_28 rfl 1 rfl ?_
    refine kg_24 (a := a0) (pc := 29) X d_Change_create_29 x_170 rfl f1 ?_
    refine kp_3 (a := a6) (x := (gi G9 24 a0)) (pc := 32) X rfl d_Change_create_32 x_55 h_a6 f7 ?_
    obtain ⟨G10, e_G10⟩ : ∃ g, g = si G9 3 a6 (gi G9 24 a0) := ⟨_, rfl⟩
    have hwp := hwp G10 e_G10
    refine kW.g e_G10.symm ?_
    refine kw_aload_n (pc := 35) X d_Change_create_35 rfl 0 rfl ?_
    refine kw_aload_n (pc := 36) X d_Change_create_36 rfl 1 rfl ?_
    refine kg_23 (a := a0) (pc := 37) X d_Change_create_37 x_169 rfl f1 ?_
    refine kp_4 (a := a6) (x := (gr G10 23 a0)) (pc := 40) X rfl d_Change_create_40 x_59 h_a6 f7 ?_
    obtain ⟨G11, e_G11⟩ : ∃ g, g = sr G10 4 a6 (gr G10 23 a0) := ⟨_, rfl⟩
    have hwp := hwp G11 e_G11
    refine kW.g e_G11.symm ?_
    refine kw_aload_n (pc := 43) X d_Change_create_43 rfl 0 rfl ?_
    refine kw_aload_n (pc := 44) X d_Change_create_44 rfl 1 rfl ?_
    refine kg_22 (a := a0) (pc := 45) X d_Change_create_45 x_168 rfl f1 ?_
    obtain ⟨a12, h_a12, hwp⟩ := hwp
    obtain ⟨f13, hwp⟩ := hwp
    refine kg_5 (a := a12) (pc := 48) X d_Change_create_48 x_63 h_a12 f13 ?_
    refine kp_5 (a := a6) (x := (gr G11 5 a12)) (pc := 51) X rfl d_Change_create_51 x_63 h_a6 f7 ?_
    obtain ⟨G14, e_G14⟩ : ∃ g, g = sr G11 5 a6 (gr G11 5 a12) := ⟨_, rfl⟩
    have hwp := hwp G14 e_G14
    refine kW.g e_G14.symm ?_
    refine kw_aload_n (pc := 54) X d_Change_create_54 rfl 0 rfl ?_
    refine kw_aload_n (pc := 55) X d_Change_create_55 rfl 1 rfl ?_
    refine kg_23 (a := a0) (pc := 56) X d_Change_create_56 x_169 rfl f1 ?_
    refine kp_6 (a := a6) (x := (gr G14 23 a0)) (pc := 59) X rfl d_Change_create_59 x_66 h_a6 f7 ?_
    obtain ⟨G15, e_G15⟩ : ∃ g, g = sr G14 6 a6 (gr G14 23 a0) := ⟨_, rfl⟩
    have hwp := hwp G15 e_G15
    refine kW.g e_G15.symm ?_
    refine kw_aload_n (pc := 62) X d_Change_create_62 rfl 0 rfl ?_
    refine kw_iconst (v := 0) (pc := 63) X d_Change_create_63 (by decide) ?_
    refine kp_8 (a := a6) (x := (0 : Int32)) (pc := 64) X rfl d_Change_create_64 x_73 h_a6 f7 ?_
    obtain ⟨G16, e_G16⟩ : ∃ g, g = si G15 8 a6 (0 : Int32) := ⟨_, rfl⟩
    have hwp := hwp G16 e_G16
    refine kW.g e_G16.symm ?_
    refine kw_aload_n (pc := 67) X d_Change_create_67 rfl 0 rfl ?_
    refine kw_iconst (v := 0) (pc := 68) X d_Change_create_68 (by decide) ?_
    refine kW.st (st' := [.int (0 : Int32), .ref a6]) (by simp only [h_a6]; rfl) ?_
    refine kcV_v (n := 1) (As := [.int (0 : Int32)]) (rest := []) (pc := 69) X rfl (c_Node_resize l t G16 a6 (0 : Int32) _) (cwV_of (C := "TreeServer$Node") X x_478 x_475 x_476 x_477 x_3 (by decide +kernel) ⟨rfl, rfl⟩ (by decide)) (rv_1 X f7) rfl rfl (by decide) d_Change_create_69 hwp (fun G17 hwp => ?_)
    refine kw_aload_n (pc := 72) X d_Change_create_72 rfl 0 rfl ?_
    refine kw_aload_n (pc := 73) X d_Change_create_73 rfl 1 rfl ?_
    refine kg_31 (a := a0) (pc := 74) X d_Change_create_74 x_183 rfl f1 ?_
    refine kw_aload_n (pc := 77) X d_Change_create_77 rfl 1 rfl ?_
    refine kg_32 (a := a0) (pc := 78) X d_Change_create_78 x_185 rfl f1 ?_
    obtain ⟨a18, h_a18, hwp⟩ := hwp
    refine kW.st (st' := [.int (gi G17 32 a0), .ref a18, .ref a6]) (by simp only [h_a18, h_a6]; rfl) ?_
    refine kcV_v (n := 2) (As := [.ref a18, .int (gi G17 32 a0)]) (rest := []) (pc := 81) X rfl (c_Node_rename l t G17 a6 a18 (gi G17 32 a0) _) (cwV_of (C := "TreeServer$Node") X x_482 x_479 x_480 x_481 x_3 (by decide +kernel) ⟨rfl, rfl⟩ (by decide)) (rv_1 X f7) rfl rfl (by decide) d_Change_create_81 hwp (fun G19 hwp => ?_)
    refine kw_aload_n (pc := 84) X d_Change_create_84 rfl 1 rfl ?_
    refine kg_22 (a := a0) (pc := 85) X d_Change_create_85 x_168 rfl f1 ?_
    refine kw_aload_n (pc := 88) X d_Change_create_88 rfl 1 rfl ?_
    refine kg_23 (a := a0) (pc := 89) X d_Change_create_89 x_169 rfl f1 ?_
    refine kw_aload_n (pc := 92) X d_Change_create_92 rfl 1 rfl ?_
    refine kg_24 (a := a0) (pc := 93) X d_Change_create_93 x_170 rfl f1 ?_
    obtain ⟨a20, h_a20, hwp⟩ := hwp
    obtain ⟨f21, hwp⟩ := hwp
    refine kW.st (st' := [.int (gi G19 24 a0), va_rf (gr G19 23 a0), .ref a20]) (by simp only [h_a20]; rfl) ?_
    refine kcV_v (n := 2) (As := [va_rf (gr G19 23 a0), .int (gi G19 24 a0)]) (rest := []) (pc := 96) X rfl (c_Node_changeBy l t G19 a20 (gr G19 23 a0) (gi G19 24 a0) _) (cwV_of (C := "TreeServer$Node") X x_486 x_483 x_484 x_485 x_3 (by decide +kernel) ⟨rfl, rfl⟩ (by decide)) (rv_1 X f21) rfl rfl (by decide) d_Change_create_96 hwp (fun G22 hwp => ?_)
    exact kr_v (pc := 99) X hret d_Change_create_99 hwp
  · have hwp := ite_f (not_not_intro h) hwp
    exact kr_v (pc := 13) X hret d_Change_create_13 hwp
set_option maxRecDepth 100000 in
set_option maxHeartbeats 4000000 in
theorem c_Change_create (l : Launch) (t : TY) (G : GS) (a0 : Nat) (p1 : Nat) (K : GS → Prop) : Met l y_Change_create (Cond.code y_Change_create b_Change_create 3 (Option.none : Option Jvm.ClassFile.FieldType) :: GW) rm_Change_create (va_Pc [.ref a0, .ref p1] (fun U => HB t G U.heap ∧ HK t U ∧ w_Change_create t G a0 p1 K)) (va_Qv (fun u : GS => K u) (fun u T => HB t u T.heap) (tA t)) 0 0 (tA t) := by
  refine Met.ofW (cc := b_Change_create) (maxL := 3) (ret := none) (by decide) rfl ?_
  intro p e s m args below meth c s₁ B hml hv
  obtain ⟨rfl, hB, hK, hwp⟩ := hv
  have hts := atoms_spec (ws := Cond.code y_Change_create b_Change_create 3 (Option.none : Option Jvm.ClassFile.FieldType) :: GW) B.pre
  have X : kX p s m _ meth c b_Change_create 3 "TreeServer$Change" t := ⟨B.exec, B.bytes, hml, findClass_of_methodNamed B.named, fun w h => hts w (List.mem_cons_of_mem _ h), B.notSynchronized, hK⟩
  have hZ : kZ t false s G s.heap [] := ⟨hB, va_S.rf, fun _ => ⟨rfl, rfl⟩⟩
  rw [lg_entry_eq]
  have hl := lv_entry ([.ref a0, .ref p1]) (n := 3) (by simp [lg_sl, rf_cat, cat_i, cat_l, cat_r])
  exact k_Change_create X B.returns _ _ hwp s.heap [] _ hl hZ
abbrev b_Node_store : ByteArray := prog_9_method_11_code
def y_Node_store : MethodName := ⟨"TreeServer$Node", "store", "([BII)V"⟩
theorem d_Node_store_0 : decode b_Node_store 0 = .ok (.aload_n 1, 1) := by decide +kernel
theorem d_Node_store_1 : decode b_Node_store 1 = .ok (.iconst 0, 1) := by decide +kernel
theorem d_Node_store_2 : decode b_Node_store 2 = .ok (.aload_n 0, 1) := by decide +kernel
theorem d_Node_store_3 : decode b_Node_store 3 = .ok (.getfield 34, 3) := by decide +kernel
theorem d_Node_store_6 : decode b_Node_store 6 = .ok (.iload_n 2, 1) := by decide +kernel
theorem d_Node_store_7 : decode b_Node_store 7 = .ok (.iload_n 3, 1) := by decide +kernel
theorem d_Node_store_8 : decode b_Node_store 8 = .ok (.invokestatic 77, 3) := by decide +kernel
theorem d_Node_store_11 : decode b_Node_store 11 = .ok (.aload_n 0, 1) := by decide +kernel
theorem d_Node_store_12 : decode b_Node_store 12 = .ok (.aload_n 0, 1) := by decide +kernel
theorem d_Node_store_13 : decode b_Node_store 13 = .ok (.getfield 56, 3) := by decide +kernel
theorem d_Node_store_16 : decode b_Node_store 16 = .ok (.iload_n 2, 1) := by decide +kernel
theorem d_Node_store_17 : decode b_Node_store 17 = .ok (.iload_n 3, 1) := by decide +kernel
theorem d_Node_store_18 : decode b_Node_store 18 = .ok (.iadd, 1) := by decide +kernel
theorem d_Node_store_19 : decode b_Node_store 19 = .ok (.invokestatic 83, 3) := by decide +kernel
theorem d_Node_store_22 : decode b_Node_store 22 = .ok (.putfield 56, 3) := by decide +kernel
theorem d_Node_store_25 : decode b_Node_store 25 = .ok (.return_, 1) := by decide +kernel
abbrev rm_Node_store : Room := { frames := 1, cells := 0, slots := 0, locals := 26 }
set_option maxRecDepth 100000 in
set_option maxHeartbeats 4000000 in
theorem k_Node_store {p : Program} {l : Launch} {e : Env} {s : State} {m : MethodId} {args : Array Value} {below : List Frame} {meth : Method} {c : Code} {t : TY} {a0 : Nat} {K : GS → Prop} (X : kX p s m args meth c b_Node_store 4 "TreeServer$Node" t) (hret : meth.sig.returnType = none) (G : GS) (p1 : Nat) (p2 : Int32) (p3 : Int32) (hwp : w_Node_store t G a0 p1 p2 p3 K) : kW p l e rm_Node_store s m args below meth c (MQ below (va_Qv (fun u : GS => K u) (fun u T => HB t u T.heap) (tA t)) args s 0 0 (tA t)) 4 t false 0 [(0, va_rf (some a0)), (1, va_rf (some p1)), (2, .int p2), (3, .int p3)] [] G := by
  unfold w_Node_store at hwp
  refine kw_aload_n (pc := 0) X d_Node_store_0 rfl 1 rfl ?_
  refine kw_iconst (v := 0) (pc := 1) X d_Node_store_1 (by decide) ?_
  refine kw_aload_n (pc := 2) X d_Node_store_2 rfl 0 rfl ?_
  obtain ⟨f1, hwp⟩ := hwp
  refine kg_11 (a := a0) (pc := 3) X d_Node_store_3 x_84 rfl f1 ?_
  refine kw_iload_n (pc := 6) X d_Node_store_6 rfl 2 rfl ?_
  refine kw_iload_n (pc := 7) X d_Node_store_7 rfl 3 rfl ?_
  obtain ⟨a2, h_a2, hwp⟩ := hwp
  obtain ⟨f3, hwp⟩ := hwp
  obtain ⟨f4, hwp⟩ := hwp
  obtain ⟨f5, hwp⟩ := hwp
  refine ka_copy (a := p1) (b := a2) (pc := 8) X rfl d_Node_store_8 x_493 x_495 x_494 x_14 (by decide) (by decide) rfl h_a2 f3 f4 f5 ?_
  obtain ⟨G6, e_G6⟩ : ∃ g, g = acB G p1 a2 (0 : Int32) p2 p3 := ⟨_, rfl⟩
  have hwp := hwp G6 e_G6
  refine kW.g e_G6.symm ?_
  refine kw_aload_n (pc := 11) X d_Node_store_11 rfl 0 rfl ?_
  refine kw_aload_n (pc := 12) X d_Node_store_12 rfl 0 rfl ?_
  refine kg_12 (a := a0) (pc := 13) X d_Node_store_13 x_86 rfl f1 ?_
  refine kw_iload_n (pc := 16) X d_Node_store_16 rfl 2 rfl ?_
  refine kw_iload_n (pc := 17) X d_Node_store_17 rfl 3 rfl ?_
  refine kw_iadd (pc := 18) X d_Node_store_18 ?_
  refine km_max (pc := 19) X d_Node_store_19 x_496 x_497 x_15 x_498 (by decide) (by simp [rf_cat, cat_i, cat_l, cat_r]) ?_
  refine kp_12 (a := a0) (x := (imax (gi G6 12 a0) (p2 + p3))) (pc := 22) X rfl d_Node_store_22 x_86 rfl f1 ?_
  obtain ⟨G7, e_G7⟩ : ∃ g, g = si G6 12 a0 (imax (gi G6 12 a0) (p2 + p3)) := ⟨_, rfl⟩
  have hwp := hwp G7 e_G7
  refine kW.g e_G7.symm ?_
  exact kr_v (pc := 25) X hret d_Node_store_25 hwp
set_option maxRecDepth 100000 in
set_option maxHeartbeats 4000000 in
theorem c_Node_store (l : Launch) (t : TY) (G : GS) (a0 : Nat) (p1 : Nat) (p2 : Int32) (p3 : Int32) (K : GS → Prop) : Met l y_Node_store (Cond.code y_Node_store b_Node_store 4 (Option.none : Option Jvm.ClassFile.FieldType) :: GW) rm_Node_store (va_Pc [.ref a0, .ref p1, .int p2, .int p3] (fun U => HB t G U.heap ∧ HK t U ∧ w_Node_store t G a0 p1 p2 p3 K)) (va_Qv (fun u : GS => K u) (fun u T => HB t u T.heap) (tA t)) 0 0 (tA t) := by
  refine Met.ofW (cc := b_Node_store) (maxL := 4) (ret := none) (by decide) rfl ?_
  intro p e s m args below meth c s₁ B hml hv
  obtain ⟨rfl, hB, hK, hwp⟩ := hv
  have hts := atoms_spec (ws := Cond.code y_Node_store b_Node_store 4 (Option.none : Option Jvm.ClassFile.FieldType) :: GW) B.pre
  have X : kX p s m _ meth c b_Node_store 4 "TreeServer$Node" t := ⟨B.exec, B.bytes, hml, findClass_of_methodNamed B.named, fun w h => hts w (List.mem_cons_of_mem _ h), B.notSynchronized, hK⟩
  have hZ : kZ t false s G s.heap [] := ⟨hB, va_S.rf, fun _ => ⟨rfl, rfl⟩⟩
  rw [lg_entry_eq]
  have hl := lv_entry ([.ref a0, .ref p1, .int p2, .int p3]) (n := 4) (by simp [lg_sl, rf_cat, cat_i, cat_l, cat_r])
  exact k_Node_store X B.returns _ _ _ _ hwp s.heap [] _ hl hZ
abbrev b_Change_alter : ByteArray := prog_3_method_6_code
def y_Change_alter : MethodName := ⟨"TreeServer$Change", "alter", "()V"⟩
theorem d_Change_alter_0 : decode b_Change_alter 0 = .ok (.aload_n 0, 1) := by decide +kernel
theorem d_Change_alter_1 : decode b_Change_alter 1 = .ok (.getfield 44, 3) := by decide +kernel
theorem d_Change_alter_4 : decode b_Change_alter 4 = .ok (.ifCond .lt 29, 3) := by decide +kernel
theorem d_Change_alter_7 : decode b_Change_alter 7 = .ok (.aload_n 0, 1) := by decide +kernel
theorem d_Change_alter_8 : decode b_Change_alter 8 = .ok (.getfield 36, 3) := by decide +kernel
theorem d_Change_alter_11 : decode b_Change_alter 11 = .ok (.aload_n 0, 1) := by decide +kernel
theorem d_Change_alter_12 : decode b_Change_alter 12 = .ok (.getfield 44, 3) := by decide +kernel
theorem d_Change_alter_15 : decode b_Change_alter 15 = .ok (.invokevirtual 122, 3) := by decide +kernel
theorem d_Change_alter_18 : decode b_Change_alter 18 = .ok (.aload_n 0, 1) := by decide +kernel
theorem d_Change_alter_19 : decode b_Change_alter 19 = .ok (.getfield 36, 3) := by decide +kernel
theorem d_Change_alter_22 : decode b_Change_alter 22 = .ok (.aload_n 0, 1) := by decide +kernel
theorem d_Change_alter_23 : decode b_Change_alter 23 = .ok (.getfield 26, 3) := by decide +kernel
theorem d_Change_alter_26 : decode b_Change_alter 26 = .ok (.aload_n 0, 1) := by decide +kernel
theorem d_Change_alter_27 : decode b_Change_alter 27 = .ok (.getfield 40, 3) := by decide +kernel
theorem d_Change_alter_30 : decode b_Change_alter 30 = .ok (.invokevirtual 82, 3) := by decide +kernel
theorem d_Change_alter_33 : decode b_Change_alter 33 = .ok (.aload_n 0, 1) := by decide +kernel
theorem d_Change_alter_34 : decode b_Change_alter 34 = .ok (.getfield 47, 3) := by decide +kernel
theorem d_Change_alter_37 : decode b_Change_alter 37 = .ok (.ifCond .eq 14, 3) := by decide +kernel
theorem d_Change_alter_40 : decode b_Change_alter 40 = .ok (.aload_n 0, 1) := by decide +kernel
theorem d_Change_alter_41 : decode b_Change_alter 41 = .ok (.getfield 36, 3) := by decide +kernel
theorem d_Change_alter_44 : decode b_Change_alter 44 = .ok (.aload_n 0, 1) := by decide +kernel
theorem d_Change_alter_45 : decode b_Change_alter 45 = .ok (.getfield 105, 3) := by decide +kernel
theorem d_Change_alter_48 : decode b_Change_alter 48 = .ok (.putfield 108, 3) := by decide +kernel
theorem d_Change_alter_51 : decode b_Change_alter 51 = .ok (.aload_n 0, 1) := by decide +kernel
theorem d_Change_alter_52 : decode b_Change_alter 52 = .ok (.getfield 54, 3) := by decide +kernel
theorem d_Change_alter_55 : decode b_Change_alter 55 = .ok (.ifnull 14, 3) := by decide +kernel
theorem d_Change_alter_58 : decode b_Change_alter 58 = .ok (.aload_n 0, 1) := by decide +kernel
theorem d_Change_alter_59 : decode b_Change_alter 59 = .ok (.getfield 36, 3) := by decide +kernel
theorem d_Change_alter_62 : decode b_Change_alter 62 = .ok (.aload_n 0, 1) := by decide +kernel
theorem d_Change_alter_63 : decode b_Change_alter 63 = .ok (.getfield 54, 3) := by decide +kernel
theorem d_Change_alter_66 : decode b_Change_alter 66 = .ok (.putfield 115, 3) := by decide +kernel
theorem d_Change_alter_69 : decode b_Change_alter 69 = .ok (.aload_n 0, 1) := by decide +kernel
theorem d_Change_alter_70 : decode b_Change_alter 70 = .ok (.getfield 57, 3) := by decide +kernel
theorem d_Change_alter_73 : decode b_Change_alter 73 = .ok (.ifCond .le 46, 3) := by decide +kernel
theorem d_Change_alter_76 : decode b_Change_alter 76 = .ok (.aload_n 0, 1) := by decide +kernel
theorem d_Change_alter_77 : decode b_Change_alter 77 = .ok (.getfield 36, 3) := by decide +kernel
theorem d_Change_alter_80 : decode b_Change_alter 80 = .ok (.getfield 89, 3) := by decide +kernel
theorem d_Change_alter_83 : decode b_Change_alter 83 = .ok (.ifnull 36, 3) := by decide +kernel
theorem d_Change_alter_86 : decode b_Change_alter 86 = .ok (.aload_n 0, 1) := by decide +kernel
theorem d_Change_alter_87 : decode b_Change_alter 87 = .ok (.getfield 36, 3) := by decide +kernel
theorem d_Change_alter_90 : decode b_Change_alter 90 = .ok (.aload_n 0, 1) := by decide +kernel
theorem d_Change_alter_91 : decode b_Change_alter 91 = .ok (.getfield 29, 3) := by decide +kernel
theorem d_Change_alter_94 : decode b_Change_alter 94 = .ok (.aload_n 0, 1) := by decide +kernel
theorem d_Change_alter_95 : decode b_Change_alter 95 = .ok (.getfield 57, 3) := by decide +kernel
theorem d_Change_alter_98 : decode b_Change_alter 98 = .ok (.invokevirtual 126, 3) := by decide +kernel
theorem d_Change_alter_101 : decode b_Change_alter 101 = .ok (.aload_n 0, 1) := by decide +kernel
theorem d_Change_alter_102 : decode b_Change_alter 102 = .ok (.getfield 36, 3) := by decide +kernel
theorem d_Change_alter_105 : decode b_Change_alter 105 = .ok (.getfield 89, 3) := by decide +kernel
theorem d_Change_alter_108 : decode b_Change_alter 108 = .ok (.aload_n 0, 1) := by decide +kernel
theorem d_Change_alter_109 : decode b_Change_alter 109 = .ok (.getfield 26, 3) := by decide +kernel
theorem d_Change_alter_112 : decode b_Change_alter 112 = .ok (.aload_n 0, 1) := by decide +kernel
theorem d_Change_alter_113 : decode b_Change_alter 113 = .ok (.getfield 40, 3) := by decide +kernel
theorem d_Change_alter_116 : decode b_Change_alter 116 = .ok (.invokevirtual 82, 3) := by decide +kernel
theorem d_Change_alter_119 : decode b_Change_alter 119 = .ok (.aload_n 0, 1) := by decide +kernel
theorem d_Change_alter_120 : decode b_Change_alter 120 = .ok (.getfield 51, 3) := by decide +kernel
theorem d_Change_alter_123 : decode b_Change_alter 123 = .ok (.ifCond .eq 14, 3) := by decide +kernel
theorem d_Change_alter_126 : decode b_Change_alter 126 = .ok (.aload_n 0, 1) := by decide +kernel
theorem d_Change_alter_127 : decode b_Change_alter 127 = .ok (.getfield 36, 3) := by decide +kernel
theorem d_Change_alter_130 : decode b_Change_alter 130 = .ok (.aload_n 0, 1) := by decide +kernel
theorem d_Change_alter_131 : decode b_Change_alter 131 = .ok (.getfield 130, 3) := by decide +kernel
theorem d_Change_alter_134 : decode b_Change_alter 134 = .ok (.putfield 109, 3) := by decide +kernel
theorem d_Change_alter_137 : decode b_Change_alter 137 = .ok (.return_, 1) := by decide +kernel
abbrev rm_Change_alter : Room := { frames := 1, cells := 0, slots := 0, locals := 23 }
set_option maxRecDepth 100000 in
set_option maxHeartbeats 4000000 in
theorem k_Change_alter_119 {p : Program} {l : Launch} {e : Env} {s : State} {m : MethodId} {args : Array Value} {below : List Frame} {meth : Method} {c : Code} {t : TY} {a0 : Nat} {K : GS → Prop} (X : kX p s m args meth c b_Change_alter 1 "TreeServer$Change" t) (hret : meth.sig.returnType = none)  (G : GS) (hwp : w_Change_alter_119 t a0 K G) : kW p l e rm_Change_alter s m args below meth c (MQ below (va_Qv (fun u : GS => K u) (fun u T => HB t u T.heap) (tA t)) args s 0 0 (tA t)) 1 t false 119 [(0, va_rf (some a0))] [] G := by
  unfold w_Change_alter_119 at hwp
  refine kw_aload_n (pc := 119) X d_Change_alter_119 rfl 0 rfl ?_
  obtain ⟨f1, hwp⟩ := hwp
  refine kg_28 (a := a0) (pc := 120) X d_Change_alter_120 x_177 rfl f1 ?_
  refine kw_if_eq (tgt := 137) (pc := 123) X d_Change_alter_123 (by decide) (fun h => ?_) (fun h => ?_)
  · have hwp := ite_t h hwp
    exact kr_v (pc := 137) X hret d_Change_alter_137 hwp
  · have hwp := ite_f h hwp
    refine kw_aload_n (pc := 126) X d_Change_alter_126 rfl 0 rfl ?_
    refine kg_22 (a := a0) (pc := 127) X d_Change_alter_127 x_168 rfl f1 ?_
    refine kw_aload_n (pc := 130) X d_Change_alter_130 rfl 0 rfl ?_
    refine kg_29 (a := a0) (pc := 131) X d_Change_alter_131 x_179 rfl f1 ?_
    obtain ⟨a2, h_a2, hwp⟩ := hwp
    obtain ⟨f3, hwp⟩ := hwp
    refine kp_3 (a := a2) (x := (gi G 29 a0)) (pc := 134) X rfl d_Change_alter_134 x_55 h_a2 f3 ?_
    obtain ⟨G4, e_G4⟩ : ∃ g, g = si G 3 a2 (gi G 29 a0) := ⟨_, rfl⟩
    have hwp := hwp G4 e_G4
    refine kW.g e_G4.symm ?_
    exact kr_v (pc := 137) X hret d_Change_alter_137 hwp
set_option maxRecDepth 100000 in
set_option maxHeartbeats 4000000 in
theorem k_Change_alter_69 {p : Program} {l : Launch} {e : Env} {s : State} {m : MethodId} {args : Array Value} {below : List Frame} {meth : Method} {c : Code} {t : TY} {a0 : Nat} {K : GS → Prop} (X : kX p s m args meth c b_Change_alter 1 "TreeServer$Change" t) (hret : meth.sig.returnType = none)  (G : GS) (hwp : w_Change_alter_69 t a0 K G) : kW p l e rm_Change_alter s m args below meth c (MQ below (va_Qv (fun u : GS => K u) (fun u T => HB t u T.heap) (tA t)) args s 0 0 (tA t)) 1 t false 69 [(0, va_rf (some a0))] [] G := by
  unfold w_Change_alter_69 at hwp
  refine kw_aload_n (pc := 69) X d_Change_alter_69 rfl 0 rfl ?_
  obtain ⟨f1, hwp⟩ := hwp
  refine kg_32 (a := a0) (pc := 70) X d_Change_alter_70 x_185 rfl f1 ?_
  refine kw_if_le (tgt := 119) (pc := 73) X d_Change_alter_73 (by decide) (fun h => ?_) (fun h => ?_)
  · have hwp := ite_t h hwp
    exact kW.sub [0] rfl (k_Change_alter_119 X hret  _ hwp)
  · have hwp := ite_f h hwp
    refine kw_aload_n (pc := 76) X d_Change_alter_76 rfl 0 rfl ?_
    refine kg_22 (a := a0) (pc := 77) X d_Change_alter_77 x_168 rfl f1 ?_
    obtain ⟨a2, h_a2, hwp⟩ := hwp
    obtain ⟨f3, hwp⟩ := hwp
    refine kg_7 (a := a2) (pc := 80) X d_Change_alter_80 x_68 h_a2 f3 ?_
    refine kw_ifnull (tgt := 119) (pc := 83) X d_Change_alter_83 (by decide) (fun h => ?_) (fun h => ?_)
    · have hwp := ite_t h hwp
      exact kW.sub [0] rfl (k_Change_alter_119 X hret  _ hwp)
    · have hwp := ite_f h hwp
      refine kw_aload_n (pc := 86) X d_Change_alter_86 rfl 0 rfl ?_
      refine kg_22 (a := a0) (pc := 87) X d_Change_alter_87 x_168 rfl f1 ?_
      refine kw_aload_n (pc := 90) X d_Change_alter_90 rfl 0 rfl ?_
      refine kg_31 (a := a0) (pc := 91) X d_Change_alter_91 x_183 rfl f1 ?_
      refine kw_aload_n (pc := 94) X d_Change_alter_94 rfl 0 rfl ?_
      refine kg_32 (a := a0) (pc := 95) X d_Change_alter_95 x_185 rfl f1 ?_
      obtain ⟨a4, h_a4, hwp⟩ := hwp
      refine kW.st (st' := [.int (gi G 32 a0), .ref a4, .ref a2]) (by simp only [h_a4, h_a2]; rfl) ?_
      refine kcV_v (n := 2) (As := [.ref a4, .int (gi G 32 a0)]) (rest := []) (pc := 98) X rfl (c_Node_rename l t G a2 a4 (gi G 32 a0) _) (cwV_of (C := "TreeServer$Node") X x_482 x_479 x_480 x_481 x_3 (by decide +kernel) ⟨rfl, rfl⟩ (by decide)) (rv_1 X f3) rfl rfl (by decide) d_Change_alter_98 hwp (fun G5 hwp => ?_)
      refine kw_aload_n (pc := 101) X d_Change_alter_101 rfl 0 rfl ?_
      refine kg_22 (a := a0) (pc := 102) X d_Change_alter_102 x_168 rfl f1 ?_
      obtain ⟨a6, h_a6, hwp⟩ := hwp
      obtain ⟨f7, hwp⟩ := hwp
      refine kg_7 (a := a6) (pc := 105) X d_Change_alter_105 x_68 h_a6 f7 ?_
      refine kw_aload_n (pc := 108) X d_Change_alter_108 rfl 0 rfl ?_
      refine kg_23 (a := a0) (pc := 109) X d_Change_alter_109 x_169 rfl f1 ?_
      refine kw_aload_n (pc := 112) X d_Change_alter_112 rfl 0 rfl ?_
      refine kg_24 (a := a0) (pc := 113) X d_Change_alter_113 x_170 rfl f1 ?_
      obtain ⟨a8, h_a8, hwp⟩ := hwp
      obtain ⟨f9, hwp⟩ := hwp
      refine kW.st (st' := [.int (gi G5 24 a0), va_rf (gr G5 23 a0), .ref a8]) (by simp only [h_a8]; rfl) ?_
      refine kcV_v (n := 2) (As := [va_rf (gr G5 23 a0), .int (gi G5 24 a0)]) (rest := []) (pc := 116) X rfl (c_Node_changeBy l t G5 a8 (gr G5 23 a0) (gi G5 24 a0) _) (cwV_of (C := "TreeServer$Node") X x_486 x_483 x_484 x_485 x_3 (by decide +kernel) ⟨rfl, rfl⟩ (by decide)) (rv_1 X f9) rfl rfl (by decide) d_Change_alter_116 hwp (fun G10 hwp => ?_)
      exact kW.sub [0] rfl (k_Change_alter_119 X hret  _ hwp)
set_option maxRecDepth 100000 in
set_option maxHeartbeats 4000000 in
theorem k_Change_alter_51 {p : Program} {l : Launch} {e : Env} {s : State} {m : MethodId} {args : Array Value} {below : List Frame} {meth : Method} {c : Code} {t : TY} {a0 : Nat} {K : GS → Prop} (X : kX p s m args meth c b_Change_alter 1 "TreeServer$Change" t) (hret : meth.sig.returnType = none)  (G : GS) (hwp : w_Change_alter_51 t a0 K G) : kW p l e rm_Change_alter s m args below meth c (MQ below (va_Qv (fun u : GS => K u) (fun u T => HB t u T.heap) (tA t)) args s 0 0 (tA t)) 1 t false 51 [(0, va_rf (some a0))] [] G := by
  unfold w_Change_alter_51 at hwp
  refine kw_aload_n (pc := 51) X d_Change_alter_51 rfl 0 rfl ?_
  obtain ⟨f1, hwp⟩ := hwp
  refine kg_30 (a := a0) (pc := 52) X d_Change_alter_52 x_181 rfl f1 ?_
  refine kw_ifnull (tgt := 69) (pc := 55) X d_Change_alter_55 (by decide) (fun h => ?_) (fun h => ?_)
  · have hwp := ite_t h hwp
    exact kW.sub [0] rfl (k_Change_alter_69 X hret  _ hwp)
  · have hwp := ite_f h hwp
    refine kw_aload_n (pc := 58) X d_Change_alter_58 rfl 0 rfl ?_
    refine kg_22 (a := a0) (pc := 59) X d_Change_alter_59 x_168 rfl f1 ?_
    refine kw_aload_n (pc := 62) X d_Change_alter_62 rfl 0 rfl ?_
    refine kg_30 (a := a0) (pc := 63) X d_Change_alter_63 x_181 rfl f1 ?_
    obtain ⟨a2, h_a2, hwp⟩ := hwp
    obtain ⟨f3, hwp⟩ := hwp
    refine kp_5 (a := a2) (x := (gr G 30 a0)) (pc := 66) X rfl d_Change_alter_66 x_63 h_a2 f3 ?_
    obtain ⟨G4, e_G4⟩ : ∃ g, g = sr G 5 a2 (gr G 30 a0) := ⟨_, rfl⟩
    have hwp := hwp G4 e_G4
    refine kW.g e_G4.symm ?_
    exact kW.sub [0] rfl (k_Change_alter_69 X hret  _ hwp)
set_option maxRecDepth 100000 in
set_option maxHeartbeats 4000000 in
theorem k_Change_alter_33 {p : Program} {l : Launch} {e : Env} {s : State} {m : MethodId} {args : Array Value} {below : List Frame} {meth : Method} {c : Code} {t : TY} {a0 : Nat} {K : GS → Prop} (X : kX p s m args meth c b_Change_alter 1 "TreeServer$Change" t) (hret : meth.sig.returnType = none)  (G : GS) (hwp : w_Change_alter_33 t a0 K G) : kW p l e rm_Change_alter s m args below meth c (MQ below (va_Qv (fun u : GS => K u) (fun u T => HB t u T.heap) (tA t)) args s 0 0 (tA t)) 1 t false 33 [(0, va_rf (some a0))] [] G := by
  unfold w_Change_alter_33 at hwp
  refine kw_aload_n (pc := 33) X d_Change_alter_33 rfl 0 rfl ?_
  obtain ⟨f1, hwp⟩ := hwp
  refine kg_26 (a := a0) (pc := 34) X d_Change_alter_34 x_173 rfl f1 ?_
  refine kw_if_eq (tgt := 51) (pc := 37) X d_Change_alter_37 (by decide) (fun h => ?_) (fun h => ?_)
  · have hwp := ite_t h hwp
    exact kW.sub [0] rfl (k_Change_alter_51 X hret  _ hwp)
  · have hwp := ite_f h hwp
    refine kw_aload_n (pc := 40) X d_Change_alter_40 rfl 0 rfl ?_
    refine kg_22 (a := a0) (pc := 41) X d_Change_alter_41 x_168 rfl f1 ?_
    refine kw_aload_n (pc := 44) X d_Change_alter_44 rfl 0 rfl ?_
    refine kg_27 (a := a0) (pc := 45) X d_Change_alter_45 x_175 rfl f1 ?_
    obtain ⟨a2, h_a2, hwp⟩ := hwp
    obtain ⟨f3, hwp⟩ := hwp
    refine kp_2 (a := a2) (x := (gi G 27 a0)) (pc := 48) X rfl d_Change_alter_48 x_52 h_a2 f3 ?_
    obtain ⟨G4, e_G4⟩ : ∃ g, g = si G 2 a2 (gi G 27 a0) := ⟨_, rfl⟩
    have hwp := hwp G4 e_G4
    refine kW.g e_G4.symm ?_
    exact kW.sub [0] rfl (k_Change_alter_51 X hret  _ hwp)
set_option maxRecDepth 100000 in
set_option maxHeartbeats 4000000 in
theorem k_Change_alter {p : Program} {l : Launch} {e : Env} {s : State} {m : MethodId} {args : Array Value} {below : List Frame} {meth : Method} {c : Code} {t : TY} {a0 : Nat} {K : GS → Prop} (X : kX p s m args meth c b_Change_alter 1 "TreeServer$Change" t) (hret : meth.sig.returnType = none) (G : GS)  (hwp : w_Change_alter t G a0 K) : kW p l e rm_Change_alter s m args below meth c (MQ below (va_Qv (fun u : GS => K u) (fun u T => HB t u T.heap) (tA t)) args s 0 0 (tA t)) 1 t false 0 [(0, va_rf (some a0))] [] G := by
  unfold w_Change_alter at hwp
  refine kw_aload_n (pc := 0) X d_Change_alter_0 rfl 0 rfl ?_
  obtain ⟨f1, hwp⟩ := hwp
  refine kg_25 (a := a0) (pc := 1) X d_Change_alter_1 x_171 rfl f1 ?_
  refine kw_if_lt (tgt := 33) (pc := 4) X d_Change_alter_4 (by decide) (fun h => ?_) (fun h => ?_)
  · have hwp := ite_t h hwp
    exact kW.sub [0] rfl (k_Change_alter_33 X hret  _ hwp)
  · have hwp := ite_f h hwp
    refine kw_aload_n (pc := 7) X d_Change_alter_7 rfl 0 rfl ?_
    refine kg_22 (a := a0) (pc := 8) X d_Change_alter_8 x_168 rfl f1 ?_
    refine kw_aload_n (pc := 11) X d_Change_alter_11 rfl 0 rfl ?_
    refine kg_25 (a := a0) (pc := 12) X d_Change_alter_12 x_171 rfl f1 ?_
    obtain ⟨a2, h_a2, hwp⟩ := hwp
    obtain ⟨f3, hwp⟩ := hwp
    refine kW.st (st' := [.int (gi G 25 a0), .ref a2]) (by simp only [h_a2]; rfl) ?_
    refine kcV_v (n := 1) (As := [.int (gi G 25 a0)]) (rest := []) (pc := 15) X rfl (c_Node_resize l t G a2 (gi G 25 a0) _) (cwV_of (C := "TreeServer$Node") X x_478 x_475 x_476 x_477 x_3 (by decide +kernel) ⟨rfl, rfl⟩ (by decide)) (rv_1 X f3) rfl rfl (by decide) d_Change_alter_15 hwp (fun G4 hwp => ?_)
    refine kw_aload_n (pc := 18) X d_Change_alter_18 rfl 0 rfl ?_
    refine kg_22 (a := a0) (pc := 19) X d_Change_alter_19 x_168 rfl f1 ?_
    refine kw_aload_n (pc := 22) X d_Change_alter_22 rfl 0 rfl ?_
    refine kg_23 (a := a0) (pc := 23) X d_Change_alter_23 x_169 rfl f1 ?_
    refine kw_aload_n (pc := 26) X d_Change_alter_26 rfl 0 rfl ?_
    refine kg_24 (a := a0) (pc := 27) X d_Change_alter_27 x_170 rfl f1 ?_
    obtain ⟨a5, h_a5, hwp⟩ := hwp
    obtain ⟨f6, hwp⟩ := hwp
    refine kW.st (st' := [.int (gi G4 24 a0), va_rf (gr G4 23 a0), .ref a5]) (by simp only [h_a5]; rfl) ?_
    refine kcV_v (n := 2) (As := [va_rf (gr G4 23 a0), .int (gi G4 24 a0)]) (rest := []) (pc := 30) X rfl (c_Node_changeBy l t G4 a5 (gr G4 23 a0) (gi G4 24 a0) _) (cwV_of (C := "TreeServer$Node") X x_486 x_483 x_484 x_485 x_3 (by decide +kernel) ⟨rfl, rfl⟩ (by decide)) (rv_1 X f6) rfl rfl (by decide) d_Change_alter_30 hwp (fun G7 hwp => ?_)
    exact kW.sub [0] rfl (k_Change_alter_33 X hret  _ hwp)
set_option maxRecDepth 100000 in
set_option maxHeartbeats 4000000 in
theorem c_Change_alter (l : Launch) (t : TY) (G : GS) (a0 : Nat) (K : GS → Prop) : Met l y_Change_alter (Cond.code y_Change_alter b_Change_alter 1 (Option.none : Option Jvm.ClassFile.FieldType) :: GW) rm_Change_alter (va_Pc [.ref a0] (fun U => HB t G U.heap ∧ HK t U ∧ w_Change_alter t G a0 K)) (va_Qv (fun u : GS => K u) (fun u T => HB t u T.heap) (tA t)) 0 0 (tA t) := by
  refine Met.ofW (cc := b_Change_alter) (maxL := 1) (ret := none) (by decide) rfl ?_
  intro p e s m args below meth c s₁ B hml hv
  obtain ⟨rfl, hB, hK, hwp⟩ := hv
  have hts := atoms_spec (ws := Cond.code y_Change_alter b_Change_alter 1 (Option.none : Option Jvm.ClassFile.FieldType) :: GW) B.pre
  have X : kX p s m _ meth c b_Change_alter 1 "TreeServer$Change" t := ⟨B.exec, B.bytes, hml, findClass_of_methodNamed B.named, fun w h => hts w (List.mem_cons_of_mem _ h), B.notSynchronized, hK⟩
  have hZ : kZ t false s G s.heap [] := ⟨hB, va_S.rf, fun _ => ⟨rfl, rfl⟩⟩
  rw [lg_entry_eq]
  have hl := lv_entry ([.ref a0]) (n := 1) (by simp [lg_sl, rf_cat, cat_i, cat_l, cat_r])
  exact k_Change_alter X B.returns _ hwp s.heap [] _ hl hZ
abbrev b_Tree_remove : ByteArray := prog_10_method_8_code
def y_Tree_remove : MethodName := ⟨"TreeServer$Tree", "remove", "(LTreeServer$Node;LTreeServer$Node;)V"⟩
theorem d_Tree_remove_0 : decode b_Tree_remove 0 = .ok (.iconst 0, 1) := by decide +kernel
theorem d_Tree_remove_1 : decode b_Tree_remove 1 = .ok (.istore_n 3, 1) := by decide +kernel
theorem d_Tree_remove_2 : decode b_Tree_remove 2 = .ok (.iconst 0, 1) := by decide +kernel
theorem d_Tree_remove_3 : decode b_Tree_remove 3 = .ok (.istore 4, 2) := by decide +kernel
theorem d_Tree_remove_5 : decode b_Tree_remove 5 = .ok (.iload 4, 2) := by decide +kernel
theorem d_Tree_remove_7 : decode b_Tree_remove 7 = .ok (.aload_n 0, 1) := by decide +kernel
theorem d_Tree_remove_8 : decode b_Tree_remove 8 = .ok (.getfield 44, 3) := by decide +kernel
theorem d_Tree_remove_11 : decode b_Tree_remove 11 = .ok (.if_icmp .ge 36, 3) := by decide +kernel
theorem d_Tree_remove_14 : decode b_Tree_remove 14 = .ok (.aload_n 0, 1) := by decide +kernel
theorem d_Tree_remove_15 : decode b_Tree_remove 15 = .ok (.getfield 18, 3) := by decide +kernel
theorem d_Tree_remove_18 : decode b_Tree_remove 18 = .ok (.iload 4, 2) := by decide +kernel
theorem d_Tree_remove_20 : decode b_Tree_remove 20 = .ok (.aaload, 1) := by decide +kernel
theorem d_Tree_remove_21 : decode b_Tree_remove 21 = .ok (.aload_n 1, 1) := by decide +kernel
theorem d_Tree_remove_22 : decode b_Tree_remove 22 = .ok (.if_acmp .eq 19, 3) := by decide +kernel
theorem d_Tree_remove_25 : decode b_Tree_remove 25 = .ok (.aload_n 0, 1) := by decide +kernel
theorem d_Tree_remove_26 : decode b_Tree_remove 26 = .ok (.getfield 18, 3) := by decide +kernel
theorem d_Tree_remove_29 : decode b_Tree_remove 29 = .ok (.iload_n 3, 1) := by decide +kernel
theorem d_Tree_remove_30 : decode b_Tree_remove 30 = .ok (.aload_n 0, 1) := by decide +kernel
theorem d_Tree_remove_31 : decode b_Tree_remove 31 = .ok (.getfield 18, 3) := by decide +kernel
theorem d_Tree_remove_34 : decode b_Tree_remove 34 = .ok (.iload 4, 2) := by decide +kernel
theorem d_Tree_remove_36 : decode b_Tree_remove 36 = .ok (.aaload, 1) := by decide +kernel
theorem d_Tree_remove_37 : decode b_Tree_remove 37 = .ok (.aastore, 1) := by decide +kernel
theorem d_Tree_remove_38 : decode b_Tree_remove 38 = .ok (.iinc 3 1, 3) := by decide +kernel
theorem d_Tree_remove_41 : decode b_Tree_remove 41 = .ok (.iinc 4 1, 3) := by decide +kernel
theorem d_Tree_remove_44 : decode b_Tree_remove 44 = .ok (.goto (-39), 3) := by decide +kernel
theorem d_Tree_remove_47 : decode b_Tree_remove 47 = .ok (.iload_n 3, 1) := by decide +kernel
theorem d_Tree_remove_48 : decode b_Tree_remove 48 = .ok (.aload_n 0, 1) := by decide +kernel
theorem d_Tree_remove_49 : decode b_Tree_remove 49 = .ok (.getfield 44, 3) := by decide +kernel
theorem d_Tree_remove_52 : decode b_Tree_remove 52 = .ok (.if_icmp .ge 35, 3) := by decide +kernel
theorem d_Tree_remove_55 : decode b_Tree_remove 55 = .ok (.aload_n 0, 1) := by decide +kernel
theorem d_Tree_remove_56 : decode b_Tree_remove 56 = .ok (.getfield 18, 3) := by decide +kernel
theorem d_Tree_remove_59 : decode b_Tree_remove 59 = .ok (.iload_n 3, 1) := by decide +kernel
theorem d_Tree_remove_60 : decode b_Tree_remove 60 = .ok (.aload_n 1, 1) := by decide +kernel
theorem d_Tree_remove_61 : decode b_Tree_remove 61 = .ok (.aastore, 1) := by decide +kernel
theorem d_Tree_remove_62 : decode b_Tree_remove 62 = .ok (.aload_n 0, 1) := by decide +kernel
theorem d_Tree_remove_63 : decode b_Tree_remove 63 = .ok (.iload_n 3, 1) := by decide +kernel
theorem d_Tree_remove_64 : decode b_Tree_remove 64 = .ok (.putfield 44, 3) := by decide +kernel
theorem d_Tree_remove_67 : decode b_Tree_remove 67 = .ok (.aload_n 2, 1) := by decide +kernel
theorem d_Tree_remove_68 : decode b_Tree_remove 68 = .ok (.dup, 1) := by decide +kernel
theorem d_Tree_remove_69 : decode b_Tree_remove 69 = .ok (.getfield 47, 3) := by decide +kernel
theorem d_Tree_remove_72 : decode b_Tree_remove 72 = .ok (.iconst 1, 1) := by decide +kernel
theorem d_Tree_remove_73 : decode b_Tree_remove 73 = .ok (.isub, 1) := by decide +kernel
theorem d_Tree_remove_74 : decode b_Tree_remove 74 = .ok (.putfield 47, 3) := by decide +kernel
theorem d_Tree_remove_77 : decode b_Tree_remove 77 = .ok (.aload_n 1, 1) := by decide +kernel
theorem d_Tree_remove_78 : decode b_Tree_remove 78 = .ok (.iconst (-1), 1) := by decide +kernel
theorem d_Tree_remove_79 : decode b_Tree_remove 79 = .ok (.putfield 26, 3) := by decide +kernel
theorem d_Tree_remove_82 : decode b_Tree_remove 82 = .ok (.aload_n 1, 1) := by decide +kernel
theorem d_Tree_remove_83 : decode b_Tree_remove 83 = .ok (.aconst_null, 1) := by decide +kernel
theorem d_Tree_remove_84 : decode b_Tree_remove 84 = .ok (.putfield 59, 3) := by decide +kernel
theorem d_Tree_remove_87 : decode b_Tree_remove 87 = .ok (.return_, 1) := by decide +kernel
abbrev rm_Tree_remove : Room := { frames := 0, cells := 0, slots := 0, locals := 0 }
set_option maxRecDepth 100000 in
set_option maxHeartbeats 4000000 in
theorem k_Tree_remove_5 {p : Program} {l : Launch} {e : Env} {s : State} {m : MethodId} {args : Array Value} {below : List Frame} {meth : Method} {c : Code} {t : TY} {a0 : Nat} {K : GS → Prop} (X : kX p s m args meth c b_Tree_remove 5 "TreeServer$Tree" t) (hret : meth.sig.returnType = none) : ∀ (n : Nat) (p1 : Nat) (p2 : Nat) (l3 : Int32) (l4 : Int32) (G : GS), w_Tree_remove_5 t a0 K n p1 p2 l3 l4 G → kW p l e rm_Tree_remove s m args below meth c (MQ below (va_Qv (fun u : GS => K u) (fun u T => HB t u T.heap) (tA t)) args s 0 0 (tA t)) 5 t false 5 [(0, va_rf (some a0)), (1, va_rf (some p1)), (2, va_rf (some p2)), (3, .int l3), (4, .int l4)] [] G := by
  intro n
  induction n with
  | zero => intro p1 p2 l3 l4 G hwp; exact hwp.elim
  | succ n hr_5 =>
    intro p1 p2 l3 l4 G hwp
    unfold w_Tree_remove_5 at hwp
    dsimp only at hwp
    refine kw_iload (pc := 5) X d_Tree_remove_5 4 rfl ?_
    refine kw_aload_n (pc := 7) X d_Tree_remove_7 rfl 0 rfl ?_
    obtain ⟨f1, hwp⟩ := hwp
    refine kg_15 (a := a0) (pc := 8) X d_Tree_remove_8 x_123 rfl f1 ?_
    refine kw_icmp_ge (tgt := 47) (pc := 11) X d_Tree_remove_11 (by decide) (fun h => ?_) (fun h => ?_)
    · have hwp := ite_t h hwp
      refine kw_iload_n (pc := 47) X d_Tree_remove_47 rfl 3 rfl ?_
      refine kw_aload_n (pc := 48) X d_Tree_remove_48 rfl 0 rfl ?_
      refine kg_15 (a := a0) (pc := 49) X d_Tree_remove_49 x_123 rfl f1 ?_
      refine kw_icmp_ge (tgt := 87) (pc := 52) X d_Tree_remove_52 (by decide) (fun h => ?_) (fun h => ?_)
      · have hwp := ite_t h hwp
        exact kr_v (pc := 87) X hret d_Tree_remove_87 hwp
      · have hwp := ite_f h hwp
        refine kw_aload_n (pc := 55) X d_Tree_remove_55 rfl 0 rfl ?_
        refine kg_14 (a := a0) (pc := 56) X d_Tree_remove_56 x_121 rfl f1 ?_
        refine kw_iload_n (pc := 59) X d_Tree_remove_59 rfl 3 rfl ?_
        refine kw_aload_n (pc := 60) X d_Tree_remove_60 rfl 1 rfl ?_
        obtain ⟨a2, h_a2, hwp⟩ := hwp
        obtain ⟨f3, hwp⟩ := hwp
        obtain ⟨f4, hwp⟩ := hwp
        obtain ⟨f5, hwp⟩ := hwp
        refine ka_aast54 (a := a2) (pc := 61) X rfl d_Tree_remove_61 h_a2 f3 f4 rfl f5 ?_
        obtain ⟨G6, e_G6⟩ : ∃ g, g = ars G a2 l3.toNatClampNeg (some p1) := ⟨_, rfl⟩
        have hwp := hwp G6 e_G6
        refine kW.g e_G6.symm ?_
        refine kw_aload_n (pc := 62) X d_Tree_remove_62 rfl 0 rfl ?_
        refine kw_iload_n (pc := 63) X d_Tree_remove_63 rfl 3 rfl ?_
        refine kp_15 (a := a0) (x := l3) (pc := 64) X rfl d_Tree_remove_64 x_123 rfl f1 ?_
        obtain ⟨G7, e_G7⟩ : ∃ g, g = si G6 15 a0 l3 := ⟨_, rfl⟩
        have hwp := hwp G7 e_G7
        refine kW.g e_G7.symm ?_
        refine kw_aload_n (pc := 67) X d_Tree_remove_67 rfl 2 rfl ?_
        refine kw_dup (pc := 68) X d_Tree_remove_68 rfl ?_
        obtain ⟨f8, hwp⟩ := hwp
        refine kg_8 (a := p2) (pc := 69) X d_Tree_remove_69 x_72 rfl f8 ?_
        refine kw_iconst (v := 1) (pc := 72) X d_Tree_remove_72 (by decide) ?_
        refine kw_isub (pc := 73) X d_Tree_remove_73 ?_
        refine kp_8 (a := p2) (x := ((gi G7 8 p2) - (1 : Int32))) (pc := 74) X rfl d_Tree_remove_74 x_72 rfl f8 ?_
        obtain ⟨G9, e_G9⟩ : ∃ g, g = si G7 8 p2 ((gi G7 8 p2) - (1 : Int32)) := ⟨_, rfl⟩
        have hwp := hwp G9 e_G9
        refine kW.g e_G9.symm ?_
        refine kw_aload_n (pc := 77) X d_Tree_remove_77 rfl 1 rfl ?_
        refine kw_iconst (v := -1) (pc := 78) X d_Tree_remove_78 (by decide) ?_
        refine kp_0 (a := p1) (x := (-1 : Int32)) (pc := 79) X rfl d_Tree_remove_79 x_43 rfl f5 ?_
        obtain ⟨G10, e_G10⟩ : ∃ g, g = si G9 0 p1 (-1 : Int32) := ⟨_, rfl⟩
        have hwp := hwp G10 e_G10
        refine kW.g e_G10.symm ?_
        refine kw_aload_n (pc := 82) X d_Tree_remove_82 rfl 1 rfl ?_
        refine kw_null (pc := 83) X d_Tree_remove_83 ?_
        refine kp_7 (a := p1) (x := none) (pc := 84) X rfl d_Tree_remove_84 x_70 rfl f5 ?_
        obtain ⟨G11, e_G11⟩ : ∃ g, g = sr G10 7 p1 none := ⟨_, rfl⟩
        have hwp := hwp G11 e_G11
        refine kW.g e_G11.symm ?_
        exact kr_v (pc := 87) X hret d_Tree_remove_87 hwp
    · have hwp := ite_f h hwp
      refine kw_aload_n (pc := 14) X d_Tree_remove_14 rfl 0 rfl ?_
      refine kg_14 (a := a0) (pc := 15) X d_Tree_remove_15 x_121 rfl f1 ?_
      refine kw_iload (pc := 18) X d_Tree_remove_18 4 rfl ?_
      obtain ⟨a12, h_a12, hwp⟩ := hwp
      obtain ⟨f13, hwp⟩ := hwp
      obtain ⟨f14, hwp⟩ := hwp
      refine ka_aald54 (a := a12) (pc := 20) X d_Tree_remove_20 h_a12 f13 f14 ?_
      refine kw_aload_n (pc := 21) X d_Tree_remove_21 rfl 1 rfl ?_
      refine kw_acmp_eq (tgt := 41) (pc := 22) X d_Tree_remove_22 (by decide) (fun h => ?_) (fun h => ?_)
      · have hwp := ite_t h hwp
        obtain ⟨v15, e_v15⟩ : ∃ z, z = (l4 + (1 : Int32)) := ⟨_, rfl⟩
        have hwp := hwp v15 e_v15
        refine kw_iinc (v := v15) (lv' := [(4, .int v15), (0, va_rf (some a0)), (1, va_rf (some p1)), (2, va_rf (some p2)), (3, .int l3)]) (pc := 41) X d_Tree_remove_41 4 rfl (by rw [e_v15]; rfl) (by decide) rfl ?_
        refine kw_goto (tgt := 5) (pc := 44) X d_Tree_remove_44 (by decide) ?_
        exact kW.sub [1, 2, 3, 4, 0] rfl (hr_5 _ _ _ _ _ hwp)
      · have hwp := ite_f h hwp
        refine kw_aload_n (pc := 25) X d_Tree_remove_25 rfl 0 rfl ?_
        refine kg_14 (a := a0) (pc := 26) X d_Tree_remove_26 x_121 rfl f1 ?_
        refine kw_iload_n (pc := 29) X d_Tree_remove_29 rfl 3 rfl ?_
        refine kw_aload_n (pc := 30) X d_Tree_remove_30 rfl 0 rfl ?_
        refine kg_14 (a := a0) (pc := 31) X d_Tree_remove_31 x_121 rfl f1 ?_
        refine kw_iload (pc := 34) X d_Tree_remove_34 4 rfl ?_
        refine ka_aald54 (a := a12) (pc := 36) X d_Tree_remove_36 h_a12 f13 f14 ?_
        obtain ⟨f16, hwp⟩ := hwp
        obtain ⟨a17, h_a17, hwp⟩ := hwp
        obtain ⟨f18, hwp⟩ := hwp
        refine ka_aast54 (a := a12) (pc := 37) X rfl d_Tree_remove_37 h_a12 f13 f16 h_a17 f18 ?_
        obtain ⟨G19, e_G19⟩ : ∃ g, g = ars G a12 l3.toNatClampNeg (some a17) := ⟨_, rfl⟩
        have hwp := hwp G19 e_G19
        refine kW.g e_G19.symm ?_
        obtain ⟨v20, e_v20⟩ : ∃ z, z = (l3 + (1 : Int32)) := ⟨_, rfl⟩
        have hwp := hwp v20 e_v20
        refine kw_iinc (v := v20) (lv' := [(3, .int v20), (0, va_rf (some a0)), (1, va_rf (some p1)), (2, va_rf (some p2)), (4, .int l4)]) (pc := 38) X d_Tree_remove_38 3 rfl (by rw [e_v20]; rfl) (by decide) rfl ?_
        obtain ⟨v21, e_v21⟩ : ∃ z, z = (l4 + (1 : Int32)) := ⟨_, rfl⟩
        have hwp := hwp v21 e_v21
        refine kw_iinc (v := v21) (lv' := [(4, .int v21), (3, .int v20), (0, va_rf (some a0)), (1, va_rf (some p1)), (2, va_rf (some p2))]) (pc := 41) X d_Tree_remove_41 4 rfl (by rw [e_v21]; rfl) (by decide) rfl ?_
        refine kw_goto (tgt := 5) (pc := 44) X d_Tree_remove_44 (by decide) ?_
        exact kW.sub [2, 3, 4, 1, 0] rfl (hr_5 _ _ _ _ _ hwp)
set_option maxRecDepth 100000 in
set_option maxHeartbeats 4000000 in
theorem k_Tree_remove {p : Program} {l : Launch} {e : Env} {s : State} {m : MethodId} {args : Array Value} {below : List Frame} {meth : Method} {c : Code} {t : TY} {a0 : Nat} {K : GS → Prop} (X : kX p s m args meth c b_Tree_remove 5 "TreeServer$Tree" t) (hret : meth.sig.returnType = none) (G : GS) (p1 : Nat) (p2 : Nat) (hwp : w_Tree_remove t G a0 p1 p2 K) : kW p l e rm_Tree_remove s m args below meth c (MQ below (va_Qv (fun u : GS => K u) (fun u T => HB t u T.heap) (tA t)) args s 0 0 (tA t)) 5 t false 0 [(0, va_rf (some a0)), (1, va_rf (some p1)), (2, va_rf (some p2))] [] G := by
  unfold w_Tree_remove at hwp
  refine kw_iconst (v := 0) (pc := 0) X d_Tree_remove_0 (by decide) ?_
  refine kw_istore_n (i := 3) (lv' := [(3, .int (0 : Int32)), (0, va_rf (some a0)), (1, va_rf (some p1)), (2, va_rf (some p2))]) (pc := 1) X d_Tree_remove_1 rfl (by decide) rfl ?_
  refine kw_iconst (v := 0) (pc := 2) X d_Tree_remove_2 (by decide) ?_
  refine kw_istore (i := 4) (lv' := [(4, .int (0 : Int32)), (3, .int (0 : Int32)), (0, va_rf (some a0)), (1, va_rf (some p1)), (2, va_rf (some p2))]) (pc := 3) X d_Tree_remove_3 (by decide) rfl ?_
  obtain ⟨n, hwp⟩ := hwp
  exact kW.sub [2, 3, 4, 1, 0] rfl (k_Tree_remove_5 X hret  n _ _ _ _ _ hwp)
set_option maxRecDepth 100000 in
set_option maxHeartbeats 4000000 in
theorem c_Tree_remove (l : Launch) (t : TY) (G : GS) (a0 : Nat) (p1 : Nat) (p2 : Nat) (K : GS → Prop) : Met l y_Tree_remove (Cond.code y_Tree_remove b_Tree_remove 5 (Option.none : Option Jvm.ClassFile.FieldType) :: GW) rm_Tree_remove (va_Pc [.ref a0, .ref p1, .ref p2] (fun U => HB t G U.heap ∧ HK t U ∧ w_Tree_remove t G a0 p1 p2 K)) (va_Qv (fun u : GS => K u) (fun u T => HB t u T.heap) (tA t)) 0 0 (tA t) := by
  refine Met.ofW (cc := b_Tree_remove) (maxL := 5) (ret := none) (by decide) rfl ?_
  intro p e s m args below meth c s₁ B hml hv
  obtain ⟨rfl, hB, hK, hwp⟩ := hv
  have hts := atoms_spec (ws := Cond.code y_Tree_remove b_Tree_remove 5 (Option.none : Option Jvm.ClassFile.FieldType) :: GW) B.pre
  have X : kX p s m _ meth c b_Tree_remove 5 "TreeServer$Tree" t := ⟨B.exec, B.bytes, hml, findClass_of_methodNamed B.named, fun w h => hts w (List.mem_cons_of_mem _ h), B.notSynchronized, hK⟩
  have hZ : kZ t false s G s.heap [] := ⟨hB, va_S.rf, fun _ => ⟨rfl, rfl⟩⟩
  rw [lg_entry_eq]
  have hl := lv_entry ([.ref a0, .ref p1, .ref p2]) (n := 5) (by simp [lg_sl, rf_cat, cat_i, cat_l, cat_r])
  exact k_Tree_remove X B.returns _ _ _ hwp s.heap [] _ hl hZ
abbrev b_Change_run : ByteArray := prog_3_method_4_code
def y_Change_run : MethodName := ⟨"TreeServer$Change", "run", "(LTreeServer$Tree;)V"⟩
theorem d_Change_run_0 : decode b_Change_run 0 = .ok (.aload_n 0, 1) := by decide +kernel
theorem d_Change_run_1 : decode b_Change_run 1 = .ok (.getfield 36, 3) := by decide +kernel
theorem d_Change_run_4 : decode b_Change_run 4 = .ok (.ifnonnull 4, 3) := by decide +kernel
theorem d_Change_run_7 : decode b_Change_run 7 = .ok (.return_, 1) := by decide +kernel
theorem d_Change_run_8 : decode b_Change_run 8 = .ok (.aload_n 0, 1) := by decide +kernel
theorem d_Change_run_9 : decode b_Change_run 9 = .ok (.getfield 15, 3) := by decide +kernel
theorem d_Change_run_12 : decode b_Change_run 12 = .ok (.getstatic 60, 3) := by decide +kernel
theorem d_Change_run_15 : decode b_Change_run 15 = .ok (.if_acmp .ne 11, 3) := by decide +kernel
theorem d_Change_run_18 : decode b_Change_run 18 = .ok (.aload_n 0, 1) := by decide +kernel
theorem d_Change_run_19 : decode b_Change_run 19 = .ok (.aload_n 1, 1) := by decide +kernel
theorem d_Change_run_20 : decode b_Change_run 20 = .ok (.invokevirtual 63, 3) := by decide +kernel
theorem d_Change_run_23 : decode b_Change_run 23 = .ok (.goto 106, 3) := by decide +kernel
theorem d_Change_run_26 : decode b_Change_run 26 = .ok (.aload_n 0, 1) := by decide +kernel
theorem d_Change_run_27 : decode b_Change_run 27 = .ok (.getfield 15, 3) := by decide +kernel
theorem d_Change_run_30 : decode b_Change_run 30 = .ok (.getstatic 67, 3) := by decide +kernel
theorem d_Change_run_33 : decode b_Change_run 33 = .ok (.if_acmp .ne 40, 3) := by decide +kernel
theorem d_Change_run_36 : decode b_Change_run 36 = .ok (.aload_n 0, 1) := by decide +kernel
theorem d_Change_run_37 : decode b_Change_run 37 = .ok (.getfield 36, 3) := by decide +kernel
theorem d_Change_run_40 : decode b_Change_run 40 = .ok (.aload_n 0, 1) := by decide +kernel
theorem d_Change_run_41 : decode b_Change_run 41 = .ok (.getfield 33, 3) := by decide +kernel
theorem d_Change_run_44 : decode b_Change_run 44 = .ok (.aload_n 0, 1) := by decide +kernel
theorem d_Change_run_45 : decode b_Change_run 45 = .ok (.getfield 70, 3) := by decide +kernel
theorem d_Change_run_48 : decode b_Change_run 48 = .ok (.aload_n 0, 1) := by decide +kernel
theorem d_Change_run_49 : decode b_Change_run 49 = .ok (.getfield 73, 3) := by decide +kernel
theorem d_Change_run_52 : decode b_Change_run 52 = .ok (.invokevirtual 76, 3) := by decide +kernel
theorem d_Change_run_55 : decode b_Change_run 55 = .ok (.aload_n 0, 1) := by decide +kernel
theorem d_Change_run_56 : decode b_Change_run 56 = .ok (.getfield 36, 3) := by decide +kernel
theorem d_Change_run_59 : decode b_Change_run 59 = .ok (.aload_n 0, 1) := by decide +kernel
theorem d_Change_run_60 : decode b_Change_run 60 = .ok (.getfield 26, 3) := by decide +kernel
theorem d_Change_run_63 : decode b_Change_run 63 = .ok (.aload_n 0, 1) := by decide +kernel
theorem d_Change_run_64 : decode b_Change_run 64 = .ok (.getfield 40, 3) := by decide +kernel
theorem d_Change_run_67 : decode b_Change_run 67 = .ok (.invokevirtual 82, 3) := by decide +kernel
theorem d_Change_run_70 : decode b_Change_run 70 = .ok (.goto 59, 3) := by decide +kernel
theorem d_Change_run_73 : decode b_Change_run 73 = .ok (.aload_n 0, 1) := by decide +kernel
theorem d_Change_run_74 : decode b_Change_run 74 = .ok (.getfield 15, 3) := by decide +kernel
theorem d_Change_run_77 : decode b_Change_run 77 = .ok (.getstatic 9, 3) := by decide +kernel
theorem d_Change_run_80 : decode b_Change_run 80 = .ok (.if_acmp .ne 10, 3) := by decide +kernel
theorem d_Change_run_83 : decode b_Change_run 83 = .ok (.aload_n 0, 1) := by decide +kernel
theorem d_Change_run_84 : decode b_Change_run 84 = .ok (.invokevirtual 86, 3) := by decide +kernel
theorem d_Change_run_87 : decode b_Change_run 87 = .ok (.goto 42, 3) := by decide +kernel
theorem d_Change_run_90 : decode b_Change_run 90 = .ok (.aload_n 0, 1) := by decide +kernel
theorem d_Change_run_91 : decode b_Change_run 91 = .ok (.getfield 36, 3) := by decide +kernel
theorem d_Change_run_94 : decode b_Change_run 94 = .ok (.getfield 89, 3) := by decide +kernel
theorem d_Change_run_97 : decode b_Change_run 97 = .ok (.ifnull 32, 3) := by decide +kernel
theorem d_Change_run_100 : decode b_Change_run 100 = .ok (.aload_n 0, 1) := by decide +kernel
theorem d_Change_run_101 : decode b_Change_run 101 = .ok (.getfield 36, 3) := by decide +kernel
theorem d_Change_run_104 : decode b_Change_run 104 = .ok (.getfield 89, 3) := by decide +kernel
theorem d_Change_run_107 : decode b_Change_run 107 = .ok (.astore_n 2, 1) := by decide +kernel
theorem d_Change_run_108 : decode b_Change_run 108 = .ok (.aload_n 1, 1) := by decide +kernel
theorem d_Change_run_109 : decode b_Change_run 109 = .ok (.aload_n 0, 1) := by decide +kernel
theorem d_Change_run_110 : decode b_Change_run 110 = .ok (.getfield 36, 3) := by decide +kernel
theorem d_Change_run_113 : decode b_Change_run 113 = .ok (.aload_n 2, 1) := by decide +kernel
theorem d_Change_run_114 : decode b_Change_run 114 = .ok (.invokevirtual 92, 3) := by decide +kernel
theorem d_Change_run_117 : decode b_Change_run 117 = .ok (.aload_n 2, 1) := by decide +kernel
theorem d_Change_run_118 : decode b_Change_run 118 = .ok (.aload_n 0, 1) := by decide +kernel
theorem d_Change_run_119 : decode b_Change_run 119 = .ok (.getfield 26, 3) := by decide +kernel
theorem d_Change_run_122 : decode b_Change_run 122 = .ok (.aload_n 0, 1) := by decide +kernel
theorem d_Change_run_123 : decode b_Change_run 123 = .ok (.getfield 40, 3) := by decide +kernel
theorem d_Change_run_126 : decode b_Change_run 126 = .ok (.invokevirtual 82, 3) := by decide +kernel
theorem d_Change_run_129 : decode b_Change_run 129 = .ok (.return_, 1) := by decide +kernel
abbrev rm_Change_run : Room := { frames := 2, cells := 0, slots := 0, locals := 49 }
set_option maxRecDepth 100000 in
set_option maxHeartbeats 4000000 in
theorem k_Change_run {p : Program} {l : Launch} {e : Env} {s : State} {m : MethodId} {args : Array Value} {below : List Frame} {meth : Method} {c : Code} {t : TY} {a0 : Nat} {K : GS → Prop} (X : kX p s m args meth c b_Change_run 3 "TreeServer$Change" t) (hret : meth.sig.returnType = none) (G : GS) (p1 : Nat) (hwp : w_Change_run t G a0 p1 K) : kW p l e rm_Change_run s m args below meth c (MQ below (va_Qv (fun u : GS => K u) (fun u T => HB t u T.heap) (tA t)) args s 0 0 (tA t)) 3 t false 0 [(0, va_rf (some a0)), (1, va_rf (some p1))] [] G := by
  unfold w_Change_run at hwp
  refine kw_aload_n (pc := 0) X d_Change_run_0 rfl 0 rfl ?_
  obtain ⟨f1, hwp⟩ := hwp
  refine kg_22 (a := a0) (pc := 1) X d_Change_run_1 x_168 rfl f1 ?_
  refine kw_ifnonnull (tgt := 8) (pc := 4) X d_Change_run_4 (by decide) (fun h => ?_) (fun h => ?_)
  · have hwp := ite_t h hwp
    refine kw_aload_n (pc := 8) X d_Change_run_8 rfl 0 rfl ?_
    refine kg_21 (a := a0) (pc := 9) X d_Change_run_9 x_167 rfl f1 ?_
    refine ks_3 (pc := 12) X d_Change_run_12 x_465 ?_
    refine kw_acmp_ne (tgt := 26) (pc := 15) X d_Change_run_15 (by decide) (fun h => ?_) (fun h => ?_)
    · have hwp := ite_t h hwp
      refine kw_aload_n (pc := 26) X d_Change_run_26 rfl 0 rfl ?_
      refine kg_21 (a := a0) (pc := 27) X d_Change_run_27 x_167 rfl f1 ?_
      refine ks_4 (pc := 30) X d_Change_run_30 x_487 ?_
      refine kw_acmp_ne (tgt := 73) (pc := 33) X d_Change_run_33 (by decide) (fun h => ?_) (fun h => ?_)
      · have hwp := ite_t h hwp
        refine kw_aload_n (pc := 73) X d_Change_run_73 rfl 0 rfl ?_
        refine kg_21 (a := a0) (pc := 74) X d_Change_run_74 x_167 rfl f1 ?_
        refine ks_6 (pc := 77) X d_Change_run_77 x_164 ?_
        refine kw_acmp_ne (tgt := 90) (pc := 80) X d_Change_run_80 (by decide) (fun h => ?_) (fun h => ?_)
        · have hwp := ite_t h hwp
          refine kw_aload_n (pc := 90) X d_Change_run_90 rfl 0 rfl ?_
          refine kg_22 (a := a0) (pc := 91) X d_Change_run_91 x_168 rfl f1 ?_
          obtain ⟨a2, h_a2, hwp⟩ := hwp
          obtain ⟨f3, hwp⟩ := hwp
          refine kg_7 (a := a2) (pc := 94) X d_Change_run_94 x_68 h_a2 f3 ?_
          refine kw_ifnull (tgt := 129) (pc := 97) X d_Change_run_97 (by decide) (fun h => ?_) (fun h => ?_)
          · have hwp := ite_t h hwp
            exact kr_v (pc := 129) X hret d_Change_run_129 hwp
          · have hwp := ite_f h hwp
            refine kw_aload_n (pc := 100) X d_Change_run_100 rfl 0 rfl ?_
            refine kg_22 (a := a0) (pc := 101) X d_Change_run_101 x_168 rfl f1 ?_
            refine kg_7 (a := a2) (pc := 104) X d_Change_run_104 x_68 h_a2 f3 ?_
            refine kw_astore_n (i := 2) (lv' := [(2, va_rf (gr G 7 a2)), (0, va_rf (some a0)), (1, va_rf (some p1))]) (pc := 107) X d_Change_run_107 rfl (by decide) rfl ?_
            refine kw_aload_n (pc := 108) X d_Change_run_108 rfl 2 rfl ?_
            refine kw_aload_n (pc := 109) X d_Change_run_109 rfl 1 rfl ?_
            refine kg_22 (a := a0) (pc := 110) X d_Change_run_110 x_168 rfl f1 ?_
            refine kw_aload_n (pc := 113) X d_Change_run_113 rfl 0 rfl ?_
            obtain ⟨f4, hwp⟩ := hwp
            obtain ⟨a5, h_a5, hwp⟩ := hwp
            refine kW.st (st' := [.ref a5, .ref a2, .ref p1]) (by simp only [h_a2, h_a5]; rfl) ?_
            refine kcV_v (n := 2) (As := [.ref a2, .ref a5]) (rest := []) (pc := 114) X rfl (c_Tree_remove l t G p1 a2 a5 _) (cwV_of (C := "TreeServer$Tree") X x_506 x_503 x_504 x_505 x_2 (by decide +kernel) ⟨rfl, rfl⟩ (by decide)) (rv_2 X f4) rfl rfl (by decide) d_Change_run_114 hwp (fun G6 hwp => ?_)
            refine kw_aload_n (pc := 117) X d_Change_run_117 rfl 0 rfl ?_
            refine kw_aload_n (pc := 118) X d_Change_run_118 rfl 1 rfl ?_
            refine kg_23 (a := a0) (pc := 119) X d_Change_run_119 x_169 rfl f1 ?_
            refine kw_aload_n (pc := 122) X d_Change_run_122 rfl 1 rfl ?_
            refine kg_24 (a := a0) (pc := 123) X d_Change_run_123 x_170 rfl f1 ?_
            obtain ⟨f7, hwp⟩ := hwp
            refine kW.st (st' := [.int (gi G6 24 a0), va_rf (gr G6 23 a0), .ref a5]) (by simp only [h_a5]; rfl) ?_
            refine kcV_v (n := 2) (As := [va_rf (gr G6 23 a0), .int (gi G6 24 a0)]) (rest := []) (pc := 126) X rfl (c_Node_changeBy l t G6 a5 (gr G6 23 a0) (gi G6 24 a0) _) (cwV_of (C := "TreeServer$Node") X x_486 x_483 x_484 x_485 x_3 (by decide +kernel) ⟨rfl, rfl⟩ (by decide)) (rv_1 X f7) rfl rfl (by decide) d_Change_run_126 hwp (fun G8 hwp => ?_)
            exact kr_v (pc := 129) X hret d_Change_run_129 hwp
        · have hwp := ite_f (not_not_intro h) hwp
          refine kw_aload_n (pc := 83) X d_Change_run_83 rfl 0 rfl ?_
          refine kcV_v (n := 0) (As := []) (rest := []) (pc := 84) X rfl (c_Change_alter l t G a0 _) (cwV_of (C := "TreeServer$Change") X x_502 x_499 x_501 xp_7 x_7 (by decide +kernel) ⟨rfl, rfl⟩ (by decide)) (rv_4 X f1) rfl rfl (by decide) d_Change_run_84 hwp (fun G9 hwp => ?_)
          refine kw_goto (tgt := 129) (pc := 87) X d_Change_run_87 (by decide) ?_
          exact kr_v (pc := 129) X hret d_Change_run_129 hwp
      · have hwp := ite_f (not_not_intro h) hwp
        refine kw_aload_n (pc := 36) X d_Change_run_36 rfl 0 rfl ?_
        refine kg_22 (a := a0) (pc := 37) X d_Change_run_37 x_168 rfl f1 ?_
        refine kw_aload_n (pc := 40) X d_Change_run_40 rfl 0 rfl ?_
        refine kg_33 (a := a0) (pc := 41) X d_Change_run_41 x_187 rfl f1 ?_
        refine kw_aload_n (pc := 44) X d_Change_run_44 rfl 0 rfl ?_
        refine kg_34 (a := a0) (pc := 45) X d_Change_run_45 x_189 rfl f1 ?_
        refine kw_aload_n (pc := 48) X d_Change_run_48 rfl 0 rfl ?_
        refine kg_35 (a := a0) (pc := 49) X d_Change_run_49 x_191 rfl f1 ?_
        obtain ⟨a10, h_a10, hwp⟩ := hwp
        obtain ⟨f11, hwp⟩ := hwp
        obtain ⟨a12, h_a12, hwp⟩ := hwp
        refine kW.st (st' := [.int (gi G 35 a0), .int (gi G 34 a0), .ref a12, .ref a10]) (by simp only [h_a12, h_a10]; rfl) ?_
        refine kcV_v (n := 3) (As := [.ref a12, .int (gi G 34 a0), .int (gi G 35 a0)]) (rest := []) (pc := 52) X rfl (c_Node_store l t G a10 a12 (gi G 34 a0) (gi G 35 a0) _) (cwV_of (C := "TreeServer$Node") X x_492 x_489 x_490 x_491 x_3 (by decide +kernel) ⟨rfl, rfl⟩ (by decide)) (rv_1 X f11) rfl rfl (by decide) d_Change_run_52 hwp (fun G13 hwp => ?_)
        refine kw_aload_n (pc := 55) X d_Change_run_55 rfl 0 rfl ?_
        refine kg_22 (a := a0) (pc := 56) X d_Change_run_56 x_168 rfl f1 ?_
        refine kw_aload_n (pc := 59) X d_Change_run_59 rfl 0 rfl ?_
        refine kg_23 (a := a0) (pc := 60) X d_Change_run_60 x_169 rfl f1 ?_
        refine kw_aload_n (pc := 63) X d_Change_run_63 rfl 0 rfl ?_
        refine kg_24 (a := a0) (pc := 64) X d_Change_run_64 x_170 rfl f1 ?_
        obtain ⟨a14, h_a14, hwp⟩ := hwp
        obtain ⟨f15, hwp⟩ := hwp
        refine kW.st (st' := [.int (gi G13 24 a0), va_rf (gr G13 23 a0), .ref a14]) (by simp only [h_a14]; rfl) ?_
        refine kcV_v (n := 2) (As := [va_rf (gr G13 23 a0), .int (gi G13 24 a0)]) (rest := []) (pc := 67) X rfl (c_Node_changeBy l t G13 a14 (gr G13 23 a0) (gi G13 24 a0) _) (cwV_of (C := "TreeServer$Node") X x_486 x_483 x_484 x_485 x_3 (by decide +kernel) ⟨rfl, rfl⟩ (by decide)) (rv_1 X f15) rfl rfl (by decide) d_Change_run_67 hwp (fun G16 hwp => ?_)
        refine kw_goto (tgt := 129) (pc := 70) X d_Change_run_70 (by decide) ?_
        exact kr_v (pc := 129) X hret d_Change_run_129 hwp
    · have hwp := ite_f (not_not_intro h) hwp
      refine kw_aload_n (pc := 18) X d_Change_run_18 rfl 0 rfl ?_
      refine kw_aload_n (pc := 19) X d_Change_run_19 rfl 1 rfl ?_
      refine kcV_v (n := 1) (As := [.ref p1]) (rest := []) (pc := 20) X rfl (c_Change_create l t G a0 p1 _) (cwV_of (C := "TreeServer$Change") X x_470 x_467 x_469 xp_6 x_7 (by decide +kernel) ⟨rfl, rfl⟩ (by decide)) (rv_4 X f1) rfl rfl (by decide) d_Change_run_20 hwp (fun G17 hwp => ?_)
      refine kw_goto (tgt := 129) (pc := 23) X d_Change_run_23 (by decide) ?_
      exact kr_v (pc := 129) X hret d_Change_run_129 hwp
  · have hwp := ite_f (not_not_intro h) hwp
    exact kr_v (pc := 7) X hret d_Change_run_7 hwp
set_option maxRecDepth 100000 in
set_option maxHeartbeats 4000000 in
theorem c_Change_run (l : Launch) (t : TY) (G : GS) (a0 : Nat) (p1 : Nat) (K : GS → Prop) : Met l y_Change_run (Cond.code y_Change_run b_Change_run 3 (Option.none : Option Jvm.ClassFile.FieldType) :: GW) rm_Change_run (va_Pc [.ref a0, .ref p1] (fun U => HB t G U.heap ∧ HK t U ∧ w_Change_run t G a0 p1 K)) (va_Qv (fun u : GS => K u) (fun u T => HB t u T.heap) (tA t)) 0 0 (tA t) := by
  refine Met.ofW (cc := b_Change_run) (maxL := 3) (ret := none) (by decide) rfl ?_
  intro p e s m args below meth c s₁ B hml hv
  obtain ⟨rfl, hB, hK, hwp⟩ := hv
  have hts := atoms_spec (ws := Cond.code y_Change_run b_Change_run 3 (Option.none : Option Jvm.ClassFile.FieldType) :: GW) B.pre
  have X : kX p s m _ meth c b_Change_run 3 "TreeServer$Change" t := ⟨B.exec, B.bytes, hml, findClass_of_methodNamed B.named, fun w h => hts w (List.mem_cons_of_mem _ h), B.notSynchronized, hK⟩
  have hZ : kZ t false s G s.heap [] := ⟨hB, va_S.rf, fun _ => ⟨rfl, rfl⟩⟩
  rw [lg_entry_eq]
  have hl := lv_entry ([.ref a0, .ref p1]) (n := 3) (by simp [lg_sl, rf_cat, cat_i, cat_l, cat_r])
  exact k_Change_run X B.returns _ _ hwp s.heap [] _ hl hZ
abbrev b_Link_reset : ByteArray := prog_6_method_2_code
def y_Link_reset : MethodName := ⟨"TreeServer$Link", "reset", "()V"⟩
theorem d_Link_reset_0 : decode b_Link_reset 0 = .ok (.aload_n 0, 1) := by decide +kernel
theorem d_Link_reset_1 : decode b_Link_reset 1 = .ok (.iconst 0, 1) := by decide +kernel
theorem d_Link_reset_2 : decode b_Link_reset 2 = .ok (.putfield 34, 3) := by decide +kernel
theorem d_Link_reset_5 : decode b_Link_reset 5 = .ok (.aload_n 0, 1) := by decide +kernel
theorem d_Link_reset_6 : decode b_Link_reset 6 = .ok (.iconst 0, 1) := by decide +kernel
theorem d_Link_reset_7 : decode b_Link_reset 7 = .ok (.putfield 37, 3) := by decide +kernel
theorem d_Link_reset_10 : decode b_Link_reset 10 = .ok (.aload_n 0, 1) := by decide +kernel
theorem d_Link_reset_11 : decode b_Link_reset 11 = .ok (.sipush 128, 3) := by decide +kernel
theorem d_Link_reset_14 : decode b_Link_reset 14 = .ok (.putfield 18, 3) := by decide +kernel
theorem d_Link_reset_17 : decode b_Link_reset 17 = .ok (.aload_n 0, 1) := by decide +kernel
theorem d_Link_reset_18 : decode b_Link_reset 18 = .ok (.iconst 0, 1) := by decide +kernel
theorem d_Link_reset_19 : decode b_Link_reset 19 = .ok (.putfield 40, 3) := by decide +kernel
theorem d_Link_reset_22 : decode b_Link_reset 22 = .ok (.aload_n 0, 1) := by decide +kernel
theorem d_Link_reset_23 : decode b_Link_reset 23 = .ok (.iconst 0, 1) := by decide +kernel
theorem d_Link_reset_24 : decode b_Link_reset 24 = .ok (.putfield 44, 3) := by decide +kernel
theorem d_Link_reset_27 : decode b_Link_reset 27 = .ok (.iconst 0, 1) := by decide +kernel
theorem d_Link_reset_28 : decode b_Link_reset 28 = .ok (.istore_n 1, 1) := by decide +kernel
theorem d_Link_reset_29 : decode b_Link_reset 29 = .ok (.iload_n 1, 1) := by decide +kernel
theorem d_Link_reset_30 : decode b_Link_reset 30 = .ok (.bipush 6, 2) := by decide +kernel
theorem d_Link_reset_32 : decode b_Link_reset 32 = .ok (.if_icmp .ge 19, 3) := by decide +kernel
theorem d_Link_reset_35 : decode b_Link_reset 35 = .ok (.aload_n 0, 1) := by decide +kernel
theorem d_Link_reset_36 : decode b_Link_reset 36 = .ok (.getfield 24, 3) := by decide +kernel
theorem d_Link_reset_39 : decode b_Link_reset 39 = .ok (.iload_n 1, 1) := by decide +kernel
theorem d_Link_reset_40 : decode b_Link_reset 40 = .ok (.aaload, 1) := by decide +kernel
theorem d_Link_reset_41 : decode b_Link_reset 41 = .ok (.iconst 0, 1) := by decide +kernel
theorem d_Link_reset_42 : decode b_Link_reset 42 = .ok (.putfield 47, 3) := by decide +kernel
theorem d_Link_reset_45 : decode b_Link_reset 45 = .ok (.iinc 1 1, 3) := by decide +kernel
theorem d_Link_reset_48 : decode b_Link_reset 48 = .ok (.goto (-19), 3) := by decide +kernel
theorem d_Link_reset_51 : decode b_Link_reset 51 = .ok (.return_, 1) := by decide +kernel
abbrev rm_Link_reset : Room := { frames := 0, cells := 0, slots := 0, locals := 0 }
set_option maxRecDepth 100000 in
set_option maxHeartbeats 4000000 in
theorem k_Link_reset_29 {p : Program} {l : Launch} {e : Env} {s : State} {m : MethodId} {args : Array Value} {below : List Frame} {meth : Method} {c : Code} {t : TY} {a0 : Nat} {K : GS → Prop} (X : kX p s m args meth c b_Link_reset 2 "TreeServer$Link" t) (hret : meth.sig.returnType = none) : ∀ (n : Nat) (l1 : Int32) (G : GS), w_Link_reset_29 t a0 K n l1 G → kW p l e rm_Link_reset s m args below meth c (MQ below (va_Qv (fun u : GS => K u) (fun u T => HB t u T.heap) (tA t)) args s 0 0 (tA t)) 2 t false 29 [(0, va_rf (some a0)), (1, .int l1)] [] G := by
  intro n
  induction n with
  | zero => intro l1 G hwp; exact hwp.elim
  | succ n hr_29 =>
    intro l1 G hwp
    unfold w_Link_reset_29 at hwp
    dsimp only at hwp
    refine kw_iload_n (pc := 29) X d_Link_reset_29 rfl 1 rfl ?_
    refine kw_bipush (v := 6) (pc := 30) X d_Link_reset_30 (by decide) ?_
    refine kw_icmp_ge (tgt := 51) (pc := 32) X d_Link_reset_32 (by decide) (fun h => ?_) (fun h => ?_)
    · have hwp := ite_t h hwp
      exact kr_v (pc := 51) X hret d_Link_reset_51 hwp
    · have hwp := ite_f h hwp
      refine kw_aload_n (pc := 35) X d_Link_reset_35 rfl 0 rfl ?_
      obtain ⟨f1, hwp⟩ := hwp
      refine kg_62 (a := a0) (pc := 36) X d_Link_reset_36 x_346 rfl f1 ?_
      refine kw_iload_n (pc := 39) X d_Link_reset_39 rfl 1 rfl ?_
      obtain ⟨a2, h_a2, hwp⟩ := hwp
      obtain ⟨f3, hwp⟩ := hwp
      obtain ⟨f4, hwp⟩ := hwp
      refine ka_aald56 (a := a2) (pc := 40) X d_Link_reset_40 h_a2 f3 f4 ?_
      refine kw_iconst (v := 0) (pc := 41) X d_Link_reset_41 (by decide) ?_
      obtain ⟨a5, h_a5, hwp⟩ := hwp
      obtain ⟨f6, hwp⟩ := hwp
      refine kp_46 (a := a5) (x := (0 : Int32)) (pc := 42) X rfl d_Link_reset_42 x_293 h_a5 f6 (Or.inl rfl) ?_
      obtain ⟨G7, e_G7⟩ : ∃ g, g = si G 46 a5 (0 : Int32) := ⟨_, rfl⟩
      have hwp := hwp G7 e_G7
      refine kW.g e_G7.symm ?_
      obtain ⟨v8, e_v8⟩ : ∃ z, z = (l1 + (1 : Int32)) := ⟨_, rfl⟩
      have hwp := hwp v8 e_v8
      refine kw_iinc (v := v8) (lv' := [(1, .int v8), (0, va_rf (some a0))]) (pc := 45) X d_Link_reset_45 1 rfl (by rw [e_v8]; rfl) (by decide) rfl ?_
      refine kw_goto (tgt := 29) (pc := 48) X d_Link_reset_48 (by decide) ?_
      exact kW.sub [1, 0] rfl (hr_29 _ _ hwp)
set_option maxRecDepth 100000 in
set_option maxHeartbeats 4000000 in
theorem k_Link_reset {p : Program} {l : Launch} {e : Env} {s : State} {m : MethodId} {args : Array Value} {below : List Frame} {meth : Method} {c : Code} {t : TY} {a0 : Nat} {K : GS → Prop} (X : kX p s m args meth c b_Link_reset 2 "TreeServer$Link" t) (hret : meth.sig.returnType = none) (G : GS)  (hwp : w_Link_reset t G a0 K) : kW p l e rm_Link_reset s m args below meth c (MQ below (va_Qv (fun u : GS => K u) (fun u T => HB t u T.heap) (tA t)) args s 0 0 (tA t)) 2 t false 0 [(0, va_rf (some a0))] [] G := by
  unfold w_Link_reset at hwp
  refine kw_aload_n (pc := 0) X d_Link_reset_0 rfl 0 rfl ?_
  refine kw_iconst (v := 0) (pc := 1) X d_Link_reset_1 (by decide) ?_
  obtain ⟨f1, hwp⟩ := hwp
  refine kp_56 (a := a0) (x := (0 : Int32)) (pc := 2) X rfl d_Link_reset_2 x_334 rfl f1 ?_
  obtain ⟨G2, e_G2⟩ : ∃ g, g = si G 56 a0 (0 : Int32) := ⟨_, rfl⟩
  have hwp := hwp G2 e_G2
  refine kW.g e_G2.symm ?_
  refine kw_aload_n (pc := 5) X d_Link_reset_5 rfl 0 rfl ?_
  refine kw_iconst (v := 0) (pc := 6) X d_Link_reset_6 (by decide) ?_
  refine kp_58 (a := a0) (x := (0 : Int32)) (pc := 7) X rfl d_Link_reset_7 x_337 rfl f1 ?_
  obtain ⟨G3, e_G3⟩ : ∃ g, g = si G2 58 a0 (0 : Int32) := ⟨_, rfl⟩
  have hwp := hwp G3 e_G3
  refine kW.g e_G3.symm ?_
  refine kw_aload_n (pc := 10) X d_Link_reset_10 rfl 0 rfl ?_
  refine kw_sipush (v := 128) (pc := 11) X d_Link_reset_11 (by decide) ?_
  refine kp_59 (a := a0) (x := (128 : Int32)) (pc := 14) X rfl d_Link_reset_14 x_340 rfl f1 ?_
  obtain ⟨G4, e_G4⟩ : ∃ g, g = si G3 59 a0 (128 : Int32) := ⟨_, rfl⟩
  have hwp := hwp G4 e_G4
  refine kW.g e_G4.symm ?_
  refine kw_aload_n (pc := 17) X d_Link_reset_17 rfl 0 rfl ?_
  refine kw_iconst (v := 0) (pc := 18) X d_Link_reset_18 (by decide) ?_
  refine kp_60 (a := a0) (x := (0 : Int32)) (pc := 19) X rfl d_Link_reset_19 x_342 rfl f1 (Or.inl rfl) ?_
  obtain ⟨G5, e_G5⟩ : ∃ g, g = si G4 60 a0 (0 : Int32) := ⟨_, rfl⟩
  have hwp := hwp G5 e_G5
  refine kW.g e_G5.symm ?_
  refine kw_aload_n (pc := 22) X d_Link_reset_22 rfl 0 rfl ?_
  refine kw_iconst (v := 0) (pc := 23) X d_Link_reset_23 (by decide) ?_
  refine kp_61 (a := a0) (x := (0 : Int32)) (pc := 24) X rfl d_Link_reset_24 x_344 rfl f1 (Or.inl rfl) ?_
  obtain ⟨G6, e_G6⟩ : ∃ g, g = si G5 61 a0 (0 : Int32) := ⟨_, rfl⟩
  have hwp := hwp G6 e_G6
  refine kW.g e_G6.symm ?_
  refine kw_iconst (v := 0) (pc := 27) X d_Link_reset_27 (by decide) ?_
  refine kw_istore_n (i := 1) (lv' := [(1, .int (0 : Int32)), (0, va_rf (some a0))]) (pc := 28) X d_Link_reset_28 rfl (by decide) rfl ?_
  obtain ⟨n, hwp⟩ := hwp
  exact kW.sub [1, 0] rfl (k_Link_reset_29 X hret  n _ _ hwp)
set_option maxRecDepth 100000 in
set_option maxHeartbeats 4000000 in
theorem c_Link_reset (l : Launch) (t : TY) (G : GS) (a0 : Nat) (K : GS → Prop) : Met l y_Link_reset (Cond.code y_Link_reset b_Link_reset 2 (Option.none : Option Jvm.ClassFile.FieldType) :: GW) rm_Link_reset (va_Pc [.ref a0] (fun U => HB t G U.heap ∧ HK t U ∧ w_Link_reset t G a0 K)) (va_Qv (fun u : GS => K u) (fun u T => HB t u T.heap) (tA t)) 0 0 (tA t) := by
  refine Met.ofW (cc := b_Link_reset) (maxL := 2) (ret := none) (by decide) rfl ?_
  intro p e s m args below meth c s₁ B hml hv
  obtain ⟨rfl, hB, hK, hwp⟩ := hv
  have hts := atoms_spec (ws := Cond.code y_Link_reset b_Link_reset 2 (Option.none : Option Jvm.ClassFile.FieldType) :: GW) B.pre
  have X : kX p s m _ meth c b_Link_reset 2 "TreeServer$Link" t := ⟨B.exec, B.bytes, hml, findClass_of_methodNamed B.named, fun w h => hts w (List.mem_cons_of_mem _ h), B.notSynchronized, hK⟩
  have hZ : kZ t false s G s.heap [] := ⟨hB, va_S.rf, fun _ => ⟨rfl, rfl⟩⟩
  rw [lg_entry_eq]
  have hl := lv_entry ([.ref a0]) (n := 2) (by simp [lg_sl, rf_cat, cat_i, cat_l, cat_r])
  exact k_Link_reset X B.returns _ hwp s.heap [] _ hl hZ
