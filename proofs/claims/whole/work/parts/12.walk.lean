abbrev b_Link_spareFid : ByteArray := prog_6_method_12_code
def y_Link_spareFid : MethodName := ⟨"TreeServer$Link", "spareFid", "()LTreeServer$Fid;"⟩
theorem d_Link_spareFid_0 : decode b_Link_spareFid 0 = .ok (.iconst 0, 1) := by decide +kernel
theorem d_Link_spareFid_1 : decode b_Link_spareFid 1 = .ok (.istore_n 1, 1) := by decide +kernel
theorem d_Link_spareFid_2 : decode b_Link_spareFid 2 = .ok (.iload_n 1, 1) := by decide +kernel
theorem d_Link_spareFid_3 : decode b_Link_spareFid 3 = .ok (.bipush 6, 2) := by decide +kernel
theorem d_Link_spareFid_5 : decode b_Link_spareFid 5 = .ok (.if_icmp .ge 28, 3) := by decide +kernel
theorem d_Link_spareFid_8 : decode b_Link_spareFid 8 = .ok (.aload_n 0, 1) := by decide +kernel
theorem d_Link_spareFid_9 : decode b_Link_spareFid 9 = .ok (.getfield 24, 3) := by decide +kernel
theorem d_Link_spareFid_12 : decode b_Link_spareFid 12 = .ok (.iload_n 1, 1) := by decide +kernel
theorem d_Link_spareFid_13 : decode b_Link_spareFid 13 = .ok (.aaload, 1) := by decide +kernel
theorem d_Link_spareFid_14 : decode b_Link_spareFid 14 = .ok (.getfield 47, 3) := by decide +kernel
theorem d_Link_spareFid_17 : decode b_Link_spareFid 17 = .ok (.ifCond .ne 10, 3) := by decide +kernel
theorem d_Link_spareFid_20 : decode b_Link_spareFid 20 = .ok (.aload_n 0, 1) := by decide +kernel
theorem d_Link_spareFid_21 : decode b_Link_spareFid 21 = .ok (.getfield 24, 3) := by decide +kernel
theorem d_Link_spareFid_24 : decode b_Link_spareFid 24 = .ok (.iload_n 1, 1) := by decide +kernel
theorem d_Link_spareFid_25 : decode b_Link_spareFid 25 = .ok (.aaload, 1) := by decide +kernel
theorem d_Link_spareFid_26 : decode b_Link_spareFid 26 = .ok (.areturn, 1) := by decide +kernel
theorem d_Link_spareFid_27 : decode b_Link_spareFid 27 = .ok (.iinc 1 1, 3) := by decide +kernel
theorem d_Link_spareFid_30 : decode b_Link_spareFid 30 = .ok (.goto (-28), 3) := by decide +kernel
theorem d_Link_spareFid_33 : decode b_Link_spareFid 33 = .ok (.aconst_null, 1) := by decide +kernel
theorem d_Link_spareFid_34 : decode b_Link_spareFid 34 = .ok (.areturn, 1) := by decide +kernel
abbrev rm_Link_spareFid : Room := { frames := 0, cells := 0, slots := 0, locals := 0 }
set_option maxRecDepth 100000 in
set_option maxHeartbeats 4000000 in
theorem k_Link_spareFid_2 {p : Program} {l : Launch} {e : Env} {s : State} {m : MethodId} {args : Array Value} {below : List Frame} {meth : Method} {c : Code} {t : TY} {a0 : Nat} {G : GS} {K : Option Nat → Prop} (X : kX p s m args meth c b_Link_spareFid 2 "TreeServer$Link" t) (hret : meth.sig.returnType = some (.object "TreeServer$Fid")) : ∀ (n : Nat) (l1 : Int32), w_Link_spareFid_2 t G a0 K n l1 → kW p l e rm_Link_spareFid s m args below meth c (MQ below (va_Sq K) args s 0 0 (fun _ => False)) 2 t true 2 [(0, va_rf (some a0)), (1, .int l1)] [] G := by
  intro n
  induction n with
  | zero => intro l1 hwp; exact hwp.elim
  | succ n hr_2 =>
    intro l1 hwp
    unfold w_Link_spareFid_2 at hwp
    dsimp only at hwp
    refine kw_iload_n (pc := 2) X d_Link_spareFid_2 rfl 1 rfl ?_
    refine kw_bipush (v := 6) (pc := 3) X d_Link_spareFid_3 (by decide) ?_
    refine kw_icmp_ge (tgt := 33) (pc := 5) X d_Link_spareFid_5 (by decide) (fun h => ?_) (fun h => ?_)
    · have hwp := ite_t h hwp
      refine kw_null (pc := 33) X d_Link_spareFid_33 ?_
      exact krp_q (pc := 34) X hret d_Link_spareFid_34 (Or.inl ⟨_, rfl⟩) hwp
    · have hwp := ite_f h hwp
      refine kw_aload_n (pc := 8) X d_Link_spareFid_8 rfl 0 rfl ?_
      obtain ⟨f1, hwp⟩ := hwp
      refine kg_62 (a := a0) (pc := 9) X d_Link_spareFid_9 x_346 rfl f1 ?_
      refine kw_iload_n (pc := 12) X d_Link_spareFid_12 rfl 1 rfl ?_
      obtain ⟨a2, h_a2, hwp⟩ := hwp
      obtain ⟨f3, hwp⟩ := hwp
      obtain ⟨f4, hwp⟩ := hwp
      refine ka_aald56 (a := a2) (pc := 13) X d_Link_spareFid_13 h_a2 f3 f4 ?_
      obtain ⟨a5, h_a5, hwp⟩ := hwp
      obtain ⟨f6, hwp⟩ := hwp
      refine kg_46 (a := a5) (pc := 14) X d_Link_spareFid_14 x_293 h_a5 f6 ?_
      refine kw_if_ne (tgt := 27) (pc := 17) X d_Link_spareFid_17 (by decide) (fun h => ?_) (fun h => ?_)
      · have hwp := ite_t h hwp
        obtain ⟨v7, e_v7⟩ : ∃ z, z = (l1 + (1 : Int32)) := ⟨_, rfl⟩
        have hwp := hwp v7 e_v7
        refine kw_iinc (v := v7) (lv' := [(1, .int v7), (0, va_rf (some a0))]) (pc := 27) X d_Link_spareFid_27 1 rfl (by rw [e_v7]; rfl) (by decide) rfl ?_
        refine kw_goto (tgt := 2) (pc := 30) X d_Link_spareFid_30 (by decide) ?_
        exact kW.sub [1, 0] rfl (hr_2 _ hwp)
      · have hwp := ite_f (not_not_intro h) hwp
        refine kw_aload_n (pc := 20) X d_Link_spareFid_20 rfl 0 rfl ?_
        refine kg_62 (a := a0) (pc := 21) X d_Link_spareFid_21 x_346 rfl f1 ?_
        refine kw_iload_n (pc := 24) X d_Link_spareFid_24 rfl 1 rfl ?_
        refine ka_aald56 (a := a2) (pc := 25) X d_Link_spareFid_25 h_a2 f3 f4 ?_
        exact krp_q (pc := 26) X hret d_Link_spareFid_26 (Or.inl ⟨_, rfl⟩) hwp
set_option maxRecDepth 100000 in
set_option maxHeartbeats 4000000 in
theorem k_Link_spareFid {p : Program} {l : Launch} {e : Env} {s : State} {m : MethodId} {args : Array Value} {below : List Frame} {meth : Method} {c : Code} {t : TY} {a0 : Nat} {G : GS} {K : Option Nat → Prop} (X : kX p s m args meth c b_Link_spareFid 2 "TreeServer$Link" t) (hret : meth.sig.returnType = some (.object "TreeServer$Fid"))  (hwp : w_Link_spareFid t G a0 K) : kW p l e rm_Link_spareFid s m args below meth c (MQ below (va_Sq K) args s 0 0 (fun _ => False)) 2 t true 0 [(0, va_rf (some a0))] [] G := by
  unfold w_Link_spareFid at hwp
  refine kw_iconst (v := 0) (pc := 0) X d_Link_spareFid_0 (by decide) ?_
  refine kw_istore_n (i := 1) (lv' := [(1, .int (0 : Int32)), (0, va_rf (some a0))]) (pc := 1) X d_Link_spareFid_1 rfl (by decide) rfl ?_
  obtain ⟨n, hwp⟩ := hwp
  exact kW.sub [1, 0] rfl (k_Link_spareFid_2 X hret  n _ hwp)
set_option maxRecDepth 100000 in
set_option maxHeartbeats 4000000 in
theorem c_Link_spareFid (l : Launch) (t : TY) (G : GS) (a0 : Nat) (K : Option Nat → Prop) : Met l y_Link_spareFid (Cond.code y_Link_spareFid b_Link_spareFid 2 (Option.some (Jvm.ClassFile.FieldType.object "TreeServer$Fid")) :: GW) rm_Link_spareFid (va_Pc [.ref a0] (fun U => HB t G U.heap ∧ HK t U ∧ w_Link_spareFid t G a0 K)) (va_Sq K) 0 0 (fun _ => False) := by
  refine Met.ofW (cc := b_Link_spareFid) (maxL := 2) (ret := some (.object "TreeServer$Fid")) (by decide) rfl ?_
  intro p e s m args below meth c s₁ B hml hv
  obtain ⟨rfl, hB, hK, hwp⟩ := hv
  have hts := atoms_spec (ws := Cond.code y_Link_spareFid b_Link_spareFid 2 (Option.some (Jvm.ClassFile.FieldType.object "TreeServer$Fid")) :: GW) B.pre
  have X : kX p s m _ meth c b_Link_spareFid 2 "TreeServer$Link" t := ⟨B.exec, B.bytes, hml, findClass_of_methodNamed B.named, fun w h => hts w (List.mem_cons_of_mem _ h), B.notSynchronized, hK⟩
  have hZ : kZ t true s G s.heap [] := ⟨hB, va_S.rf, fun _ => ⟨rfl, rfl⟩⟩
  rw [lg_entry_eq]
  have hl := lv_entry ([.ref a0]) (n := 2) (by simp [lg_sl, rf_cat, cat_i, cat_l, cat_r])
  exact k_Link_spareFid X B.returns hwp s.heap [] _ hl hZ
abbrev b_Message_userNamed : ByteArray := prog_8_method_11_code
def y_Message_userNamed : MethodName := ⟨"TreeServer$Message", "userNamed", "(I)LTreeServer$User;"⟩
theorem d_Message_userNamed_0 : decode b_Message_userNamed 0 = .ok (.iconst 0, 1) := by decide +kernel
theorem d_Message_userNamed_1 : decode b_Message_userNamed 1 = .ok (.istore_n 2, 1) := by decide +kernel
theorem d_Message_userNamed_2 : decode b_Message_userNamed 2 = .ok (.iload_n 2, 1) := by decide +kernel
theorem d_Message_userNamed_3 : decode b_Message_userNamed 3 = .ok (.getstatic 93, 3) := by decide +kernel
theorem d_Message_userNamed_6 : decode b_Message_userNamed 6 = .ok (.arraylength, 1) := by decide +kernel
theorem d_Message_userNamed_7 : decode b_Message_userNamed 7 = .ok (.if_icmp .ge 46, 3) := by decide +kernel
theorem d_Message_userNamed_10 : decode b_Message_userNamed 10 = .ok (.getstatic 93, 3) := by decide +kernel
theorem d_Message_userNamed_13 : decode b_Message_userNamed 13 = .ok (.iload_n 2, 1) := by decide +kernel
theorem d_Message_userNamed_14 : decode b_Message_userNamed 14 = .ok (.aaload, 1) := by decide +kernel
theorem d_Message_userNamed_15 : decode b_Message_userNamed 15 = .ok (.getfield 97, 3) := by decide +kernel
theorem d_Message_userNamed_18 : decode b_Message_userNamed 18 = .ok (.astore_n 3, 1) := by decide +kernel
theorem d_Message_userNamed_19 : decode b_Message_userNamed 19 = .ok (.aload_n 0, 1) := by decide +kernel
theorem d_Message_userNamed_20 : decode b_Message_userNamed 20 = .ok (.getfield 19, 3) := by decide +kernel
theorem d_Message_userNamed_23 : decode b_Message_userNamed 23 = .ok (.iload_n 1, 1) := by decide +kernel
theorem d_Message_userNamed_24 : decode b_Message_userNamed 24 = .ok (.iaload, 1) := by decide +kernel
theorem d_Message_userNamed_25 : decode b_Message_userNamed 25 = .ok (.aload_n 3, 1) := by decide +kernel
theorem d_Message_userNamed_26 : decode b_Message_userNamed 26 = .ok (.invokevirtual 75, 3) := by decide +kernel
theorem d_Message_userNamed_29 : decode b_Message_userNamed 29 = .ok (.if_icmp .ne 18, 3) := by decide +kernel
theorem d_Message_userNamed_32 : decode b_Message_userNamed 32 = .ok (.aload_n 0, 1) := by decide +kernel
theorem d_Message_userNamed_33 : decode b_Message_userNamed 33 = .ok (.iload_n 1, 1) := by decide +kernel
theorem d_Message_userNamed_34 : decode b_Message_userNamed 34 = .ok (.aload_n 3, 1) := by decide +kernel
theorem d_Message_userNamed_35 : decode b_Message_userNamed 35 = .ok (.invokevirtual 103, 3) := by decide +kernel
theorem d_Message_userNamed_38 : decode b_Message_userNamed 38 = .ok (.ifCond .eq 9, 3) := by decide +kernel
theorem d_Message_userNamed_41 : decode b_Message_userNamed 41 = .ok (.getstatic 93, 3) := by decide +kernel
theorem d_Message_userNamed_44 : decode b_Message_userNamed 44 = .ok (.iload_n 2, 1) := by decide +kernel
theorem d_Message_userNamed_45 : decode b_Message_userNamed 45 = .ok (.aaload, 1) := by decide +kernel
theorem d_Message_userNamed_46 : decode b_Message_userNamed 46 = .ok (.areturn, 1) := by decide +kernel
theorem d_Message_userNamed_47 : decode b_Message_userNamed 47 = .ok (.iinc 2 1, 3) := by decide +kernel
theorem d_Message_userNamed_50 : decode b_Message_userNamed 50 = .ok (.goto (-48), 3) := by decide +kernel
theorem d_Message_userNamed_53 : decode b_Message_userNamed 53 = .ok (.aconst_null, 1) := by decide +kernel
theorem d_Message_userNamed_54 : decode b_Message_userNamed 54 = .ok (.areturn, 1) := by decide +kernel
abbrev rm_Message_userNamed : Room := { frames := 5, cells := 0, slots := 0, locals := 123 }
set_option maxRecDepth 100000 in
set_option maxHeartbeats 4000000 in
theorem k_Message_userNamed_2 {p : Program} {l : Launch} {e : Env} {s : State} {m : MethodId} {args : Array Value} {below : List Frame} {meth : Method} {c : Code} {t : TY} {a0 : Nat} {G : GS} {K : Option Nat → Prop} (X : kX p s m args meth c b_Message_userNamed 4 "TreeServer$Message" t) (hret : meth.sig.returnType = some (.object "TreeServer$User")) : ∀ (n : Nat) (l1 : Int32) (l2 : Int32), w_Message_userNamed_2 t G a0 K n l1 l2 → kW p l e rm_Message_userNamed s m args below meth c (MQ below (va_Sq K) args s 0 0 (fun _ => False)) 4 t true 2 [(0, va_rf (some a0)), (1, .int l1), (2, .int l2)] [] G := by
  intro n
  induction n with
  | zero => intro l1 l2 hwp; exact hwp.elim
  | succ n hr_2 =>
    intro l1 l2 hwp
    unfold w_Message_userNamed_2 at hwp
    dsimp only at hwp
    refine kw_iload_n (pc := 2) X d_Message_userNamed_2 rfl 2 rfl ?_
    refine ks_users (pc := 3) X d_Message_userNamed_3 ?_
    refine ks_userslen (pc := 6) X d_Message_userNamed_6 ?_
    refine kw_icmp_ge (tgt := 53) (pc := 7) X d_Message_userNamed_7 (by decide) (fun h => ?_) (fun h => ?_)
    · have hwp := ite_t h hwp
      refine kw_null (pc := 53) X d_Message_userNamed_53 ?_
      exact krp_q (pc := 54) X hret d_Message_userNamed_54 (Or.inl ⟨_, rfl⟩) hwp
    · have hwp := ite_f h hwp
      refine ks_users (pc := 10) X d_Message_userNamed_10 ?_
      refine kw_iload_n (pc := 13) X d_Message_userNamed_13 rfl 2 rfl ?_
      obtain ⟨f1, hwp⟩ := hwp
      refine ks_usersat (pc := 14) X d_Message_userNamed_14 f1 ?_
      obtain ⟨u2, g_u2, h_u2, hwp⟩ := hwp
      refine kg_title (u := u2) (pc := 15) X d_Message_userNamed_15 x_1424 g_u2 h_u2 ?_
      refine kw_astore_n (i := 3) (lv' := [(3, va_rf (some (tks t (ttl u2)))), (0, va_rf (some a0)), (1, .int l1), (2, .int l2)]) (pc := 18) X d_Message_userNamed_18 rfl (by decide) rfl ?_
      refine kw_aload_n (pc := 19) X d_Message_userNamed_19 rfl 1 rfl ?_
      obtain ⟨f3, hwp⟩ := hwp
      refine kg_41 (a := a0) (pc := 20) X d_Message_userNamed_20 x_238 rfl f3 ?_
      refine kw_iload_n (pc := 23) X d_Message_userNamed_23 rfl 2 rfl ?_
      obtain ⟨a4, h_a4, hwp⟩ := hwp
      obtain ⟨f5, hwp⟩ := hwp
      obtain ⟨f6, hwp⟩ := hwp
      refine ka_iald (a := a4) (pc := 24) X d_Message_userNamed_24 h_a4 f5 f6 ?_
      refine kw_aload_n (pc := 25) X d_Message_userNamed_25 rfl 0 rfl ?_
      obtain ⟨j8, g_j8, h_j8, hwp⟩ := hwp
      refine kc_str_length (j := j8) (pc := 26) X d_Message_userNamed_26 x_592 g_j8 h_j8 (by decide) (by simp [rf_cat, cat_i, cat_l, cat_r]) ?_
      obtain ⟨v7, e_v7⟩ : ∃ z, z = nI (slen j8) := ⟨_, rfl⟩
      rw [← e_v7] at hwp ⊢
      refine kw_icmp_ne (tgt := 47) (pc := 29) X d_Message_userNamed_29 (by decide) (fun h => ?_) (fun h => ?_)
      · have hwp := ite_t h hwp
        obtain ⟨v9, e_v9⟩ : ∃ z, z = (l2 + (1 : Int32)) := ⟨_, rfl⟩
        have hwp := hwp v9 e_v9
        refine kw_iinc (v := v9) (lv' := [(2, .int v9), (3, va_rf (some (tks t (ttl u2)))), (0, va_rf (some a0)), (1, .int l1)]) (pc := 47) X d_Message_userNamed_47 3 rfl (by rw [e_v9]; rfl) (by decide) rfl ?_
        refine kw_goto (tgt := 2) (pc := 50) X d_Message_userNamed_50 (by decide) ?_
        exact kW.sub [2, 3, 0] rfl (hr_2 _ _ hwp)
      · have hwp := ite_f (not_not_intro h) hwp
        refine kw_aload_n (pc := 32) X d_Message_userNamed_32 rfl 1 rfl ?_
        refine kw_iload_n (pc := 33) X d_Message_userNamed_33 rfl 2 rfl ?_
        refine kw_aload_n (pc := 34) X d_Message_userNamed_34 rfl 0 rfl ?_
        refine kcVp_i (n := 2) (As := [.int l1, va_rf (some (tks t (ttl u2)))]) (rest := []) (pc := 35) X (c_Message_textBegins l t G a0 l1 (some (tks t (ttl u2))) _) (cwV_of (C := "TreeServer$Message") X x_591 x_670 x_589 x_590 x_9 (by decide +kernel) ⟨rfl, rfl⟩ (by decide)) (rv_5 X f3) rfl rfl (by decide) d_Message_userNamed_35 hwp (fun v10 hwp => ?_)
        obtain ⟨b_v10, hwp⟩ := hwp
        refine kw_if_eq (tgt := 47) (pc := 38) X d_Message_userNamed_38 (by decide) (fun h => ?_) (fun h => ?_)
        · have hwp := ite_t h hwp
          obtain ⟨v11, e_v11⟩ : ∃ z, z = (l2 + (1 : Int32)) := ⟨_, rfl⟩
          have hwp := hwp v11 e_v11
          refine kw_iinc (v := v11) (lv' := [(2, .int v11), (3, va_rf (some (tks t (ttl u2)))), (0, va_rf (some a0)), (1, .int l1)]) (pc := 47) X d_Message_userNamed_47 3 rfl (by rw [e_v11]; rfl) (by decide) rfl ?_
          refine kw_goto (tgt := 2) (pc := 50) X d_Message_userNamed_50 (by decide) ?_
          exact kW.sub [2, 3, 0] rfl (hr_2 _ _ hwp)
        · have hwp := ite_f h hwp
          refine ks_users (pc := 41) X d_Message_userNamed_41 ?_
          refine kw_iload_n (pc := 44) X d_Message_userNamed_44 rfl 3 rfl ?_
          obtain ⟨f12, hwp⟩ := hwp
          refine ks_usersat (pc := 45) X d_Message_userNamed_45 f12 ?_
          exact krp_q (pc := 46) X hret d_Message_userNamed_46 (Or.inl ⟨_, rfl⟩) hwp
set_option maxRecDepth 100000 in
set_option maxHeartbeats 4000000 in
theorem k_Message_userNamed {p : Program} {l : Launch} {e : Env} {s : State} {m : MethodId} {args : Array Value} {below : List Frame} {meth : Method} {c : Code} {t : TY} {a0 : Nat} {G : GS} {K : Option Nat → Prop} (X : kX p s m args meth c b_Message_userNamed 4 "TreeServer$Message" t) (hret : meth.sig.returnType = some (.object "TreeServer$User")) (p1 : Int32) (hwp : w_Message_userNamed t G a0 p1 K) : kW p l e rm_Message_userNamed s m args below meth c (MQ below (va_Sq K) args s 0 0 (fun _ => False)) 4 t true 0 [(0, va_rf (some a0)), (1, .int p1)] [] G := by
  unfold w_Message_userNamed at hwp
  refine kw_iconst (v := 0) (pc := 0) X d_Message_userNamed_0 (by decide) ?_
  refine kw_istore_n (i := 2) (lv' := [(2, .int (0 : Int32)), (0, va_rf (some a0)), (1, .int p1)]) (pc := 1) X d_Message_userNamed_1 rfl (by decide) rfl ?_
  obtain ⟨n, hwp⟩ := hwp
  exact kW.sub [1, 2, 0] rfl (k_Message_userNamed_2 X hret  n _ _ hwp)
set_option maxRecDepth 100000 in
set_option maxHeartbeats 4000000 in
theorem c_Message_userNamed (l : Launch) (t : TY) (G : GS) (a0 : Nat) (p1 : Int32) (K : Option Nat → Prop) : Met l y_Message_userNamed (Cond.code y_Message_userNamed b_Message_userNamed 4 (Option.some (Jvm.ClassFile.FieldType.object "TreeServer$User")) :: GW) rm_Message_userNamed (va_Pc [.ref a0, .int p1] (fun U => HB t G U.heap ∧ HK t U ∧ w_Message_userNamed t G a0 p1 K)) (va_Sq K) 0 0 (fun _ => False) := by
  refine Met.ofW (cc := b_Message_userNamed) (maxL := 4) (ret := some (.object "TreeServer$User")) (by decide) rfl ?_
  intro p e s m args below meth c s₁ B hml hv
  obtain ⟨rfl, hB, hK, hwp⟩ := hv
  have hts := atoms_spec (ws := Cond.code y_Message_userNamed b_Message_userNamed 4 (Option.some (Jvm.ClassFile.FieldType.object "TreeServer$User")) :: GW) B.pre
  have X : kX p s m _ meth c b_Message_userNamed 4 "TreeServer$Message" t := ⟨B.exec, B.bytes, hml, findClass_of_methodNamed B.named, fun w h => hts w (List.mem_cons_of_mem _ h), B.notSynchronized, hK⟩
  have hZ : kZ t true s G s.heap [] := ⟨hB, va_S.rf, fun _ => ⟨rfl, rfl⟩⟩
  rw [lg_entry_eq]
  have hl := lv_entry ([.ref a0, .int p1]) (n := 4) (by simp [lg_sl, rf_cat, cat_i, cat_l, cat_r])
  exact k_Message_userNamed X B.returns _ hwp s.heap [] _ hl hZ
abbrev b_Fid_place : ByteArray := prog_4_method_2_code
def y_Fid_place : MethodName := ⟨"TreeServer$Fid", "place", "(JLTreeServer$Node;LTreeServer$User;)V"⟩
theorem d_Fid_place_0 : decode b_Fid_place 0 = .ok (.aload_n 0, 1) := by decide +kernel
theorem d_Fid_place_1 : decode b_Fid_place 1 = .ok (.iconst 1, 1) := by decide +kernel
theorem d_Fid_place_2 : decode b_Fid_place 2 = .ok (.putfield 28, 3) := by decide +kernel
theorem d_Fid_place_5 : decode b_Fid_place 5 = .ok (.aload_n 0, 1) := by decide +kernel
theorem d_Fid_place_6 : decode b_Fid_place 6 = .ok (.lload_n 1, 1) := by decide +kernel
theorem d_Fid_place_7 : decode b_Fid_place 7 = .ok (.putfield 32, 3) := by decide +kernel
theorem d_Fid_place_10 : decode b_Fid_place 10 = .ok (.aload_n 0, 1) := by decide +kernel
theorem d_Fid_place_11 : decode b_Fid_place 11 = .ok (.aload_n 3, 1) := by decide +kernel
theorem d_Fid_place_12 : decode b_Fid_place 12 = .ok (.putfield 24, 3) := by decide +kernel
theorem d_Fid_place_15 : decode b_Fid_place 15 = .ok (.aload_n 0, 1) := by decide +kernel
theorem d_Fid_place_16 : decode b_Fid_place 16 = .ok (.aload_n 3, 1) := by decide +kernel
theorem d_Fid_place_17 : decode b_Fid_place 17 = .ok (.getfield 36, 3) := by decide +kernel
theorem d_Fid_place_20 : decode b_Fid_place 20 = .ok (.putfield 41, 3) := by decide +kernel
theorem d_Fid_place_23 : decode b_Fid_place 23 = .ok (.aload_n 0, 1) := by decide +kernel
theorem d_Fid_place_24 : decode b_Fid_place 24 = .ok (.aload 4, 2) := by decide +kernel
theorem d_Fid_place_26 : decode b_Fid_place 26 = .ok (.putfield 15, 3) := by decide +kernel
theorem d_Fid_place_29 : decode b_Fid_place 29 = .ok (.aload_n 0, 1) := by decide +kernel
theorem d_Fid_place_30 : decode b_Fid_place 30 = .ok (.iconst (-1), 1) := by decide +kernel
theorem d_Fid_place_31 : decode b_Fid_place 31 = .ok (.putfield 20, 3) := by decide +kernel
theorem d_Fid_place_34 : decode b_Fid_place 34 = .ok (.aload_n 0, 1) := by decide +kernel
theorem d_Fid_place_35 : decode b_Fid_place 35 = .ok (.iconst 0, 1) := by decide +kernel
theorem d_Fid_place_36 : decode b_Fid_place 36 = .ok (.putfield 42, 3) := by decide +kernel
theorem d_Fid_place_39 : decode b_Fid_place 39 = .ok (.aload_n 0, 1) := by decide +kernel
theorem d_Fid_place_40 : decode b_Fid_place 40 = .ok (.lconst 0, 1) := by decide +kernel
theorem d_Fid_place_41 : decode b_Fid_place 41 = .ok (.putfield 45, 3) := by decide +kernel
theorem d_Fid_place_44 : decode b_Fid_place 44 = .ok (.aload_n 0, 1) := by decide +kernel
theorem d_Fid_place_45 : decode b_Fid_place 45 = .ok (.iconst 0, 1) := by decide +kernel
theorem d_Fid_place_46 : decode b_Fid_place 46 = .ok (.putfield 48, 3) := by decide +kernel
theorem d_Fid_place_49 : decode b_Fid_place 49 = .ok (.return_, 1) := by decide +kernel
abbrev rm_Fid_place : Room := { frames := 0, cells := 0, slots := 0, locals := 0 }
set_option maxRecDepth 100000 in
set_option maxHeartbeats 4000000 in
theorem k_Fid_place {p : Program} {l : Launch} {e : Env} {s : State} {m : MethodId} {args : Array Value} {below : List Frame} {meth : Method} {c : Code} {t : TY} {a0 : Nat} {K : GS → Prop} (X : kX p s m args meth c b_Fid_place 5 "TreeServer$Fid" t) (hret : meth.sig.returnType = none) (G : GS) (p1 : Int64) (p3 : Nat) (p4 : Option Nat) (hwp : w_Fid_place t G a0 p1 p3 p4 K) : kW p l e rm_Fid_place s m args below meth c (MQ below (va_Qv (fun u : GS => K u) (fun u T => HB t u T.heap) (tA t)) args s 0 0 (tA t)) 5 t false 0 [(0, va_rf (some a0)), (1, .long p1), (3, va_rf (some p3)), (4, va_rf p4)] [] G := by
  unfold w_Fid_place at hwp
  refine kw_aload_n (pc := 0) X d_Fid_place_0 rfl 0 rfl ?_
  refine kw_iconst (v := 1) (pc := 1) X d_Fid_place_1 (by decide) ?_
  obtain ⟨f1, hwp⟩ := hwp
  refine kp_46 (a := a0) (x := (1 : Int32)) (pc := 2) X rfl d_Fid_place_2 x_292 rfl f1 (Or.inr rfl) ?_
  obtain ⟨G2, e_G2⟩ : ∃ g, g = si G 46 a0 (1 : Int32) := ⟨_, rfl⟩
  have hwp := hwp G2 e_G2
  refine kW.g e_G2.symm ?_
  refine kw_aload_n (pc := 5) X d_Fid_place_5 rfl 0 rfl ?_
  refine kw_lload_n (pc := 6) X d_Fid_place_6 rfl 1 rfl ?_
  refine kp_47 (a := a0) (x := p1) (pc := 7) X rfl d_Fid_place_7 x_295 rfl f1 ?_
  obtain ⟨G3, e_G3⟩ : ∃ g, g = sl G2 47 a0 p1 := ⟨_, rfl⟩
  have hwp := hwp G3 e_G3
  refine kW.g e_G3.symm ?_
  refine kw_aload_n (pc := 10) X d_Fid_place_10 rfl 0 rfl ?_
  refine kw_aload_n (pc := 11) X d_Fid_place_11 rfl 2 rfl ?_
  refine kp_48 (a := a0) (x := some p3) (pc := 12) X rfl d_Fid_place_12 x_298 rfl f1 ?_
  obtain ⟨G4, e_G4⟩ : ∃ g, g = sr G3 48 a0 (some p3) := ⟨_, rfl⟩
  have hwp := hwp G4 e_G4
  refine kW.g e_G4.symm ?_
  refine kw_aload_n (pc := 15) X d_Fid_place_15 rfl 0 rfl ?_
  refine kw_aload_n (pc := 16) X d_Fid_place_16 rfl 2 rfl ?_
  obtain ⟨f5, hwp⟩ := hwp
  refine kg_0 (a := p3) (pc := 17) X d_Fid_place_17 x_44 rfl f5 ?_
  refine kp_49 (a := a0) (x := (gi G4 0 p3)) (pc := 20) X rfl d_Fid_place_20 x_301 rfl f1 ?_
  obtain ⟨G6, e_G6⟩ : ∃ g, g = si G4 49 a0 (gi G4 0 p3) := ⟨_, rfl⟩
  have hwp := hwp G6 e_G6
  refine kW.g e_G6.symm ?_
  refine kw_aload_n (pc := 23) X d_Fid_place_23 rfl 0 rfl ?_
  refine kw_aload (pc := 24) X d_Fid_place_24 3 rfl ?_
  refine kp_50 (a := a0) (x := p4) (pc := 26) X rfl d_Fid_place_26 x_302 rfl f1 ?_
  obtain ⟨G7, e_G7⟩ : ∃ g, g = sr G6 50 a0 p4 := ⟨_, rfl⟩
  have hwp := hwp G7 e_G7
  refine kW.g e_G7.symm ?_
  refine kw_aload_n (pc := 29) X d_Fid_place_29 rfl 0 rfl ?_
  refine kw_iconst (v := -1) (pc := 30) X d_Fid_place_30 (by decide) ?_
  refine kp_51 (a := a0) (x := (-1 : Int32)) (pc := 31) X rfl d_Fid_place_31 x_304 rfl f1 ?_
  obtain ⟨G8, e_G8⟩ : ∃ g, g = si G7 51 a0 (-1 : Int32) := ⟨_, rfl⟩
  have hwp := hwp G8 e_G8
  refine kW.g e_G8.symm ?_
  refine kw_aload_n (pc := 34) X d_Fid_place_34 rfl 0 rfl ?_
  refine kw_iconst (v := 0) (pc := 35) X d_Fid_place_35 (by decide) ?_
  refine kp_52 (a := a0) (x := (0 : Int32)) (pc := 36) X rfl d_Fid_place_36 x_307 rfl f1 (Or.inl rfl) ?_
  obtain ⟨G9, e_G9⟩ : ∃ g, g = si G8 52 a0 (0 : Int32) := ⟨_, rfl⟩
  have hwp := hwp G9 e_G9
  refine kW.g e_G9.symm ?_
  refine kw_aload_n (pc := 39) X d_Fid_place_39 rfl 0 rfl ?_
  refine kw_lconst (v := 0) (pc := 40) X d_Fid_place_40 (by decide) ?_
  refine kp_53 (a := a0) (x := (0 : Int64)) (pc := 41) X rfl d_Fid_place_41 x_309 rfl f1 ?_
  obtain ⟨G10, e_G10⟩ : ∃ g, g = sl G9 53 a0 (0 : Int64) := ⟨_, rfl⟩
  have hwp := hwp G10 e_G10
  refine kW.g e_G10.symm ?_
  refine kw_aload_n (pc := 44) X d_Fid_place_44 rfl 0 rfl ?_
  refine kw_iconst (v := 0) (pc := 45) X d_Fid_place_45 (by decide) ?_
  refine kp_54 (a := a0) (x := (0 : Int32)) (pc := 46) X rfl d_Fid_place_46 x_311 rfl f1 ?_
  obtain ⟨G11, e_G11⟩ : ∃ g, g = si G10 54 a0 (0 : Int32) := ⟨_, rfl⟩
  have hwp := hwp G11 e_G11
  refine kW.g e_G11.symm ?_
  exact kr_v (pc := 49) X hret d_Fid_place_49 hwp
set_option maxRecDepth 100000 in
set_option maxHeartbeats 4000000 in
theorem c_Fid_place (l : Launch) (t : TY) (G : GS) (a0 : Nat) (p1 : Int64) (p3 : Nat) (p4 : Option Nat) (K : GS → Prop) : Met l y_Fid_place (Cond.code y_Fid_place b_Fid_place 5 (Option.none : Option Jvm.ClassFile.FieldType) :: GW) rm_Fid_place (va_Pc [.ref a0, .long p1, .ref p3, va_rf p4] (fun U => HB t G U.heap ∧ HK t U ∧ w_Fid_place t G a0 p1 p3 p4 K)) (va_Qv (fun u : GS => K u) (fun u T => HB t u T.heap) (tA t)) 0 0 (tA t) := by
  refine Met.ofW (cc := b_Fid_place) (maxL := 5) (ret := none) (by decide) rfl ?_
  intro p e s m args below meth c s₁ B hml hv
  obtain ⟨rfl, hB, hK, hwp⟩ := hv
  have hts := atoms_spec (ws := Cond.code y_Fid_place b_Fid_place 5 (Option.none : Option Jvm.ClassFile.FieldType) :: GW) B.pre
  have X : kX p s m _ meth c b_Fid_place 5 "TreeServer$Fid" t := ⟨B.exec, B.bytes, hml, findClass_of_methodNamed B.named, fun w h => hts w (List.mem_cons_of_mem _ h), B.notSynchronized, hK⟩
  have hZ : kZ t false s G s.heap [] := ⟨hB, va_S.rf, fun _ => ⟨rfl, rfl⟩⟩
  rw [lg_entry_eq]
  have hl := lv_entry ([.ref a0, .long p1, .ref p3, va_rf p4]) (n := 5) (by simp [lg_sl, rf_cat, cat_i, cat_l, cat_r])
  rw [show lv_args 0 [.ref a0, .long p1, .ref p3, va_rf p4] = [(0, .ref a0), (1, .long p1), (3, .ref p3), (4, va_rf p4)] from by simp [lv_args, rf_cat, cat_i, cat_l, cat_r]] at hl
  exact k_Fid_place X B.returns _ _ _ _ hwp s.heap [] _ hl hZ
abbrev b_Answer_putQid : ByteArray := prog_2_method_8_code
def y_Answer_putQid : MethodName := ⟨"TreeServer$Answer", "putQid", "(LTreeServer$Node;)V"⟩
theorem d_Answer_putQid_0 : decode b_Answer_putQid 0 = .ok (.aload_n 0, 1) := by decide +kernel
theorem d_Answer_putQid_1 : decode b_Answer_putQid 1 = .ok (.aload_n 1, 1) := by decide +kernel
theorem d_Answer_putQid_2 : decode b_Answer_putQid 2 = .ok (.getfield 60, 3) := by decide +kernel
theorem d_Answer_putQid_5 : decode b_Answer_putQid 5 = .ok (.bipush 24, 2) := by decide +kernel
theorem d_Answer_putQid_7 : decode b_Answer_putQid 7 = .ok (.iushr, 1) := by decide +kernel
theorem d_Answer_putQid_8 : decode b_Answer_putQid 8 = .ok (.i2l, 1) := by decide +kernel
theorem d_Answer_putQid_9 : decode b_Answer_putQid 9 = .ok (.iconst 1, 1) := by decide +kernel
theorem d_Answer_putQid_10 : decode b_Answer_putQid 10 = .ok (.invokevirtual 19, 3) := by decide +kernel
theorem d_Answer_putQid_13 : decode b_Answer_putQid 13 = .ok (.aload_n 0, 1) := by decide +kernel
theorem d_Answer_putQid_14 : decode b_Answer_putQid 14 = .ok (.aload_n 1, 1) := by decide +kernel
theorem d_Answer_putQid_15 : decode b_Answer_putQid 15 = .ok (.getfield 65, 3) := by decide +kernel
theorem d_Answer_putQid_18 : decode b_Answer_putQid 18 = .ok (.i2l, 1) := by decide +kernel
theorem d_Answer_putQid_19 : decode b_Answer_putQid 19 = .ok (.iconst 4, 1) := by decide +kernel
theorem d_Answer_putQid_20 : decode b_Answer_putQid 20 = .ok (.invokevirtual 19, 3) := by decide +kernel
theorem d_Answer_putQid_23 : decode b_Answer_putQid 23 = .ok (.aload_n 0, 1) := by decide +kernel
theorem d_Answer_putQid_24 : decode b_Answer_putQid 24 = .ok (.aload_n 1, 1) := by decide +kernel
theorem d_Answer_putQid_25 : decode b_Answer_putQid 25 = .ok (.getfield 68, 3) := by decide +kernel
theorem d_Answer_putQid_28 : decode b_Answer_putQid 28 = .ok (.i2l, 1) := by decide +kernel
theorem d_Answer_putQid_29 : decode b_Answer_putQid 29 = .ok (.bipush 8, 2) := by decide +kernel
theorem d_Answer_putQid_31 : decode b_Answer_putQid 31 = .ok (.invokevirtual 19, 3) := by decide +kernel
theorem d_Answer_putQid_34 : decode b_Answer_putQid 34 = .ok (.return_, 1) := by decide +kernel
abbrev rm_Answer_putQid : Room := { frames := 1, cells := 0, slots := 0, locals := 24 }
set_option maxRecDepth 100000 in
set_option maxHeartbeats 4000000 in
theorem k_Answer_putQid {p : Program} {l : Launch} {e : Env} {s : State} {m : MethodId} {args : Array Value} {below : List Frame} {meth : Method} {c : Code} {t : TY} {a0 : Nat} {K : GS → Prop} (X : kX p s m args meth c b_Answer_putQid 2 "TreeServer$Answer" t) (hret : meth.sig.returnType = none) (G : GS) (p1 : Nat) (hwp : w_Answer_putQid t G a0 p1 K) : kW p l e rm_Answer_putQid s m args below meth c (MQ below (va_Qv (fun u : GS => K u) (fun u T => HB t u T.heap) (tA t)) args s 0 0 (tA t)) 2 t false 0 [(0, va_rf (some a0)), (1, va_rf (some p1))] [] G := by
  unfold w_Answer_putQid at hwp
  refine kw_aload_n (pc := 0) X d_Answer_putQid_0 rfl 0 rfl ?_
  refine kw_aload_n (pc := 1) X d_Answer_putQid_1 rfl 1 rfl ?_
  obtain ⟨f1, hwp⟩ := hwp
  refine kg_2 (a := p1) (pc := 2) X d_Answer_putQid_2 x_53 rfl f1 ?_
  refine kw_bipush (v := 24) (pc := 5) X d_Answer_putQid_5 (by decide) ?_
  refine kw_iushr (pc := 7) X d_Answer_putQid_7 ?_
  refine kw_i2l (pc := 8) X d_Answer_putQid_8 ?_
  refine kw_iconst (v := 1) (pc := 9) X d_Answer_putQid_9 (by decide) ?_
  obtain ⟨f2, hwp⟩ := hwp
  refine kcV_v (n := 2) (As := [.long (((gi G 2 p1).toUInt32 >>> ((24 : Int32).toUInt32 &&& Int32.toUInt32 31)).toInt32.toInt64), .int (1 : Int32)]) (rest := []) (pc := 10) X rfl (c_Answer_put l t G a0 (((gi G 2 p1).toUInt32 >>> ((24 : Int32).toUInt32 &&& Int32.toUInt32 31)).toInt32.toInt64) (1 : Int32) _) (cwV_of (C := "TreeServer$Answer") X x_549 x_546 x_547 x_548 x_10 (by decide +kernel) ⟨rfl, rfl⟩ (by decide)) (rv_6 X f2) rfl rfl (by decide) d_Answer_putQid_10 hwp (fun G3 hwp => ?_)
  refine kw_aload_n (pc := 13) X d_Answer_putQid_13 rfl 0 rfl ?_
  refine kw_aload_n (pc := 14) X d_Answer_putQid_14 rfl 1 rfl ?_
  refine kg_1 (a := p1) (pc := 15) X d_Answer_putQid_15 x_49 rfl f1 ?_
  refine kw_i2l (pc := 18) X d_Answer_putQid_18 ?_
  refine kw_iconst (v := 4) (pc := 19) X d_Answer_putQid_19 (by decide) ?_
  refine kcV_v (n := 2) (As := [.long ((gi G3 1 p1).toInt64), .int (4 : Int32)]) (rest := []) (pc := 20) X rfl (c_Answer_put l t G3 a0 ((gi G3 1 p1).toInt64) (4 : Int32) _) (cwV_of (C := "TreeServer$Answer") X x_549 x_546 x_547 x_548 x_10 (by decide +kernel) ⟨rfl, rfl⟩ (by decide)) (rv_6 X f2) rfl rfl (by decide) d_Answer_putQid_20 hwp (fun G4 hwp => ?_)
  refine kw_aload_n (pc := 23) X d_Answer_putQid_23 rfl 0 rfl ?_
  refine kw_aload_n (pc := 24) X d_Answer_putQid_24 rfl 1 rfl ?_
  refine kg_0 (a := p1) (pc := 25) X d_Answer_putQid_25 x_45 rfl f1 ?_
  refine kw_i2l (pc := 28) X d_Answer_putQid_28 ?_
  refine kw_bipush (v := 8) (pc := 29) X d_Answer_putQid_29 (by decide) ?_
  refine kcV_v (n := 2) (As := [.long ((gi G4 0 p1).toInt64), .int (8 : Int32)]) (rest := []) (pc := 31) X rfl (c_Answer_put l t G4 a0 ((gi G4 0 p1).toInt64) (8 : Int32) _) (cwV_of (C := "TreeServer$Answer") X x_549 x_546 x_547 x_548 x_10 (by decide +kernel) ⟨rfl, rfl⟩ (by decide)) (rv_6 X f2) rfl rfl (by decide) d_Answer_putQid_31 hwp (fun G5 hwp => ?_)
  exact kr_v (pc := 34) X hret d_Answer_putQid_34 hwp
set_option maxRecDepth 100000 in
set_option maxHeartbeats 4000000 in
theorem c_Answer_putQid (l : Launch) (t : TY) (G : GS) (a0 : Nat) (p1 : Nat) (K : GS → Prop) : Met l y_Answer_putQid (Cond.code y_Answer_putQid b_Answer_putQid 2 (Option.none : Option Jvm.ClassFile.FieldType) :: GW) rm_Answer_putQid (va_Pc [.ref a0, .ref p1] (fun U => HB t G U.heap ∧ HK t U ∧ w_Answer_putQid t G a0 p1 K)) (va_Qv (fun u : GS => K u) (fun u T => HB t u T.heap) (tA t)) 0 0 (tA t) := by
  refine Met.ofW (cc := b_Answer_putQid) (maxL := 2) (ret := none) (by decide) rfl ?_
  intro p e s m args below meth c s₁ B hml hv
  obtain ⟨rfl, hB, hK, hwp⟩ := hv
  have hts := atoms_spec (ws := Cond.code y_Answer_putQid b_Answer_putQid 2 (Option.none : Option Jvm.ClassFile.FieldType) :: GW) B.pre
  have X : kX p s m _ meth c b_Answer_putQid 2 "TreeServer$Answer" t := ⟨B.exec, B.bytes, hml, findClass_of_methodNamed B.named, fun w h => hts w (List.mem_cons_of_mem _ h), B.notSynchronized, hK⟩
  have hZ : kZ t false s G s.heap [] := ⟨hB, va_S.rf, fun _ => ⟨rfl, rfl⟩⟩
  rw [lg_entry_eq]
  have hl := lv_entry ([.ref a0, .ref p1]) (n := 2) (by simp [lg_sl, rf_cat, cat_i, cat_l, cat_r])
  exact k_Answer_putQid X B.returns _ _ hwp s.heap [] _ hl hZ
abbrev b_S_attach : ByteArray := prog_1_method_26_code
def y_S_attach : MethodName := ⟨"TreeServer", "attach", "(LTreeServer$Link;)Ljava/lang/String;"⟩
theorem d_S_attach_0 : decode b_S_attach 0 = .ok (.aload_n 0, 1) := by decide +kernel
theorem d_S_attach_1 : decode b_S_attach 1 = .ok (.getfield 33, 3) := by decide +kernel
theorem d_S_attach_4 : decode b_S_attach 4 = .ok (.bipush 7, 2) := by decide +kernel
theorem d_S_attach_6 : decode b_S_attach 6 = .ok (.iconst 4, 1) := by decide +kernel
theorem d_S_attach_7 : decode b_S_attach 7 = .ok (.invokevirtual 178, 3) := by decide +kernel
theorem d_S_attach_10 : decode b_S_attach 10 = .ok (.lstore_n 2, 1) := by decide +kernel
theorem d_S_attach_11 : decode b_S_attach 11 = .ok (.aload_n 1, 1) := by decide +kernel
theorem d_S_attach_12 : decode b_S_attach 12 = .ok (.lload_n 2, 1) := by decide +kernel
theorem d_S_attach_13 : decode b_S_attach 13 = .ok (.invokevirtual 197, 3) := by decide +kernel
theorem d_S_attach_16 : decode b_S_attach 16 = .ok (.ifnull 7, 3) := by decide +kernel
theorem d_S_attach_19 : decode b_S_attach 19 = .ok (.ldc_w 315, 3) := by decide +kernel
theorem d_S_attach_22 : decode b_S_attach 22 = .ok (.areturn, 1) := by decide +kernel
theorem d_S_attach_23 : decode b_S_attach 23 = .ok (.aload_n 1, 1) := by decide +kernel
theorem d_S_attach_24 : decode b_S_attach 24 = .ok (.invokevirtual 317, 3) := by decide +kernel
theorem d_S_attach_27 : decode b_S_attach 27 = .ok (.astore 4, 2) := by decide +kernel
theorem d_S_attach_29 : decode b_S_attach 29 = .ok (.aload 4, 2) := by decide +kernel
theorem d_S_attach_31 : decode b_S_attach 31 = .ok (.ifnonnull 7, 3) := by decide +kernel
theorem d_S_attach_34 : decode b_S_attach 34 = .ok (.ldc_w 320, 3) := by decide +kernel
theorem d_S_attach_37 : decode b_S_attach 37 = .ok (.areturn, 1) := by decide +kernel
theorem d_S_attach_38 : decode b_S_attach 38 = .ok (.aload_n 0, 1) := by decide +kernel
theorem d_S_attach_39 : decode b_S_attach 39 = .ok (.getfield 33, 3) := by decide +kernel
theorem d_S_attach_42 : decode b_S_attach 42 = .ok (.bipush 11, 2) := by decide +kernel
theorem d_S_attach_44 : decode b_S_attach 44 = .ok (.iconst 4, 1) := by decide +kernel
theorem d_S_attach_45 : decode b_S_attach 45 = .ok (.invokevirtual 178, 3) := by decide +kernel
theorem d_S_attach_48 : decode b_S_attach 48 = .ok (.ldc2_w 322, 3) := by decide +kernel
theorem d_S_attach_51 : decode b_S_attach 51 = .ok (.lcmp, 1) := by decide +kernel
theorem d_S_attach_52 : decode b_S_attach 52 = .ok (.ifCond .eq 6, 3) := by decide +kernel
theorem d_S_attach_55 : decode b_S_attach 55 = .ok (.ldc 189, 2) := by decide +kernel
theorem d_S_attach_57 : decode b_S_attach 57 = .ok (.areturn, 1) := by decide +kernel
theorem d_S_attach_58 : decode b_S_attach 58 = .ok (.aload_n 0, 1) := by decide +kernel
theorem d_S_attach_59 : decode b_S_attach 59 = .ok (.getfield 33, 3) := by decide +kernel
theorem d_S_attach_62 : decode b_S_attach 62 = .ok (.iconst 0, 1) := by decide +kernel
theorem d_S_attach_63 : decode b_S_attach 63 = .ok (.invokevirtual 324, 3) := by decide +kernel
theorem d_S_attach_66 : decode b_S_attach 66 = .ok (.astore 5, 2) := by decide +kernel
theorem d_S_attach_68 : decode b_S_attach 68 = .ok (.aload 5, 2) := by decide +kernel
theorem d_S_attach_70 : decode b_S_attach 70 = .ok (.ifnonnull 7, 3) := by decide +kernel
theorem d_S_attach_73 : decode b_S_attach 73 = .ok (.ldc_w 328, 3) := by decide +kernel
theorem d_S_attach_76 : decode b_S_attach 76 = .ok (.areturn, 1) := by decide +kernel
theorem d_S_attach_77 : decode b_S_attach 77 = .ok (.aload 4, 2) := by decide +kernel
theorem d_S_attach_79 : decode b_S_attach 79 = .ok (.lload_n 2, 1) := by decide +kernel
theorem d_S_attach_80 : decode b_S_attach 80 = .ok (.aload_n 0, 1) := by decide +kernel
theorem d_S_attach_81 : decode b_S_attach 81 = .ok (.getfield 10, 3) := by decide +kernel
theorem d_S_attach_84 : decode b_S_attach 84 = .ok (.getfield 329, 3) := by decide +kernel
theorem d_S_attach_87 : decode b_S_attach 87 = .ok (.aload 5, 2) := by decide +kernel
theorem d_S_attach_89 : decode b_S_attach 89 = .ok (.invokevirtual 332, 3) := by decide +kernel
theorem d_S_attach_92 : decode b_S_attach 92 = .ok (.aload_n 0, 1) := by decide +kernel
theorem d_S_attach_93 : decode b_S_attach 93 = .ok (.getfield 40, 3) := by decide +kernel
theorem d_S_attach_96 : decode b_S_attach 96 = .ok (.aload_n 0, 1) := by decide +kernel
theorem d_S_attach_97 : decode b_S_attach 97 = .ok (.getfield 10, 3) := by decide +kernel
theorem d_S_attach_100 : decode b_S_attach 100 = .ok (.getfield 329, 3) := by decide +kernel
theorem d_S_attach_103 : decode b_S_attach 103 = .ok (.invokevirtual 336, 3) := by decide +kernel
theorem d_S_attach_106 : decode b_S_attach 106 = .ok (.ldc 174, 2) := by decide +kernel
theorem d_S_attach_108 : decode b_S_attach 108 = .ok (.areturn, 1) := by decide +kernel
abbrev rm_S_attach : Room := { frames := 6, cells := 0, slots := 0, locals := 146 }
set_option maxRecDepth 100000 in
set_option maxHeartbeats 4000000 in
theorem k_S_attach {p : Program} {l : Launch} {e : Env} {s : State} {m : MethodId} {args : Array Value} {below : List Frame} {meth : Method} {c : Code} {t : TY} {a0 : Nat} {K : GS → Option Nat → Prop} (X : kX p s m args meth c b_S_attach 6 "TreeServer" t) (hret : meth.sig.returnType = some (.object "java/lang/String")) (G : GS) (p1 : Nat) (hwp : w_S_attach t G a0 p1 K) : kW p l e rm_S_attach s m args below meth c (MQ below (va_Qq (fun r (u : GS) => K u r) (fun u T => HB t u T.heap) (tA t)) args s 0 0 (tA t)) 6 t false 0 [(0, va_rf (some a0)), (1, va_rf (some p1))] [] G := by
  unfold w_S_attach at hwp
  refine kw_aload_n (pc := 0) X d_S_attach_0 rfl 0 rfl ?_
  obtain ⟨f1, hwp⟩ := hwp
  refine kg_66 (a := a0) (pc := 1) X d_S_attach_1 x_367 rfl f1 ?_
  refine kw_bipush (v := 7) (pc := 4) X d_S_attach_4 (by decide) ?_
  refine kw_iconst (v := 4) (pc := 6) X d_S_attach_6 (by decide) ?_
  obtain ⟨a2, h_a2, hwp⟩ := hwp
  obtain ⟨f3, hwp⟩ := hwp
  refine kW.st (st' := [.int (4 : Int32), .int (7 : Int32), .ref a2]) (by simp only [h_a2]; rfl) ?_
  refine kcVp_l (n := 2) (As := [.int (7 : Int32), .int (4 : Int32)]) (rest := []) (pc := 7) X (c_Message_number l t G a2 (7 : Int32) (4 : Int32) _) (cwV_of (C := "TreeServer$Message") X x_541 x_578 x_539 x_540 x_9 (by decide +kernel) ⟨rfl, rfl⟩ (by decide)) (rv_5 X f3) rfl rfl (by decide) d_S_attach_7 hwp (fun v4 hwp => ?_)
  refine kw_lstore_n (i := 2) (lv' := [(2, .long v4), (0, va_rf (some a0)), (1, va_rf (some p1))]) (pc := 10) X d_S_attach_10 rfl (by decide) rfl ?_
  refine kw_aload_n (pc := 11) X d_S_attach_11 rfl 2 rfl ?_
  refine kw_lload_n (pc := 12) X d_S_attach_12 rfl 0 rfl ?_
  obtain ⟨f5, hwp⟩ := hwp
  refine kcVp_q (n := 1) (As := [.long v4]) (rest := []) (pc := 13) X (c_Link_find l t G p1 v4 _) (cwV_of (C := "TreeServer$Link") X x_656 x_653 x_654 x_655 x_11 (by decide +kernel) ⟨rfl, rfl⟩ (by decide)) (rv_8 X f5) rfl rfl (by decide) d_S_attach_13 hwp (fun x6 hwp => ?_)
  refine kw_ifnull (tgt := 23) (pc := 16) X d_S_attach_16 (by decide) (fun h => ?_) (fun h => ?_)
  · have hwp := ite_t h hwp
    refine kw_aload_n (pc := 23) X d_S_attach_23 rfl 2 rfl ?_
    refine kcVp_q (n := 0) (As := []) (rest := []) (pc := 24) X (c_Link_spareFid l t G p1 _) (cwV_of (C := "TreeServer$Link") X x_661 x_658 x_659 x_660 x_11 (by decide +kernel) ⟨rfl, rfl⟩ (by decide)) (rv_8 X f5) rfl rfl (by decide) d_S_attach_24 hwp (fun x7 hwp => ?_)
    refine kw_astore (i := 4) (lv' := [(4, va_rf x7), (2, .long v4), (0, va_rf (some a0)), (1, va_rf (some p1))]) (pc := 27) X d_S_attach_27 (by decide) rfl ?_
    refine kw_aload (pc := 29) X d_S_attach_29 0 rfl ?_
    refine kw_ifnonnull (tgt := 38) (pc := 31) X d_S_attach_31 (by decide) (fun h => ?_) (fun h => ?_)
    · have hwp := ite_t h hwp
      refine kw_aload_n (pc := 38) X d_S_attach_38 rfl 2 rfl ?_
      refine kg_66 (a := a0) (pc := 39) X d_S_attach_39 x_367 rfl f1 ?_
      refine kw_bipush (v := 11) (pc := 42) X d_S_attach_42 (by decide) ?_
      refine kw_iconst (v := 4) (pc := 44) X d_S_attach_44 (by decide) ?_
      refine kW.st (st' := [.int (4 : Int32), .int (11 : Int32), .ref a2]) (by simp only [h_a2]; rfl) ?_
      refine kcVp_l (n := 2) (As := [.int (11 : Int32), .int (4 : Int32)]) (rest := []) (pc := 45) X (c_Message_number l t G a2 (11 : Int32) (4 : Int32) _) (cwV_of (C := "TreeServer$Message") X x_541 x_578 x_539 x_540 x_9 (by decide +kernel) ⟨rfl, rfl⟩ (by decide)) (rv_5 X f3) rfl rfl (by decide) d_S_attach_45 hwp (fun v8 hwp => ?_)
      refine kw_ldc2 (v := 4294967295) (pc := 48) X d_S_attach_48 x_663 ?_
      refine kw_lcmp_eq (tgt := 58) (pc := 51) X d_S_attach_51 d_S_attach_52 (by decide) (fun h => ?_) (fun h => ?_)
      · have hwp := ite_t h hwp
        refine kw_aload_n (pc := 58) X d_S_attach_58 rfl 2 rfl ?_
        refine kg_66 (a := a0) (pc := 59) X d_S_attach_59 x_367 rfl f1 ?_
        refine kw_iconst (v := 0) (pc := 62) X d_S_attach_62 (by decide) ?_
        refine kW.st (st' := [.int (0 : Int32), .ref a2]) (by simp only [h_a2]; rfl) ?_
        refine kcVp_q (n := 1) (As := [.int (0 : Int32)]) (rest := []) (pc := 63) X (c_Message_userNamed l t G a2 (0 : Int32) _) (cwV_of (C := "TreeServer$Message") X x_667 x_664 x_665 x_666 x_9 (by decide +kernel) ⟨rfl, rfl⟩ (by decide)) (rv_5 X f3) rfl rfl (by decide) d_S_attach_63 hwp (fun x9 hwp => ?_)
        refine kw_astore (i := 5) (lv' := [(5, va_rf x9), (4, va_rf x7), (2, .long v4), (0, va_rf (some a0)), (1, va_rf (some p1))]) (pc := 66) X d_S_attach_66 (by decide) (by simp [rf_cat, cat_i, cat_l, cat_r]) ?_
        refine kw_aload (pc := 68) X d_S_attach_68 0 rfl ?_
        refine kw_ifnonnull (tgt := 77) (pc := 70) X d_S_attach_70 (by decide) (fun h => ?_) (fun h => ?_)
        · have hwp := ite_t h hwp
          refine kw_aload (pc := 77) X d_S_attach_77 1 rfl ?_
          refine kw_lload_n (pc := 79) X d_S_attach_79 rfl 2 rfl ?_
          refine kw_aload_n (pc := 80) X d_S_attach_80 rfl 3 rfl ?_
          refine kg_63 (a := a0) (pc := 81) X d_S_attach_81 x_364 rfl f1 ?_
          obtain ⟨a10, h_a10, hwp⟩ := hwp
          obtain ⟨f11, hwp⟩ := hwp
          refine kg_13 (a := a10) (pc := 84) X d_S_attach_84 x_120 h_a10 f11 ?_
          refine kw_aload (pc := 87) X d_S_attach_87 0 rfl ?_
          obtain ⟨a12, h_a12, hwp⟩ := hwp
          obtain ⟨f13, hwp⟩ := hwp
          obtain ⟨a14, h_a14, hwp⟩ := hwp
          refine kW.st (st' := [va_rf x9, .ref a14, .long v4, .ref a12]) (by simp only [h_a14, h_a12]; rfl) ?_
          refine kcV_v (n := 3) (As := [.long v4, .ref a14, va_rf x9]) (rest := []) (pc := 89) X rfl (c_Fid_place l t G a12 v4 a14 x9 _) (cwV_of (C := "TreeServer$Fid") X x_675 x_672 x_673 x_674 x_12 (by decide +kernel) ⟨rfl, rfl⟩ (by decide)) (rv_7 X f13) rfl rfl (by decide) d_S_attach_89 hwp (fun G15 hwp => ?_)
          refine kw_aload_n (pc := 92) X d_S_attach_92 rfl 3 rfl ?_
          refine kg_67 (a := a0) (pc := 93) X d_S_attach_93 x_368 rfl f1 ?_
          refine kw_aload_n (pc := 96) X d_S_attach_96 rfl 3 rfl ?_
          refine kg_63 (a := a0) (pc := 97) X d_S_attach_97 x_364 rfl f1 ?_
          obtain ⟨a16, h_a16, hwp⟩ := hwp
          obtain ⟨f17, hwp⟩ := hwp
          refine kg_13 (a := a16) (pc := 100) X d_S_attach_100 x_120 h_a16 f17 ?_
          obtain ⟨a18, h_a18, hwp⟩ := hwp
          obtain ⟨f19, hwp⟩ := hwp
          obtain ⟨a20, h_a20, hwp⟩ := hwp
          refine kW.st (st' := [.ref a20, .ref a18]) (by simp only [h_a20, h_a18]; rfl) ?_
          refine kcV_v (n := 1) (As := [.ref a20]) (rest := []) (pc := 103) X rfl (c_Answer_putQid l t G15 a18 a20 _) (cwV_of (C := "TreeServer$Answer") X x_679 x_676 x_677 x_678 x_10 (by decide +kernel) ⟨rfl, rfl⟩ (by decide)) (rv_6 X f19) rfl rfl (by decide) d_S_attach_103 hwp (fun G21 hwp => ?_)
          refine kw_ldcS (tx := "") (j := 2) (pc := 106) X d_S_attach_106 (by decide) rfl ?_
          exact kr_q (pc := 108) X hret d_S_attach_108 (Or.inl ⟨_, rfl⟩) hwp
        · have hwp := ite_f (not_not_intro h) hwp
          refine kw_ldcwS (j := 10) (pc := 73) X d_S_attach_73 (by decide) rfl ?_
          exact kr_q (pc := 76) X hret d_S_attach_76 (Or.inl ⟨_, rfl⟩) hwp
      · have hwp := ite_f h hwp
        refine kw_ldcS (tx := "") (j := 7) (pc := 55) X d_S_attach_55 (by decide) rfl ?_
        exact kr_q (pc := 57) X hret d_S_attach_57 (Or.inl ⟨_, rfl⟩) hwp
    · have hwp := ite_f (not_not_intro h) hwp
      refine kw_ldcwS (j := 9) (pc := 34) X d_S_attach_34 (by decide) rfl ?_
      exact kr_q (pc := 37) X hret d_S_attach_37 (Or.inl ⟨_, rfl⟩) hwp
  · have hwp := ite_f h hwp
    refine kw_ldcwS (j := 8) (pc := 19) X d_S_attach_19 (by decide) rfl ?_
    exact kr_q (pc := 22) X hret d_S_attach_22 (Or.inl ⟨_, rfl⟩) hwp
set_option maxRecDepth 100000 in
set_option maxHeartbeats 4000000 in
theorem c_S_attach (l : Launch) (t : TY) (G : GS) (a0 : Nat) (p1 : Nat) (K : GS → Option Nat → Prop) : Met l y_S_attach (Cond.code y_S_attach b_S_attach 6 (Option.some (Jvm.ClassFile.FieldType.object "java/lang/String")) :: GW) rm_S_attach (va_Pc [.ref a0, .ref p1] (fun U => HB t G U.heap ∧ HK t U ∧ w_S_attach t G a0 p1 K)) (va_Qq (fun r (u : GS) => K u r) (fun u T => HB t u T.heap) (tA t)) 0 0 (tA t) := by
  refine Met.ofW (cc := b_S_attach) (maxL := 6) (ret := some (.object "java/lang/String")) (by decide) rfl ?_
  intro p e s m args below meth c s₁ B hml hv
  obtain ⟨rfl, hB, hK, hwp⟩ := hv
  have hts := atoms_spec (ws := Cond.code y_S_attach b_S_attach 6 (Option.some (Jvm.ClassFile.FieldType.object "java/lang/String")) :: GW) B.pre
  have X : kX p s m _ meth c b_S_attach 6 "TreeServer" t := ⟨B.exec, B.bytes, hml, findClass_of_methodNamed B.named, fun w h => hts w (List.mem_cons_of_mem _ h), B.notSynchronized, hK⟩
  have hZ : kZ t false s G s.heap [] := ⟨hB, va_S.rf, fun _ => ⟨rfl, rfl⟩⟩
  rw [lg_entry_eq]
  have hl := lv_entry ([.ref a0, .ref p1]) (n := 6) (by simp [lg_sl, rf_cat, cat_i, cat_l, cat_r])
  exact k_S_attach X B.returns _ _ hwp s.heap [] _ hl hZ
abbrev b_Node_isDirectory : ByteArray := prog_9_method_3_code
def y_Node_isDirectory : MethodName := ⟨"TreeServer$Node", "isDirectory", "()Z"⟩
theorem d_Node_isDirectory_0 : decode b_Node_isDirectory 0 = .ok (.aload_n 0, 1) := by decide +kernel
theorem d_Node_isDirectory_1 : decode b_Node_isDirectory 1 = .ok (.getfield 37, 3) := by decide +kernel
theorem d_Node_isDirectory_4 : decode b_Node_isDirectory 4 = .ok (.ldc 40, 2) := by decide +kernel
theorem d_Node_isDirectory_6 : decode b_Node_isDirectory 6 = .ok (.iand, 1) := by decide +kernel
theorem d_Node_isDirectory_7 : decode b_Node_isDirectory 7 = .ok (.ifCond .eq 7, 3) := by decide +kernel
theorem d_Node_isDirectory_10 : decode b_Node_isDirectory 10 = .ok (.iconst 1, 1) := by decide +kernel
theorem d_Node_isDirectory_11 : decode b_Node_isDirectory 11 = .ok (.goto 4, 3) := by decide +kernel
theorem d_Node_isDirectory_14 : decode b_Node_isDirectory 14 = .ok (.iconst 0, 1) := by decide +kernel
theorem d_Node_isDirectory_15 : decode b_Node_isDirectory 15 = .ok (.ireturn, 1) := by decide +kernel
abbrev rm_Node_isDirectory : Room := { frames := 0, cells := 0, slots := 0, locals := 0 }
set_option maxRecDepth 100000 in
set_option maxHeartbeats 4000000 in
theorem k_Node_isDirectory {p : Program} {l : Launch} {e : Env} {s : State} {m : MethodId} {args : Array Value} {below : List Frame} {meth : Method} {c : Code} {t : TY} {a0 : Nat} {G : GS} {K : Int32 → Prop} (X : kX p s m args meth c b_Node_isDirectory 1 "TreeServer$Node" t) (hret : meth.sig.returnType = some .boolean)  (hwp : w_Node_isDirectory t G a0 K) : kW p l e rm_Node_isDirectory s m args below meth c (MQ below (vp_Si (fun r => isB r ∧ K r)) args s 0 0 (fun _ => False)) 1 t true 0 [(0, va_rf (some a0))] [] G := by
  unfold w_Node_isDirectory at hwp
  refine kw_aload_n (pc := 0) X d_Node_isDirectory_0 rfl 0 rfl ?_
  obtain ⟨f1, hwp⟩ := hwp
  refine kg_2 (a := a0) (pc := 1) X d_Node_isDirectory_1 x_51 rfl f1 ?_
  refine kw_ldc (v := -2147483648) (pc := 4) X d_Node_isDirectory_4 x_698 ?_
  refine kw_iand (pc := 6) X d_Node_isDirectory_6 ?_
  refine kw_if_eq (tgt := 14) (pc := 7) X d_Node_isDirectory_7 (by decide) (fun h => ?_) (fun h => ?_)
  · have hwp := ite_t h hwp
    refine kw_iconst (v := 0) (pc := 14) X d_Node_isDirectory_14 (by decide) ?_
    exact krp_z (pc := 15) X hret d_Node_isDirectory_15 (Or.inl rfl) hwp
  · have hwp := ite_f h hwp
    refine kw_iconst (v := 1) (pc := 10) X d_Node_isDirectory_10 (by decide) ?_
    refine kw_goto (tgt := 15) (pc := 11) X d_Node_isDirectory_11 (by decide) ?_
    exact krp_z (pc := 15) X hret d_Node_isDirectory_15 (Or.inr rfl) hwp
set_option maxRecDepth 100000 in
set_option maxHeartbeats 4000000 in
theorem c_Node_isDirectory (l : Launch) (t : TY) (G : GS) (a0 : Nat) (K : Int32 → Prop) : Met l y_Node_isDirectory (Cond.code y_Node_isDirectory b_Node_isDirectory 1 (Option.some Jvm.ClassFile.FieldType.boolean) :: GW) rm_Node_isDirectory (va_Pc [.ref a0] (fun U => HB t G U.heap ∧ HK t U ∧ w_Node_isDirectory t G a0 K)) (vp_Si (fun r => isB r ∧ K r)) 0 0 (fun _ => False) := by
  refine Met.ofW (cc := b_Node_isDirectory) (maxL := 1) (ret := some .boolean) (by decide) rfl ?_
  intro p e s m args below meth c s₁ B hml hv
  obtain ⟨rfl, hB, hK, hwp⟩ := hv
  have hts := atoms_spec (ws := Cond.code y_Node_isDirectory b_Node_isDirectory 1 (Option.some Jvm.ClassFile.FieldType.boolean) :: GW) B.pre
  have X : kX p s m _ meth c b_Node_isDirectory 1 "TreeServer$Node" t := ⟨B.exec, B.bytes, hml, findClass_of_methodNamed B.named, fun w h => hts w (List.mem_cons_of_mem _ h), B.notSynchronized, hK⟩
  have hZ : kZ t true s G s.heap [] := ⟨hB, va_S.rf, fun _ => ⟨rfl, rfl⟩⟩
  rw [lg_entry_eq]
  have hl := lv_entry ([.ref a0]) (n := 1) (by simp [lg_sl, rf_cat, cat_i, cat_l, cat_r])
  exact k_Node_isDirectory X B.returns hwp s.heap [] _ hl hZ
abbrev b_S_stepRefusal : ByteArray := prog_1_method_29_code
def y_S_stepRefusal : MethodName := ⟨"TreeServer", "stepRefusal", "(LTreeServer$Node;LTreeServer$User;)Ljava/lang/String;"⟩
theorem d_S_stepRefusal_0 : decode b_S_stepRefusal 0 = .ok (.aload_n 0, 1) := by decide +kernel
theorem d_S_stepRefusal_1 : decode b_S_stepRefusal 1 = .ok (.invokevirtual 365, 3) := by decide +kernel
theorem d_S_stepRefusal_4 : decode b_S_stepRefusal 4 = .ok (.ifCond .ne 7, 3) := by decide +kernel
theorem d_S_stepRefusal_7 : decode b_S_stepRefusal 7 = .ok (.ldc_w 368, 3) := by decide +kernel
theorem d_S_stepRefusal_10 : decode b_S_stepRefusal 10 = .ok (.areturn, 1) := by decide +kernel
theorem d_S_stepRefusal_11 : decode b_S_stepRefusal 11 = .ok (.aload_n 0, 1) := by decide +kernel
theorem d_S_stepRefusal_12 : decode b_S_stepRefusal 12 = .ok (.aload_n 1, 1) := by decide +kernel
theorem d_S_stepRefusal_13 : decode b_S_stepRefusal 13 = .ok (.iconst 1, 1) := by decide +kernel
theorem d_S_stepRefusal_14 : decode b_S_stepRefusal 14 = .ok (.invokevirtual 279, 3) := by decide +kernel
theorem d_S_stepRefusal_17 : decode b_S_stepRefusal 17 = .ok (.ifCond .eq 8, 3) := by decide +kernel
theorem d_S_stepRefusal_20 : decode b_S_stepRefusal 20 = .ok (.ldc 174, 2) := by decide +kernel
theorem d_S_stepRefusal_22 : decode b_S_stepRefusal 22 = .ok (.goto 6, 3) := by decide +kernel
theorem d_S_stepRefusal_25 : decode b_S_stepRefusal 25 = .ok (.ldc_w 370, 3) := by decide +kernel
theorem d_S_stepRefusal_28 : decode b_S_stepRefusal 28 = .ok (.areturn, 1) := by decide +kernel
abbrev rm_S_stepRefusal : Room := { frames := 2, cells := 0, slots := 0, locals := 43 }
set_option maxRecDepth 100000 in
set_option maxHeartbeats 4000000 in
theorem k_S_stepRefusal {p : Program} {l : Launch} {e : Env} {s : State} {m : MethodId} {args : Array Value} {below : List Frame} {meth : Method} {c : Code} {t : TY} {G : GS} {K : Option Nat → Prop} (X : kX p s m args meth c b_S_stepRefusal 2 "TreeServer" t) (hret : meth.sig.returnType = some (.object "java/lang/String")) (p0 : Nat) (p1 : Option Nat) (hwp : w_S_stepRefusal t G p0 p1 K) : kW p l e rm_S_stepRefusal s m args below meth c (MQ below (va_Sq K) args s 0 0 (fun _ => False)) 2 t true 0 [(0, va_rf (some p0)), (1, va_rf p1)] [] G := by
  unfold w_S_stepRefusal at hwp
  refine kw_aload_n (pc := 0) X d_S_stepRefusal_0 rfl 0 rfl ?_
  obtain ⟨f1, hwp⟩ := hwp
  refine kcVp_i (n := 0) (As := []) (rest := []) (pc := 1) X (c_Node_isDirectory l t G p0 _) (cwV_of (C := "TreeServer$Node") X x_697 x_694 x_695 x_696 x_3 (by decide +kernel) ⟨rfl, rfl⟩ (by decide)) (rv_1 X f1) rfl rfl (by decide) d_S_stepRefusal_1 hwp (fun v2 hwp => ?_)
  obtain ⟨b_v2, hwp⟩ := hwp
  refine kw_if_ne (tgt := 11) (pc := 4) X d_S_stepRefusal_4 (by decide) (fun h => ?_) (fun h => ?_)
  · have hwp := ite_t h hwp
    refine kw_aload_n (pc := 11) X d_S_stepRefusal_11 rfl 0 rfl ?_
    refine kw_aload_n (pc := 12) X d_S_stepRefusal_12 rfl 1 rfl ?_
    refine kw_iconst (v := 1) (pc := 13) X d_S_stepRefusal_13 (by decide) ?_
    refine kcVp_i (n := 2) (As := [va_rf p1, .int (1 : Int32)]) (rest := []) (pc := 14) X (c_Node_lets l t G p0 p1 (1 : Int32) _) (cwV_of (C := "TreeServer$Node") X x_439 x_436 x_437 x_438 x_3 (by decide +kernel) ⟨rfl, rfl⟩ (by decide)) (rv_1 X f1) rfl rfl (by decide) d_S_stepRefusal_14 hwp (fun v3 hwp => ?_)
    obtain ⟨b_v3, hwp⟩ := hwp
    refine kw_if_eq (tgt := 25) (pc := 17) X d_S_stepRefusal_17 (by decide) (fun h => ?_) (fun h => ?_)
    · have hwp := ite_t h hwp
      refine kw_ldcwS (j := 15) (pc := 25) X d_S_stepRefusal_25 (by decide) rfl ?_
      exact krp_q (pc := 28) X hret d_S_stepRefusal_28 (Or.inl ⟨_, rfl⟩) hwp
    · have hwp := ite_f h hwp
      refine kw_ldcS (tx := "") (j := 2) (pc := 20) X d_S_stepRefusal_20 (by decide) rfl ?_
      refine kw_goto (tgt := 28) (pc := 22) X d_S_stepRefusal_22 (by decide) ?_
      exact krp_q (pc := 28) X hret d_S_stepRefusal_28 (Or.inl ⟨_, rfl⟩) hwp
  · have hwp := ite_f (not_not_intro h) hwp
    refine kw_ldcwS (j := 14) (pc := 7) X d_S_stepRefusal_7 (by decide) rfl ?_
    exact krp_q (pc := 10) X hret d_S_stepRefusal_10 (Or.inl ⟨_, rfl⟩) hwp
set_option maxRecDepth 100000 in
set_option maxHeartbeats 4000000 in
theorem c_S_stepRefusal (l : Launch) (t : TY) (G : GS) (p0 : Nat) (p1 : Option Nat) (K : Option Nat → Prop) : Met l y_S_stepRefusal (Cond.code y_S_stepRefusal b_S_stepRefusal 2 (Option.some (Jvm.ClassFile.FieldType.object "java/lang/String")) :: GW) rm_S_stepRefusal (va_Pc [.ref p0, va_rf p1] (fun U => HB t G U.heap ∧ HK t U ∧ w_S_stepRefusal t G p0 p1 K)) (va_Sq K) 0 0 (fun _ => False) := by
  refine Met.ofW (cc := b_S_stepRefusal) (maxL := 2) (ret := some (.object "java/lang/String")) (by decide) rfl ?_
  intro p e s m args below meth c s₁ B hml hv
  obtain ⟨rfl, hB, hK, hwp⟩ := hv
  have hts := atoms_spec (ws := Cond.code y_S_stepRefusal b_S_stepRefusal 2 (Option.some (Jvm.ClassFile.FieldType.object "java/lang/String")) :: GW) B.pre
  have X : kX p s m _ meth c b_S_stepRefusal 2 "TreeServer" t := ⟨B.exec, B.bytes, hml, findClass_of_methodNamed B.named, fun w h => hts w (List.mem_cons_of_mem _ h), B.notSynchronized, hK⟩
  have hZ : kZ t true s G s.heap [] := ⟨hB, va_S.rf, fun _ => ⟨rfl, rfl⟩⟩
  rw [lg_entry_eq]
  have hl := lv_entry ([.ref p0, va_rf p1]) (n := 2) (by simp [lg_sl, rf_cat, cat_i, cat_l, cat_r])
  rw [show lv_args 0 [.ref p0, va_rf p1] = [(0, .ref p0), (1, va_rf p1)] from by simp [lv_args, rf_cat, cat_i, cat_l, cat_r]] at hl
  exact k_S_stepRefusal X B.returns _ _ hwp s.heap [] _ hl hZ
abbrev b_Message_textIsName : ByteArray := prog_8_method_10_code
def y_Message_textIsName : MethodName := ⟨"TreeServer$Message", "textIsName", "(ILTreeServer$Node;)Z"⟩
theorem d_Message_textIsName_0 : decode b_Message_textIsName 0 = .ok (.aload_n 0, 1) := by decide +kernel
theorem d_Message_textIsName_1 : decode b_Message_textIsName 1 = .ok (.getfield 19, 3) := by decide +kernel
theorem d_Message_textIsName_4 : decode b_Message_textIsName 4 = .ok (.iload_n 1, 1) := by decide +kernel
theorem d_Message_textIsName_5 : decode b_Message_textIsName 5 = .ok (.iaload, 1) := by decide +kernel
theorem d_Message_textIsName_6 : decode b_Message_textIsName 6 = .ok (.aload_n 2, 1) := by decide +kernel
theorem d_Message_textIsName_7 : decode b_Message_textIsName 7 = .ok (.getfield 85, 3) := by decide +kernel
theorem d_Message_textIsName_10 : decode b_Message_textIsName 10 = .ok (.if_icmp .eq 5, 3) := by decide +kernel
theorem d_Message_textIsName_13 : decode b_Message_textIsName 13 = .ok (.iconst 0, 1) := by decide +kernel
theorem d_Message_textIsName_14 : decode b_Message_textIsName 14 = .ok (.ireturn, 1) := by decide +kernel
theorem d_Message_textIsName_15 : decode b_Message_textIsName 15 = .ok (.iconst 0, 1) := by decide +kernel
theorem d_Message_textIsName_16 : decode b_Message_textIsName 16 = .ok (.istore_n 3, 1) := by decide +kernel
theorem d_Message_textIsName_17 : decode b_Message_textIsName 17 = .ok (.iload_n 3, 1) := by decide +kernel
theorem d_Message_textIsName_18 : decode b_Message_textIsName 18 = .ok (.aload_n 2, 1) := by decide +kernel
theorem d_Message_textIsName_19 : decode b_Message_textIsName 19 = .ok (.getfield 85, 3) := by decide +kernel
theorem d_Message_textIsName_22 : decode b_Message_textIsName 22 = .ok (.if_icmp .ge 46, 3) := by decide +kernel
theorem d_Message_textIsName_25 : decode b_Message_textIsName 25 = .ok (.aload_n 0, 1) := by decide +kernel
theorem d_Message_textIsName_26 : decode b_Message_textIsName 26 = .ok (.getfield 15, 3) := by decide +kernel
theorem d_Message_textIsName_29 : decode b_Message_textIsName 29 = .ok (.iload_n 1, 1) := by decide +kernel
theorem d_Message_textIsName_30 : decode b_Message_textIsName 30 = .ok (.iaload, 1) := by decide +kernel
theorem d_Message_textIsName_31 : decode b_Message_textIsName 31 = .ok (.iload_n 3, 1) := by decide +kernel
theorem d_Message_textIsName_32 : decode b_Message_textIsName 32 = .ok (.iadd, 1) := by decide +kernel
theorem d_Message_textIsName_33 : decode b_Message_textIsName 33 = .ok (.istore 4, 2) := by decide +kernel
theorem d_Message_textIsName_35 : decode b_Message_textIsName 35 = .ok (.iload 4, 2) := by decide +kernel
theorem d_Message_textIsName_37 : decode b_Message_textIsName 37 = .ok (.aload_n 0, 1) := by decide +kernel
theorem d_Message_textIsName_38 : decode b_Message_textIsName 38 = .ok (.getfield 36, 3) := by decide +kernel
theorem d_Message_textIsName_41 : decode b_Message_textIsName 41 = .ok (.if_icmp .ge 19, 3) := by decide +kernel
theorem d_Message_textIsName_44 : decode b_Message_textIsName 44 = .ok (.aload_n 0, 1) := by decide +kernel
theorem d_Message_textIsName_45 : decode b_Message_textIsName 45 = .ok (.getfield 9, 3) := by decide +kernel
theorem d_Message_textIsName_48 : decode b_Message_textIsName 48 = .ok (.iload 4, 2) := by decide +kernel
theorem d_Message_textIsName_50 : decode b_Message_textIsName 50 = .ok (.baload, 1) := by decide +kernel
theorem d_Message_textIsName_51 : decode b_Message_textIsName 51 = .ok (.aload_n 2, 1) := by decide +kernel
theorem d_Message_textIsName_52 : decode b_Message_textIsName 52 = .ok (.getfield 90, 3) := by decide +kernel
theorem d_Message_textIsName_55 : decode b_Message_textIsName 55 = .ok (.iload_n 3, 1) := by decide +kernel
theorem d_Message_textIsName_56 : decode b_Message_textIsName 56 = .ok (.baload, 1) := by decide +kernel
theorem d_Message_textIsName_57 : decode b_Message_textIsName 57 = .ok (.if_icmp .eq 5, 3) := by decide +kernel
theorem d_Message_textIsName_60 : decode b_Message_textIsName 60 = .ok (.iconst 0, 1) := by decide +kernel
theorem d_Message_textIsName_61 : decode b_Message_textIsName 61 = .ok (.ireturn, 1) := by decide +kernel
theorem d_Message_textIsName_62 : decode b_Message_textIsName 62 = .ok (.iinc 3 1, 3) := by decide +kernel
theorem d_Message_textIsName_65 : decode b_Message_textIsName 65 = .ok (.goto (-48), 3) := by decide +kernel
theorem d_Message_textIsName_68 : decode b_Message_textIsName 68 = .ok (.iconst 1, 1) := by decide +kernel
theorem d_Message_textIsName_69 : decode b_Message_textIsName 69 = .ok (.ireturn, 1) := by decide +kernel
abbrev rm_Message_textIsName : Room := { frames := 0, cells := 0, slots := 0, locals := 0 }
set_option maxRecDepth 100000 in
set_option maxHeartbeats 4000000 in
theorem k_Message_textIsName_17 {p : Program} {l : Launch} {e : Env} {s : State} {m : MethodId} {args : Array Value} {below : List Frame} {meth : Method} {c : Code} {t : TY} {a0 : Nat} {G : GS} {K : Int32 → Prop} (X : kX p s m args meth c b_Message_textIsName 5 "TreeServer$Message" t) (hret : meth.sig.returnType = some .boolean) : ∀ (n : Nat) (l1 : Int32) (p2 : Nat) (l3 : Int32), w_Message_textIsName_17 t G a0 K n l1 p2 l3 → kW p l e rm_Message_textIsName s m args below meth c (MQ below (vp_Si (fun r => isB r ∧ K r)) args s 0 0 (fun _ => False)) 5 t true 17 [(0, va_rf (some a0)), (1, .int l1), (2, va_rf (some p2)), (3, .int l3)] [] G := by
  intro n
  induction n with
  | zero => intro l1 p2 l3 hwp; exact hwp.elim
  | succ n hr_17 =>
    intro l1 p2 l3 hwp
    unfold w_Message_textIsName_17 at hwp
    dsimp only at hwp
    refine kw_iload_n (pc := 17) X d_Message_textIsName_17 rfl 3 rfl ?_
    refine kw_aload_n (pc := 18) X d_Message_textIsName_18 rfl 2 rfl ?_
    obtain ⟨f1, hwp⟩ := hwp
    refine kg_10 (a := p2) (pc := 19) X d_Message_textIsName_19 x_83 rfl f1 ?_
    refine kw_icmp_ge (tgt := 68) (pc := 22) X d_Message_textIsName_22 (by decide) (fun h => ?_) (fun h => ?_)
    · have hwp := ite_t h hwp
      refine kw_iconst (v := 1) (pc := 68) X d_Message_textIsName_68 (by decide) ?_
      exact krp_z (pc := 69) X hret d_Message_textIsName_69 (Or.inr rfl) hwp
    · have hwp := ite_f h hwp
      refine kw_aload_n (pc := 25) X d_Message_textIsName_25 rfl 0 rfl ?_
      obtain ⟨f2, hwp⟩ := hwp
      refine kg_40 (a := a0) (pc := 26) X d_Message_textIsName_26 x_237 rfl f2 ?_
      refine kw_iload_n (pc := 29) X d_Message_textIsName_29 rfl 1 rfl ?_
      obtain ⟨a3, h_a3, hwp⟩ := hwp
      obtain ⟨f4, hwp⟩ := hwp
      obtain ⟨f5, hwp⟩ := hwp
      refine ka_iald (a := a3) (pc := 30) X d_Message_textIsName_30 h_a3 f4 f5 ?_
      refine kw_iload_n (pc := 31) X d_Message_textIsName_31 rfl 3 rfl ?_
      refine kw_iadd (pc := 32) X d_Message_textIsName_32 ?_
      obtain ⟨v6, e_v6⟩ : ∃ z, z = ((ai G a3 l1.toNatClampNeg) + l3) := ⟨_, rfl⟩
      have hwp := hwp v6 e_v6
      refine kW.st (st' := .int v6 :: _) (by rw [e_v6]) ?_
      refine kw_istore (i := 4) (lv' := [(4, .int v6), (0, va_rf (some a0)), (1, .int l1), (2, va_rf (some p2)), (3, .int l3)]) (pc := 33) X d_Message_textIsName_33 (by decide) rfl ?_
      refine kw_iload (pc := 35) X d_Message_textIsName_35 0 rfl ?_
      refine kw_aload_n (pc := 37) X d_Message_textIsName_37 rfl 1 rfl ?_
      refine kg_37 (a := a0) (pc := 38) X d_Message_textIsName_38 x_231 rfl f2 ?_
      refine kw_icmp_ge (tgt := 60) (pc := 41) X d_Message_textIsName_41 (by decide) (fun h => ?_) (fun h => ?_)
      · have hwp := ite_t h hwp
        refine kw_iconst (v := 0) (pc := 60) X d_Message_textIsName_60 (by decide) ?_
        exact krp_z (pc := 61) X hret d_Message_textIsName_61 (Or.inl rfl) hwp
      · have hwp := ite_f h hwp
        refine kw_aload_n (pc := 44) X d_Message_textIsName_44 rfl 1 rfl ?_
        refine kg_36 (a := a0) (pc := 45) X d_Message_textIsName_45 x_230 rfl f2 ?_
        refine kw_iload (pc := 48) X d_Message_textIsName_48 0 rfl ?_
        obtain ⟨a7, h_a7, hwp⟩ := hwp
        obtain ⟨f8, hwp⟩ := hwp
        obtain ⟨f9, hwp⟩ := hwp
        refine ka_bald (a := a7) (pc := 50) X d_Message_textIsName_50 h_a7 f8 f9 ?_
        refine kw_aload_n (pc := 51) X d_Message_textIsName_51 rfl 3 rfl ?_
        refine kg_9 (a := p2) (pc := 52) X d_Message_textIsName_52 x_79 rfl f1 ?_
        refine kw_iload_n (pc := 55) X d_Message_textIsName_55 rfl 4 rfl ?_
        obtain ⟨a10, h_a10, hwp⟩ := hwp
        obtain ⟨f11, hwp⟩ := hwp
        obtain ⟨f12, hwp⟩ := hwp
        refine ka_bald (a := a10) (pc := 56) X d_Message_textIsName_56 h_a10 f11 f12 ?_
        refine kw_icmp_eq (tgt := 62) (pc := 57) X d_Message_textIsName_57 (by decide) (fun h => ?_) (fun h => ?_)
        · have hwp := ite_t h hwp
          obtain ⟨v13, e_v13⟩ : ∃ z, z = (l3 + (1 : Int32)) := ⟨_, rfl⟩
          have hwp := hwp v13 e_v13
          refine kw_iinc (v := v13) (lv' := [(3, .int v13), (4, .int v6), (0, va_rf (some a0)), (1, .int l1), (2, va_rf (some p2))]) (pc := 62) X d_Message_textIsName_62 4 rfl (by rw [e_v13]; rfl) (by decide) rfl ?_
          refine kw_goto (tgt := 17) (pc := 65) X d_Message_textIsName_65 (by decide) ?_
          exact kW.sub [2, 3, 4, 0] rfl (hr_17 _ _ _ hwp)
        · have hwp := ite_f h hwp
          refine kw_iconst (v := 0) (pc := 60) X d_Message_textIsName_60 (by decide) ?_
          exact krp_z (pc := 61) X hret d_Message_textIsName_61 (Or.inl rfl) hwp
set_option maxRecDepth 100000 in
set_option maxHeartbeats 4000000 in
theorem k_Message_textIsName {p : Program} {l : Launch} {e : Env} {s : State} {m : MethodId} {args : Array Value} {below : List Frame} {meth : Method} {c : Code} {t : TY} {a0 : Nat} {G : GS} {K : Int32 → Prop} (X : kX p s m args meth c b_Message_textIsName 5 "TreeServer$Message" t) (hret : meth.sig.returnType = some .boolean) (p1 : Int32) (p2 : Nat) (hwp : w_Message_textIsName t G a0 p1 p2 K) : kW p l e rm_Message_textIsName s m args below meth c (MQ below (vp_Si (fun r => isB r ∧ K r)) args s 0 0 (fun _ => False)) 5 t true 0 [(0, va_rf (some a0)), (1, .int p1), (2, va_rf (some p2))] [] G := by
  unfold w_Message_textIsName at hwp
  refine kw_aload_n (pc := 0) X d_Message_textIsName_0 rfl 0 rfl ?_
  obtain ⟨f1, hwp⟩ := hwp
  refine kg_41 (a := a0) (pc := 1) X d_Message_textIsName_1 x_238 rfl f1 ?_
  refine kw_iload_n (pc := 4) X d_Message_textIsName_4 rfl 1 rfl ?_
  obtain ⟨a2, h_a2, hwp⟩ := hwp
  obtain ⟨f3, hwp⟩ := hwp
  obtain ⟨f4, hwp⟩ := hwp
  refine ka_iald (a := a2) (pc := 5) X d_Message_textIsName_5 h_a2 f3 f4 ?_
  refine kw_aload_n (pc := 6) X d_Message_textIsName_6 rfl 2 rfl ?_
  obtain ⟨f5, hwp⟩ := hwp
  refine kg_10 (a := p2) (pc := 7) X d_Message_textIsName_7 x_83 rfl f5 ?_
  refine kw_icmp_eq (tgt := 15) (pc := 10) X d_Message_textIsName_10 (by decide) (fun h => ?_) (fun h => ?_)
  · have hwp := ite_t h hwp
    refine kw_iconst (v := 0) (pc := 15) X d_Message_textIsName_15 (by decide) ?_
    refine kw_istore_n (i := 3) (lv' := [(3, .int (0 : Int32)), (0, va_rf (some a0)), (1, .int p1), (2, va_rf (some p2))]) (pc := 16) X d_Message_textIsName_16 rfl (by decide) rfl ?_
    obtain ⟨n, hwp⟩ := hwp
    exact kW.sub [1, 2, 3, 0] rfl (k_Message_textIsName_17 X hret  n _ _ _ hwp)
  · have hwp := ite_f h hwp
    refine kw_iconst (v := 0) (pc := 13) X d_Message_textIsName_13 (by decide) ?_
    exact krp_z (pc := 14) X hret d_Message_textIsName_14 (Or.inl rfl) hwp
set_option maxRecDepth 100000 in
set_option maxHeartbeats 4000000 in
theorem c_Message_textIsName (l : Launch) (t : TY) (G : GS) (a0 : Nat) (p1 : Int32) (p2 : Nat) (K : Int32 → Prop) : Met l y_Message_textIsName (Cond.code y_Message_textIsName b_Message_textIsName 5 (Option.some Jvm.ClassFile.FieldType.boolean) :: GW) rm_Message_textIsName (va_Pc [.ref a0, .int p1, .ref p2] (fun U => HB t G U.heap ∧ HK t U ∧ w_Message_textIsName t G a0 p1 p2 K)) (vp_Si (fun r => isB r ∧ K r)) 0 0 (fun _ => False) := by
  refine Met.ofW (cc := b_Message_textIsName) (maxL := 5) (ret := some .boolean) (by decide) rfl ?_
  intro p e s m args below meth c s₁ B hml hv
  obtain ⟨rfl, hB, hK, hwp⟩ := hv
  have hts := atoms_spec (ws := Cond.code y_Message_textIsName b_Message_textIsName 5 (Option.some Jvm.ClassFile.FieldType.boolean) :: GW) B.pre
  have X : kX p s m _ meth c b_Message_textIsName 5 "TreeServer$Message" t := ⟨B.exec, B.bytes, hml, findClass_of_methodNamed B.named, fun w h => hts w (List.mem_cons_of_mem _ h), B.notSynchronized, hK⟩
  have hZ : kZ t true s G s.heap [] := ⟨hB, va_S.rf, fun _ => ⟨rfl, rfl⟩⟩
  rw [lg_entry_eq]
  have hl := lv_entry ([.ref a0, .int p1, .ref p2]) (n := 5) (by simp [lg_sl, rf_cat, cat_i, cat_l, cat_r])
  exact k_Message_textIsName X B.returns _ _ hwp s.heap [] _ hl hZ
abbrev b_Tree_entry : ByteArray := prog_10_method_5_code
def y_Tree_entry : MethodName := ⟨"TreeServer$Tree", "entry", "(LTreeServer$Node;LTreeServer$Message;I)LTreeServer$Node;"⟩
theorem d_Tree_entry_0 : decode b_Tree_entry 0 = .ok (.iconst 0, 1) := by decide +kernel
theorem d_Tree_entry_1 : decode b_Tree_entry 1 = .ok (.istore 4, 2) := by decide +kernel
theorem d_Tree_entry_3 : decode b_Tree_entry 3 = .ok (.iload 4, 2) := by decide +kernel
theorem d_Tree_entry_5 : decode b_Tree_entry 5 = .ok (.aload_n 0, 1) := by decide +kernel
theorem d_Tree_entry_6 : decode b_Tree_entry 6 = .ok (.getfield 44, 3) := by decide +kernel
theorem d_Tree_entry_9 : decode b_Tree_entry 9 = .ok (.if_icmp .ge 40, 3) := by decide +kernel
theorem d_Tree_entry_12 : decode b_Tree_entry 12 = .ok (.aload_n 0, 1) := by decide +kernel
theorem d_Tree_entry_13 : decode b_Tree_entry 13 = .ok (.getfield 18, 3) := by decide +kernel
theorem d_Tree_entry_16 : decode b_Tree_entry 16 = .ok (.iload 4, 2) := by decide +kernel
theorem d_Tree_entry_18 : decode b_Tree_entry 18 = .ok (.aaload, 1) := by decide +kernel
theorem d_Tree_entry_19 : decode b_Tree_entry 19 = .ok (.astore 5, 2) := by decide +kernel
theorem d_Tree_entry_21 : decode b_Tree_entry 21 = .ok (.aload 5, 2) := by decide +kernel
theorem d_Tree_entry_23 : decode b_Tree_entry 23 = .ok (.getfield 59, 3) := by decide +kernel
theorem d_Tree_entry_26 : decode b_Tree_entry 26 = .ok (.aload_n 1, 1) := by decide +kernel
theorem d_Tree_entry_27 : decode b_Tree_entry 27 = .ok (.if_acmp .ne 16, 3) := by decide +kernel
theorem d_Tree_entry_30 : decode b_Tree_entry 30 = .ok (.aload_n 2, 1) := by decide +kernel
theorem d_Tree_entry_31 : decode b_Tree_entry 31 = .ok (.iload_n 3, 1) := by decide +kernel
theorem d_Tree_entry_32 : decode b_Tree_entry 32 = .ok (.aload 5, 2) := by decide +kernel
theorem d_Tree_entry_34 : decode b_Tree_entry 34 = .ok (.invokevirtual 62, 3) := by decide +kernel
theorem d_Tree_entry_37 : decode b_Tree_entry 37 = .ok (.ifCond .eq 6, 3) := by decide +kernel
theorem d_Tree_entry_40 : decode b_Tree_entry 40 = .ok (.aload 5, 2) := by decide +kernel
theorem d_Tree_entry_42 : decode b_Tree_entry 42 = .ok (.areturn, 1) := by decide +kernel
theorem d_Tree_entry_43 : decode b_Tree_entry 43 = .ok (.iinc 4 1, 3) := by decide +kernel
theorem d_Tree_entry_46 : decode b_Tree_entry 46 = .ok (.goto (-43), 3) := by decide +kernel
theorem d_Tree_entry_49 : decode b_Tree_entry 49 = .ok (.aconst_null, 1) := by decide +kernel
theorem d_Tree_entry_50 : decode b_Tree_entry 50 = .ok (.areturn, 1) := by decide +kernel
abbrev rm_Tree_entry : Room := { frames := 1, cells := 0, slots := 0, locals := 24 }
set_option maxRecDepth 100000 in
set_option maxHeartbeats 4000000 in
theorem k_Tree_entry_3 {p : Program} {l : Launch} {e : Env} {s : State} {m : MethodId} {args : Array Value} {below : List Frame} {meth : Method} {c : Code} {t : TY} {a0 : Nat} {G : GS} {K : Option Nat → Prop} (X : kX p s m args meth c b_Tree_entry 6 "TreeServer$Tree" t) (hret : meth.sig.returnType = some (.object "TreeServer$Node")) : ∀ (n : Nat) (p1 : Nat) (p2 : Nat) (l3 : Int32) (l4 : Int32), w_Tree_entry_3 t G a0 K n p1 p2 l3 l4 → kW p l e rm_Tree_entry s m args below meth c (MQ below (va_Sq K) args s 0 0 (fun _ => False)) 6 t true 3 [(0, va_rf (some a0)), (1, va_rf (some p1)), (2, va_rf (some p2)), (3, .int l3), (4, .int l4)] [] G := by
  intro n
  induction n with
  | zero => intro p1 p2 l3 l4 hwp; exact hwp.elim
  | succ n hr_3 =>
    intro p1 p2 l3 l4 hwp
    unfold w_Tree_entry_3 at hwp
    dsimp only at hwp
    refine kw_iload (pc := 3) X d_Tree_entry_3 4 rfl ?_
    refine kw_aload_n (pc := 5) X d_Tree_entry_5 rfl 0 rfl ?_
    obtain ⟨f1, hwp⟩ := hwp
    refine kg_15 (a := a0) (pc := 6) X d_Tree_entry_6 x_123 rfl f1 ?_
    refine kw_icmp_ge (tgt := 49) (pc := 9) X d_Tree_entry_9 (by decide) (fun h => ?_) (fun h => ?_)
    · have hwp := ite_t h hwp
      refine kw_null (pc := 49) X d_Tree_entry_49 ?_
      exact krp_q (pc := 50) X hret d_Tree_entry_50 (Or.inl ⟨_, rfl⟩) hwp
    · have hwp := ite_f h hwp
      refine kw_aload_n (pc := 12) X d_Tree_entry_12 rfl 0 rfl ?_
      refine kg_14 (a := a0) (pc := 13) X d_Tree_entry_13 x_121 rfl f1 ?_
      refine kw_iload (pc := 16) X d_Tree_entry_16 4 rfl ?_
      obtain ⟨a2, h_a2, hwp⟩ := hwp
      obtain ⟨f3, hwp⟩ := hwp
      obtain ⟨f4, hwp⟩ := hwp
      refine ka_aald54 (a := a2) (pc := 18) X d_Tree_entry_18 h_a2 f3 f4 ?_
      refine kw_astore (i := 5) (lv' := [(5, va_rf (ar G a2 l4.toNatClampNeg)), (0, va_rf (some a0)), (1, va_rf (some p1)), (2, va_rf (some p2)), (3, .int l3), (4, .int l4)]) (pc := 19) X d_Tree_entry_19 (by decide) rfl ?_
      refine kw_aload (pc := 21) X d_Tree_entry_21 0 rfl ?_
      obtain ⟨a5, h_a5, hwp⟩ := hwp
      obtain ⟨f6, hwp⟩ := hwp
      refine kg_7 (a := a5) (pc := 23) X d_Tree_entry_23 x_70 h_a5 f6 ?_
      refine kw_aload_n (pc := 26) X d_Tree_entry_26 rfl 2 rfl ?_
      refine kw_acmp_ne (tgt := 43) (pc := 27) X d_Tree_entry_27 (by decide) (fun h => ?_) (fun h => ?_)
      · have hwp := ite_t h hwp
        obtain ⟨v7, e_v7⟩ : ∃ z, z = (l4 + (1 : Int32)) := ⟨_, rfl⟩
        have hwp := hwp v7 e_v7
        refine kw_iinc (v := v7) (lv' := [(4, .int v7), (5, va_rf (ar G a2 l4.toNatClampNeg)), (0, va_rf (some a0)), (1, va_rf (some p1)), (2, va_rf (some p2)), (3, .int l3)]) (pc := 43) X d_Tree_entry_43 5 rfl (by rw [e_v7]; rfl) (by decide) rfl ?_
        refine kw_goto (tgt := 3) (pc := 46) X d_Tree_entry_46 (by decide) ?_
        exact kW.sub [2, 3, 4, 5, 0] rfl (hr_3 _ _ _ _ hwp)
      · have hwp := ite_f (not_not_intro h) hwp
        refine kw_aload_n (pc := 30) X d_Tree_entry_30 rfl 3 rfl ?_
        refine kw_iload_n (pc := 31) X d_Tree_entry_31 rfl 4 rfl ?_
        refine kw_aload (pc := 32) X d_Tree_entry_32 0 rfl ?_
        obtain ⟨f8, hwp⟩ := hwp
        refine kW.st (st' := [.ref a5, .int l3, .ref p2]) (by simp only [h_a5]; rfl) ?_
        refine kcVp_i (n := 2) (As := [.int l3, .ref a5]) (rest := []) (pc := 34) X (c_Message_textIsName l t G p2 l3 a5 _) (cwV_of (C := "TreeServer$Message") X x_714 x_711 x_712 x_713 x_9 (by decide +kernel) ⟨rfl, rfl⟩ (by decide)) (rv_5 X f8) rfl rfl (by decide) d_Tree_entry_34 hwp (fun v9 hwp => ?_)
        obtain ⟨b_v9, hwp⟩ := hwp
        refine kw_if_eq (tgt := 43) (pc := 37) X d_Tree_entry_37 (by decide) (fun h => ?_) (fun h => ?_)
        · have hwp := ite_t h hwp
          obtain ⟨v10, e_v10⟩ : ∃ z, z = (l4 + (1 : Int32)) := ⟨_, rfl⟩
          have hwp := hwp v10 e_v10
          refine kw_iinc (v := v10) (lv' := [(4, .int v10), (5, va_rf (ar G a2 l4.toNatClampNeg)), (0, va_rf (some a0)), (1, va_rf (some p1)), (2, va_rf (some p2)), (3, .int l3)]) (pc := 43) X d_Tree_entry_43 5 rfl (by rw [e_v10]; rfl) (by decide) rfl ?_
          refine kw_goto (tgt := 3) (pc := 46) X d_Tree_entry_46 (by decide) ?_
          exact kW.sub [2, 3, 4, 5, 0] rfl (hr_3 _ _ _ _ hwp)
        · have hwp := ite_f h hwp
          refine kw_aload (pc := 40) X d_Tree_entry_40 0 rfl ?_
          exact krp_q (pc := 42) X hret d_Tree_entry_42 (Or.inl ⟨_, rfl⟩) hwp
set_option maxRecDepth 100000 in
set_option maxHeartbeats 4000000 in
theorem k_Tree_entry {p : Program} {l : Launch} {e : Env} {s : State} {m : MethodId} {args : Array Value} {below : List Frame} {meth : Method} {c : Code} {t : TY} {a0 : Nat} {G : GS} {K : Option Nat → Prop} (X : kX p s m args meth c b_Tree_entry 6 "TreeServer$Tree" t) (hret : meth.sig.returnType = some (.object "TreeServer$Node")) (p1 : Nat) (p2 : Nat) (p3 : Int32) (hwp : w_Tree_entry t G a0 p1 p2 p3 K) : kW p l e rm_Tree_entry s m args below meth c (MQ below (va_Sq K) args s 0 0 (fun _ => False)) 6 t true 0 [(0, va_rf (some a0)), (1, va_rf (some p1)), (2, va_rf (some p2)), (3, .int p3)] [] G := by
  unfold w_Tree_entry at hwp
  refine kw_iconst (v := 0) (pc := 0) X d_Tree_entry_0 (by decide) ?_
  refine kw_istore (i := 4) (lv' := [(4, .int (0 : Int32)), (0, va_rf (some a0)), (1, va_rf (some p1)), (2, va_rf (some p2)), (3, .int p3)]) (pc := 1) X d_Tree_entry_1 (by decide) rfl ?_
  obtain ⟨n, hwp⟩ := hwp
  exact kW.sub [1, 2, 3, 4, 0] rfl (k_Tree_entry_3 X hret  n _ _ _ _ hwp)
set_option maxRecDepth 100000 in
set_option maxHeartbeats 4000000 in
theorem c_Tree_entry (l : Launch) (t : TY) (G : GS) (a0 : Nat) (p1 : Nat) (p2 : Nat) (p3 : Int32) (K : Option Nat → Prop) : Met l y_Tree_entry (Cond.code y_Tree_entry b_Tree_entry 6 (Option.some (Jvm.ClassFile.FieldType.object "TreeServer$Node")) :: GW) rm_Tree_entry (va_Pc [.ref a0, .ref p1, .ref p2, .int p3] (fun U => HB t G U.heap ∧ HK t U ∧ w_Tree_entry t G a0 p1 p2 p3 K)) (va_Sq K) 0 0 (fun _ => False) := by
  refine Met.ofW (cc := b_Tree_entry) (maxL := 6) (ret := some (.object "TreeServer$Node")) (by decide) rfl ?_
  intro p e s m args below meth c s₁ B hml hv
  obtain ⟨rfl, hB, hK, hwp⟩ := hv
  have hts := atoms_spec (ws := Cond.code y_Tree_entry b_Tree_entry 6 (Option.some (Jvm.ClassFile.FieldType.object "TreeServer$Node")) :: GW) B.pre
  have X : kX p s m _ meth c b_Tree_entry 6 "TreeServer$Tree" t := ⟨B.exec, B.bytes, hml, findClass_of_methodNamed B.named, fun w h => hts w (List.mem_cons_of_mem _ h), B.notSynchronized, hK⟩
  have hZ : kZ t true s G s.heap [] := ⟨hB, va_S.rf, fun _ => ⟨rfl, rfl⟩⟩
  rw [lg_entry_eq]
  have hl := lv_entry ([.ref a0, .ref p1, .ref p2, .int p3]) (n := 6) (by simp [lg_sl, rf_cat, cat_i, cat_l, cat_r])
  exact k_Tree_entry X B.returns _ _ _ hwp s.heap [] _ hl hZ
abbrev b_S_nextNode : ByteArray := prog_1_method_30_code
def y_S_nextNode : MethodName := ⟨"TreeServer", "nextNode", "(LTreeServer$Node;I)LTreeServer$Node;"⟩
theorem d_S_nextNode_0 : decode b_S_nextNode 0 = .ok (.aload_n 0, 1) := by decide +kernel
theorem d_S_nextNode_1 : decode b_S_nextNode 1 = .ok (.getfield 33, 3) := by decide +kernel
theorem d_S_nextNode_4 : decode b_S_nextNode 4 = .ok (.getfield 372, 3) := by decide +kernel
theorem d_S_nextNode_7 : decode b_S_nextNode 7 = .ok (.iload_n 2, 1) := by decide +kernel
theorem d_S_nextNode_8 : decode b_S_nextNode 8 = .ok (.iaload, 1) := by decide +kernel
theorem d_S_nextNode_9 : decode b_S_nextNode 9 = .ok (.ldc_w 376, 3) := by decide +kernel
theorem d_S_nextNode_12 : decode b_S_nextNode 12 = .ok (.invokevirtual 378, 3) := by decide +kernel
theorem d_S_nextNode_15 : decode b_S_nextNode 15 = .ok (.if_icmp .ne 33, 3) := by decide +kernel
theorem d_S_nextNode_18 : decode b_S_nextNode 18 = .ok (.aload_n 0, 1) := by decide +kernel
theorem d_S_nextNode_19 : decode b_S_nextNode 19 = .ok (.getfield 33, 3) := by decide +kernel
theorem d_S_nextNode_22 : decode b_S_nextNode 22 = .ok (.iload_n 2, 1) := by decide +kernel
theorem d_S_nextNode_23 : decode b_S_nextNode 23 = .ok (.ldc_w 376, 3) := by decide +kernel
theorem d_S_nextNode_26 : decode b_S_nextNode 26 = .ok (.invokevirtual 302, 3) := by decide +kernel
theorem d_S_nextNode_29 : decode b_S_nextNode 29 = .ok (.ifCond .eq 19, 3) := by decide +kernel
theorem d_S_nextNode_32 : decode b_S_nextNode 32 = .ok (.aload_n 1, 1) := by decide +kernel
theorem d_S_nextNode_33 : decode b_S_nextNode 33 = .ok (.getfield 267, 3) := by decide +kernel
theorem d_S_nextNode_36 : decode b_S_nextNode 36 = .ok (.ifnonnull 7, 3) := by decide +kernel
theorem d_S_nextNode_39 : decode b_S_nextNode 39 = .ok (.aload_n 1, 1) := by decide +kernel
theorem d_S_nextNode_40 : decode b_S_nextNode 40 = .ok (.goto 7, 3) := by decide +kernel
theorem d_S_nextNode_43 : decode b_S_nextNode 43 = .ok (.aload_n 1, 1) := by decide +kernel
theorem d_S_nextNode_44 : decode b_S_nextNode 44 = .ok (.getfield 267, 3) := by decide +kernel
theorem d_S_nextNode_47 : decode b_S_nextNode 47 = .ok (.areturn, 1) := by decide +kernel
theorem d_S_nextNode_48 : decode b_S_nextNode 48 = .ok (.aload_n 0, 1) := by decide +kernel
theorem d_S_nextNode_49 : decode b_S_nextNode 49 = .ok (.getfield 10, 3) := by decide +kernel
theorem d_S_nextNode_52 : decode b_S_nextNode 52 = .ok (.aload_n 1, 1) := by decide +kernel
theorem d_S_nextNode_53 : decode b_S_nextNode 53 = .ok (.aload_n 0, 1) := by decide +kernel
theorem d_S_nextNode_54 : decode b_S_nextNode 54 = .ok (.getfield 33, 3) := by decide +kernel
theorem d_S_nextNode_57 : decode b_S_nextNode 57 = .ok (.iload_n 2, 1) := by decide +kernel
theorem d_S_nextNode_58 : decode b_S_nextNode 58 = .ok (.invokevirtual 381, 3) := by decide +kernel
theorem d_S_nextNode_61 : decode b_S_nextNode 61 = .ok (.areturn, 1) := by decide +kernel
abbrev rm_S_nextNode : Room := { frames := 5, cells := 0, slots := 0, locals := 123 }
set_option maxRecDepth 100000 in
set_option maxHeartbeats 4000000 in
theorem k_S_nextNode_48 {p : Program} {l : Launch} {e : Env} {s : State} {m : MethodId} {args : Array Value} {below : List Frame} {meth : Method} {c : Code} {t : TY} {a0 : Nat} {G : GS} {K : Option Nat → Prop} (X : kX p s m args meth c b_S_nextNode 3 "TreeServer" t) (hret : meth.sig.returnType = some (.object "TreeServer$Node")) (p1 : Nat) (l2 : Int32) (hwp : w_S_nextNode_48 t G a0 K p1 l2) : kW p l e rm_S_nextNode s m args below meth c (MQ below (va_Sq K) args s 0 0 (fun _ => False)) 3 t true 48 [(0, va_rf (some a0)), (1, va_rf (some p1)), (2, .int l2)] [] G := by
  unfold w_S_nextNode_48 at hwp
  refine kw_aload_n (pc := 48) X d_S_nextNode_48 rfl 0 rfl ?_
  obtain ⟨f1, hwp⟩ := hwp
  refine kg_63 (a := a0) (pc := 49) X d_S_nextNode_49 x_364 rfl f1 ?_
  refine kw_aload_n (pc := 52) X d_S_nextNode_52 rfl 1 rfl ?_
  refine kw_aload_n (pc := 53) X d_S_nextNode_53 rfl 0 rfl ?_
  refine kg_66 (a := a0) (pc := 54) X d_S_nextNode_54 x_367 rfl f1 ?_
  refine kw_iload_n (pc := 57) X d_S_nextNode_57 rfl 2 rfl ?_
  obtain ⟨a2, h_a2, hwp⟩ := hwp
  obtain ⟨f3, hwp⟩ := hwp
  obtain ⟨a4, h_a4, hwp⟩ := hwp
  refine kW.st (st' := [.int l2, .ref a4, .ref p1, .ref a2]) (by simp only [h_a4, h_a2]; rfl) ?_
  refine kcVp_q (n := 3) (As := [.ref p1, .ref a4, .int l2]) (rest := []) (pc := 58) X (c_Tree_entry l t G a2 p1 a4 l2 _) (cwV_of (C := "TreeServer$Tree") X x_710 x_707 x_708 x_709 x_2 (by decide +kernel) ⟨rfl, rfl⟩ (by decide)) (rv_2 X f3) rfl rfl (by decide) d_S_nextNode_58 hwp (fun x5 hwp => ?_)
  exact krp_q (pc := 61) X hret d_S_nextNode_61 (Or.inl ⟨_, rfl⟩) hwp
set_option maxRecDepth 100000 in
set_option maxHeartbeats 4000000 in
theorem k_S_nextNode {p : Program} {l : Launch} {e : Env} {s : State} {m : MethodId} {args : Array Value} {below : List Frame} {meth : Method} {c : Code} {t : TY} {a0 : Nat} {G : GS} {K : Option Nat → Prop} (X : kX p s m args meth c b_S_nextNode 3 "TreeServer" t) (hret : meth.sig.returnType = some (.object "TreeServer$Node")) (p1 : Nat) (p2 : Int32) (hwp : w_S_nextNode t G a0 p1 p2 K) : kW p l e rm_S_nextNode s m args below meth c (MQ below (va_Sq K) args s 0 0 (fun _ => False)) 3 t true 0 [(0, va_rf (some a0)), (1, va_rf (some p1)), (2, .int p2)] [] G := by
  unfold w_S_nextNode at hwp
  refine kw_aload_n (pc := 0) X d_S_nextNode_0 rfl 0 rfl ?_
  obtain ⟨f1, hwp⟩ := hwp
  refine kg_66 (a := a0) (pc := 1) X d_S_nextNode_1 x_367 rfl f1 ?_
  obtain ⟨a2, h_a2, hwp⟩ := hwp
  obtain ⟨f3, hwp⟩ := hwp
  refine kg_41 (a := a2) (pc := 4) X d_S_nextNode_4 x_239 h_a2 f3 ?_
  refine kw_iload_n (pc := 7) X d_S_nextNode_7 rfl 2 rfl ?_
  obtain ⟨a4, h_a4, hwp⟩ := hwp
  obtain ⟨f5, hwp⟩ := hwp
  obtain ⟨f6, hwp⟩ := hwp
  refine ka_iald (a := a4) (pc := 8) X d_S_nextNode_8 h_a4 f5 f6 ?_
  refine kw_ldcwS (j := 16) (pc := 9) X d_S_nextNode_9 (by decide) rfl ?_
  obtain ⟨j8, g_j8, h_j8, hwp⟩ := hwp
  refine kc_str_length (j := j8) (pc := 12) X d_S_nextNode_12 x_706 g_j8 h_j8 (by decide) (by simp [rf_cat, cat_i, cat_l, cat_r]) ?_
  obtain ⟨v7, e_v7⟩ : ∃ z, z = nI (slen j8) := ⟨_, rfl⟩
  rw [← e_v7] at hwp ⊢
  refine kw_icmp_ne (tgt := 48) (pc := 15) X d_S_nextNode_15 (by decide) (fun h => ?_) (fun h => ?_)
  · have hwp := ite_t h hwp
    exact kW.sub [0, 1, 2] rfl (k_S_nextNode_48 X hret  _ _ hwp)
  · have hwp := ite_f (not_not_intro h) hwp
    refine kw_aload_n (pc := 18) X d_S_nextNode_18 rfl 0 rfl ?_
    refine kg_66 (a := a0) (pc := 19) X d_S_nextNode_19 x_367 rfl f1 ?_
    refine kw_iload_n (pc := 22) X d_S_nextNode_22 rfl 2 rfl ?_
    refine kw_ldcwS (j := 16) (pc := 23) X d_S_nextNode_23 (by decide) rfl ?_
    refine kW.st (st' := [va_rf (some (tks t 16)), .int p2, .ref a2]) (by simp only [h_a2]; rfl) ?_
    refine kcVp_i (n := 2) (As := [.int p2, va_rf (some (tks t 16))]) (rest := []) (pc := 26) X (c_Message_textBegins l t G a2 p2 (some (tks t 16)) _) (cwV_of (C := "TreeServer$Message") X x_591 x_588 x_589 x_590 x_9 (by decide +kernel) ⟨rfl, rfl⟩ (by decide)) (rv_5 X f3) rfl rfl (by decide) d_S_nextNode_26 hwp (fun v9 hwp => ?_)
    obtain ⟨b_v9, hwp⟩ := hwp
    refine kw_if_eq (tgt := 48) (pc := 29) X d_S_nextNode_29 (by decide) (fun h => ?_) (fun h => ?_)
    · have hwp := ite_t h hwp
      exact kW.sub [0, 1, 2] rfl (k_S_nextNode_48 X hret  _ _ hwp)
    · have hwp := ite_f h hwp
      refine kw_aload_n (pc := 32) X d_S_nextNode_32 rfl 1 rfl ?_
      obtain ⟨f10, hwp⟩ := hwp
      refine kg_7 (a := p1) (pc := 33) X d_S_nextNode_33 x_71 rfl f10 ?_
      refine kw_ifnonnull (tgt := 43) (pc := 36) X d_S_nextNode_36 (by decide) (fun h => ?_) (fun h => ?_)
      · have hwp := ite_t h hwp
        refine kw_aload_n (pc := 43) X d_S_nextNode_43 rfl 1 rfl ?_
        refine kg_7 (a := p1) (pc := 44) X d_S_nextNode_44 x_71 rfl f10 ?_
        exact krp_q (pc := 47) X hret d_S_nextNode_47 (Or.inl ⟨_, rfl⟩) hwp
      · have hwp := ite_f (not_not_intro h) hwp
        refine kw_aload_n (pc := 39) X d_S_nextNode_39 rfl 1 rfl ?_
        refine kw_goto (tgt := 47) (pc := 40) X d_S_nextNode_40 (by decide) ?_
        exact krp_q (pc := 47) X hret d_S_nextNode_47 (Or.inl ⟨_, rfl⟩) hwp
set_option maxRecDepth 100000 in
set_option maxHeartbeats 4000000 in
theorem c_S_nextNode (l : Launch) (t : TY) (G : GS) (a0 : Nat) (p1 : Nat) (p2 : Int32) (K : Option Nat → Prop) : Met l y_S_nextNode (Cond.code y_S_nextNode b_S_nextNode 3 (Option.some (Jvm.ClassFile.FieldType.object "TreeServer$Node")) :: GW) rm_S_nextNode (va_Pc [.ref a0, .ref p1, .int p2] (fun U => HB t G U.heap ∧ HK t U ∧ w_S_nextNode t G a0 p1 p2 K)) (va_Sq K) 0 0 (fun _ => False) := by
  refine Met.ofW (cc := b_S_nextNode) (maxL := 3) (ret := some (.object "TreeServer$Node")) (by decide) rfl ?_
  intro p e s m args below meth c s₁ B hml hv
  obtain ⟨rfl, hB, hK, hwp⟩ := hv
  have hts := atoms_spec (ws := Cond.code y_S_nextNode b_S_nextNode 3 (Option.some (Jvm.ClassFile.FieldType.object "TreeServer$Node")) :: GW) B.pre
  have X : kX p s m _ meth c b_S_nextNode 3 "TreeServer" t := ⟨B.exec, B.bytes, hml, findClass_of_methodNamed B.named, fun w h => hts w (List.mem_cons_of_mem _ h), B.notSynchronized, hK⟩
  have hZ : kZ t true s G s.heap [] := ⟨hB, va_S.rf, fun _ => ⟨rfl, rfl⟩⟩
  rw [lg_entry_eq]
  have hl := lv_entry ([.ref a0, .ref p1, .int p2]) (n := 3) (by simp [lg_sl, rf_cat, cat_i, cat_l, cat_r])
  exact k_S_nextNode X B.returns _ _ hwp s.heap [] _ hl hZ
abbrev b_Answer_set : ByteArray := prog_2_method_5_code
def y_Answer_set : MethodName := ⟨"TreeServer$Answer", "set", "(IJI)V"⟩
theorem d_Answer_set_0 : decode b_Answer_set 0 = .ok (.iconst 0, 1) := by decide +kernel
theorem d_Answer_set_1 : decode b_Answer_set 1 = .ok (.istore 5, 2) := by decide +kernel
theorem d_Answer_set_3 : decode b_Answer_set 3 = .ok (.iload 5, 2) := by decide +kernel
theorem d_Answer_set_5 : decode b_Answer_set 5 = .ok (.iload 4, 2) := by decide +kernel
theorem d_Answer_set_7 : decode b_Answer_set 7 = .ok (.if_icmp .ge 39, 3) := by decide +kernel
theorem d_Answer_set_10 : decode b_Answer_set 10 = .ok (.iload_n 1, 1) := by decide +kernel
theorem d_Answer_set_11 : decode b_Answer_set 11 = .ok (.iload 5, 2) := by decide +kernel
theorem d_Answer_set_13 : decode b_Answer_set 13 = .ok (.iadd, 1) := by decide +kernel
theorem d_Answer_set_14 : decode b_Answer_set 14 = .ok (.aload_n 0, 1) := by decide +kernel
theorem d_Answer_set_15 : decode b_Answer_set 15 = .ok (.getfield 9, 3) := by decide +kernel
theorem d_Answer_set_18 : decode b_Answer_set 18 = .ok (.arraylength, 1) := by decide +kernel
theorem d_Answer_set_19 : decode b_Answer_set 19 = .ok (.if_icmp .ge 27, 3) := by decide +kernel
theorem d_Answer_set_22 : decode b_Answer_set 22 = .ok (.aload_n 0, 1) := by decide +kernel
theorem d_Answer_set_23 : decode b_Answer_set 23 = .ok (.getfield 9, 3) := by decide +kernel
theorem d_Answer_set_26 : decode b_Answer_set 26 = .ok (.iload_n 1, 1) := by decide +kernel
theorem d_Answer_set_27 : decode b_Answer_set 27 = .ok (.iload 5, 2) := by decide +kernel
theorem d_Answer_set_29 : decode b_Answer_set 29 = .ok (.iadd, 1) := by decide +kernel
theorem d_Answer_set_30 : decode b_Answer_set 30 = .ok (.lload_n 2, 1) := by decide +kernel
theorem d_Answer_set_31 : decode b_Answer_set 31 = .ok (.bipush 8, 2) := by decide +kernel
theorem d_Answer_set_33 : decode b_Answer_set 33 = .ok (.iload 5, 2) := by decide +kernel
theorem d_Answer_set_35 : decode b_Answer_set 35 = .ok (.imul, 1) := by decide +kernel
theorem d_Answer_set_36 : decode b_Answer_set 36 = .ok (.lushr, 1) := by decide +kernel
theorem d_Answer_set_37 : decode b_Answer_set 37 = .ok (.l2i, 1) := by decide +kernel
theorem d_Answer_set_38 : decode b_Answer_set 38 = .ok (.i2b, 1) := by decide +kernel
theorem d_Answer_set_39 : decode b_Answer_set 39 = .ok (.bastore, 1) := by decide +kernel
theorem d_Answer_set_40 : decode b_Answer_set 40 = .ok (.iinc 5 1, 3) := by decide +kernel
theorem d_Answer_set_43 : decode b_Answer_set 43 = .ok (.goto (-40), 3) := by decide +kernel
theorem d_Answer_set_46 : decode b_Answer_set 46 = .ok (.return_, 1) := by decide +kernel
abbrev rm_Answer_set : Room := { frames := 0, cells := 0, slots := 0, locals := 0 }
set_option maxRecDepth 100000 in
set_option maxHeartbeats 4000000 in
theorem k_Answer_set_3 {p : Program} {l : Launch} {e : Env} {s : State} {m : MethodId} {args : Array Value} {below : List Frame} {meth : Method} {c : Code} {t : TY} {a0 : Nat} {K : GS → Prop} (X : kX p s m args meth c b_Answer_set 6 "TreeServer$Answer" t) (hret : meth.sig.returnType = none) : ∀ (n : Nat) (l1 : Int32) (l2 : Int64) (l4 : Int32) (l5 : Int32) (G : GS), w_Answer_set_3 t a0 K n l1 l2 l4 l5 G → kW p l e rm_Answer_set s m args below meth c (MQ below (va_Qv (fun u : GS => K u) (fun u T => HB t u T.heap) (tA t)) args s 0 0 (tA t)) 6 t false 3 [(0, va_rf (some a0)), (1, .int l1), (2, .long l2), (4, .int l4), (5, .int l5)] [] G := by
  intro n
  induction n with
  | zero => intro l1 l2 l4 l5 G hwp; exact hwp.elim
  | succ n hr_3 =>
    intro l1 l2 l4 l5 G hwp
    unfold w_Answer_set_3 at hwp
    dsimp only at hwp
    refine kw_iload (pc := 3) X d_Answer_set_3 4 rfl ?_
    refine kw_iload (pc := 5) X d_Answer_set_5 3 rfl ?_
    refine kw_icmp_ge (tgt := 46) (pc := 7) X d_Answer_set_7 (by decide) (fun h => ?_) (fun h => ?_)
    · have hwp := ite_t h hwp
      exact kr_v (pc := 46) X hret d_Answer_set_46 hwp
    · have hwp := ite_f h hwp
      refine kw_iload_n (pc := 10) X d_Answer_set_10 rfl 1 rfl ?_
      refine kw_iload (pc := 11) X d_Answer_set_11 4 rfl ?_
      refine kw_iadd (pc := 13) X d_Answer_set_13 ?_
      refine kw_aload_n (pc := 14) X d_Answer_set_14 rfl 0 rfl ?_
      obtain ⟨f1, hwp⟩ := hwp
      refine kg_44 (a := a0) (pc := 15) X d_Answer_set_15 x_268 rfl f1 ?_
      obtain ⟨a2, h_a2, hwp⟩ := hwp
      obtain ⟨f3, hwp⟩ := hwp
      refine ka_len51 (a := a2) (pc := 18) X d_Answer_set_18 h_a2 f3 ?_
      refine kw_icmp_ge (tgt := 46) (pc := 19) X d_Answer_set_19 (by decide) (fun h => ?_) (fun h => ?_)
      · have hwp := ite_t h hwp
        exact kr_v (pc := 46) X hret d_Answer_set_46 hwp
      · have hwp := ite_f h hwp
        refine kw_aload_n (pc := 22) X d_Answer_set_22 rfl 0 rfl ?_
        refine kg_44 (a := a0) (pc := 23) X d_Answer_set_23 x_268 rfl f1 ?_
        refine kw_iload_n (pc := 26) X d_Answer_set_26 rfl 1 rfl ?_
        refine kw_iload (pc := 27) X d_Answer_set_27 4 rfl ?_
        refine kw_iadd (pc := 29) X d_Answer_set_29 ?_
        refine kw_lload_n (pc := 30) X d_Answer_set_30 rfl 2 rfl ?_
        refine kw_bipush (v := 8) (pc := 31) X d_Answer_set_31 (by decide) ?_
        refine kw_iload (pc := 33) X d_Answer_set_33 4 rfl ?_
        refine kw_imul (pc := 35) X d_Answer_set_35 ?_
        refine kw_lushr (pc := 36) X d_Answer_set_36 ?_
        refine kw_l2i (pc := 37) X d_Answer_set_37 ?_
        refine kw_i2b (pc := 38) X d_Answer_set_38 ?_
        obtain ⟨f4, hwp⟩ := hwp
        refine ka_bast (a := a2) (pc := 39) X rfl d_Answer_set_39 h_a2 f3 f4 ?_
        obtain ⟨G5, e_G5⟩ : ∃ g, g = ais G a2 (l1 + l5).toNatClampNeg (vp_nar .byte ((l2.toUInt64 >>> (((8 : Int32) * l5).toInt64.toUInt64 &&& Int64.toUInt64 63)).toInt64.toInt32.toInt8.toInt32)) := ⟨_, rfl⟩
        have hwp := hwp G5 e_G5
        refine kW.g e_G5.symm ?_
        obtain ⟨v6, e_v6⟩ : ∃ z, z = (l5 + (1 : Int32)) := ⟨_, rfl⟩
        have hwp := hwp v6 e_v6
        refine kw_iinc (v := v6) (lv' := [(5, .int v6), (0, va_rf (some a0)), (1, .int l1), (2, .long l2), (4, .int l4)]) (pc := 40) X d_Answer_set_40 4 rfl (by rw [e_v6]; rfl) (by decide) rfl ?_
        refine kw_goto (tgt := 3) (pc := 43) X d_Answer_set_43 (by decide) ?_
        exact kW.sub [1, 2, 3, 4, 0] rfl (hr_3 _ _ _ _ _ hwp)
set_option maxRecDepth 100000 in
set_option maxHeartbeats 4000000 in
theorem k_Answer_set {p : Program} {l : Launch} {e : Env} {s : State} {m : MethodId} {args : Array Value} {below : List Frame} {meth : Method} {c : Code} {t : TY} {a0 : Nat} {K : GS → Prop} (X : kX p s m args meth c b_Answer_set 6 "TreeServer$Answer" t) (hret : meth.sig.returnType = none) (G : GS) (p1 : Int32) (p2 : Int64) (p4 : Int32) (hwp : w_Answer_set t G a0 p1 p2 p4 K) : kW p l e rm_Answer_set s m args below meth c (MQ below (va_Qv (fun u : GS => K u) (fun u T => HB t u T.heap) (tA t)) args s 0 0 (tA t)) 6 t false 0 [(0, va_rf (some a0)), (1, .int p1), (2, .long p2), (4, .int p4)] [] G := by
  unfold w_Answer_set at hwp
  refine kw_iconst (v := 0) (pc := 0) X d_Answer_set_0 (by decide) ?_
  refine kw_istore (i := 5) (lv' := [(5, .int (0 : Int32)), (0, va_rf (some a0)), (1, .int p1), (2, .long p2), (4, .int p4)]) (pc := 1) X d_Answer_set_1 (by decide) rfl ?_
  obtain ⟨n, hwp⟩ := hwp
  exact kW.sub [1, 2, 3, 4, 0] rfl (k_Answer_set_3 X hret  n _ _ _ _ _ hwp)
set_option maxRecDepth 100000 in
set_option maxHeartbeats 4000000 in
theorem c_Answer_set (l : Launch) (t : TY) (G : GS) (a0 : Nat) (p1 : Int32) (p2 : Int64) (p4 : Int32) (K : GS → Prop) : Met l y_Answer_set (Cond.code y_Answer_set b_Answer_set 6 (Option.none : Option Jvm.ClassFile.FieldType) :: GW) rm_Answer_set (va_Pc [.ref a0, .int p1, .long p2, .int p4] (fun U => HB t G U.heap ∧ HK t U ∧ w_Answer_set t G a0 p1 p2 p4 K)) (va_Qv (fun u : GS => K u) (fun u T => HB t u T.heap) (tA t)) 0 0 (tA t) := by
  refine Met.ofW (cc := b_Answer_set) (maxL := 6) (ret := none) (by decide) rfl ?_
  intro p e s m args below meth c s₁ B hml hv
  obtain ⟨rfl, hB, hK, hwp⟩ := hv
  have hts := atoms_spec (ws := Cond.code y_Answer_set b_Answer_set 6 (Option.none : Option Jvm.ClassFile.FieldType) :: GW) B.pre
  have X : kX p s m _ meth c b_Answer_set 6 "TreeServer$Answer" t := ⟨B.exec, B.bytes, hml, findClass_of_methodNamed B.named, fun w h => hts w (List.mem_cons_of_mem _ h), B.notSynchronized, hK⟩
  have hZ : kZ t false s G s.heap [] := ⟨hB, va_S.rf, fun _ => ⟨rfl, rfl⟩⟩
  rw [lg_entry_eq]
  have hl := lv_entry ([.ref a0, .int p1, .long p2, .int p4]) (n := 6) (by simp [lg_sl, rf_cat, cat_i, cat_l, cat_r])
  exact k_Answer_set X B.returns _ _ _ _ hwp s.heap [] _ hl hZ
abbrev b_S_walkNames : ByteArray := prog_1_method_28_code
def y_S_walkNames : MethodName := ⟨"TreeServer", "walkNames", "(LTreeServer$Fid;LTreeServer$Fid;J)Ljava/lang/String;"⟩
theorem d_S_walkNames_0 : decode b_S_walkNames 0 = .ok (.aload_n 1, 1) := by decide +kernel
theorem d_S_walkNames_1 : decode b_S_walkNames 1 = .ok (.getfield 275, 3) := by decide +kernel
theorem d_S_walkNames_4 : decode b_S_walkNames 4 = .ok (.astore 5, 2) := by decide +kernel
theorem d_S_walkNames_6 : decode b_S_walkNames 6 = .ok (.aload_n 1, 1) := by decide +kernel
theorem d_S_walkNames_7 : decode b_S_walkNames 7 = .ok (.getfield 232, 3) := by decide +kernel
theorem d_S_walkNames_10 : decode b_S_walkNames 10 = .ok (.astore 6, 2) := by decide +kernel
theorem d_S_walkNames_12 : decode b_S_walkNames 12 = .ok (.iconst 0, 1) := by decide +kernel
theorem d_S_walkNames_13 : decode b_S_walkNames 13 = .ok (.istore 7, 2) := by decide +kernel
theorem d_S_walkNames_15 : decode b_S_walkNames 15 = .ok (.ldc 174, 2) := by decide +kernel
theorem d_S_walkNames_17 : decode b_S_walkNames 17 = .ok (.astore 8, 2) := by decide +kernel
theorem d_S_walkNames_19 : decode b_S_walkNames 19 = .ok (.aload_n 0, 1) := by decide +kernel
theorem d_S_walkNames_20 : decode b_S_walkNames 20 = .ok (.getfield 40, 3) := by decide +kernel
theorem d_S_walkNames_23 : decode b_S_walkNames 23 = .ok (.lconst 0, 1) := by decide +kernel
theorem d_S_walkNames_24 : decode b_S_walkNames 24 = .ok (.iconst 2, 1) := by decide +kernel
theorem d_S_walkNames_25 : decode b_S_walkNames 25 = .ok (.invokevirtual 306, 3) := by decide +kernel
theorem d_S_walkNames_28 : decode b_S_walkNames 28 = .ok (.iconst 0, 1) := by decide +kernel
theorem d_S_walkNames_29 : decode b_S_walkNames 29 = .ok (.istore 9, 2) := by decide +kernel
theorem d_S_walkNames_31 : decode b_S_walkNames 31 = .ok (.iload 9, 2) := by decide +kernel
theorem d_S_walkNames_33 : decode b_S_walkNames 33 = .ok (.aload_n 0, 1) := by decide +kernel
theorem d_S_walkNames_34 : decode b_S_walkNames 34 = .ok (.getfield 33, 3) := by decide +kernel
theorem d_S_walkNames_37 : decode b_S_walkNames 37 = .ok (.getfield 348, 3) := by decide +kernel
theorem d_S_walkNames_40 : decode b_S_walkNames 40 = .ok (.if_icmp .ge 85, 3) := by decide +kernel
theorem d_S_walkNames_43 : decode b_S_walkNames 43 = .ok (.aload 8, 2) := by decide +kernel
theorem d_S_walkNames_45 : decode b_S_walkNames 45 = .ok (.invokevirtual 144, 3) := by decide +kernel
theorem d_S_walkNames_48 : decode b_S_walkNames 48 = .ok (.ifCond .eq 77, 3) := by decide +kernel
theorem d_S_walkNames_51 : decode b_S_walkNames 51 = .ok (.aload 6, 2) := by decide +kernel
theorem d_S_walkNames_53 : decode b_S_walkNames 53 = .ok (.aload 5, 2) := by decide +kernel
theorem d_S_walkNames_55 : decode b_S_walkNames 55 = .ok (.invokestatic 351, 3) := by decide +kernel
theorem d_S_walkNames_58 : decode b_S_walkNames 58 = .ok (.astore 8, 2) := by decide +kernel
theorem d_S_walkNames_60 : decode b_S_walkNames 60 = .ok (.aload 8, 2) := by decide +kernel
theorem d_S_walkNames_62 : decode b_S_walkNames 62 = .ok (.invokevirtual 144, 3) := by decide +kernel
theorem d_S_walkNames_65 : decode b_S_walkNames 65 = .ok (.ifCond .eq 14, 3) := by decide +kernel
theorem d_S_walkNames_68 : decode b_S_walkNames 68 = .ok (.aload_n 0, 1) := by decide +kernel
theorem d_S_walkNames_69 : decode b_S_walkNames 69 = .ok (.aload 6, 2) := by decide +kernel
theorem d_S_walkNames_71 : decode b_S_walkNames 71 = .ok (.iload 9, 2) := by decide +kernel
theorem d_S_walkNames_73 : decode b_S_walkNames 73 = .ok (.invokevirtual 355, 3) := by decide +kernel
theorem d_S_walkNames_76 : decode b_S_walkNames 76 = .ok (.goto 4, 3) := by decide +kernel
theorem d_S_walkNames_79 : decode b_S_walkNames 79 = .ok (.aconst_null, 1) := by decide +kernel
theorem d_S_walkNames_80 : decode b_S_walkNames 80 = .ok (.astore 10, 2) := by decide +kernel
theorem d_S_walkNames_82 : decode b_S_walkNames 82 = .ok (.aload 10, 2) := by decide +kernel
theorem d_S_walkNames_84 : decode b_S_walkNames 84 = .ok (.ifnull 22, 3) := by decide +kernel
theorem d_S_walkNames_87 : decode b_S_walkNames 87 = .ok (.aload 10, 2) := by decide +kernel
theorem d_S_walkNames_89 : decode b_S_walkNames 89 = .ok (.astore 6, 2) := by decide +kernel
theorem d_S_walkNames_91 : decode b_S_walkNames 91 = .ok (.aload_n 0, 1) := by decide +kernel
theorem d_S_walkNames_92 : decode b_S_walkNames 92 = .ok (.getfield 40, 3) := by decide +kernel
theorem d_S_walkNames_95 : decode b_S_walkNames 95 = .ok (.aload 6, 2) := by decide +kernel
theorem d_S_walkNames_97 : decode b_S_walkNames 97 = .ok (.invokevirtual 336, 3) := by decide +kernel
theorem d_S_walkNames_100 : decode b_S_walkNames 100 = .ok (.iinc 7 1, 3) := by decide +kernel
theorem d_S_walkNames_103 : decode b_S_walkNames 103 = .ok (.goto 16, 3) := by decide +kernel
theorem d_S_walkNames_106 : decode b_S_walkNames 106 = .ok (.aload 8, 2) := by decide +kernel
theorem d_S_walkNames_108 : decode b_S_walkNames 108 = .ok (.invokevirtual 144, 3) := by decide +kernel
theorem d_S_walkNames_111 : decode b_S_walkNames 111 = .ok (.ifCond .eq 8, 3) := by decide +kernel
theorem d_S_walkNames_114 : decode b_S_walkNames 114 = .ok (.ldc_w 359, 3) := by decide +kernel
theorem d_S_walkNames_117 : decode b_S_walkNames 117 = .ok (.astore 8, 2) := by decide +kernel
theorem d_S_walkNames_119 : decode b_S_walkNames 119 = .ok (.iinc 9 1, 3) := by decide +kernel
theorem d_S_walkNames_122 : decode b_S_walkNames 122 = .ok (.goto (-91), 3) := by decide +kernel
theorem d_S_walkNames_125 : decode b_S_walkNames 125 = .ok (.aload 8, 2) := by decide +kernel
theorem d_S_walkNames_127 : decode b_S_walkNames 127 = .ok (.invokevirtual 144, 3) := by decide +kernel
theorem d_S_walkNames_130 : decode b_S_walkNames 130 = .ok (.ifCond .eq 12, 3) := by decide +kernel
theorem d_S_walkNames_133 : decode b_S_walkNames 133 = .ok (.aload_n 2, 1) := by decide +kernel
theorem d_S_walkNames_134 : decode b_S_walkNames 134 = .ok (.lload_n 3, 1) := by decide +kernel
theorem d_S_walkNames_135 : decode b_S_walkNames 135 = .ok (.aload 6, 2) := by decide +kernel
theorem d_S_walkNames_137 : decode b_S_walkNames 137 = .ok (.aload 5, 2) := by decide +kernel
theorem d_S_walkNames_139 : decode b_S_walkNames 139 = .ok (.invokevirtual 332, 3) := by decide +kernel
theorem d_S_walkNames_142 : decode b_S_walkNames 142 = .ok (.aload_n 0, 1) := by decide +kernel
theorem d_S_walkNames_143 : decode b_S_walkNames 143 = .ok (.getfield 40, 3) := by decide +kernel
theorem d_S_walkNames_146 : decode b_S_walkNames 146 = .ok (.bipush 7, 2) := by decide +kernel
theorem d_S_walkNames_148 : decode b_S_walkNames 148 = .ok (.iload 7, 2) := by decide +kernel
theorem d_S_walkNames_150 : decode b_S_walkNames 150 = .ok (.i2l, 1) := by decide +kernel
theorem d_S_walkNames_151 : decode b_S_walkNames 151 = .ok (.iconst 2, 1) := by decide +kernel
theorem d_S_walkNames_152 : decode b_S_walkNames 152 = .ok (.invokevirtual 361, 3) := by decide +kernel
theorem d_S_walkNames_155 : decode b_S_walkNames 155 = .ok (.iload 7, 2) := by decide +kernel
theorem d_S_walkNames_157 : decode b_S_walkNames 157 = .ok (.ifCond .ne 8, 3) := by decide +kernel
theorem d_S_walkNames_160 : decode b_S_walkNames 160 = .ok (.aload 8, 2) := by decide +kernel
theorem d_S_walkNames_162 : decode b_S_walkNames 162 = .ok (.goto 5, 3) := by decide +kernel
theorem d_S_walkNames_165 : decode b_S_walkNames 165 = .ok (.ldc 174, 2) := by decide +kernel
theorem d_S_walkNames_167 : decode b_S_walkNames 167 = .ok (.areturn, 1) := by decide +kernel
abbrev rm_S_walkNames : Room := { frames := 6, cells := 0, slots := 0, locals := 145 }
set_option maxRecDepth 100000 in
set_option maxHeartbeats 4000000 in
theorem k_S_walkNames_142 {p : Program} {l : Launch} {e : Env} {s : State} {m : MethodId} {args : Array Value} {below : List Frame} {meth : Method} {c : Code} {t : TY} {a0 : Nat} {K : GS → Option Nat → Prop} (X : kX p s m args meth c b_S_walkNames 11 "TreeServer" t) (hret : meth.sig.returnType = some (.object "java/lang/String")) (l7 : Int32) (l8 : Option Nat) (G : GS) (hwp : w_S_walkNames_142 t a0 K l7 l8 G) : kW p l e rm_S_walkNames s m args below meth c (MQ below (va_Qq (fun r (u : GS) => K u r) (fun u T => HB t u T.heap) (tA t)) args s 0 0 (tA t)) 11 t false 142 [(0, va_rf (some a0)), (7, .int l7), (8, va_rf l8)] [] G := by
  unfold w_S_walkNames_142 at hwp
  refine kw_aload_n (pc := 142) X d_S_walkNames_142 rfl 0 rfl ?_
  obtain ⟨f1, hwp⟩ := hwp
  refine kg_67 (a := a0) (pc := 143) X d_S_walkNames_143 x_368 rfl f1 ?_
  refine kw_bipush (v := 7) (pc := 146) X d_S_walkNames_146 (by decide) ?_
  refine kw_iload (pc := 148) X d_S_walkNames_148 1 rfl ?_
  refine kw_i2l (pc := 150) X d_S_walkNames_150 ?_
  refine kw_iconst (v := 2) (pc := 151) X d_S_walkNames_151 (by decide) ?_
  obtain ⟨a2, h_a2, hwp⟩ := hwp
  obtain ⟨f3, hwp⟩ := hwp
  refine kW.st (st' := [.int (2 : Int32), .long l7.toInt64, .int (7 : Int32), .ref a2]) (by simp only [h_a2]; rfl) ?_
  refine kcV_v (n := 3) (As := [.int (7 : Int32), .long l7.toInt64, .int (2 : Int32)]) (rest := []) (pc := 152) X rfl (c_Answer_set l t G a2 (7 : Int32) l7.toInt64 (2 : Int32) _) (cwV_of (C := "TreeServer$Answer") X x_719 x_716 x_717 x_718 x_10 (by decide +kernel) ⟨rfl, rfl⟩ (by decide)) (rv_6 X f3) rfl rfl (by decide) d_S_walkNames_152 hwp (fun G4 hwp => ?_)
  refine kw_iload (pc := 155) X d_S_walkNames_155 1 rfl ?_
  refine kw_if_ne (tgt := 165) (pc := 157) X d_S_walkNames_157 (by decide) (fun h => ?_) (fun h => ?_)
  · have hwp := ite_t h hwp
    refine kw_ldcS (tx := "") (j := 2) (pc := 165) X d_S_walkNames_165 (by decide) rfl ?_
    exact kr_q (pc := 167) X hret d_S_walkNames_167 (Or.inl ⟨_, rfl⟩) hwp
  · have hwp := ite_f (not_not_intro h) hwp
    refine kw_aload (pc := 160) X d_S_walkNames_160 2 rfl ?_
    refine kw_goto (tgt := 167) (pc := 162) X d_S_walkNames_162 (by decide) ?_
    exact kr_q (pc := 167) X hret d_S_walkNames_167 (Or.inl ⟨_, rfl⟩) hwp
set_option maxRecDepth 100000 in
set_option maxHeartbeats 4000000 in
theorem k_S_walkNames_125 {p : Program} {l : Launch} {e : Env} {s : State} {m : MethodId} {args : Array Value} {below : List Frame} {meth : Method} {c : Code} {t : TY} {a0 : Nat} {K : GS → Option Nat → Prop} (X : kX p s m args meth c b_S_walkNames 11 "TreeServer" t) (hret : meth.sig.returnType = some (.object "java/lang/String")) (p2 : Nat) (l3 : Int64) (l5 : Option Nat) (l6 : Option Nat) (l7 : Int32) (l8 : Option Nat) (G : GS) (hwp : w_S_walkNames_125 t a0 K p2 l3 l5 l6 l7 l8 G) : kW p l e rm_S_walkNames s m args below meth c (MQ below (va_Qq (fun r (u : GS) => K u r) (fun u T => HB t u T.heap) (tA t)) args s 0 0 (tA t)) 11 t false 125 [(0, va_rf (some a0)), (2, va_rf (some p2)), (3, .long l3), (5, va_rf l5), (6, va_rf l6), (7, .int l7), (8, va_rf l8)] [] G := by
  unfold w_S_walkNames_125 at hwp
  refine kw_aload (pc := 125) X d_S_walkNames_125 6 rfl ?_
  obtain ⟨j2, g_j2, h_j2, hwp⟩ := hwp
  refine kc_str_isEmpty (j := j2) (pc := 127) X d_S_walkNames_127 x_570 g_j2 h_j2 (by decide) (by decide) ?_
  obtain ⟨v1, e_v1⟩ : ∃ z, z = (if slen j2 = 0 then (1 : Int32) else 0) := ⟨_, rfl⟩
  rw [← e_v1] at hwp ⊢
  have b_v1 : isB v1 := by rw [e_v1]; unfold isB; split <;> simp
  refine kw_if_eq (tgt := 142) (pc := 130) X d_S_walkNames_130 (by decide) (fun h => ?_) (fun h => ?_)
  · have hwp := ite_t h hwp
    exact kW.sub [0, 5, 6] rfl (k_S_walkNames_142 X hret  _ _ _ hwp)
  · have hwp := ite_f h hwp
    refine kw_aload_n (pc := 133) X d_S_walkNames_133 rfl 1 rfl ?_
    refine kw_lload_n (pc := 134) X d_S_walkNames_134 rfl 2 rfl ?_
    refine kw_aload (pc := 135) X d_S_walkNames_135 4 rfl ?_
    refine kw_aload (pc := 137) X d_S_walkNames_137 3 rfl ?_
    obtain ⟨f3, hwp⟩ := hwp
    obtain ⟨a4, h_a4, hwp⟩ := hwp
    refine kW.st (st' := [va_rf l5, .ref a4, .long l3, .ref p2]) (by simp only [h_a4]; rfl) ?_
    refine kcV_v (n := 3) (As := [.long l3, .ref a4, va_rf l5]) (rest := []) (pc := 139) X rfl (c_Fid_place l t G p2 l3 a4 l5 _) (cwV_of (C := "TreeServer$Fid") X x_675 x_672 x_673 x_674 x_12 (by decide +kernel) ⟨rfl, rfl⟩ (by decide)) (rv_7 X f3) rfl rfl (by decide) d_S_walkNames_139 hwp (fun G5 hwp => ?_)
    exact kW.sub [0, 5, 6] rfl (k_S_walkNames_142 X hret  _ _ _ hwp)
set_option maxRecDepth 100000 in
set_option maxHeartbeats 4000000 in
theorem k_S_walkNames_80 {p : Program} {l : Launch} {e : Env} {s : State} {m : MethodId} {args : Array Value} {below : List Frame} {meth : Method} {c : Code} {t : TY} {a0 : Nat} {K : GS → Option Nat → Prop} {r31 : Nat → Int64 → Option Nat → Option Nat → Int32 → Option Nat → Int32 → GS → Prop} (X : kX p s m args meth c b_S_walkNames 11 "TreeServer" t) (hret : meth.sig.returnType = some (.object "java/lang/String")) (hr_31 : ∀ (l2 : Nat) (l3 : Int64) (l5 : Option Nat) (l6 : Option Nat) (l7 : Int32) (l8 : Option Nat) (l9 : Int32) (G : GS), r31 l2 l3 l5 l6 l7 l8 l9 G → kW p l e rm_S_walkNames s m args below meth c (MQ below (va_Qq (fun r (u : GS) => K u r) (fun u T => HB t u T.heap) (tA t)) args s 0 0 (tA t)) 11 t false 31 [(0, va_rf (some a0)), (2, va_rf (some l2)), (3, .long l3), (5, va_rf l5), (6, va_rf l6), (7, .int l7), (8, va_rf l8), (9, .int l9)] [] G) (p2 : Nat) (l3 : Int64) (l5 : Option Nat) (l6 : Option Nat) (l7 : Int32) (l8 : Option Nat) (l9 : Int32) (s0 : Option Nat) (G : GS) (hwp : w_S_walkNames_80 t a0 K r31 p2 l3 l5 l6 l7 l8 l9 s0 G) : kW p l e rm_S_walkNames s m args below meth c (MQ below (va_Qq (fun r (u : GS) => K u r) (fun u T => HB t u T.heap) (tA t)) args s 0 0 (tA t)) 11 t false 80 [(0, va_rf (some a0)), (2, va_rf (some p2)), (3, .long l3), (5, va_rf l5), (6, va_rf l6), (7, .int l7), (8, va_rf l8), (9, .int l9)] [va_rf s0] G := by
  unfold w_S_walkNames_80 at hwp
  refine kw_astore (i := 10) (lv' := [(10, va_rf s0), (0, va_rf (some a0)), (2, va_rf (some p2)), (3, .long l3), (5, va_rf l5), (6, va_rf l6), (7, .int l7), (8, va_rf l8), (9, .int l9)]) (pc := 80) X d_S_walkNames_80 (by decide) rfl ?_
  refine kw_aload (pc := 82) X d_S_walkNames_82 0 rfl ?_
  refine kw_ifnull (tgt := 106) (pc := 84) X d_S_walkNames_84 (by decide) (fun h => ?_) (fun h => ?_)
  · have hwp := ite_t h hwp
    refine kw_aload (pc := 106) X d_S_walkNames_106 7 rfl ?_
    obtain ⟨j2, g_j2, h_j2, hwp⟩ := hwp
    refine kc_str_isEmpty (j := j2) (pc := 108) X d_S_walkNames_108 x_570 g_j2 h_j2 (by decide) (by decide) ?_
    obtain ⟨v1, e_v1⟩ : ∃ z, z = (if slen j2 = 0 then (1 : Int32) else 0) := ⟨_, rfl⟩
    rw [← e_v1] at hwp ⊢
    have b_v1 : isB v1 := by rw [e_v1]; unfold isB; split <;> simp
    refine kw_if_eq (tgt := 119) (pc := 111) X d_S_walkNames_111 (by decide) (fun h => ?_) (fun h => ?_)
    · have hwp := ite_t h hwp
      obtain ⟨v3, e_v3⟩ : ∃ z, z = (l9 + (1 : Int32)) := ⟨_, rfl⟩
      have hwp := hwp v3 e_v3
      refine kw_iinc (v := v3) (lv' := [(9, .int v3), (10, va_rf s0), (0, va_rf (some a0)), (2, va_rf (some p2)), (3, .long l3), (5, va_rf l5), (6, va_rf l6), (7, .int l7), (8, va_rf l8)]) (pc := 119) X d_S_walkNames_119 8 rfl (by rw [e_v3]; rfl) (by decide) (by simp [rf_cat, cat_i, cat_l, cat_r]) ?_
      refine kw_goto (tgt := 31) (pc := 122) X d_S_walkNames_122 (by decide) ?_
      exact kW.sub [2, 3, 4, 5, 6, 7, 8, 0] rfl (hr_31 _ _ _ _ _ _ _ _ hwp)
    · have hwp := ite_f h hwp
      refine kw_ldcwS (j := 17) (pc := 114) X d_S_walkNames_114 (by decide) rfl ?_
      refine kw_astore (i := 8) (lv' := [(8, va_rf (some (tks t 17))), (10, va_rf s0), (0, va_rf (some a0)), (2, va_rf (some p2)), (3, .long l3), (5, va_rf l5), (6, va_rf l6), (7, .int l7), (9, .int l9)]) (pc := 117) X d_S_walkNames_117 (by decide) rfl ?_
      obtain ⟨v4, e_v4⟩ : ∃ z, z = (l9 + (1 : Int32)) := ⟨_, rfl⟩
      have hwp := hwp v4 e_v4
      refine kw_iinc (v := v4) (lv' := [(9, .int v4), (8, va_rf (some (tks t 17))), (10, va_rf s0), (0, va_rf (some a0)), (2, va_rf (some p2)), (3, .long l3), (5, va_rf l5), (6, va_rf l6), (7, .int l7)]) (pc := 119) X d_S_walkNames_119 8 rfl (by rw [e_v4]; rfl) (by decide) rfl ?_
      refine kw_goto (tgt := 31) (pc := 122) X d_S_walkNames_122 (by decide) ?_
      exact kW.sub [3, 4, 5, 6, 7, 8, 1, 0] rfl (hr_31 _ _ _ _ _ _ _ _ hwp)
  · have hwp := ite_f h hwp
    refine kw_aload (pc := 87) X d_S_walkNames_87 0 rfl ?_
    refine kw_astore (i := 6) (lv' := [(6, va_rf s0), (10, va_rf s0), (0, va_rf (some a0)), (2, va_rf (some p2)), (3, .long l3), (5, va_rf l5), (7, .int l7), (8, va_rf l8), (9, .int l9)]) (pc := 89) X d_S_walkNames_89 (by decide) (by simp [rf_cat, cat_i, cat_l, cat_r]) ?_
    refine kw_aload_n (pc := 91) X d_S_walkNames_91 rfl 2 rfl ?_
    obtain ⟨f5, hwp⟩ := hwp
    refine kg_67 (a := a0) (pc := 92) X d_S_walkNames_92 x_368 rfl f5 ?_
    refine kw_aload (pc := 95) X d_S_walkNames_95 0 rfl ?_
    obtain ⟨a6, h_a6, hwp⟩ := hwp
    obtain ⟨f7, hwp⟩ := hwp
    obtain ⟨a8, h_a8, hwp⟩ := hwp
    refine kW.st (st' := [.ref a8, .ref a6]) (by simp only [h_a8, h_a6]; rfl) ?_
    refine kcV_v (n := 1) (As := [.ref a8]) (rest := []) (pc := 97) X rfl (c_Answer_putQid l t G a6 a8 _) (cwV_of (C := "TreeServer$Answer") X x_679 x_676 x_677 x_678 x_10 (by decide +kernel) ⟨rfl, rfl⟩ (by decide)) (rv_6 X f7) rfl rfl (by decide) d_S_walkNames_97 hwp (fun G9 hwp => ?_)
    obtain ⟨v10, e_v10⟩ : ∃ z, z = (l7 + (1 : Int32)) := ⟨_, rfl⟩
    have hwp := hwp v10 e_v10
    refine kw_iinc (v := v10) (lv' := [(7, .int v10), (6, va_rf s0), (10, va_rf s0), (0, va_rf (some a0)), (2, va_rf (some p2)), (3, .long l3), (5, va_rf l5), (8, va_rf l8), (9, .int l9)]) (pc := 100) X d_S_walkNames_100 6 rfl (by rw [e_v10]; rfl) (by decide) (by simp [rf_cat, cat_i, cat_l, cat_r]) ?_
    refine kw_goto (tgt := 119) (pc := 103) X d_S_walkNames_103 (by decide) ?_
    obtain ⟨v11, e_v11⟩ : ∃ z, z = (l9 + (1 : Int32)) := ⟨_, rfl⟩
    have hwp := hwp v11 e_v11
    refine kw_iinc (v := v11) (lv' := [(9, .int v11), (7, .int v10), (6, va_rf s0), (10, va_rf s0), (0, va_rf (some a0)), (2, va_rf (some p2)), (3, .long l3), (5, va_rf l5), (8, va_rf l8)]) (pc := 119) X d_S_walkNames_119 8 rfl (by rw [e_v11]; rfl) (by decide) (by simp [rf_cat, cat_i, cat_l, cat_r]) ?_
    refine kw_goto (tgt := 31) (pc := 122) X d_S_walkNames_122 (by decide) ?_
    exact kW.sub [4, 5, 6, 7, 2, 1, 8, 0] rfl (hr_31 _ _ _ _ _ _ _ _ hwp)
set_option maxRecDepth 100000 in
set_option maxHeartbeats 4000000 in
theorem k_S_walkNames_31 {p : Program} {l : Launch} {e : Env} {s : State} {m : MethodId} {args : Array Value} {below : List Frame} {meth : Method} {c : Code} {t : TY} {a0 : Nat} {K : GS → Option Nat → Prop} (X : kX p s m args meth c b_S_walkNames 11 "TreeServer" t) (hret : meth.sig.returnType = some (.object "java/lang/String")) : ∀ (n : Nat) (p2 : Nat) (l3 : Int64) (l5 : Option Nat) (l6 : Option Nat) (l7 : Int32) (l8 : Option Nat) (l9 : Int32) (G : GS), w_S_walkNames_31 t a0 K n p2 l3 l5 l6 l7 l8 l9 G → kW p l e rm_S_walkNames s m args below meth c (MQ below (va_Qq (fun r (u : GS) => K u r) (fun u T => HB t u T.heap) (tA t)) args s 0 0 (tA t)) 11 t false 31 [(0, va_rf (some a0)), (2, va_rf (some p2)), (3, .long l3), (5, va_rf l5), (6, va_rf l6), (7, .int l7), (8, va_rf l8), (9, .int l9)] [] G := by
  intro n
  induction n with
  | zero => intro p2 l3 l5 l6 l7 l8 l9 G hwp; exact hwp.elim
  | succ n hr_31 =>
    intro p2 l3 l5 l6 l7 l8 l9 G hwp
    unfold w_S_walkNames_31 at hwp
    dsimp only at hwp
    refine kw_iload (pc := 31) X d_S_walkNames_31 7 rfl ?_
    refine kw_aload_n (pc := 33) X d_S_walkNames_33 rfl 0 rfl ?_
    obtain ⟨f1, hwp⟩ := hwp
    refine kg_66 (a := a0) (pc := 34) X d_S_walkNames_34 x_367 rfl f1 ?_
    obtain ⟨a2, h_a2, hwp⟩ := hwp
    obtain ⟨f3, hwp⟩ := hwp
    refine kg_42 (a := a2) (pc := 37) X d_S_walkNames_37 x_241 h_a2 f3 ?_
    refine kw_icmp_ge (tgt := 125) (pc := 40) X d_S_walkNames_40 (by decide) (fun h => ?_) (fun h => ?_)
    · have hwp := ite_t h hwp
      exact kW.sub [0, 1, 2, 3, 4, 5, 6] rfl (k_S_walkNames_125 X hret  _ _ _ _ _ _ _ hwp)
    · have hwp := ite_f h hwp
      refine kw_aload (pc := 43) X d_S_walkNames_43 6 rfl ?_
      obtain ⟨j5, g_j5, h_j5, hwp⟩ := hwp
      refine kc_str_isEmpty (j := j5) (pc := 45) X d_S_walkNames_45 x_570 g_j5 h_j5 (by decide) (by decide) ?_
      obtain ⟨v4, e_v4⟩ : ∃ z, z = (if slen j5 = 0 then (1 : Int32) else 0) := ⟨_, rfl⟩
      rw [← e_v4] at hwp ⊢
      have b_v4 : isB v4 := by rw [e_v4]; unfold isB; split <;> simp
      refine kw_if_eq (tgt := 125) (pc := 48) X d_S_walkNames_48 (by decide) (fun h => ?_) (fun h => ?_)
      · have hwp := ite_t h hwp
        exact kW.sub [0, 1, 2, 3, 4, 5, 6] rfl (k_S_walkNames_125 X hret  _ _ _ _ _ _ _ hwp)
      · have hwp := ite_f h hwp
        refine kw_aload (pc := 51) X d_S_walkNames_51 4 rfl ?_
        refine kw_aload (pc := 53) X d_S_walkNames_53 3 rfl ?_
        obtain ⟨a6, h_a6, hwp⟩ := hwp
        refine kW.st (st' := [va_rf l5, .ref a6]) (by simp only [h_a6]; rfl) ?_
        refine kcSp_q (n := 2) (As := [.ref a6, va_rf l5]) (rest := []) (pc := 55) X (c_S_stepRefusal l t G a6 l5 _) (cwS_of X x_693 x_691 x_692 x_1 (by decide +kernel) ⟨rfl, rfl⟩ (by decide)) rfl rfl (by decide) d_S_walkNames_55 hwp (fun x7 hwp => ?_)
        refine kw_astore (i := 8) (lv' := [(8, va_rf x7), (0, va_rf (some a0)), (2, va_rf (some p2)), (3, .long l3), (5, va_rf l5), (6, va_rf l6), (7, .int l7), (9, .int l9)]) (pc := 58) X d_S_walkNames_58 (by decide) rfl ?_
        refine kw_aload (pc := 60) X d_S_walkNames_60 0 rfl ?_
        obtain ⟨j9, g_j9, h_j9, hwp⟩ := hwp
        refine kc_str_isEmpty (j := j9) (pc := 62) X d_S_walkNames_62 x_570 g_j9 h_j9 (by decide) (by decide) ?_
        obtain ⟨v8, e_v8⟩ : ∃ z, z = (if slen j9 = 0 then (1 : Int32) else 0) := ⟨_, rfl⟩
        rw [← e_v8] at hwp ⊢
        have b_v8 : isB v8 := by rw [e_v8]; unfold isB; split <;> simp
        refine kw_if_eq (tgt := 79) (pc := 65) X d_S_walkNames_65 (by decide) (fun h => ?_) (fun h => ?_)
        · have hwp := ite_t h hwp
          refine kw_null (pc := 79) X d_S_walkNames_79 ?_
          exact kW.sub [1, 2, 3, 4, 5, 6, 0, 7] rfl (k_S_walkNames_80 X hret hr_31 _ _ _ _ _ _ _ _ _ hwp)
        · have hwp := ite_f h hwp
          refine kw_aload_n (pc := 68) X d_S_walkNames_68 rfl 1 rfl ?_
          refine kw_aload (pc := 69) X d_S_walkNames_69 5 rfl ?_
          refine kw_iload (pc := 71) X d_S_walkNames_71 7 rfl ?_
          refine kW.st (st' := [.int l9, .ref a6, .ref a0]) (by simp only [h_a6]; rfl) ?_
          refine kcVp_q (n := 2) (As := [.ref a6, .int l9]) (rest := []) (pc := 73) X (c_S_nextNode l t G a0 a6 l9 _) (cwV_of (C := "TreeServer") X x_704 x_701 x_703 xp_16 x_1 (by decide +kernel) ⟨rfl, rfl⟩ (by decide)) (rv_9 X f1) rfl rfl (by decide) d_S_walkNames_73 hwp (fun x10 hwp => ?_)
          refine kw_goto (tgt := 80) (pc := 76) X d_S_walkNames_76 (by decide) ?_
          exact kW.sub [1, 2, 3, 4, 5, 6, 0, 7] rfl (k_S_walkNames_80 X hret hr_31 _ _ _ _ _ _ _ _ _ hwp)
set_option maxRecDepth 100000 in
set_option maxHeartbeats 4000000 in
theorem k_S_walkNames {p : Program} {l : Launch} {e : Env} {s : State} {m : MethodId} {args : Array Value} {below : List Frame} {meth : Method} {c : Code} {t : TY} {a0 : Nat} {K : GS → Option Nat → Prop} (X : kX p s m args meth c b_S_walkNames 11 "TreeServer" t) (hret : meth.sig.returnType = some (.object "java/lang/String")) (G : GS) (p1 : Nat) (p2 : Nat) (p3 : Int64) (hwp : w_S_walkNames t G a0 p1 p2 p3 K) : kW p l e rm_S_walkNames s m args below meth c (MQ below (va_Qq (fun r (u : GS) => K u r) (fun u T => HB t u T.heap) (tA t)) args s 0 0 (tA t)) 11 t false 0 [(0, va_rf (some a0)), (1, va_rf (some p1)), (2, va_rf (some p2)), (3, .long p3)] [] G := by
  unfold w_S_walkNames at hwp
  refine kw_aload_n (pc := 0) X d_S_walkNames_0 rfl 1 rfl ?_
  obtain ⟨f1, hwp⟩ := hwp
  refine kg_50 (a := p1) (pc := 1) X d_S_walkNames_1 x_303 rfl f1 ?_
  refine kw_astore (i := 5) (lv' := [(5, va_rf (gr G 50 p1)), (0, va_rf (some a0)), (1, va_rf (some p1)), (2, va_rf (some p2)), (3, .long p3)]) (pc := 4) X d_S_walkNames_4 (by decide) rfl ?_
  refine kw_aload_n (pc := 6) X d_S_walkNames_6 rfl 2 rfl ?_
  refine kg_48 (a := p1) (pc := 7) X d_S_walkNames_7 x_300 rfl f1 ?_
  refine kw_astore (i := 6) (lv' := [(6, va_rf (gr G 48 p1)), (5, va_rf (gr G 50 p1)), (0, va_rf (some a0)), (1, va_rf (some p1)), (2, va_rf (some p2)), (3, .long p3)]) (pc := 10) X d_S_walkNames_10 (by decide) (by simp [rf_cat, cat_i, cat_l, cat_r]) ?_
  refine kw_iconst (v := 0) (pc := 12) X d_S_walkNames_12 (by decide) ?_
  refine kw_istore (i := 7) (lv' := [(7, .int (0 : Int32)), (6, va_rf (gr G 48 p1)), (5, va_rf (gr G 50 p1)), (0, va_rf (some a0)), (1, va_rf (some p1)), (2, va_rf (some p2)), (3, .long p3)]) (pc := 13) X d_S_walkNames_13 (by decide) (by simp [rf_cat, cat_i, cat_l, cat_r]) ?_
  refine kw_ldcS (tx := "") (j := 2) (pc := 15) X d_S_walkNames_15 (by decide) rfl ?_
  refine kw_astore (i := 8) (lv' := [(8, va_rf (some (tks t 2))), (7, .int (0 : Int32)), (6, va_rf (gr G 48 p1)), (5, va_rf (gr G 50 p1)), (0, va_rf (some a0)), (1, va_rf (some p1)), (2, va_rf (some p2)), (3, .long p3)]) (pc := 17) X d_S_walkNames_17 (by decide) rfl ?_
  refine kw_aload_n (pc := 19) X d_S_walkNames_19 rfl 4 rfl ?_
  obtain ⟨f2, hwp⟩ := hwp
  refine kg_67 (a := a0) (pc := 20) X d_S_walkNames_20 x_368 rfl f2 ?_
  refine kw_lconst (v := 0) (pc := 23) X d_S_walkNames_23 (by decide) ?_
  refine kw_iconst (v := 2) (pc := 24) X d_S_walkNames_24 (by decide) ?_
  obtain ⟨a3, h_a3, hwp⟩ := hwp
  obtain ⟨f4, hwp⟩ := hwp
  refine kW.st (st' := [.int (2 : Int32), .long (0 : Int64), .ref a3]) (by simp only [h_a3]; rfl) ?_
  refine kcV_v (n := 2) (As := [.long (0 : Int64), .int (2 : Int32)]) (rest := []) (pc := 25) X rfl (c_Answer_put l t G a3 (0 : Int64) (2 : Int32) _) (cwV_of (C := "TreeServer$Answer") X x_549 x_640 x_547 x_548 x_10 (by decide +kernel) ⟨rfl, rfl⟩ (by decide)) (rv_6 X f4) rfl rfl (by decide) d_S_walkNames_25 hwp (fun G5 hwp => ?_)
  refine kw_iconst (v := 0) (pc := 28) X d_S_walkNames_28 (by decide) ?_
  refine kw_istore (i := 9) (lv' := [(9, .int (0 : Int32)), (8, va_rf (some (tks t 2))), (7, .int (0 : Int32)), (6, va_rf (gr G 48 p1)), (5, va_rf (gr G 50 p1)), (0, va_rf (some a0)), (1, va_rf (some p1)), (2, va_rf (some p2)), (3, .long p3)]) (pc := 29) X d_S_walkNames_29 (by decide) rfl ?_
  obtain ⟨n, hwp⟩ := hwp
  exact kW.sub [5, 7, 8, 4, 3, 2, 1, 0] rfl (k_S_walkNames_31 X hret  n _ _ _ _ _ _ _ _ hwp)
set_option maxRecDepth 100000 in
set_option maxHeartbeats 4000000 in
theorem c_S_walkNames (l : Launch) (t : TY) (G : GS) (a0 : Nat) (p1 : Nat) (p2 : Nat) (p3 : Int64) (K : GS → Option Nat → Prop) : Met l y_S_walkNames (Cond.code y_S_walkNames b_S_walkNames 11 (Option.some (Jvm.ClassFile.FieldType.object "java/lang/String")) :: GW) rm_S_walkNames (va_Pc [.ref a0, .ref p1, .ref p2, .long p3] (fun U => HB t G U.heap ∧ HK t U ∧ w_S_walkNames t G a0 p1 p2 p3 K)) (va_Qq (fun r (u : GS) => K u r) (fun u T => HB t u T.heap) (tA t)) 0 0 (tA t) := by
  refine Met.ofW (cc := b_S_walkNames) (maxL := 11) (ret := some (.object "java/lang/String")) (by decide) rfl ?_
  intro p e s m args below meth c s₁ B hml hv
  obtain ⟨rfl, hB, hK, hwp⟩ := hv
  have hts := atoms_spec (ws := Cond.code y_S_walkNames b_S_walkNames 11 (Option.some (Jvm.ClassFile.FieldType.object "java/lang/String")) :: GW) B.pre
  have X : kX p s m _ meth c b_S_walkNames 11 "TreeServer" t := ⟨B.exec, B.bytes, hml, findClass_of_methodNamed B.named, fun w h => hts w (List.mem_cons_of_mem _ h), B.notSynchronized, hK⟩
  have hZ : kZ t false s G s.heap [] := ⟨hB, va_S.rf, fun _ => ⟨rfl, rfl⟩⟩
  rw [lg_entry_eq]
  have hl := lv_entry ([.ref a0, .ref p1, .ref p2, .long p3]) (n := 11) (by simp [lg_sl, rf_cat, cat_i, cat_l, cat_r])
  exact k_S_walkNames X B.returns _ _ _ _ hwp s.heap [] _ hl hZ
abbrev b_S_walk : ByteArray := prog_1_method_27_code
def y_S_walk : MethodName := ⟨"TreeServer", "walk", "(LTreeServer$Link;)Ljava/lang/String;"⟩
theorem d_S_walk_0 : decode b_S_walk 0 = .ok (.aload_n 0, 1) := by decide +kernel
theorem d_S_walk_1 : decode b_S_walk 1 = .ok (.getfield 33, 3) := by decide +kernel
theorem d_S_walk_4 : decode b_S_walk 4 = .ok (.bipush 7, 2) := by decide +kernel
theorem d_S_walk_6 : decode b_S_walk 6 = .ok (.iconst 4, 1) := by decide +kernel
theorem d_S_walk_7 : decode b_S_walk 7 = .ok (.invokevirtual 178, 3) := by decide +kernel
theorem d_S_walk_10 : decode b_S_walk 10 = .ok (.lstore_n 2, 1) := by decide +kernel
theorem d_S_walk_11 : decode b_S_walk 11 = .ok (.aload_n 1, 1) := by decide +kernel
theorem d_S_walk_12 : decode b_S_walk 12 = .ok (.lload_n 2, 1) := by decide +kernel
theorem d_S_walk_13 : decode b_S_walk 13 = .ok (.invokevirtual 197, 3) := by decide +kernel
theorem d_S_walk_16 : decode b_S_walk 16 = .ok (.astore 4, 2) := by decide +kernel
theorem d_S_walk_18 : decode b_S_walk 18 = .ok (.aload 4, 2) := by decide +kernel
theorem d_S_walk_20 : decode b_S_walk 20 = .ok (.ifnonnull 6, 3) := by decide +kernel
theorem d_S_walk_23 : decode b_S_walk 23 = .ok (.ldc 201, 2) := by decide +kernel
theorem d_S_walk_25 : decode b_S_walk 25 = .ok (.areturn, 1) := by decide +kernel
theorem d_S_walk_26 : decode b_S_walk 26 = .ok (.aload 4, 2) := by decide +kernel
theorem d_S_walk_28 : decode b_S_walk 28 = .ok (.invokevirtual 210, 3) := by decide +kernel
theorem d_S_walk_31 : decode b_S_walk 31 = .ok (.ifCond .eq 6, 3) := by decide +kernel
theorem d_S_walk_34 : decode b_S_walk 34 = .ok (.ldc 215, 2) := by decide +kernel
theorem d_S_walk_36 : decode b_S_walk 36 = .ok (.areturn, 1) := by decide +kernel
theorem d_S_walk_37 : decode b_S_walk 37 = .ok (.aload 4, 2) := by decide +kernel
theorem d_S_walk_39 : decode b_S_walk 39 = .ok (.getfield 340, 3) := by decide +kernel
theorem d_S_walk_42 : decode b_S_walk 42 = .ok (.iconst (-1), 1) := by decide +kernel
theorem d_S_walk_43 : decode b_S_walk 43 = .ok (.if_icmp .eq 7, 3) := by decide +kernel
theorem d_S_walk_46 : decode b_S_walk 46 = .ok (.ldc_w 343, 3) := by decide +kernel
theorem d_S_walk_49 : decode b_S_walk 49 = .ok (.areturn, 1) := by decide +kernel
theorem d_S_walk_50 : decode b_S_walk 50 = .ok (.aload_n 0, 1) := by decide +kernel
theorem d_S_walk_51 : decode b_S_walk 51 = .ok (.getfield 33, 3) := by decide +kernel
theorem d_S_walk_54 : decode b_S_walk 54 = .ok (.bipush 11, 2) := by decide +kernel
theorem d_S_walk_56 : decode b_S_walk 56 = .ok (.iconst 4, 1) := by decide +kernel
theorem d_S_walk_57 : decode b_S_walk 57 = .ok (.invokevirtual 178, 3) := by decide +kernel
theorem d_S_walk_60 : decode b_S_walk 60 = .ok (.lstore 5, 2) := by decide +kernel
theorem d_S_walk_62 : decode b_S_walk 62 = .ok (.aload 4, 2) := by decide +kernel
theorem d_S_walk_64 : decode b_S_walk 64 = .ok (.astore 7, 2) := by decide +kernel
theorem d_S_walk_66 : decode b_S_walk 66 = .ok (.lload 5, 2) := by decide +kernel
theorem d_S_walk_68 : decode b_S_walk 68 = .ok (.lload_n 2, 1) := by decide +kernel
theorem d_S_walk_69 : decode b_S_walk 69 = .ok (.lcmp, 1) := by decide +kernel
theorem d_S_walk_70 : decode b_S_walk 70 = .ok (.ifCond .eq 31, 3) := by decide +kernel
theorem d_S_walk_73 : decode b_S_walk 73 = .ok (.aload_n 1, 1) := by decide +kernel
theorem d_S_walk_74 : decode b_S_walk 74 = .ok (.lload 5, 2) := by decide +kernel
theorem d_S_walk_76 : decode b_S_walk 76 = .ok (.invokevirtual 197, 3) := by decide +kernel
theorem d_S_walk_79 : decode b_S_walk 79 = .ok (.ifnull 7, 3) := by decide +kernel
theorem d_S_walk_82 : decode b_S_walk 82 = .ok (.ldc_w 315, 3) := by decide +kernel
theorem d_S_walk_85 : decode b_S_walk 85 = .ok (.areturn, 1) := by decide +kernel
theorem d_S_walk_86 : decode b_S_walk 86 = .ok (.aload_n 1, 1) := by decide +kernel
theorem d_S_walk_87 : decode b_S_walk 87 = .ok (.invokevirtual 317, 3) := by decide +kernel
theorem d_S_walk_90 : decode b_S_walk 90 = .ok (.astore 7, 2) := by decide +kernel
theorem d_S_walk_92 : decode b_S_walk 92 = .ok (.aload 7, 2) := by decide +kernel
theorem d_S_walk_94 : decode b_S_walk 94 = .ok (.ifnonnull 7, 3) := by decide +kernel
theorem d_S_walk_97 : decode b_S_walk 97 = .ok (.ldc_w 320, 3) := by decide +kernel
theorem d_S_walk_100 : decode b_S_walk 100 = .ok (.areturn, 1) := by decide +kernel
theorem d_S_walk_101 : decode b_S_walk 101 = .ok (.aload_n 0, 1) := by decide +kernel
theorem d_S_walk_102 : decode b_S_walk 102 = .ok (.aload 4, 2) := by decide +kernel
theorem d_S_walk_104 : decode b_S_walk 104 = .ok (.aload 7, 2) := by decide +kernel
theorem d_S_walk_106 : decode b_S_walk 106 = .ok (.lload 5, 2) := by decide +kernel
theorem d_S_walk_108 : decode b_S_walk 108 = .ok (.invokevirtual 344, 3) := by decide +kernel
theorem d_S_walk_111 : decode b_S_walk 111 = .ok (.areturn, 1) := by decide +kernel
abbrev rm_S_walk : Room := { frames := 7, cells := 0, slots := 0, locals := 175 }
set_option maxRecDepth 100000 in
set_option maxHeartbeats 4000000 in
theorem k_S_walk_101 {p : Program} {l : Launch} {e : Env} {s : State} {m : MethodId} {args : Array Value} {below : List Frame} {meth : Method} {c : Code} {t : TY} {a0 : Nat} {K : GS → Option Nat → Prop} (X : kX p s m args meth c b_S_walk 8 "TreeServer" t) (hret : meth.sig.returnType = some (.object "java/lang/String")) (l4 : Option Nat) (l5 : Int64) (l7 : Option Nat) (G : GS) (hwp : w_S_walk_101 t a0 K l4 l5 l7 G) : kW p l e rm_S_walk s m args below meth c (MQ below (va_Qq (fun r (u : GS) => K u r) (fun u T => HB t u T.heap) (tA t)) args s 0 0 (tA t)) 8 t false 101 [(0, va_rf (some a0)), (4, va_rf l4), (5, .long l5), (7, va_rf l7)] [] G := by
  unfold w_S_walk_101 at hwp
  refine kw_aload_n (pc := 101) X d_S_walk_101 rfl 0 rfl ?_
  refine kw_aload (pc := 102) X d_S_walk_102 1 rfl ?_
  refine kw_aload (pc := 104) X d_S_walk_104 3 rfl ?_
  refine kw_lload (pc := 106) X d_S_walk_106 2 rfl ?_
  obtain ⟨f1, hwp⟩ := hwp
  obtain ⟨a2, h_a2, hwp⟩ := hwp
  obtain ⟨a3, h_a3, hwp⟩ := hwp
  refine kW.st (st' := [.long l5, .ref a3, .ref a2, .ref a0]) (by simp only [h_a2, h_a3]; rfl) ?_
  refine kcV_q (n := 3) (As := [.ref a2, .ref a3, .long l5]) (rest := []) (pc := 108) X rfl (c_S_walkNames l t G a0 a2 a3 l5 _) (cwV_of (C := "TreeServer") X x_690 x_687 x_689 xp_15 x_1 (by decide +kernel) ⟨rfl, rfl⟩ (by decide)) (rv_9 X f1) rfl rfl (by decide) d_S_walk_108 hwp (fun x5 G4 hwp => ?_)
  exact kr_q (pc := 111) X hret d_S_walk_111 (Or.inl ⟨_, rfl⟩) hwp
set_option maxRecDepth 100000 in
set_option maxHeartbeats 4000000 in
theorem k_S_walk {p : Program} {l : Launch} {e : Env} {s : State} {m : MethodId} {args : Array Value} {below : List Frame} {meth : Method} {c : Code} {t : TY} {a0 : Nat} {K : GS → Option Nat → Prop} (X : kX p s m args meth c b_S_walk 8 "TreeServer" t) (hret : meth.sig.returnType = some (.object "java/lang/String")) (G : GS) (p1 : Nat) (hwp : w_S_walk t G a0 p1 K) : kW p l e rm_S_walk s m args below meth c (MQ below (va_Qq (fun r (u : GS) => K u r) (fun u T => HB t u T.heap) (tA t)) args s 0 0 (tA t)) 8 t false 0 [(0, va_rf (some a0)), (1, va_rf (some p1))] [] G := by
  unfold w_S_walk at hwp
  refine kw_aload_n (pc := 0) X d_S_walk_0 rfl 0 rfl ?_
  obtain ⟨f1, hwp⟩ := hwp
  refine kg_66 (a := a0) (pc := 1) X d_S_walk_1 x_367 rfl f1 ?_
  refine kw_bipush (v := 7) (pc := 4) X d_S_walk_4 (by decide) ?_
  refine kw_iconst (v := 4) (pc := 6) X d_S_walk_6 (by decide) ?_
  obtain ⟨a2, h_a2, hwp⟩ := hwp
  obtain ⟨f3, hwp⟩ := hwp
  refine kW.st (st' := [.int (4 : Int32), .int (7 : Int32), .ref a2]) (by simp only [h_a2]; rfl) ?_
  refine kcVp_l (n := 2) (As := [.int (7 : Int32), .int (4 : Int32)]) (rest := []) (pc := 7) X (c_Message_number l t G a2 (7 : Int32) (4 : Int32) _) (cwV_of (C := "TreeServer$Message") X x_541 x_578 x_539 x_540 x_9 (by decide +kernel) ⟨rfl, rfl⟩ (by decide)) (rv_5 X f3) rfl rfl (by decide) d_S_walk_7 hwp (fun v4 hwp => ?_)
  refine kw_lstore_n (i := 2) (lv' := [(2, .long v4), (0, va_rf (some a0)), (1, va_rf (some p1))]) (pc := 10) X d_S_walk_10 rfl (by decide) rfl ?_
  refine kw_aload_n (pc := 11) X d_S_walk_11 rfl 2 rfl ?_
  refine kw_lload_n (pc := 12) X d_S_walk_12 rfl 0 rfl ?_
  obtain ⟨f5, hwp⟩ := hwp
  refine kcVp_q (n := 1) (As := [.long v4]) (rest := []) (pc := 13) X (c_Link_find l t G p1 v4 _) (cwV_of (C := "TreeServer$Link") X x_656 x_653 x_654 x_655 x_11 (by decide +kernel) ⟨rfl, rfl⟩ (by decide)) (rv_8 X f5) rfl rfl (by decide) d_S_walk_13 hwp (fun x6 hwp => ?_)
  refine kw_astore (i := 4) (lv' := [(4, va_rf x6), (2, .long v4), (0, va_rf (some a0)), (1, va_rf (some p1))]) (pc := 16) X d_S_walk_16 (by decide) rfl ?_
  refine kw_aload (pc := 18) X d_S_walk_18 0 rfl ?_
  refine kw_ifnonnull (tgt := 26) (pc := 20) X d_S_walk_20 (by decide) (fun h => ?_) (fun h => ?_)
  · have hwp := ite_t h hwp
    refine kw_aload (pc := 26) X d_S_walk_26 0 rfl ?_
    obtain ⟨a7, h_a7, hwp⟩ := hwp
    obtain ⟨f8, hwp⟩ := hwp
    refine kW.st (st' := [.ref a7]) (by simp only [h_a7]; rfl) ?_
    refine kcVp_i (n := 0) (As := []) (rest := []) (pc := 28) X (c_Fid_isGone l t G a7 _) (cwV_of (C := "TreeServer$Fid") X x_435 x_432 x_433 x_434 x_12 (by decide +kernel) ⟨rfl, rfl⟩ (by decide)) (rv_7 X f8) rfl rfl (by decide) d_S_walk_28 hwp (fun v9 hwp => ?_)
    obtain ⟨b_v9, hwp⟩ := hwp
    refine kw_if_eq (tgt := 37) (pc := 31) X d_S_walk_31 (by decide) (fun h => ?_) (fun h => ?_)
    · have hwp := ite_t h hwp
      refine kw_aload (pc := 37) X d_S_walk_37 0 rfl ?_
      refine kg_51 (a := a7) (pc := 39) X d_S_walk_39 x_306 h_a7 f8 ?_
      refine kw_iconst (v := -1) (pc := 42) X d_S_walk_42 (by decide) ?_
      refine kw_icmp_eq (tgt := 50) (pc := 43) X d_S_walk_43 (by decide) (fun h => ?_) (fun h => ?_)
      · have hwp := ite_t h hwp
        refine kw_aload_n (pc := 50) X d_S_walk_50 rfl 2 rfl ?_
        refine kg_66 (a := a0) (pc := 51) X d_S_walk_51 x_367 rfl f1 ?_
        refine kw_bipush (v := 11) (pc := 54) X d_S_walk_54 (by decide) ?_
        refine kw_iconst (v := 4) (pc := 56) X d_S_walk_56 (by decide) ?_
        refine kW.st (st' := [.int (4 : Int32), .int (11 : Int32), .ref a2]) (by simp only [h_a2]; rfl) ?_
        refine kcVp_l (n := 2) (As := [.int (11 : Int32), .int (4 : Int32)]) (rest := []) (pc := 57) X (c_Message_number l t G a2 (11 : Int32) (4 : Int32) _) (cwV_of (C := "TreeServer$Message") X x_541 x_578 x_539 x_540 x_9 (by decide +kernel) ⟨rfl, rfl⟩ (by decide)) (rv_5 X f3) rfl rfl (by decide) d_S_walk_57 hwp (fun v10 hwp => ?_)
        refine kw_lstore (i := 5) (lv' := [(5, .long v10), (4, va_rf x6), (2, .long v4), (0, va_rf (some a0)), (1, va_rf (some p1))]) (pc := 60) X d_S_walk_60 (by decide) (by simp [rf_cat, cat_i, cat_l, cat_r]) ?_
        refine kw_aload (pc := 62) X d_S_walk_62 1 rfl ?_
        refine kw_astore (i := 7) (lv' := [(7, va_rf x6), (5, .long v10), (4, va_rf x6), (2, .long v4), (0, va_rf (some a0)), (1, va_rf (some p1))]) (pc := 64) X d_S_walk_64 (by decide) rfl ?_
        refine kw_lload (pc := 66) X d_S_walk_66 1 rfl ?_
        refine kw_lload_n (pc := 68) X d_S_walk_68 rfl 3 rfl ?_
        refine kw_lcmp_eq (tgt := 101) (pc := 69) X d_S_walk_69 d_S_walk_70 (by decide) (fun h => ?_) (fun h => ?_)
        · have hwp := ite_t h hwp
          exact kW.sub [4, 2, 1, 0] rfl (k_S_walk_101 X hret  _ _ _ _ hwp)
        · have hwp := ite_f h hwp
          refine kw_aload_n (pc := 73) X d_S_walk_73 rfl 5 rfl ?_
          refine kw_lload (pc := 74) X d_S_walk_74 1 rfl ?_
          refine kcVp_q (n := 1) (As := [.long v10]) (rest := []) (pc := 76) X (c_Link_find l t G p1 v10 _) (cwV_of (C := "TreeServer$Link") X x_656 x_653 x_654 x_655 x_11 (by decide +kernel) ⟨rfl, rfl⟩ (by decide)) (rv_8 X f5) rfl rfl (by decide) d_S_walk_76 hwp (fun x11 hwp => ?_)
          refine kw_ifnull (tgt := 86) (pc := 79) X d_S_walk_79 (by decide) (fun h => ?_) (fun h => ?_)
          · have hwp := ite_t h hwp
            refine kw_aload_n (pc := 86) X d_S_walk_86 rfl 5 rfl ?_
            refine kcVp_q (n := 0) (As := []) (rest := []) (pc := 87) X (c_Link_spareFid l t G p1 _) (cwV_of (C := "TreeServer$Link") X x_661 x_658 x_659 x_660 x_11 (by decide +kernel) ⟨rfl, rfl⟩ (by decide)) (rv_8 X f5) rfl rfl (by decide) d_S_walk_87 hwp (fun x12 hwp => ?_)
            refine kw_astore (i := 7) (lv' := [(7, va_rf x12), (5, .long v10), (4, va_rf x6), (2, .long v4), (0, va_rf (some a0)), (1, va_rf (some p1))]) (pc := 90) X d_S_walk_90 (by decide) rfl ?_
            refine kw_aload (pc := 92) X d_S_walk_92 0 rfl ?_
            refine kw_ifnonnull (tgt := 101) (pc := 94) X d_S_walk_94 (by decide) (fun h => ?_) (fun h => ?_)
            · have hwp := ite_t h hwp
              exact kW.sub [4, 2, 1, 0] rfl (k_S_walk_101 X hret  _ _ _ _ hwp)
            · have hwp := ite_f (not_not_intro h) hwp
              refine kw_ldcwS (j := 9) (pc := 97) X d_S_walk_97 (by decide) rfl ?_
              exact kr_q (pc := 100) X hret d_S_walk_100 (Or.inl ⟨_, rfl⟩) hwp
          · have hwp := ite_f h hwp
            refine kw_ldcwS (j := 8) (pc := 82) X d_S_walk_82 (by decide) rfl ?_
            exact kr_q (pc := 85) X hret d_S_walk_85 (Or.inl ⟨_, rfl⟩) hwp
      · have hwp := ite_f h hwp
        refine kw_ldcwS (j := 13) (pc := 46) X d_S_walk_46 (by decide) rfl ?_
        exact kr_q (pc := 49) X hret d_S_walk_49 (Or.inl ⟨_, rfl⟩) hwp
    · have hwp := ite_f h hwp
      refine kw_ldcS (tx := "") (j := 12) (pc := 34) X d_S_walk_34 (by decide) rfl ?_
      exact kr_q (pc := 36) X hret d_S_walk_36 (Or.inl ⟨_, rfl⟩) hwp
  · have hwp := ite_f (not_not_intro h) hwp
    refine kw_ldcS (tx := "") (j := 11) (pc := 23) X d_S_walk_23 (by decide) rfl ?_
    exact kr_q (pc := 25) X hret d_S_walk_25 (Or.inl ⟨_, rfl⟩) hwp
set_option maxRecDepth 100000 in
set_option maxHeartbeats 4000000 in
theorem c_S_walk (l : Launch) (t : TY) (G : GS) (a0 : Nat) (p1 : Nat) (K : GS → Option Nat → Prop) : Met l y_S_walk (Cond.code y_S_walk b_S_walk 8 (Option.some (Jvm.ClassFile.FieldType.object "java/lang/String")) :: GW) rm_S_walk (va_Pc [.ref a0, .ref p1] (fun U => HB t G U.heap ∧ HK t U ∧ w_S_walk t G a0 p1 K)) (va_Qq (fun r (u : GS) => K u r) (fun u T => HB t u T.heap) (tA t)) 0 0 (tA t) := by
  refine Met.ofW (cc := b_S_walk) (maxL := 8) (ret := some (.object "java/lang/String")) (by decide) rfl ?_
  intro p e s m args below meth c s₁ B hml hv
  obtain ⟨rfl, hB, hK, hwp⟩ := hv
  have hts := atoms_spec (ws := Cond.code y_S_walk b_S_walk 8 (Option.some (Jvm.ClassFile.FieldType.object "java/lang/String")) :: GW) B.pre
  have X : kX p s m _ meth c b_S_walk 8 "TreeServer" t := ⟨B.exec, B.bytes, hml, findClass_of_methodNamed B.named, fun w h => hts w (List.mem_cons_of_mem _ h), B.notSynchronized, hK⟩
  have hZ : kZ t false s G s.heap [] := ⟨hB, va_S.rf, fun _ => ⟨rfl, rfl⟩⟩
  rw [lg_entry_eq]
  have hl := lv_entry ([.ref a0, .ref p1]) (n := 8) (by simp [lg_sl, rf_cat, cat_i, cat_l, cat_r])
  exact k_S_walk X B.returns _ _ hwp s.heap [] _ hl hZ
abbrev b_S_handleSession : ByteArray := prog_1_method_19_code
def y_S_handleSession : MethodName := ⟨"TreeServer", "handleSession", "(LTreeServer$Link;)Ljava/lang/String;"⟩
theorem d_S_handleSession_0 : decode b_S_handleSession 0 = .ok (.aload_n 0, 1) := by decide +kernel
theorem d_S_handleSession_1 : decode b_S_handleSession 1 = .ok (.getfield 33, 3) := by decide +kernel
theorem d_S_handleSession_4 : decode b_S_handleSession 4 = .ok (.getfield 130, 3) := by decide +kernel
theorem d_S_handleSession_7 : decode b_S_handleSession 7 = .ok (.lookupswitch 89 #[(100, 41), (102, 74), (104, 77), (110, 83)], 41) := by decide +kernel
theorem d_S_handleSession_48 : decode b_S_handleSession 48 = .ok (.aload_n 0, 1) := by decide +kernel
theorem d_S_handleSession_49 : decode b_S_handleSession 49 = .ok (.getfield 33, 3) := by decide +kernel
theorem d_S_handleSession_52 : decode b_S_handleSession 52 = .ok (.bipush 7, 2) := by decide +kernel
theorem d_S_handleSession_54 : decode b_S_handleSession 54 = .ok (.iconst 4, 1) := by decide +kernel
theorem d_S_handleSession_55 : decode b_S_handleSession 55 = .ok (.invokevirtual 178, 3) := by decide +kernel
theorem d_S_handleSession_58 : decode b_S_handleSession 58 = .ok (.ldc2_w 182, 3) := by decide +kernel
theorem d_S_handleSession_61 : decode b_S_handleSession 61 = .ok (.lcmp, 1) := by decide +kernel
theorem d_S_handleSession_62 : decode b_S_handleSession 62 = .ok (.ifCond .ge 6, 3) := by decide +kernel
theorem d_S_handleSession_65 : decode b_S_handleSession 65 = .ok (.ldc 184, 2) := by decide +kernel
theorem d_S_handleSession_67 : decode b_S_handleSession 67 = .ok (.areturn, 1) := by decide +kernel
theorem d_S_handleSession_68 : decode b_S_handleSession 68 = .ok (.aload_n 0, 1) := by decide +kernel
theorem d_S_handleSession_69 : decode b_S_handleSession 69 = .ok (.aload_n 1, 1) := by decide +kernel
theorem d_S_handleSession_70 : decode b_S_handleSession 70 = .ok (.invokevirtual 79, 3) := by decide +kernel
theorem d_S_handleSession_73 : decode b_S_handleSession 73 = .ok (.aload_n 0, 1) := by decide +kernel
theorem d_S_handleSession_74 : decode b_S_handleSession 74 = .ok (.aload_n 1, 1) := by decide +kernel
theorem d_S_handleSession_75 : decode b_S_handleSession 75 = .ok (.invokevirtual 186, 3) := by decide +kernel
theorem d_S_handleSession_78 : decode b_S_handleSession 78 = .ok (.ldc 174, 2) := by decide +kernel
theorem d_S_handleSession_80 : decode b_S_handleSession 80 = .ok (.areturn, 1) := by decide +kernel
theorem d_S_handleSession_81 : decode b_S_handleSession 81 = .ok (.ldc 189, 2) := by decide +kernel
theorem d_S_handleSession_83 : decode b_S_handleSession 83 = .ok (.areturn, 1) := by decide +kernel
theorem d_S_handleSession_84 : decode b_S_handleSession 84 = .ok (.aload_n 0, 1) := by decide +kernel
theorem d_S_handleSession_85 : decode b_S_handleSession 85 = .ok (.aload_n 1, 1) := by decide +kernel
theorem d_S_handleSession_86 : decode b_S_handleSession 86 = .ok (.invokevirtual 191, 3) := by decide +kernel
theorem d_S_handleSession_89 : decode b_S_handleSession 89 = .ok (.areturn, 1) := by decide +kernel
theorem d_S_handleSession_90 : decode b_S_handleSession 90 = .ok (.aload_n 0, 1) := by decide +kernel
theorem d_S_handleSession_91 : decode b_S_handleSession 91 = .ok (.aload_n 1, 1) := by decide +kernel
theorem d_S_handleSession_92 : decode b_S_handleSession 92 = .ok (.invokevirtual 194, 3) := by decide +kernel
theorem d_S_handleSession_95 : decode b_S_handleSession 95 = .ok (.areturn, 1) := by decide +kernel
theorem d_S_handleSession_96 : decode b_S_handleSession 96 = .ok (.ldc 174, 2) := by decide +kernel
theorem d_S_handleSession_98 : decode b_S_handleSession 98 = .ok (.areturn, 1) := by decide +kernel
abbrev rm_S_handleSession : Room := { frames := 8, cells := 0, slots := 0, locals := 202 }
set_option maxRecDepth 100000 in
set_option maxHeartbeats 4000000 in
theorem k_S_handleSession {p : Program} {l : Launch} {e : Env} {s : State} {m : MethodId} {args : Array Value} {below : List Frame} {meth : Method} {c : Code} {t : TY} {a0 : Nat} {K : GS → Option Nat → Prop} (X : kX p s m args meth c b_S_handleSession 2 "TreeServer" t) (hret : meth.sig.returnType = some (.object "java/lang/String")) (G : GS) (p1 : Nat) (hwp : w_S_handleSession t G a0 p1 K) : kW p l e rm_S_handleSession s m args below meth c (MQ below (va_Qq (fun r (u : GS) => K u r) (fun u T => HB t u T.heap) (tA t)) args s 0 0 (tA t)) 2 t false 0 [(0, va_rf (some a0)), (1, va_rf (some p1))] [] G := by
  unfold w_S_handleSession at hwp
  refine kw_aload_n (pc := 0) X d_S_handleSession_0 rfl 0 rfl ?_
  obtain ⟨f1, hwp⟩ := hwp
  refine kg_66 (a := a0) (pc := 1) X d_S_handleSession_1 x_367 rfl f1 ?_
  obtain ⟨a2, h_a2, hwp⟩ := hwp
  obtain ⟨f3, hwp⟩ := hwp
  refine kg_38 (a := a2) (pc := 4) X d_S_handleSession_4 x_234 h_a2 f3 ?_
  obtain ⟨v4, e_v4⟩ : ∃ z, z = (gi G 38 a2) := ⟨_, rfl⟩
  have hwp := hwp v4 e_v4
  refine kW.st (st' := .int v4 :: _) (by rw [e_v4]) ?_
  by_cases q100 : v4 = (100 : Int32)
  · have hwp := ite_t q100 hwp
    refine kW.st (st' := .int (100 : Int32) :: _) (by rw [q100]) ?_
    refine kw_lookup (off := 41) (tgt := 48) (pc := 7) X d_S_handleSession_7 (by decide) (by decide) (by decide) ?_
    refine kw_aload_n (pc := 48) X d_S_handleSession_48 rfl 0 rfl ?_
    refine kg_66 (a := a0) (pc := 49) X d_S_handleSession_49 x_367 rfl f1 ?_
    refine kw_bipush (v := 7) (pc := 52) X d_S_handleSession_52 (by decide) ?_
    refine kw_iconst (v := 4) (pc := 54) X d_S_handleSession_54 (by decide) ?_
    refine kW.st (st' := [.int (4 : Int32), .int (7 : Int32), .ref a2]) (by simp only [h_a2]; rfl) ?_
    refine kcVp_l (n := 2) (As := [.int (7 : Int32), .int (4 : Int32)]) (rest := []) (pc := 55) X (c_Message_number l t G a2 (7 : Int32) (4 : Int32) _) (cwV_of (C := "TreeServer$Message") X x_541 x_578 x_539 x_540 x_9 (by decide +kernel) ⟨rfl, rfl⟩ (by decide)) (rv_5 X f3) rfl rfl (by decide) d_S_handleSession_55 hwp (fun v5 hwp => ?_)
    refine kw_ldc2 (v := 96) (pc := 58) X d_S_handleSession_58 x_579 ?_
    refine kw_lcmp_ge (tgt := 68) (pc := 61) X d_S_handleSession_61 d_S_handleSession_62 (by decide) (fun h => ?_) (fun h => ?_)
    · have hwp := ite_t h hwp
      refine kw_aload_n (pc := 68) X d_S_handleSession_68 rfl 0 rfl ?_
      refine kw_aload_n (pc := 69) X d_S_handleSession_69 rfl 1 rfl ?_
      refine kcV_v (n := 1) (As := [.ref p1]) (rest := []) (pc := 70) X rfl (c_S_releaseAll l t G a0 p1 _) (cwV_of (C := "TreeServer") X x_423 x_420 x_422 xp_3 x_1 (by decide +kernel) ⟨rfl, rfl⟩ (by decide)) (rv_9 X f1) rfl rfl (by decide) d_S_handleSession_70 hwp (fun G6 hwp => ?_)
      refine kw_aload_n (pc := 73) X d_S_handleSession_73 rfl 0 rfl ?_
      refine kw_aload_n (pc := 74) X d_S_handleSession_74 rfl 1 rfl ?_
      refine kcV_v (n := 1) (As := [.ref p1]) (rest := []) (pc := 75) X rfl (c_S_agree l t G6 a0 p1 _) (cwV_of (C := "TreeServer") X x_584 x_581 x_583 xp_12 x_1 (by decide +kernel) ⟨rfl, rfl⟩ (by decide)) (rv_9 X f1) rfl rfl (by decide) d_S_handleSession_75 hwp (fun G7 hwp => ?_)
      refine kw_ldcS (tx := "") (j := 2) (pc := 78) X d_S_handleSession_78 (by decide) rfl ?_
      exact kr_q (pc := 80) X hret d_S_handleSession_80 (Or.inl ⟨_, rfl⟩) hwp
    · have hwp := ite_f h hwp
      refine kw_ldcS (tx := "") (j := 4) (pc := 65) X d_S_handleSession_65 (by decide) rfl ?_
      exact kr_q (pc := 67) X hret d_S_handleSession_67 (Or.inl ⟨_, rfl⟩) hwp
  have hwp := ite_f q100 hwp
  by_cases q102 : v4 = (102 : Int32)
  · have hwp := ite_t q102 hwp
    refine kW.st (st' := .int (102 : Int32) :: _) (by rw [q102]) ?_
    refine kw_lookup (off := 74) (tgt := 81) (pc := 7) X d_S_handleSession_7 (by decide) (by decide) (by decide) ?_
    refine kw_ldcS (tx := "") (j := 7) (pc := 81) X d_S_handleSession_81 (by decide) rfl ?_
    exact kr_q (pc := 83) X hret d_S_handleSession_83 (Or.inl ⟨_, rfl⟩) hwp
  have hwp := ite_f q102 hwp
  by_cases q104 : v4 = (104 : Int32)
  · have hwp := ite_t q104 hwp
    refine kW.st (st' := .int (104 : Int32) :: _) (by rw [q104]) ?_
    refine kw_lookup (off := 77) (tgt := 84) (pc := 7) X d_S_handleSession_7 (by decide) (by decide) (by decide) ?_
    refine kw_aload_n (pc := 84) X d_S_handleSession_84 rfl 0 rfl ?_
    refine kw_aload_n (pc := 85) X d_S_handleSession_85 rfl 1 rfl ?_
    refine kcV_q (n := 1) (As := [.ref p1]) (rest := []) (pc := 86) X rfl (c_S_attach l t G a0 p1 _) (cwV_of (C := "TreeServer") X x_652 x_649 x_651 xp_13 x_1 (by decide +kernel) ⟨rfl, rfl⟩ (by decide)) (rv_9 X f1) rfl rfl (by decide) d_S_handleSession_86 hwp (fun x9 G8 hwp => ?_)
    exact kr_q (pc := 89) X hret d_S_handleSession_89 (Or.inl ⟨_, rfl⟩) hwp
  have hwp := ite_f q104 hwp
  by_cases q110 : v4 = (110 : Int32)
  · have hwp := ite_t q110 hwp
    refine kW.st (st' := .int (110 : Int32) :: _) (by rw [q110]) ?_
    refine kw_lookup (off := 83) (tgt := 90) (pc := 7) X d_S_handleSession_7 (by decide) (by decide) (by decide) ?_
    refine kw_aload_n (pc := 90) X d_S_handleSession_90 rfl 0 rfl ?_
    refine kw_aload_n (pc := 91) X d_S_handleSession_91 rfl 1 rfl ?_
    refine kcV_q (n := 1) (As := [.ref p1]) (rest := []) (pc := 92) X rfl (c_S_walk l t G a0 p1 _) (cwV_of (C := "TreeServer") X x_683 x_680 x_682 xp_14 x_1 (by decide +kernel) ⟨rfl, rfl⟩ (by decide)) (rv_9 X f1) rfl rfl (by decide) d_S_handleSession_92 hwp (fun x11 G10 hwp => ?_)
    exact kr_q (pc := 95) X hret d_S_handleSession_95 (Or.inl ⟨_, rfl⟩) hwp
  have hwp := ite_f q110 hwp
  refine kw_lookupDef [(100 : Int32), (102 : Int32), (104 : Int32), (110 : Int32)] (tgt := 96) (pc := 7) X d_S_handleSession_7 (by decide) (by decide +kernel) (by simp only [List.mem_cons, List.not_mem_nil, or_false, not_or]; exact ⟨q100, q102, q104, q110⟩) (by decide) ?_
  refine kw_ldcS (tx := "") (j := 2) (pc := 96) X d_S_handleSession_96 (by decide) rfl ?_
  exact kr_q (pc := 98) X hret d_S_handleSession_98 (Or.inl ⟨_, rfl⟩) hwp
set_option maxRecDepth 100000 in
set_option maxHeartbeats 4000000 in
theorem c_S_handleSession (l : Launch) (t : TY) (G : GS) (a0 : Nat) (p1 : Nat) (K : GS → Option Nat → Prop) : Met l y_S_handleSession (Cond.code y_S_handleSession b_S_handleSession 2 (Option.some (Jvm.ClassFile.FieldType.object "java/lang/String")) :: GW) rm_S_handleSession (va_Pc [.ref a0, .ref p1] (fun U => HB t G U.heap ∧ HK t U ∧ w_S_handleSession t G a0 p1 K)) (va_Qq (fun r (u : GS) => K u r) (fun u T => HB t u T.heap) (tA t)) 0 0 (tA t) := by
  refine Met.ofW (cc := b_S_handleSession) (maxL := 2) (ret := some (.object "java/lang/String")) (by decide) rfl ?_
  intro p e s m args below meth c s₁ B hml hv
  obtain ⟨rfl, hB, hK, hwp⟩ := hv
  have hts := atoms_spec (ws := Cond.code y_S_handleSession b_S_handleSession 2 (Option.some (Jvm.ClassFile.FieldType.object "java/lang/String")) :: GW) B.pre
  have X : kX p s m _ meth c b_S_handleSession 2 "TreeServer" t := ⟨B.exec, B.bytes, hml, findClass_of_methodNamed B.named, fun w h => hts w (List.mem_cons_of_mem _ h), B.notSynchronized, hK⟩
  have hZ : kZ t false s G s.heap [] := ⟨hB, va_S.rf, fun _ => ⟨rfl, rfl⟩⟩
  rw [lg_entry_eq]
  have hl := lv_entry ([.ref a0, .ref p1]) (n := 2) (by simp [lg_sl, rf_cat, cat_i, cat_l, cat_r])
  exact k_S_handleSession X B.returns _ _ hwp s.heap [] _ hl hZ
abbrev b_S_clunk : ByteArray := prog_1_method_40_code
def y_S_clunk : MethodName := ⟨"TreeServer", "clunk", "(LTreeServer$Fid;)Ljava/lang/String;"⟩
theorem d_S_clunk_0 : decode b_S_clunk 0 = .ok (.aload_n 0, 1) := by decide +kernel
theorem d_S_clunk_1 : decode b_S_clunk 1 = .ok (.aload_n 1, 1) := by decide +kernel
theorem d_S_clunk_2 : decode b_S_clunk 2 = .ok (.invokevirtual 253, 3) := by decide +kernel
theorem d_S_clunk_5 : decode b_S_clunk 5 = .ok (.ifCond .eq 9, 3) := by decide +kernel
theorem d_S_clunk_8 : decode b_S_clunk 8 = .ok (.aload_n 0, 1) := by decide +kernel
theorem d_S_clunk_9 : decode b_S_clunk 9 = .ok (.bipush 16, 2) := by decide +kernel
theorem d_S_clunk_11 : decode b_S_clunk 11 = .ok (.invokevirtual 257, 3) := by decide +kernel
theorem d_S_clunk_14 : decode b_S_clunk 14 = .ok (.ldc 174, 2) := by decide +kernel
theorem d_S_clunk_16 : decode b_S_clunk 16 = .ok (.areturn, 1) := by decide +kernel
abbrev rm_S_clunk : Room := { frames := 4, cells := 0, slots := 0, locals := 92 }
set_option maxRecDepth 100000 in
set_option maxHeartbeats 4000000 in
theorem k_S_clunk {p : Program} {l : Launch} {e : Env} {s : State} {m : MethodId} {args : Array Value} {below : List Frame} {meth : Method} {c : Code} {t : TY} {a0 : Nat} {K : GS → Option Nat → Prop} (X : kX p s m args meth c b_S_clunk 2 "TreeServer" t) (hret : meth.sig.returnType = some (.object "java/lang/String")) (G : GS) (p1 : Nat) (hwp : w_S_clunk t G a0 p1 K) : kW p l e rm_S_clunk s m args below meth c (MQ below (va_Qq (fun r (u : GS) => K u r) (fun u T => HB t u T.heap) (tA t)) args s 0 0 (tA t)) 2 t false 0 [(0, va_rf (some a0)), (1, va_rf (some p1))] [] G := by
  unfold w_S_clunk at hwp
  refine kw_aload_n (pc := 0) X d_S_clunk_0 rfl 0 rfl ?_
  refine kw_aload_n (pc := 1) X d_S_clunk_1 rfl 1 rfl ?_
  obtain ⟨f1, hwp⟩ := hwp
  refine kcV_i (n := 1) (As := [.ref p1]) (rest := []) (pc := 2) X rfl (c_S_stageRelease l t G a0 p1 _) (cwV_of (C := "TreeServer") X x_431 x_428 x_430 xp_4 x_1 (by decide +kernel) ⟨rfl, rfl⟩ (by decide)) (rv_9 X f1) rfl rfl (by decide) d_S_clunk_2 hwp (fun v3 G2 hwp => ?_)
  obtain ⟨b_v3, hwp⟩ := hwp
  refine kw_if_eq (tgt := 14) (pc := 5) X d_S_clunk_5 (by decide) (fun h => ?_) (fun h => ?_)
  · have hwp := ite_t h hwp
    refine kw_ldcS (tx := "") (j := 2) (pc := 14) X d_S_clunk_14 (by decide) rfl ?_
    exact kr_q (pc := 16) X hret d_S_clunk_16 (Or.inl ⟨_, rfl⟩) hwp
  · have hwp := ite_f h hwp
    refine kw_aload_n (pc := 8) X d_S_clunk_8 rfl 0 rfl ?_
    refine kw_bipush (v := 16) (pc := 9) X d_S_clunk_9 (by decide) ?_
    refine kcV_v (n := 1) (As := [.int (16 : Int32)]) (rest := []) (pc := 11) X rfl (c_S_carryOut l t G2 a0 (16 : Int32) _) (cwV_of (C := "TreeServer") X x_456 x_453 x_455 xp_5 x_1 (by decide +kernel) ⟨rfl, rfl⟩ (by decide)) (rv_9 X f1) rfl rfl (by decide) d_S_clunk_11 hwp (fun G4 hwp => ?_)
    refine kw_ldcS (tx := "") (j := 2) (pc := 14) X d_S_clunk_14 (by decide) rfl ?_
    exact kr_q (pc := 16) X hret d_S_clunk_16 (Or.inl ⟨_, rfl⟩) hwp
set_option maxRecDepth 100000 in
set_option maxHeartbeats 4000000 in
theorem c_S_clunk (l : Launch) (t : TY) (G : GS) (a0 : Nat) (p1 : Nat) (K : GS → Option Nat → Prop) : Met l y_S_clunk (Cond.code y_S_clunk b_S_clunk 2 (Option.some (Jvm.ClassFile.FieldType.object "java/lang/String")) :: GW) rm_S_clunk (va_Pc [.ref a0, .ref p1] (fun U => HB t G U.heap ∧ HK t U ∧ w_S_clunk t G a0 p1 K)) (va_Qq (fun r (u : GS) => K u r) (fun u T => HB t u T.heap) (tA t)) 0 0 (tA t) := by
  refine Met.ofW (cc := b_S_clunk) (maxL := 2) (ret := some (.object "java/lang/String")) (by decide) rfl ?_
  intro p e s m args below meth c s₁ B hml hv
  obtain ⟨rfl, hB, hK, hwp⟩ := hv
  have hts := atoms_spec (ws := Cond.code y_S_clunk b_S_clunk 2 (Option.some (Jvm.ClassFile.FieldType.object "java/lang/String")) :: GW) B.pre
  have X : kX p s m _ meth c b_S_clunk 2 "TreeServer" t := ⟨B.exec, B.bytes, hml, findClass_of_methodNamed B.named, fun w h => hts w (List.mem_cons_of_mem _ h), B.notSynchronized, hK⟩
  have hZ : kZ t false s G s.heap [] := ⟨hB, va_S.rf, fun _ => ⟨rfl, rfl⟩⟩
  rw [lg_entry_eq]
  have hl := lv_entry ([.ref a0, .ref p1]) (n := 2) (by simp [lg_sl, rf_cat, cat_i, cat_l, cat_r])
  exact k_S_clunk X B.returns _ _ hwp s.heap [] _ hl hZ
abbrev b_Node_letsUnlink : ByteArray := prog_9_method_5_code
def y_Node_letsUnlink : MethodName := ⟨"TreeServer$Node", "letsUnlink", "(LTreeServer$User;)Z"⟩
theorem d_Node_letsUnlink_0 : decode b_Node_letsUnlink 0 = .ok (.aload_n 0, 1) := by decide +kernel
theorem d_Node_letsUnlink_1 : decode b_Node_letsUnlink 1 = .ok (.getfield 45, 3) := by decide +kernel
theorem d_Node_letsUnlink_4 : decode b_Node_letsUnlink 4 = .ok (.ifnull 19, 3) := by decide +kernel
theorem d_Node_letsUnlink_7 : decode b_Node_letsUnlink 7 = .ok (.aload_n 0, 1) := by decide +kernel
theorem d_Node_letsUnlink_8 : decode b_Node_letsUnlink 8 = .ok (.getfield 45, 3) := by decide +kernel
theorem d_Node_letsUnlink_11 : decode b_Node_letsUnlink 11 = .ok (.aload_n 1, 1) := by decide +kernel
theorem d_Node_letsUnlink_12 : decode b_Node_letsUnlink 12 = .ok (.iconst 2, 1) := by decide +kernel
theorem d_Node_letsUnlink_13 : decode b_Node_letsUnlink 13 = .ok (.invokevirtual 49, 3) := by decide +kernel
theorem d_Node_letsUnlink_16 : decode b_Node_letsUnlink 16 = .ok (.ifCond .eq 7, 3) := by decide +kernel
theorem d_Node_letsUnlink_19 : decode b_Node_letsUnlink 19 = .ok (.iconst 1, 1) := by decide +kernel
theorem d_Node_letsUnlink_20 : decode b_Node_letsUnlink 20 = .ok (.goto 4, 3) := by decide +kernel
theorem d_Node_letsUnlink_23 : decode b_Node_letsUnlink 23 = .ok (.iconst 0, 1) := by decide +kernel
theorem d_Node_letsUnlink_24 : decode b_Node_letsUnlink 24 = .ok (.ireturn, 1) := by decide +kernel
abbrev rm_Node_letsUnlink : Room := { frames := 2, cells := 0, slots := 0, locals := 43 }
set_option maxRecDepth 100000 in
set_option maxHeartbeats 4000000 in
theorem k_Node_letsUnlink {p : Program} {l : Launch} {e : Env} {s : State} {m : MethodId} {args : Array Value} {below : List Frame} {meth : Method} {c : Code} {t : TY} {a0 : Nat} {G : GS} {K : Int32 → Prop} (X : kX p s m args meth c b_Node_letsUnlink 2 "TreeServer$Node" t) (hret : meth.sig.returnType = some .boolean) (p1 : Option Nat) (hwp : w_Node_letsUnlink t G a0 p1 K) : kW p l e rm_Node_letsUnlink s m args below meth c (MQ below (vp_Si (fun r => isB r ∧ K r)) args s 0 0 (fun _ => False)) 2 t true 0 [(0, va_rf (some a0)), (1, va_rf p1)] [] G := by
  unfold w_Node_letsUnlink at hwp
  refine kw_aload_n (pc := 0) X d_Node_letsUnlink_0 rfl 0 rfl ?_
  obtain ⟨f1, hwp⟩ := hwp
  refine kg_7 (a := a0) (pc := 1) X d_Node_letsUnlink_1 x_69 rfl f1 ?_
  refine kw_ifnull (tgt := 23) (pc := 4) X d_Node_letsUnlink_4 (by decide) (fun h => ?_) (fun h => ?_)
  · have hwp := ite_t h hwp
    refine kw_iconst (v := 0) (pc := 23) X d_Node_letsUnlink_23 (by decide) ?_
    exact krp_z (pc := 24) X hret d_Node_letsUnlink_24 (Or.inl rfl) hwp
  · have hwp := ite_f h hwp
    refine kw_aload_n (pc := 7) X d_Node_letsUnlink_7 rfl 0 rfl ?_
    refine kg_7 (a := a0) (pc := 8) X d_Node_letsUnlink_8 x_69 rfl f1 ?_
    refine kw_aload_n (pc := 11) X d_Node_letsUnlink_11 rfl 1 rfl ?_
    refine kw_iconst (v := 2) (pc := 12) X d_Node_letsUnlink_12 (by decide) ?_
    obtain ⟨a2, h_a2, hwp⟩ := hwp
    obtain ⟨f3, hwp⟩ := hwp
    refine kW.st (st' := [.int (2 : Int32), va_rf p1, .ref a2]) (by simp only [h_a2]; rfl) ?_
    refine kcVp_i (n := 2) (As := [va_rf p1, .int (2 : Int32)]) (rest := []) (pc := 13) X (c_Node_lets l t G a2 p1 (2 : Int32) _) (cwV_of (C := "TreeServer$Node") X x_439 x_736 x_437 x_438 x_3 (by decide +kernel) ⟨rfl, rfl⟩ (by decide)) (rv_1 X f3) rfl rfl (by decide) d_Node_letsUnlink_13 hwp (fun v4 hwp => ?_)
    obtain ⟨b_v4, hwp⟩ := hwp
    refine kw_if_eq (tgt := 23) (pc := 16) X d_Node_letsUnlink_16 (by decide) (fun h => ?_) (fun h => ?_)
    · have hwp := ite_t h hwp
      refine kw_iconst (v := 0) (pc := 23) X d_Node_letsUnlink_23 (by decide) ?_
      exact krp_z (pc := 24) X hret d_Node_letsUnlink_24 (Or.inl rfl) hwp
    · have hwp := ite_f h hwp
      refine kw_iconst (v := 1) (pc := 19) X d_Node_letsUnlink_19 (by decide) ?_
      refine kw_goto (tgt := 24) (pc := 20) X d_Node_letsUnlink_20 (by decide) ?_
      exact krp_z (pc := 24) X hret d_Node_letsUnlink_24 (Or.inr rfl) hwp
set_option maxRecDepth 100000 in
set_option maxHeartbeats 4000000 in
theorem c_Node_letsUnlink (l : Launch) (t : TY) (G : GS) (a0 : Nat) (p1 : Option Nat) (K : Int32 → Prop) : Met l y_Node_letsUnlink (Cond.code y_Node_letsUnlink b_Node_letsUnlink 2 (Option.some Jvm.ClassFile.FieldType.boolean) :: GW) rm_Node_letsUnlink (va_Pc [.ref a0, va_rf p1] (fun U => HB t G U.heap ∧ HK t U ∧ w_Node_letsUnlink t G a0 p1 K)) (vp_Si (fun r => isB r ∧ K r)) 0 0 (fun _ => False) := by
  refine Met.ofW (cc := b_Node_letsUnlink) (maxL := 2) (ret := some .boolean) (by decide) rfl ?_
  intro p e s m args below meth c s₁ B hml hv
  obtain ⟨rfl, hB, hK, hwp⟩ := hv
  have hts := atoms_spec (ws := Cond.code y_Node_letsUnlink b_Node_letsUnlink 2 (Option.some Jvm.ClassFile.FieldType.boolean) :: GW) B.pre
  have X : kX p s m _ meth c b_Node_letsUnlink 2 "TreeServer$Node" t := ⟨B.exec, B.bytes, hml, findClass_of_methodNamed B.named, fun w h => hts w (List.mem_cons_of_mem _ h), B.notSynchronized, hK⟩
  have hZ : kZ t true s G s.heap [] := ⟨hB, va_S.rf, fun _ => ⟨rfl, rfl⟩⟩
  rw [lg_entry_eq]
  have hl := lv_entry ([.ref a0, va_rf p1]) (n := 2) (by simp [lg_sl, rf_cat, cat_i, cat_l, cat_r])
  rw [show lv_args 0 [.ref a0, va_rf p1] = [(0, .ref a0), (1, va_rf p1)] from by simp [lv_args, rf_cat, cat_i, cat_l, cat_r]] at hl
  exact k_Node_letsUnlink X B.returns _ hwp s.heap [] _ hl hZ
abbrev b_S_remove : ByteArray := prog_1_method_41_code
def y_S_remove : MethodName := ⟨"TreeServer", "remove", "(LTreeServer$Fid;)Ljava/lang/String;"⟩
theorem d_S_remove_0 : decode b_S_remove 0 = .ok (.aload_n 1, 1) := by decide +kernel
theorem d_S_remove_1 : decode b_S_remove 1 = .ok (.iconst 0, 1) := by decide +kernel
theorem d_S_remove_2 : decode b_S_remove 2 = .ok (.putfield 261, 3) := by decide +kernel
theorem d_S_remove_5 : decode b_S_remove 5 = .ok (.aload_n 1, 1) := by decide +kernel
theorem d_S_remove_6 : decode b_S_remove 6 = .ok (.getfield 232, 3) := by decide +kernel
theorem d_S_remove_9 : decode b_S_remove 9 = .ok (.astore_n 2, 1) := by decide +kernel
theorem d_S_remove_10 : decode b_S_remove 10 = .ok (.aload_n 1, 1) := by decide +kernel
theorem d_S_remove_11 : decode b_S_remove 11 = .ok (.invokevirtual 210, 3) := by decide +kernel
theorem d_S_remove_14 : decode b_S_remove 14 = .ok (.ifCond .eq 6, 3) := by decide +kernel
theorem d_S_remove_17 : decode b_S_remove 17 = .ok (.ldc 215, 2) := by decide +kernel
theorem d_S_remove_19 : decode b_S_remove 19 = .ok (.areturn, 1) := by decide +kernel
theorem d_S_remove_20 : decode b_S_remove 20 = .ok (.aload_n 2, 1) := by decide +kernel
theorem d_S_remove_21 : decode b_S_remove 21 = .ok (.aload_n 1, 1) := by decide +kernel
theorem d_S_remove_22 : decode b_S_remove 22 = .ok (.getfield 275, 3) := by decide +kernel
theorem d_S_remove_25 : decode b_S_remove 25 = .ok (.invokevirtual 391, 3) := by decide +kernel
theorem d_S_remove_28 : decode b_S_remove 28 = .ok (.ifCond .ne 7, 3) := by decide +kernel
theorem d_S_remove_31 : decode b_S_remove 31 = .ok (.ldc_w 370, 3) := by decide +kernel
theorem d_S_remove_34 : decode b_S_remove 34 = .ok (.areturn, 1) := by decide +kernel
theorem d_S_remove_35 : decode b_S_remove 35 = .ok (.aload_n 2, 1) := by decide +kernel
theorem d_S_remove_36 : decode b_S_remove 36 = .ok (.getfield 272, 3) := by decide +kernel
theorem d_S_remove_39 : decode b_S_remove 39 = .ok (.ifCond .le 7, 3) := by decide +kernel
theorem d_S_remove_42 : decode b_S_remove 42 = .ok (.ldc_w 523, 3) := by decide +kernel
theorem d_S_remove_45 : decode b_S_remove 45 = .ok (.areturn, 1) := by decide +kernel
theorem d_S_remove_46 : decode b_S_remove 46 = .ok (.aload_n 0, 1) := by decide +kernel
theorem d_S_remove_47 : decode b_S_remove 47 = .ok (.getfield 26, 3) := by decide +kernel
theorem d_S_remove_50 : decode b_S_remove 50 = .ok (.getstatic 283, 3) := by decide +kernel
theorem d_S_remove_53 : decode b_S_remove 53 = .ok (.aload_n 2, 1) := by decide +kernel
theorem d_S_remove_54 : decode b_S_remove 54 = .ok (.aload_n 1, 1) := by decide +kernel
theorem d_S_remove_55 : decode b_S_remove 55 = .ok (.getfield 275, 3) := by decide +kernel
theorem d_S_remove_58 : decode b_S_remove 58 = .ok (.aload_n 0, 1) := by decide +kernel
theorem d_S_remove_59 : decode b_S_remove 59 = .ok (.getfield 95, 3) := by decide +kernel
theorem d_S_remove_62 : decode b_S_remove 62 = .ok (.invokevirtual 289, 3) := by decide +kernel
theorem d_S_remove_65 : decode b_S_remove 65 = .ok (.aload_n 0, 1) := by decide +kernel
theorem d_S_remove_66 : decode b_S_remove 66 = .ok (.aload_n 0, 1) := by decide +kernel
theorem d_S_remove_67 : decode b_S_remove 67 = .ok (.getfield 33, 3) := by decide +kernel
theorem d_S_remove_70 : decode b_S_remove 70 = .ok (.getfield 413, 3) := by decide +kernel
theorem d_S_remove_73 : decode b_S_remove 73 = .ok (.invokevirtual 257, 3) := by decide +kernel
theorem d_S_remove_76 : decode b_S_remove 76 = .ok (.ldc 174, 2) := by decide +kernel
theorem d_S_remove_78 : decode b_S_remove 78 = .ok (.areturn, 1) := by decide +kernel
abbrev rm_S_remove : Room := { frames := 4, cells := 0, slots := 0, locals := 92 }
set_option maxRecDepth 100000 in
set_option maxHeartbeats 4000000 in
theorem k_S_remove {p : Program} {l : Launch} {e : Env} {s : State} {m : MethodId} {args : Array Value} {below : List Frame} {meth : Method} {c : Code} {t : TY} {a0 : Nat} {K : GS → Option Nat → Prop} (X : kX p s m args meth c b_S_remove 3 "TreeServer" t) (hret : meth.sig.returnType = some (.object "java/lang/String")) (G : GS) (p1 : Nat) (hwp : w_S_remove t G a0 p1 K) : kW p l e rm_S_remove s m args below meth c (MQ below (va_Qq (fun r (u : GS) => K u r) (fun u T => HB t u T.heap) (tA t)) args s 0 0 (tA t)) 3 t false 0 [(0, va_rf (some a0)), (1, va_rf (some p1))] [] G := by
  unfold w_S_remove at hwp
  refine kw_aload_n (pc := 0) X d_S_remove_0 rfl 1 rfl ?_
  refine kw_iconst (v := 0) (pc := 1) X d_S_remove_1 (by decide) ?_
  obtain ⟨f1, hwp⟩ := hwp
  refine kp_46 (a := p1) (x := (0 : Int32)) (pc := 2) X rfl d_S_remove_2 x_294 rfl f1 (Or.inl rfl) ?_
  obtain ⟨G2, e_G2⟩ : ∃ g, g = si G 46 p1 (0 : Int32) := ⟨_, rfl⟩
  have hwp := hwp G2 e_G2
  refine kW.g e_G2.symm ?_
  refine kw_aload_n (pc := 5) X d_S_remove_5 rfl 1 rfl ?_
  refine kg_48 (a := p1) (pc := 6) X d_S_remove_6 x_300 rfl f1 ?_
  refine kw_astore_n (i := 2) (lv' := [(2, va_rf (gr G2 48 p1)), (0, va_rf (some a0)), (1, va_rf (some p1))]) (pc := 9) X d_S_remove_9 rfl (by decide) rfl ?_
  refine kw_aload_n (pc := 10) X d_S_remove_10 rfl 2 rfl ?_
  refine kcVp_i (n := 0) (As := []) (rest := []) (pc := 11) X (c_Fid_isGone l t G2 p1 _) (cwV_of (C := "TreeServer$Fid") X x_435 x_432 x_433 x_434 x_12 (by decide +kernel) ⟨rfl, rfl⟩ (by decide)) (rv_7 X f1) rfl rfl (by decide) d_S_remove_11 hwp (fun v3 hwp => ?_)
  obtain ⟨b_v3, hwp⟩ := hwp
  refine kw_if_eq (tgt := 20) (pc := 14) X d_S_remove_14 (by decide) (fun h => ?_) (fun h => ?_)
  · have hwp := ite_t h hwp
    refine kw_aload_n (pc := 20) X d_S_remove_20 rfl 0 rfl ?_
    refine kw_aload_n (pc := 21) X d_S_remove_21 rfl 2 rfl ?_
    refine kg_50 (a := p1) (pc := 22) X d_S_remove_22 x_303 rfl f1 ?_
    obtain ⟨a4, h_a4, hwp⟩ := hwp
    obtain ⟨f5, hwp⟩ := hwp
    refine kW.st (st' := [va_rf (gr G2 50 p1), .ref a4]) (by simp only [h_a4]; rfl) ?_
    refine kcVp_i (n := 1) (As := [va_rf (gr G2 50 p1)]) (rest := []) (pc := 25) X (c_Node_letsUnlink l t G2 a4 (gr G2 50 p1) _) (cwV_of (C := "TreeServer$Node") X x_735 x_732 x_733 x_734 x_3 (by decide +kernel) ⟨rfl, rfl⟩ (by decide)) (rv_1 X f5) rfl rfl (by decide) d_S_remove_25 hwp (fun v6 hwp => ?_)
    obtain ⟨b_v6, hwp⟩ := hwp
    refine kw_if_ne (tgt := 35) (pc := 28) X d_S_remove_28 (by decide) (fun h => ?_) (fun h => ?_)
    · have hwp := ite_t h hwp
      refine kw_aload_n (pc := 35) X d_S_remove_35 rfl 0 rfl ?_
      refine kg_8 (a := a4) (pc := 36) X d_S_remove_36 x_75 h_a4 f5 ?_
      refine kw_if_le (tgt := 46) (pc := 39) X d_S_remove_39 (by decide) (fun h => ?_) (fun h => ?_)
      · have hwp := ite_t h hwp
        refine kw_aload_n (pc := 46) X d_S_remove_46 rfl 1 rfl ?_
        obtain ⟨f7, hwp⟩ := hwp
        refine kg_65 (a := a0) (pc := 47) X d_S_remove_47 x_366 rfl f7 ?_
        refine ks_5 (pc := 50) X d_S_remove_50 x_447 ?_
        refine kw_aload_n (pc := 53) X d_S_remove_53 rfl 0 rfl ?_
        refine kw_aload_n (pc := 54) X d_S_remove_54 rfl 2 rfl ?_
        refine kg_50 (a := p1) (pc := 55) X d_S_remove_55 x_303 rfl f1 ?_
        refine kw_aload_n (pc := 58) X d_S_remove_58 rfl 1 rfl ?_
        refine kg_69 (a := a0) (pc := 59) X d_S_remove_59 x_370 rfl f7 ?_
        obtain ⟨a8, h_a8, hwp⟩ := hwp
        obtain ⟨f9, hwp⟩ := hwp
        refine kW.st (st' := [.int (gi G2 69 a0), va_rf (gr G2 50 p1), .ref a4, va_rf (some (tad t 5)), .ref a8]) (by simp only [h_a4, h_a8]; rfl) ?_
        refine kcV_v (n := 4) (As := [va_rf (some (tad t 5)), .ref a4, va_rf (gr G2 50 p1), .int (gi G2 69 a0)]) (rest := []) (pc := 62) X rfl (c_Change_begin l t G2 a8 (some (tad t 5)) a4 (gr G2 50 p1) (gi G2 69 a0) _) (cwV_of (C := "TreeServer$Change") X x_452 x_449 x_450 x_451 x_7 (by decide +kernel) ⟨rfl, rfl⟩ (by decide)) (rv_4 X f9) rfl rfl (by decide) d_S_remove_62 hwp (fun G10 hwp => ?_)
        refine kw_aload_n (pc := 65) X d_S_remove_65 rfl 1 rfl ?_
        refine kw_aload_n (pc := 66) X d_S_remove_66 rfl 1 rfl ?_
        refine kg_66 (a := a0) (pc := 67) X d_S_remove_67 x_367 rfl f7 ?_
        obtain ⟨a11, h_a11, hwp⟩ := hwp
        obtain ⟨f12, hwp⟩ := hwp
        refine kg_37 (a := a11) (pc := 70) X d_S_remove_70 x_232 h_a11 f12 ?_
        refine kcV_v (n := 1) (As := [.int (gi G10 37 a11)]) (rest := []) (pc := 73) X rfl (c_S_carryOut l t G10 a0 (gi G10 37 a11) _) (cwV_of (C := "TreeServer") X x_456 x_453 x_455 xp_5 x_1 (by decide +kernel) ⟨rfl, rfl⟩ (by decide)) (rv_9 X f7) rfl rfl (by decide) d_S_remove_73 hwp (fun G13 hwp => ?_)
        refine kw_ldcS (tx := "") (j := 2) (pc := 76) X d_S_remove_76 (by decide) rfl ?_
        exact kr_q (pc := 78) X hret d_S_remove_78 (Or.inl ⟨_, rfl⟩) hwp
      · have hwp := ite_f h hwp
        refine kw_ldcwS (j := 18) (pc := 42) X d_S_remove_42 (by decide) rfl ?_
        exact kr_q (pc := 45) X hret d_S_remove_45 (Or.inl ⟨_, rfl⟩) hwp
    · have hwp := ite_f (not_not_intro h) hwp
      refine kw_ldcwS (j := 15) (pc := 31) X d_S_remove_31 (by decide) rfl ?_
      exact kr_q (pc := 34) X hret d_S_remove_34 (Or.inl ⟨_, rfl⟩) hwp
  · have hwp := ite_f h hwp
    refine kw_ldcS (tx := "") (j := 12) (pc := 17) X d_S_remove_17 (by decide) rfl ?_
    exact kr_q (pc := 19) X hret d_S_remove_19 (Or.inl ⟨_, rfl⟩) hwp
set_option maxRecDepth 100000 in
set_option maxHeartbeats 4000000 in
theorem c_S_remove (l : Launch) (t : TY) (G : GS) (a0 : Nat) (p1 : Nat) (K : GS → Option Nat → Prop) : Met l y_S_remove (Cond.code y_S_remove b_S_remove 3 (Option.some (Jvm.ClassFile.FieldType.object "java/lang/String")) :: GW) rm_S_remove (va_Pc [.ref a0, .ref p1] (fun U => HB t G U.heap ∧ HK t U ∧ w_S_remove t G a0 p1 K)) (va_Qq (fun r (u : GS) => K u r) (fun u T => HB t u T.heap) (tA t)) 0 0 (tA t) := by
  refine Met.ofW (cc := b_S_remove) (maxL := 3) (ret := some (.object "java/lang/String")) (by decide) rfl ?_
  intro p e s m args below meth c s₁ B hml hv
  obtain ⟨rfl, hB, hK, hwp⟩ := hv
  have hts := atoms_spec (ws := Cond.code y_S_remove b_S_remove 3 (Option.some (Jvm.ClassFile.FieldType.object "java/lang/String")) :: GW) B.pre
  have X : kX p s m _ meth c b_S_remove 3 "TreeServer" t := ⟨B.exec, B.bytes, hml, findClass_of_methodNamed B.named, fun w h => hts w (List.mem_cons_of_mem _ h), B.notSynchronized, hK⟩
  have hZ : kZ t false s G s.heap [] := ⟨hB, va_S.rf, fun _ => ⟨rfl, rfl⟩⟩
  rw [lg_entry_eq]
  have hl := lv_entry ([.ref a0, .ref p1]) (n := 3) (by simp [lg_sl, rf_cat, cat_i, cat_l, cat_r])
  exact k_S_remove X B.returns _ _ hwp s.heap [] _ hl hZ
abbrev b_S_letsOpen : ByteArray := prog_1_method_32_code
def y_S_letsOpen : MethodName := ⟨"TreeServer", "letsOpen", "(LTreeServer$Node;LTreeServer$User;I)Z"⟩
theorem d_S_letsOpen_0 : decode b_S_letsOpen 0 = .ok (.iload_n 2, 1) := by decide +kernel
theorem d_S_letsOpen_1 : decode b_S_letsOpen 1 = .ok (.iconst 3, 1) := by decide +kernel
theorem d_S_letsOpen_2 : decode b_S_letsOpen 2 = .ok (.iand, 1) := by decide +kernel
theorem d_S_letsOpen_3 : decode b_S_letsOpen 3 = .ok (.istore_n 3, 1) := by decide +kernel
theorem d_S_letsOpen_4 : decode b_S_letsOpen 4 = .ok (.iload_n 3, 1) := by decide +kernel
theorem d_S_letsOpen_5 : decode b_S_letsOpen 5 = .ok (.ifCond .eq 8, 3) := by decide +kernel
theorem d_S_letsOpen_8 : decode b_S_letsOpen 8 = .ok (.iload_n 3, 1) := by decide +kernel
theorem d_S_letsOpen_9 : decode b_S_letsOpen 9 = .ok (.iconst 2, 1) := by decide +kernel
theorem d_S_letsOpen_10 : decode b_S_letsOpen 10 = .ok (.if_icmp .ne 7, 3) := by decide +kernel
theorem d_S_letsOpen_13 : decode b_S_letsOpen 13 = .ok (.iconst 1, 1) := by decide +kernel
theorem d_S_letsOpen_14 : decode b_S_letsOpen 14 = .ok (.goto 4, 3) := by decide +kernel
theorem d_S_letsOpen_17 : decode b_S_letsOpen 17 = .ok (.iconst 0, 1) := by decide +kernel
theorem d_S_letsOpen_18 : decode b_S_letsOpen 18 = .ok (.istore 4, 2) := by decide +kernel
theorem d_S_letsOpen_20 : decode b_S_letsOpen 20 = .ok (.iload_n 3, 1) := by decide +kernel
theorem d_S_letsOpen_21 : decode b_S_letsOpen 21 = .ok (.iconst 1, 1) := by decide +kernel
theorem d_S_letsOpen_22 : decode b_S_letsOpen 22 = .ok (.if_icmp .eq 15, 3) := by decide +kernel
theorem d_S_letsOpen_25 : decode b_S_letsOpen 25 = .ok (.iload_n 3, 1) := by decide +kernel
theorem d_S_letsOpen_26 : decode b_S_letsOpen 26 = .ok (.iconst 2, 1) := by decide +kernel
theorem d_S_letsOpen_27 : decode b_S_letsOpen 27 = .ok (.if_icmp .eq 10, 3) := by decide +kernel
theorem d_S_letsOpen_30 : decode b_S_letsOpen 30 = .ok (.iload_n 2, 1) := by decide +kernel
theorem d_S_letsOpen_31 : decode b_S_letsOpen 31 = .ok (.bipush 16, 2) := by decide +kernel
theorem d_S_letsOpen_33 : decode b_S_letsOpen 33 = .ok (.iand, 1) := by decide +kernel
theorem d_S_letsOpen_34 : decode b_S_letsOpen 34 = .ok (.ifCond .eq 7, 3) := by decide +kernel
theorem d_S_letsOpen_37 : decode b_S_letsOpen 37 = .ok (.iconst 1, 1) := by decide +kernel
theorem d_S_letsOpen_38 : decode b_S_letsOpen 38 = .ok (.goto 4, 3) := by decide +kernel
theorem d_S_letsOpen_41 : decode b_S_letsOpen 41 = .ok (.iconst 0, 1) := by decide +kernel
theorem d_S_letsOpen_42 : decode b_S_letsOpen 42 = .ok (.istore 5, 2) := by decide +kernel
theorem d_S_letsOpen_44 : decode b_S_letsOpen 44 = .ok (.iload 4, 2) := by decide +kernel
theorem d_S_letsOpen_46 : decode b_S_letsOpen 46 = .ok (.ifCond .eq 12, 3) := by decide +kernel
theorem d_S_letsOpen_49 : decode b_S_letsOpen 49 = .ok (.aload_n 0, 1) := by decide +kernel
theorem d_S_letsOpen_50 : decode b_S_letsOpen 50 = .ok (.aload_n 1, 1) := by decide +kernel
theorem d_S_letsOpen_51 : decode b_S_letsOpen 51 = .ok (.iconst 4, 1) := by decide +kernel
theorem d_S_letsOpen_52 : decode b_S_letsOpen 52 = .ok (.invokevirtual 279, 3) := by decide +kernel
theorem d_S_letsOpen_55 : decode b_S_letsOpen 55 = .ok (.ifCond .eq 17, 3) := by decide +kernel
theorem d_S_letsOpen_58 : decode b_S_letsOpen 58 = .ok (.iload 5, 2) := by decide +kernel
theorem d_S_letsOpen_60 : decode b_S_letsOpen 60 = .ok (.ifCond .eq 14, 3) := by decide +kernel
theorem d_S_letsOpen_63 : decode b_S_letsOpen 63 = .ok (.aload_n 0, 1) := by decide +kernel
theorem d_S_letsOpen_64 : decode b_S_letsOpen 64 = .ok (.aload_n 1, 1) := by decide +kernel
theorem d_S_letsOpen_65 : decode b_S_letsOpen 65 = .ok (.iconst 2, 1) := by decide +kernel
theorem d_S_letsOpen_66 : decode b_S_letsOpen 66 = .ok (.invokevirtual 279, 3) := by decide +kernel
theorem d_S_letsOpen_69 : decode b_S_letsOpen 69 = .ok (.ifCond .ne 5, 3) := by decide +kernel
theorem d_S_letsOpen_72 : decode b_S_letsOpen 72 = .ok (.iconst 0, 1) := by decide +kernel
theorem d_S_letsOpen_73 : decode b_S_letsOpen 73 = .ok (.ireturn, 1) := by decide +kernel
theorem d_S_letsOpen_74 : decode b_S_letsOpen 74 = .ok (.iload_n 3, 1) := by decide +kernel
theorem d_S_letsOpen_75 : decode b_S_letsOpen 75 = .ok (.iconst 3, 1) := by decide +kernel
theorem d_S_letsOpen_76 : decode b_S_letsOpen 76 = .ok (.if_icmp .ne 12, 3) := by decide +kernel
theorem d_S_letsOpen_79 : decode b_S_letsOpen 79 = .ok (.aload_n 0, 1) := by decide +kernel
theorem d_S_letsOpen_80 : decode b_S_letsOpen 80 = .ok (.aload_n 1, 1) := by decide +kernel
theorem d_S_letsOpen_81 : decode b_S_letsOpen 81 = .ok (.iconst 1, 1) := by decide +kernel
theorem d_S_letsOpen_82 : decode b_S_letsOpen 82 = .ok (.invokevirtual 279, 3) := by decide +kernel
theorem d_S_letsOpen_85 : decode b_S_letsOpen 85 = .ok (.ifCond .eq 7, 3) := by decide +kernel
theorem d_S_letsOpen_88 : decode b_S_letsOpen 88 = .ok (.iconst 1, 1) := by decide +kernel
theorem d_S_letsOpen_89 : decode b_S_letsOpen 89 = .ok (.goto 4, 3) := by decide +kernel
theorem d_S_letsOpen_92 : decode b_S_letsOpen 92 = .ok (.iconst 0, 1) := by decide +kernel
theorem d_S_letsOpen_93 : decode b_S_letsOpen 93 = .ok (.ireturn, 1) := by decide +kernel
abbrev rm_S_letsOpen : Room := { frames := 2, cells := 0, slots := 0, locals := 43 }
set_option maxRecDepth 100000 in
set_option maxHeartbeats 4000000 in
theorem k_S_letsOpen_74 {p : Program} {l : Launch} {e : Env} {s : State} {m : MethodId} {args : Array Value} {below : List Frame} {meth : Method} {c : Code} {t : TY} {G : GS} {K : Int32 → Prop} (X : kX p s m args meth c b_S_letsOpen 6 "TreeServer" t) (hret : meth.sig.returnType = some .boolean) (l0 : Option Nat) (l1 : Option Nat) (l3 : Int32) (hwp : w_S_letsOpen_74 t G K l0 l1 l3) : kW p l e rm_S_letsOpen s m args below meth c (MQ below (vp_Si (fun r => isB r ∧ K r)) args s 0 0 (fun _ => False)) 6 t true 74 [(0, va_rf l0), (1, va_rf l1), (3, .int l3)] [] G := by
  unfold w_S_letsOpen_74 at hwp
  refine kw_iload_n (pc := 74) X d_S_letsOpen_74 rfl 2 rfl ?_
  refine kw_iconst (v := 3) (pc := 75) X d_S_letsOpen_75 (by decide) ?_
  refine kw_icmp_ne (tgt := 88) (pc := 76) X d_S_letsOpen_76 (by decide) (fun h => ?_) (fun h => ?_)
  · have hwp := ite_t h hwp
    refine kw_iconst (v := 1) (pc := 88) X d_S_letsOpen_88 (by decide) ?_
    refine kw_goto (tgt := 93) (pc := 89) X d_S_letsOpen_89 (by decide) ?_
    exact krp_z (pc := 93) X hret d_S_letsOpen_93 (Or.inr rfl) hwp
  · have hwp := ite_f (not_not_intro h) hwp
    refine kw_aload_n (pc := 79) X d_S_letsOpen_79 rfl 0 rfl ?_
    refine kw_aload_n (pc := 80) X d_S_letsOpen_80 rfl 1 rfl ?_
    refine kw_iconst (v := 1) (pc := 81) X d_S_letsOpen_81 (by decide) ?_
    obtain ⟨a1, h_a1, hwp⟩ := hwp
    obtain ⟨f2, hwp⟩ := hwp
    refine kW.st (st' := [.int (1 : Int32), va_rf l1, .ref a1]) (by simp only [h_a1]; rfl) ?_
    refine kcVp_i (n := 2) (As := [va_rf l1, .int (1 : Int32)]) (rest := []) (pc := 82) X (c_Node_lets l t G a1 l1 (1 : Int32) _) (cwV_of (C := "TreeServer$Node") X x_439 x_436 x_437 x_438 x_3 (by decide +kernel) ⟨rfl, rfl⟩ (by decide)) (rv_1 X f2) rfl rfl (by decide) d_S_letsOpen_82 hwp (fun v3 hwp => ?_)
    obtain ⟨b_v3, hwp⟩ := hwp
    refine kw_if_eq (tgt := 92) (pc := 85) X d_S_letsOpen_85 (by decide) (fun h => ?_) (fun h => ?_)
    · have hwp := ite_t h hwp
      refine kw_iconst (v := 0) (pc := 92) X d_S_letsOpen_92 (by decide) ?_
      exact krp_z (pc := 93) X hret d_S_letsOpen_93 (Or.inl rfl) hwp
    · have hwp := ite_f h hwp
      refine kw_iconst (v := 1) (pc := 88) X d_S_letsOpen_88 (by decide) ?_
      refine kw_goto (tgt := 93) (pc := 89) X d_S_letsOpen_89 (by decide) ?_
      exact krp_z (pc := 93) X hret d_S_letsOpen_93 (Or.inr rfl) hwp
set_option maxRecDepth 100000 in
set_option maxHeartbeats 4000000 in
theorem k_S_letsOpen_58 {p : Program} {l : Launch} {e : Env} {s : State} {m : MethodId} {args : Array Value} {below : List Frame} {meth : Method} {c : Code} {t : TY} {G : GS} {K : Int32 → Prop} (X : kX p s m args meth c b_S_letsOpen 6 "TreeServer" t) (hret : meth.sig.returnType = some .boolean) (l0 : Option Nat) (l1 : Option Nat) (l3 : Int32) (l5 : Int32) (hwp : w_S_letsOpen_58 t G K l0 l1 l3 l5) : kW p l e rm_S_letsOpen s m args below meth c (MQ below (vp_Si (fun r => isB r ∧ K r)) args s 0 0 (fun _ => False)) 6 t true 58 [(0, va_rf l0), (1, va_rf l1), (3, .int l3), (5, .int l5)] [] G := by
  unfold w_S_letsOpen_58 at hwp
  refine kw_iload (pc := 58) X d_S_letsOpen_58 3 rfl ?_
  refine kw_if_eq (tgt := 74) (pc := 60) X d_S_letsOpen_60 (by decide) (fun h => ?_) (fun h => ?_)
  · have hwp := ite_t h hwp
    exact kW.sub [0, 1, 2] rfl (k_S_letsOpen_74 X hret  _ _ _ hwp)
  · have hwp := ite_f h hwp
    refine kw_aload_n (pc := 63) X d_S_letsOpen_63 rfl 0 rfl ?_
    refine kw_aload_n (pc := 64) X d_S_letsOpen_64 rfl 1 rfl ?_
    refine kw_iconst (v := 2) (pc := 65) X d_S_letsOpen_65 (by decide) ?_
    obtain ⟨a1, h_a1, hwp⟩ := hwp
    obtain ⟨f2, hwp⟩ := hwp
    refine kW.st (st' := [.int (2 : Int32), va_rf l1, .ref a1]) (by simp only [h_a1]; rfl) ?_
    refine kcVp_i (n := 2) (As := [va_rf l1, .int (2 : Int32)]) (rest := []) (pc := 66) X (c_Node_lets l t G a1 l1 (2 : Int32) _) (cwV_of (C := "TreeServer$Node") X x_439 x_436 x_437 x_438 x_3 (by decide +kernel) ⟨rfl, rfl⟩ (by decide)) (rv_1 X f2) rfl rfl (by decide) d_S_letsOpen_66 hwp (fun v3 hwp => ?_)
    obtain ⟨b_v3, hwp⟩ := hwp
    refine kw_if_ne (tgt := 74) (pc := 69) X d_S_letsOpen_69 (by decide) (fun h => ?_) (fun h => ?_)
    · have hwp := ite_t h hwp
      exact kW.sub [0, 1, 2] rfl (k_S_letsOpen_74 X hret  _ _ _ hwp)
    · have hwp := ite_f (not_not_intro h) hwp
      refine kw_iconst (v := 0) (pc := 72) X d_S_letsOpen_72 (by decide) ?_
      exact krp_z (pc := 73) X hret d_S_letsOpen_73 (Or.inl rfl) hwp
set_option maxRecDepth 100000 in
set_option maxHeartbeats 4000000 in
theorem k_S_letsOpen_42 {p : Program} {l : Launch} {e : Env} {s : State} {m : MethodId} {args : Array Value} {below : List Frame} {meth : Method} {c : Code} {t : TY} {G : GS} {K : Int32 → Prop} (X : kX p s m args meth c b_S_letsOpen 6 "TreeServer" t) (hret : meth.sig.returnType = some .boolean) (l0 : Option Nat) (l1 : Option Nat) (l3 : Int32) (l4 : Int32) (s0 : Int32) (hwp : w_S_letsOpen_42 t G K l0 l1 l3 l4 s0) : kW p l e rm_S_letsOpen s m args below meth c (MQ below (vp_Si (fun r => isB r ∧ K r)) args s 0 0 (fun _ => False)) 6 t true 42 [(0, va_rf l0), (1, va_rf l1), (3, .int l3), (4, .int l4)] [.int s0] G := by
  unfold w_S_letsOpen_42 at hwp
  refine kw_istore (i := 5) (lv' := [(5, .int s0), (0, va_rf l0), (1, va_rf l1), (3, .int l3), (4, .int l4)]) (pc := 42) X d_S_letsOpen_42 (by decide) rfl ?_
  refine kw_iload (pc := 44) X d_S_letsOpen_44 4 rfl ?_
  refine kw_if_eq (tgt := 58) (pc := 46) X d_S_letsOpen_46 (by decide) (fun h => ?_) (fun h => ?_)
  · have hwp := ite_t h hwp
    exact kW.sub [1, 2, 3, 0] rfl (k_S_letsOpen_58 X hret  _ _ _ _ hwp)
  · have hwp := ite_f h hwp
    refine kw_aload_n (pc := 49) X d_S_letsOpen_49 rfl 1 rfl ?_
    refine kw_aload_n (pc := 50) X d_S_letsOpen_50 rfl 2 rfl ?_
    refine kw_iconst (v := 4) (pc := 51) X d_S_letsOpen_51 (by decide) ?_
    obtain ⟨a1, h_a1, hwp⟩ := hwp
    obtain ⟨f2, hwp⟩ := hwp
    refine kW.st (st' := [.int (4 : Int32), va_rf l1, .ref a1]) (by simp only [h_a1]; rfl) ?_
    refine kcVp_i (n := 2) (As := [va_rf l1, .int (4 : Int32)]) (rest := []) (pc := 52) X (c_Node_lets l t G a1 l1 (4 : Int32) _) (cwV_of (C := "TreeServer$Node") X x_439 x_436 x_437 x_438 x_3 (by decide +kernel) ⟨rfl, rfl⟩ (by decide)) (rv_1 X f2) rfl rfl (by decide) d_S_letsOpen_52 hwp (fun v3 hwp => ?_)
    obtain ⟨b_v3, hwp⟩ := hwp
    refine kw_if_eq (tgt := 72) (pc := 55) X d_S_letsOpen_55 (by decide) (fun h => ?_) (fun h => ?_)
    · have hwp := ite_t h hwp
      refine kw_iconst (v := 0) (pc := 72) X d_S_letsOpen_72 (by decide) ?_
      exact krp_z (pc := 73) X hret d_S_letsOpen_73 (Or.inl rfl) hwp
    · have hwp := ite_f h hwp
      exact kW.sub [1, 2, 3, 0] rfl (k_S_letsOpen_58 X hret  _ _ _ _ hwp)
set_option maxRecDepth 100000 in
set_option maxHeartbeats 4000000 in
theorem k_S_letsOpen_37 {p : Program} {l : Launch} {e : Env} {s : State} {m : MethodId} {args : Array Value} {below : List Frame} {meth : Method} {c : Code} {t : TY} {G : GS} {K : Int32 → Prop} (X : kX p s m args meth c b_S_letsOpen 6 "TreeServer" t) (hret : meth.sig.returnType = some .boolean) (l0 : Option Nat) (l1 : Option Nat) (l3 : Int32) (l4 : Int32) (hwp : w_S_letsOpen_37 t G K l0 l1 l3 l4) : kW p l e rm_S_letsOpen s m args below meth c (MQ below (vp_Si (fun r => isB r ∧ K r)) args s 0 0 (fun _ => False)) 6 t true 37 [(0, va_rf l0), (1, va_rf l1), (3, .int l3), (4, .int l4)] [] G := by
  unfold w_S_letsOpen_37 at hwp
  refine kw_iconst (v := 1) (pc := 37) X d_S_letsOpen_37 (by decide) ?_
  refine kw_goto (tgt := 42) (pc := 38) X d_S_letsOpen_38 (by decide) ?_
  exact kW.sub [0, 1, 2, 3] rfl (k_S_letsOpen_42 X hret  _ _ _ _ _ hwp)
set_option maxRecDepth 100000 in
set_option maxHeartbeats 4000000 in
theorem k_S_letsOpen_18 {p : Program} {l : Launch} {e : Env} {s : State} {m : MethodId} {args : Array Value} {below : List Frame} {meth : Method} {c : Code} {t : TY} {G : GS} {K : Int32 → Prop} (X : kX p s m args meth c b_S_letsOpen 6 "TreeServer" t) (hret : meth.sig.returnType = some .boolean) (l0 : Option Nat) (l1 : Option Nat) (l2 : Int32) (l3 : Int32) (s0 : Int32) (hwp : w_S_letsOpen_18 t G K l0 l1 l2 l3 s0) : kW p l e rm_S_letsOpen s m args below meth c (MQ below (vp_Si (fun r => isB r ∧ K r)) args s 0 0 (fun _ => False)) 6 t true 18 [(0, va_rf l0), (1, va_rf l1), (2, .int l2), (3, .int l3)] [.int s0] G := by
  unfold w_S_letsOpen_18 at hwp
  refine kw_istore (i := 4) (lv' := [(4, .int s0), (0, va_rf l0), (1, va_rf l1), (2, .int l2), (3, .int l3)]) (pc := 18) X d_S_letsOpen_18 (by decide) rfl ?_
  refine kw_iload_n (pc := 20) X d_S_letsOpen_20 rfl 4 rfl ?_
  refine kw_iconst (v := 1) (pc := 21) X d_S_letsOpen_21 (by decide) ?_
  refine kw_icmp_eq (tgt := 37) (pc := 22) X d_S_letsOpen_22 (by decide) (fun h => ?_) (fun h => ?_)
  · have hwp := ite_t h hwp
    exact kW.sub [1, 2, 4, 0] rfl (k_S_letsOpen_37 X hret  _ _ _ _ hwp)
  · have hwp := ite_f h hwp
    refine kw_iload_n (pc := 25) X d_S_letsOpen_25 rfl 4 rfl ?_
    refine kw_iconst (v := 2) (pc := 26) X d_S_letsOpen_26 (by decide) ?_
    refine kw_icmp_eq (tgt := 37) (pc := 27) X d_S_letsOpen_27 (by decide) (fun h => ?_) (fun h => ?_)
    · have hwp := ite_t h hwp
      exact kW.sub [1, 2, 4, 0] rfl (k_S_letsOpen_37 X hret  _ _ _ _ hwp)
    · have hwp := ite_f h hwp
      refine kw_iload_n (pc := 30) X d_S_letsOpen_30 rfl 3 rfl ?_
      refine kw_bipush (v := 16) (pc := 31) X d_S_letsOpen_31 (by decide) ?_
      refine kw_iand (pc := 33) X d_S_letsOpen_33 ?_
      refine kw_if_eq (tgt := 41) (pc := 34) X d_S_letsOpen_34 (by decide) (fun h => ?_) (fun h => ?_)
      · have hwp := ite_t h hwp
        refine kw_iconst (v := 0) (pc := 41) X d_S_letsOpen_41 (by decide) ?_
        exact kW.sub [1, 2, 4, 0] rfl (k_S_letsOpen_42 X hret  _ _ _ _ _ hwp)
      · have hwp := ite_f h hwp
        exact kW.sub [1, 2, 4, 0] rfl (k_S_letsOpen_37 X hret  _ _ _ _ hwp)
set_option maxRecDepth 100000 in
set_option maxHeartbeats 4000000 in
theorem k_S_letsOpen_13 {p : Program} {l : Launch} {e : Env} {s : State} {m : MethodId} {args : Array Value} {below : List Frame} {meth : Method} {c : Code} {t : TY} {G : GS} {K : Int32 → Prop} (X : kX p s m args meth c b_S_letsOpen 6 "TreeServer" t) (hret : meth.sig.returnType = some .boolean) (l0 : Option Nat) (l1 : Option Nat) (l2 : Int32) (l3 : Int32) (hwp : w_S_letsOpen_13 t G K l0 l1 l2 l3) : kW p l e rm_S_letsOpen s m args below meth c (MQ below (vp_Si (fun r => isB r ∧ K r)) args s 0 0 (fun _ => False)) 6 t true 13 [(0, va_rf l0), (1, va_rf l1), (2, .int l2), (3, .int l3)] [] G := by
  unfold w_S_letsOpen_13 at hwp
  refine kw_iconst (v := 1) (pc := 13) X d_S_letsOpen_13 (by decide) ?_
  refine kw_goto (tgt := 18) (pc := 14) X d_S_letsOpen_14 (by decide) ?_
  exact kW.sub [0, 1, 2, 3] rfl (k_S_letsOpen_18 X hret  _ _ _ _ _ hwp)
set_option maxRecDepth 100000 in
set_option maxHeartbeats 4000000 in
theorem k_S_letsOpen {p : Program} {l : Launch} {e : Env} {s : State} {m : MethodId} {args : Array Value} {below : List Frame} {meth : Method} {c : Code} {t : TY} {G : GS} {K : Int32 → Prop} (X : kX p s m args meth c b_S_letsOpen 6 "TreeServer" t) (hret : meth.sig.returnType = some .boolean) (p0 : Nat) (p1 : Option Nat) (p2 : Int32) (hwp : w_S_letsOpen t G p0 p1 p2 K) : kW p l e rm_S_letsOpen s m args below meth c (MQ below (vp_Si (fun r => isB r ∧ K r)) args s 0 0 (fun _ => False)) 6 t true 0 [(0, va_rf (some p0)), (1, va_rf p1), (2, .int p2)] [] G := by
  unfold w_S_letsOpen at hwp
  refine kw_iload_n (pc := 0) X d_S_letsOpen_0 rfl 2 rfl ?_
  refine kw_iconst (v := 3) (pc := 1) X d_S_letsOpen_1 (by decide) ?_
  refine kw_iand (pc := 2) X d_S_letsOpen_2 ?_
  obtain ⟨v1, e_v1⟩ : ∃ z, z = (p2 &&& (3 : Int32)) := ⟨_, rfl⟩
  have hwp := hwp v1 e_v1
  refine kW.st (st' := .int v1 :: _) (by rw [e_v1]) ?_
  refine kw_istore_n (i := 3) (lv' := [(3, .int v1), (0, va_rf (some p0)), (1, va_rf p1), (2, .int p2)]) (pc := 3) X d_S_letsOpen_3 rfl (by decide) rfl ?_
  refine kw_iload_n (pc := 4) X d_S_letsOpen_4 rfl 0 rfl ?_
  refine kw_if_eq (tgt := 13) (pc := 5) X d_S_letsOpen_5 (by decide) (fun h => ?_) (fun h => ?_)
  · have hwp := ite_t h hwp
    exact kW.sub [1, 2, 3, 0] rfl (k_S_letsOpen_13 X hret  _ _ _ _ hwp)
  · have hwp := ite_f h hwp
    refine kw_iload_n (pc := 8) X d_S_letsOpen_8 rfl 0 rfl ?_
    refine kw_iconst (v := 2) (pc := 9) X d_S_letsOpen_9 (by decide) ?_
    refine kw_icmp_ne (tgt := 17) (pc := 10) X d_S_letsOpen_10 (by decide) (fun h => ?_) (fun h => ?_)
    · have hwp := ite_t h hwp
      refine kw_iconst (v := 0) (pc := 17) X d_S_letsOpen_17 (by decide) ?_
      exact kW.sub [1, 2, 3, 0] rfl (k_S_letsOpen_18 X hret  _ _ _ _ _ hwp)
    · have hwp := ite_f (not_not_intro h) hwp
      exact kW.sub [1, 2, 3, 0] rfl (k_S_letsOpen_13 X hret  _ _ _ _ hwp)
set_option maxRecDepth 100000 in
set_option maxHeartbeats 4000000 in
theorem c_S_letsOpen (l : Launch) (t : TY) (G : GS) (p0 : Nat) (p1 : Option Nat) (p2 : Int32) (K : Int32 → Prop) : Met l y_S_letsOpen (Cond.code y_S_letsOpen b_S_letsOpen 6 (Option.some Jvm.ClassFile.FieldType.boolean) :: GW) rm_S_letsOpen (va_Pc [.ref p0, va_rf p1, .int p2] (fun U => HB t G U.heap ∧ HK t U ∧ w_S_letsOpen t G p0 p1 p2 K)) (vp_Si (fun r => isB r ∧ K r)) 0 0 (fun _ => False) := by
  refine Met.ofW (cc := b_S_letsOpen) (maxL := 6) (ret := some .boolean) (by decide) rfl ?_
  intro p e s m args below meth c s₁ B hml hv
  obtain ⟨rfl, hB, hK, hwp⟩ := hv
  have hts := atoms_spec (ws := Cond.code y_S_letsOpen b_S_letsOpen 6 (Option.some Jvm.ClassFile.FieldType.boolean) :: GW) B.pre
  have X : kX p s m _ meth c b_S_letsOpen 6 "TreeServer" t := ⟨B.exec, B.bytes, hml, findClass_of_methodNamed B.named, fun w h => hts w (List.mem_cons_of_mem _ h), B.notSynchronized, hK⟩
  have hZ : kZ t true s G s.heap [] := ⟨hB, va_S.rf, fun _ => ⟨rfl, rfl⟩⟩
  rw [lg_entry_eq]
  have hl := lv_entry ([.ref p0, va_rf p1, .int p2]) (n := 6) (by simp [lg_sl, rf_cat, cat_i, cat_l, cat_r])
  rw [show lv_args 0 [.ref p0, va_rf p1, .int p2] = [(0, .ref p0), (1, va_rf p1), (2, .int p2)] from by simp [lv_args, rf_cat, cat_i, cat_l, cat_r]] at hl
  exact k_S_letsOpen X B.returns _ _ _ hwp s.heap [] _ hl hZ
abbrev b_Node_has : ByteArray := prog_9_method_2_code
def y_Node_has : MethodName := ⟨"TreeServer$Node", "has", "(I)Z"⟩
theorem d_Node_has_0 : decode b_Node_has 0 = .ok (.aload_n 0, 1) := by decide +kernel
theorem d_Node_has_1 : decode b_Node_has 1 = .ok (.getfield 37, 3) := by decide +kernel
theorem d_Node_has_4 : decode b_Node_has 4 = .ok (.iload_n 1, 1) := by decide +kernel
theorem d_Node_has_5 : decode b_Node_has 5 = .ok (.iand, 1) := by decide +kernel
theorem d_Node_has_6 : decode b_Node_has 6 = .ok (.ifCond .eq 7, 3) := by decide +kernel
theorem d_Node_has_9 : decode b_Node_has 9 = .ok (.iconst 1, 1) := by decide +kernel
theorem d_Node_has_10 : decode b_Node_has 10 = .ok (.goto 4, 3) := by decide +kernel
theorem d_Node_has_13 : decode b_Node_has 13 = .ok (.iconst 0, 1) := by decide +kernel
theorem d_Node_has_14 : decode b_Node_has 14 = .ok (.ireturn, 1) := by decide +kernel
abbrev rm_Node_has : Room := { frames := 0, cells := 0, slots := 0, locals := 0 }
set_option maxRecDepth 100000 in
set_option maxHeartbeats 4000000 in
theorem k_Node_has {p : Program} {l : Launch} {e : Env} {s : State} {m : MethodId} {args : Array Value} {below : List Frame} {meth : Method} {c : Code} {t : TY} {a0 : Nat} {G : GS} {K : Int32 → Prop} (X : kX p s m args meth c b_Node_has 2 "TreeServer$Node" t) (hret : meth.sig.returnType = some .boolean) (p1 : Int32) (hwp : w_Node_has t G a0 p1 K) : kW p l e rm_Node_has s m args below meth c (MQ below (vp_Si (fun r => isB r ∧ K r)) args s 0 0 (fun _ => False)) 2 t true 0 [(0, va_rf (some a0)), (1, .int p1)] [] G := by
  unfold w_Node_has at hwp
  refine kw_aload_n (pc := 0) X d_Node_has_0 rfl 0 rfl ?_
  obtain ⟨f1, hwp⟩ := hwp
  refine kg_2 (a := a0) (pc := 1) X d_Node_has_1 x_51 rfl f1 ?_
  refine kw_iload_n (pc := 4) X d_Node_has_4 rfl 1 rfl ?_
  refine kw_iand (pc := 5) X d_Node_has_5 ?_
  refine kw_if_eq (tgt := 13) (pc := 6) X d_Node_has_6 (by decide) (fun h => ?_) (fun h => ?_)
  · have hwp := ite_t h hwp
    refine kw_iconst (v := 0) (pc := 13) X d_Node_has_13 (by decide) ?_
    exact krp_z (pc := 14) X hret d_Node_has_14 (Or.inl rfl) hwp
  · have hwp := ite_f h hwp
    refine kw_iconst (v := 1) (pc := 9) X d_Node_has_9 (by decide) ?_
    refine kw_goto (tgt := 14) (pc := 10) X d_Node_has_10 (by decide) ?_
    exact krp_z (pc := 14) X hret d_Node_has_14 (Or.inr rfl) hwp
set_option maxRecDepth 100000 in
set_option maxHeartbeats 4000000 in
theorem c_Node_has (l : Launch) (t : TY) (G : GS) (a0 : Nat) (p1 : Int32) (K : Int32 → Prop) : Met l y_Node_has (Cond.code y_Node_has b_Node_has 2 (Option.some Jvm.ClassFile.FieldType.boolean) :: GW) rm_Node_has (va_Pc [.ref a0, .int p1] (fun U => HB t G U.heap ∧ HK t U ∧ w_Node_has t G a0 p1 K)) (vp_Si (fun r => isB r ∧ K r)) 0 0 (fun _ => False) := by
  refine Met.ofW (cc := b_Node_has) (maxL := 2) (ret := some .boolean) (by decide) rfl ?_
  intro p e s m args below meth c s₁ B hml hv
  obtain ⟨rfl, hB, hK, hwp⟩ := hv
  have hts := atoms_spec (ws := Cond.code y_Node_has b_Node_has 2 (Option.some Jvm.ClassFile.FieldType.boolean) :: GW) B.pre
  have X : kX p s m _ meth c b_Node_has 2 "TreeServer$Node" t := ⟨B.exec, B.bytes, hml, findClass_of_methodNamed B.named, fun w h => hts w (List.mem_cons_of_mem _ h), B.notSynchronized, hK⟩
  have hZ : kZ t true s G s.heap [] := ⟨hB, va_S.rf, fun _ => ⟨rfl, rfl⟩⟩
  rw [lg_entry_eq]
  have hl := lv_entry ([.ref a0, .int p1]) (n := 2) (by simp [lg_sl, rf_cat, cat_i, cat_l, cat_r])
  exact k_Node_has X B.returns _ hwp s.heap [] _ hl hZ
abbrev b_Link_hasOpenFidAt : ByteArray := prog_6_method_15_code
def y_Link_hasOpenFidAt : MethodName := ⟨"TreeServer$Link", "hasOpenFidAt", "(LTreeServer$Node;)Z"⟩
theorem d_Link_hasOpenFidAt_0 : decode b_Link_hasOpenFidAt 0 = .ok (.iconst 0, 1) := by decide +kernel
theorem d_Link_hasOpenFidAt_1 : decode b_Link_hasOpenFidAt 1 = .ok (.istore_n 2, 1) := by decide +kernel
theorem d_Link_hasOpenFidAt_2 : decode b_Link_hasOpenFidAt 2 = .ok (.iload_n 2, 1) := by decide +kernel
theorem d_Link_hasOpenFidAt_3 : decode b_Link_hasOpenFidAt 3 = .ok (.bipush 6, 2) := by decide +kernel
theorem d_Link_hasOpenFidAt_5 : decode b_Link_hasOpenFidAt 5 = .ok (.if_icmp .ge 48, 3) := by decide +kernel
theorem d_Link_hasOpenFidAt_8 : decode b_Link_hasOpenFidAt 8 = .ok (.aload_n 0, 1) := by decide +kernel
theorem d_Link_hasOpenFidAt_9 : decode b_Link_hasOpenFidAt 9 = .ok (.getfield 24, 3) := by decide +kernel
theorem d_Link_hasOpenFidAt_12 : decode b_Link_hasOpenFidAt 12 = .ok (.iload_n 2, 1) := by decide +kernel
theorem d_Link_hasOpenFidAt_13 : decode b_Link_hasOpenFidAt 13 = .ok (.aaload, 1) := by decide +kernel
theorem d_Link_hasOpenFidAt_14 : decode b_Link_hasOpenFidAt 14 = .ok (.astore_n 3, 1) := by decide +kernel
theorem d_Link_hasOpenFidAt_15 : decode b_Link_hasOpenFidAt 15 = .ok (.aload_n 3, 1) := by decide +kernel
theorem d_Link_hasOpenFidAt_16 : decode b_Link_hasOpenFidAt 16 = .ok (.getfield 47, 3) := by decide +kernel
theorem d_Link_hasOpenFidAt_19 : decode b_Link_hasOpenFidAt 19 = .ok (.ifCond .eq 28, 3) := by decide +kernel
theorem d_Link_hasOpenFidAt_22 : decode b_Link_hasOpenFidAt 22 = .ok (.aload_n 3, 1) := by decide +kernel
theorem d_Link_hasOpenFidAt_23 : decode b_Link_hasOpenFidAt 23 = .ok (.getfield 74, 3) := by decide +kernel
theorem d_Link_hasOpenFidAt_26 : decode b_Link_hasOpenFidAt 26 = .ok (.aload_n 1, 1) := by decide +kernel
theorem d_Link_hasOpenFidAt_27 : decode b_Link_hasOpenFidAt 27 = .ok (.if_acmp .ne 20, 3) := by decide +kernel
theorem d_Link_hasOpenFidAt_30 : decode b_Link_hasOpenFidAt 30 = .ok (.aload_n 3, 1) := by decide +kernel
theorem d_Link_hasOpenFidAt_31 : decode b_Link_hasOpenFidAt 31 = .ok (.getfield 78, 3) := by decide +kernel
theorem d_Link_hasOpenFidAt_34 : decode b_Link_hasOpenFidAt 34 = .ok (.iconst (-1), 1) := by decide +kernel
theorem d_Link_hasOpenFidAt_35 : decode b_Link_hasOpenFidAt 35 = .ok (.if_icmp .eq 12, 3) := by decide +kernel
theorem d_Link_hasOpenFidAt_38 : decode b_Link_hasOpenFidAt 38 = .ok (.aload_n 3, 1) := by decide +kernel
theorem d_Link_hasOpenFidAt_39 : decode b_Link_hasOpenFidAt 39 = .ok (.invokevirtual 81, 3) := by decide +kernel
theorem d_Link_hasOpenFidAt_42 : decode b_Link_hasOpenFidAt 42 = .ok (.ifCond .ne 5, 3) := by decide +kernel
theorem d_Link_hasOpenFidAt_45 : decode b_Link_hasOpenFidAt 45 = .ok (.iconst 1, 1) := by decide +kernel
theorem d_Link_hasOpenFidAt_46 : decode b_Link_hasOpenFidAt 46 = .ok (.ireturn, 1) := by decide +kernel
theorem d_Link_hasOpenFidAt_47 : decode b_Link_hasOpenFidAt 47 = .ok (.iinc 2 1, 3) := by decide +kernel
theorem d_Link_hasOpenFidAt_50 : decode b_Link_hasOpenFidAt 50 = .ok (.goto (-48), 3) := by decide +kernel
theorem d_Link_hasOpenFidAt_53 : decode b_Link_hasOpenFidAt 53 = .ok (.iconst 0, 1) := by decide +kernel
theorem d_Link_hasOpenFidAt_54 : decode b_Link_hasOpenFidAt 54 = .ok (.ireturn, 1) := by decide +kernel
abbrev rm_Link_hasOpenFidAt : Room := { frames := 1, cells := 0, slots := 0, locals := 20 }
set_option maxRecDepth 100000 in
set_option maxHeartbeats 4000000 in
theorem k_Link_hasOpenFidAt_2 {p : Program} {l : Launch} {e : Env} {s : State} {m : MethodId} {args : Array Value} {below : List Frame} {meth : Method} {c : Code} {t : TY} {a0 : Nat} {G : GS} {K : Int32 → Prop} (X : kX p s m args meth c b_Link_hasOpenFidAt 4 "TreeServer$Link" t) (hret : meth.sig.returnType = some .boolean) : ∀ (n : Nat) (p1 : Nat) (l2 : Int32), w_Link_hasOpenFidAt_2 t G a0 K n p1 l2 → kW p l e rm_Link_hasOpenFidAt s m args below meth c (MQ below (vp_Si (fun r => isB r ∧ K r)) args s 0 0 (fun _ => False)) 4 t true 2 [(0, va_rf (some a0)), (1, va_rf (some p1)), (2, .int l2)] [] G := by
  intro n
  induction n with
  | zero => intro p1 l2 hwp; exact hwp.elim
  | succ n hr_2 =>
    intro p1 l2 hwp
    unfold w_Link_hasOpenFidAt_2 at hwp
    dsimp only at hwp
    refine kw_iload_n (pc := 2) X d_Link_hasOpenFidAt_2 rfl 2 rfl ?_
    refine kw_bipush (v := 6) (pc := 3) X d_Link_hasOpenFidAt_3 (by decide) ?_
    refine kw_icmp_ge (tgt := 53) (pc := 5) X d_Link_hasOpenFidAt_5 (by decide) (fun h => ?_) (fun h => ?_)
    · have hwp := ite_t h hwp
      refine kw_iconst (v := 0) (pc := 53) X d_Link_hasOpenFidAt_53 (by decide) ?_
      exact krp_z (pc := 54) X hret d_Link_hasOpenFidAt_54 (Or.inl rfl) hwp
    · have hwp := ite_f h hwp
      refine kw_aload_n (pc := 8) X d_Link_hasOpenFidAt_8 rfl 0 rfl ?_
      obtain ⟨f1, hwp⟩ := hwp
      refine kg_62 (a := a0) (pc := 9) X d_Link_hasOpenFidAt_9 x_346 rfl f1 ?_
      refine kw_iload_n (pc := 12) X d_Link_hasOpenFidAt_12 rfl 2 rfl ?_
      obtain ⟨a2, h_a2, hwp⟩ := hwp
      obtain ⟨f3, hwp⟩ := hwp
      obtain ⟨f4, hwp⟩ := hwp
      refine ka_aald56 (a := a2) (pc := 13) X d_Link_hasOpenFidAt_13 h_a2 f3 f4 ?_
      refine kw_astore_n (i := 3) (lv' := [(3, va_rf (ar G a2 l2.toNatClampNeg)), (0, va_rf (some a0)), (1, va_rf (some p1)), (2, .int l2)]) (pc := 14) X d_Link_hasOpenFidAt_14 rfl (by decide) rfl ?_
      refine kw_aload_n (pc := 15) X d_Link_hasOpenFidAt_15 rfl 0 rfl ?_
      obtain ⟨a5, h_a5, hwp⟩ := hwp
      obtain ⟨f6, hwp⟩ := hwp
      refine kg_46 (a := a5) (pc := 16) X d_Link_hasOpenFidAt_16 x_293 h_a5 f6 ?_
      refine kw_if_eq (tgt := 47) (pc := 19) X d_Link_hasOpenFidAt_19 (by decide) (fun h => ?_) (fun h => ?_)
      · have hwp := ite_t h hwp
        obtain ⟨v7, e_v7⟩ : ∃ z, z = (l2 + (1 : Int32)) := ⟨_, rfl⟩
        have hwp := hwp v7 e_v7
        refine kw_iinc (v := v7) (lv' := [(2, .int v7), (3, va_rf (ar G a2 l2.toNatClampNeg)), (0, va_rf (some a0)), (1, va_rf (some p1))]) (pc := 47) X d_Link_hasOpenFidAt_47 3 rfl (by rw [e_v7]; rfl) (by decide) rfl ?_
        refine kw_goto (tgt := 2) (pc := 50) X d_Link_hasOpenFidAt_50 (by decide) ?_
        exact kW.sub [2, 3, 0] rfl (hr_2 _ _ hwp)
      · have hwp := ite_f h hwp
        refine kw_aload_n (pc := 22) X d_Link_hasOpenFidAt_22 rfl 0 rfl ?_
        refine kg_48 (a := a5) (pc := 23) X d_Link_hasOpenFidAt_23 x_299 h_a5 f6 ?_
        refine kw_aload_n (pc := 26) X d_Link_hasOpenFidAt_26 rfl 2 rfl ?_
        refine kw_acmp_ne (tgt := 47) (pc := 27) X d_Link_hasOpenFidAt_27 (by decide) (fun h => ?_) (fun h => ?_)
        · have hwp := ite_t h hwp
          obtain ⟨v8, e_v8⟩ : ∃ z, z = (l2 + (1 : Int32)) := ⟨_, rfl⟩
          have hwp := hwp v8 e_v8
          refine kw_iinc (v := v8) (lv' := [(2, .int v8), (3, va_rf (ar G a2 l2.toNatClampNeg)), (0, va_rf (some a0)), (1, va_rf (some p1))]) (pc := 47) X d_Link_hasOpenFidAt_47 3 rfl (by rw [e_v8]; rfl) (by decide) rfl ?_
          refine kw_goto (tgt := 2) (pc := 50) X d_Link_hasOpenFidAt_50 (by decide) ?_
          exact kW.sub [2, 3, 0] rfl (hr_2 _ _ hwp)
        · have hwp := ite_f (not_not_intro h) hwp
          refine kw_aload_n (pc := 30) X d_Link_hasOpenFidAt_30 rfl 0 rfl ?_
          refine kg_51 (a := a5) (pc := 31) X d_Link_hasOpenFidAt_31 x_305 h_a5 f6 ?_
          refine kw_iconst (v := -1) (pc := 34) X d_Link_hasOpenFidAt_34 (by decide) ?_
          refine kw_icmp_eq (tgt := 47) (pc := 35) X d_Link_hasOpenFidAt_35 (by decide) (fun h => ?_) (fun h => ?_)
          · have hwp := ite_t h hwp
            obtain ⟨v9, e_v9⟩ : ∃ z, z = (l2 + (1 : Int32)) := ⟨_, rfl⟩
            have hwp := hwp v9 e_v9
            refine kw_iinc (v := v9) (lv' := [(2, .int v9), (3, va_rf (ar G a2 l2.toNatClampNeg)), (0, va_rf (some a0)), (1, va_rf (some p1))]) (pc := 47) X d_Link_hasOpenFidAt_47 3 rfl (by rw [e_v9]; rfl) (by decide) rfl ?_
            refine kw_goto (tgt := 2) (pc := 50) X d_Link_hasOpenFidAt_50 (by decide) ?_
            exact kW.sub [2, 3, 0] rfl (hr_2 _ _ hwp)
          · have hwp := ite_f h hwp
            refine kw_aload_n (pc := 38) X d_Link_hasOpenFidAt_38 rfl 0 rfl ?_
            refine kW.st (st' := [.ref a5]) (by simp only [h_a5]; rfl) ?_
            refine kcVp_i (n := 0) (As := []) (rest := []) (pc := 39) X (c_Fid_isGone l t G a5 _) (cwV_of (C := "TreeServer$Fid") X x_435 x_759 x_433 x_434 x_12 (by decide +kernel) ⟨rfl, rfl⟩ (by decide)) (rv_7 X f6) rfl rfl (by decide) d_Link_hasOpenFidAt_39 hwp (fun v10 hwp => ?_)
            obtain ⟨b_v10, hwp⟩ := hwp
            refine kw_if_ne (tgt := 47) (pc := 42) X d_Link_hasOpenFidAt_42 (by decide) (fun h => ?_) (fun h => ?_)
            · have hwp := ite_t h hwp
              obtain ⟨v11, e_v11⟩ : ∃ z, z = (l2 + (1 : Int32)) := ⟨_, rfl⟩
              have hwp := hwp v11 e_v11
              refine kw_iinc (v := v11) (lv' := [(2, .int v11), (3, va_rf (ar G a2 l2.toNatClampNeg)), (0, va_rf (some a0)), (1, va_rf (some p1))]) (pc := 47) X d_Link_hasOpenFidAt_47 3 rfl (by rw [e_v11]; rfl) (by decide) rfl ?_
              refine kw_goto (tgt := 2) (pc := 50) X d_Link_hasOpenFidAt_50 (by decide) ?_
              exact kW.sub [2, 3, 0] rfl (hr_2 _ _ hwp)
            · have hwp := ite_f (not_not_intro h) hwp
              refine kw_iconst (v := 1) (pc := 45) X d_Link_hasOpenFidAt_45 (by decide) ?_
              exact krp_z (pc := 46) X hret d_Link_hasOpenFidAt_46 (Or.inr rfl) hwp
set_option maxRecDepth 100000 in
set_option maxHeartbeats 4000000 in
theorem k_Link_hasOpenFidAt {p : Program} {l : Launch} {e : Env} {s : State} {m : MethodId} {args : Array Value} {below : List Frame} {meth : Method} {c : Code} {t : TY} {a0 : Nat} {G : GS} {K : Int32 → Prop} (X : kX p s m args meth c b_Link_hasOpenFidAt 4 "TreeServer$Link" t) (hret : meth.sig.returnType = some .boolean) (p1 : Nat) (hwp : w_Link_hasOpenFidAt t G a0 p1 K) : kW p l e rm_Link_hasOpenFidAt s m args below meth c (MQ below (vp_Si (fun r => isB r ∧ K r)) args s 0 0 (fun _ => False)) 4 t true 0 [(0, va_rf (some a0)), (1, va_rf (some p1))] [] G := by
  unfold w_Link_hasOpenFidAt at hwp
  refine kw_iconst (v := 0) (pc := 0) X d_Link_hasOpenFidAt_0 (by decide) ?_
  refine kw_istore_n (i := 2) (lv' := [(2, .int (0 : Int32)), (0, va_rf (some a0)), (1, va_rf (some p1))]) (pc := 1) X d_Link_hasOpenFidAt_1 rfl (by decide) rfl ?_
  obtain ⟨n, hwp⟩ := hwp
  exact kW.sub [1, 2, 0] rfl (k_Link_hasOpenFidAt_2 X hret  n _ _ hwp)
set_option maxRecDepth 100000 in
set_option maxHeartbeats 4000000 in
theorem c_Link_hasOpenFidAt (l : Launch) (t : TY) (G : GS) (a0 : Nat) (p1 : Nat) (K : Int32 → Prop) : Met l y_Link_hasOpenFidAt (Cond.code y_Link_hasOpenFidAt b_Link_hasOpenFidAt 4 (Option.some Jvm.ClassFile.FieldType.boolean) :: GW) rm_Link_hasOpenFidAt (va_Pc [.ref a0, .ref p1] (fun U => HB t G U.heap ∧ HK t U ∧ w_Link_hasOpenFidAt t G a0 p1 K)) (vp_Si (fun r => isB r ∧ K r)) 0 0 (fun _ => False) := by
  refine Met.ofW (cc := b_Link_hasOpenFidAt) (maxL := 4) (ret := some .boolean) (by decide) rfl ?_
  intro p e s m args below meth c s₁ B hml hv
  obtain ⟨rfl, hB, hK, hwp⟩ := hv
  have hts := atoms_spec (ws := Cond.code y_Link_hasOpenFidAt b_Link_hasOpenFidAt 4 (Option.some Jvm.ClassFile.FieldType.boolean) :: GW) B.pre
  have X : kX p s m _ meth c b_Link_hasOpenFidAt 4 "TreeServer$Link" t := ⟨B.exec, B.bytes, hml, findClass_of_methodNamed B.named, fun w h => hts w (List.mem_cons_of_mem _ h), B.notSynchronized, hK⟩
  have hZ : kZ t true s G s.heap [] := ⟨hB, va_S.rf, fun _ => ⟨rfl, rfl⟩⟩
  rw [lg_entry_eq]
  have hl := lv_entry ([.ref a0, .ref p1]) (n := 4) (by simp [lg_sl, rf_cat, cat_i, cat_l, cat_r])
  exact k_Link_hasOpenFidAt X B.returns _ hwp s.heap [] _ hl hZ
