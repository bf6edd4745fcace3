abbrev b_M_mayIn : ByteArray := prog_13_method_11_code
def y_M_mayIn : MethodName := ⟨"TreeServerModel", "mayIn", "(II)Z"⟩
theorem d_M_mayIn_0 : decode b_M_mayIn 0 = .ok (.iload_n 1, 1) := by decide +kernel
theorem d_M_mayIn_1 : decode b_M_mayIn 1 = .ok (.ifCond .eq 27, 3) := by decide +kernel
theorem d_M_mayIn_4 : decode b_M_mayIn 4 = .ok (.aload_n 0, 1) := by decide +kernel
theorem d_M_mayIn_5 : decode b_M_mayIn 5 = .ok (.aload_n 0, 1) := by decide +kernel
theorem d_M_mayIn_6 : decode b_M_mayIn 6 = .ok (.aload_n 0, 1) := by decide +kernel
theorem d_M_mayIn_7 : decode b_M_mayIn 7 = .ok (.iload_n 1, 1) := by decide +kernel
theorem d_M_mayIn_8 : decode b_M_mayIn 8 = .ok (.bipush 8, 2) := by decide +kernel
theorem d_M_mayIn_10 : decode b_M_mayIn 10 = .ok (.invokevirtual 81, 3) := by decide +kernel
theorem d_M_mayIn_13 : decode b_M_mayIn 13 = .ok (.invokevirtual 89, 3) := by decide +kernel
theorem d_M_mayIn_16 : decode b_M_mayIn 16 = .ok (.iload_n 2, 1) := by decide +kernel
theorem d_M_mayIn_17 : decode b_M_mayIn 17 = .ok (.iconst 2, 1) := by decide +kernel
theorem d_M_mayIn_18 : decode b_M_mayIn 18 = .ok (.invokevirtual 93, 3) := by decide +kernel
theorem d_M_mayIn_21 : decode b_M_mayIn 21 = .ok (.ifCond .eq 7, 3) := by decide +kernel
theorem d_M_mayIn_24 : decode b_M_mayIn 24 = .ok (.iconst 1, 1) := by decide +kernel
theorem d_M_mayIn_25 : decode b_M_mayIn 25 = .ok (.goto 4, 3) := by decide +kernel
theorem d_M_mayIn_28 : decode b_M_mayIn 28 = .ok (.iconst 0, 1) := by decide +kernel
theorem d_M_mayIn_29 : decode b_M_mayIn 29 = .ok (.ireturn, 1) := by decide +kernel
abbrev rm_M_mayIn : Room := { frames := 2, cells := 0, slots := 0, locals := 47 }
set_option maxRecDepth 100000 in
set_option maxHeartbeats 4000000 in
theorem k_M_mayIn {p : Program} {l : Launch} {e : Env} {s : State} {m : MethodId} {args : Array Value} {below : List Frame} {meth : Method} {c : Code} {t : TY} {a0 : Nat} {G : GS} {K : Int32 → Prop} (X : kX p s m args meth c b_M_mayIn 3 "TreeServerModel" t) (hret : meth.sig.returnType = some .boolean) (p1 : Int32) (p2 : Int32) (hwp : w_M_mayIn t G a0 p1 p2 K) : kW p l e rm_M_mayIn s m args below meth c (MQ below (vp_Si (fun r => isB r ∧ K r)) args s 0 0 (fun _ => False)) 3 t true 0 [(0, va_rf (some a0)), (1, .int p1), (2, .int p2)] [] G := by
  unfold w_M_mayIn at hwp
  refine kw_iload_n (pc := 0) X d_M_mayIn_0 rfl 1 rfl ?_
  refine kw_if_eq (tgt := 28) (pc := 1) X d_M_mayIn_1 (by decide) (fun h => ?_) (fun h => ?_)
  · have hwp := ite_t h hwp
    refine kw_iconst (v := 0) (pc := 28) X d_M_mayIn_28 (by decide) ?_
    exact krp_z (pc := 29) X hret d_M_mayIn_29 (Or.inl rfl) hwp
  · have hwp := ite_f h hwp
    refine kw_aload_n (pc := 4) X d_M_mayIn_4 rfl 0 rfl ?_
    refine kw_aload_n (pc := 5) X d_M_mayIn_5 rfl 0 rfl ?_
    refine kw_aload_n (pc := 6) X d_M_mayIn_6 rfl 0 rfl ?_
    refine kw_iload_n (pc := 7) X d_M_mayIn_7 rfl 1 rfl ?_
    refine kw_bipush (v := 8) (pc := 8) X d_M_mayIn_8 (by decide) ?_
    obtain ⟨f1, hwp⟩ := hwp
    refine kcVp_i (n := 2) (As := [.int p1, .int (8 : Int32)]) (rest := [va_rf (some a0), va_rf (some a0)]) (pc := 10) X (c_M_at l t G a0 p1 (8 : Int32) _) (cwV_of (C := "TreeServerModel") X x_1111 x_1108 x_1110 xp_41 x_13 (by decide +kernel) ⟨rfl, rfl⟩ (by decide)) (rv_10 X f1) rfl rfl (by simp [rf_cat, cat_i, cat_l, cat_r]) d_M_mayIn_10 hwp (fun v2 hwp => ?_)
    refine kcVp_i (n := 1) (As := [.int v2]) (rest := [va_rf (some a0)]) (pc := 13) X (c_M_find l t G a0 v2 _) (cwV_of (C := "TreeServerModel") X x_1107 x_1104 x_1106 xp_40 x_13 (by decide +kernel) ⟨rfl, rfl⟩ (by decide)) (rv_10 X f1) rfl rfl (by simp [rf_cat, cat_i, cat_l, cat_r]) d_M_mayIn_13 hwp (fun v3 hwp => ?_)
    refine kw_iload_n (pc := 16) X d_M_mayIn_16 rfl 2 rfl ?_
    refine kw_iconst (v := 2) (pc := 17) X d_M_mayIn_17 (by decide) ?_
    refine kcVp_i (n := 3) (As := [.int v3, .int p2, .int (2 : Int32)]) (rest := []) (pc := 18) X (c_M_may l t G a0 v3 p2 (2 : Int32) _) (cwV_of (C := "TreeServerModel") X x_1127 x_1124 x_1126 xp_45 x_13 (by decide +kernel) ⟨rfl, rfl⟩ (by decide)) (rv_10 X f1) rfl rfl (by decide) d_M_mayIn_18 hwp (fun v4 hwp => ?_)
    obtain ⟨b_v4, hwp⟩ := hwp
    refine kw_if_eq (tgt := 28) (pc := 21) X d_M_mayIn_21 (by decide) (fun h => ?_) (fun h => ?_)
    · have hwp := ite_t h hwp
      refine kw_iconst (v := 0) (pc := 28) X d_M_mayIn_28 (by decide) ?_
      exact krp_z (pc := 29) X hret d_M_mayIn_29 (Or.inl rfl) hwp
    · have hwp := ite_f h hwp
      refine kw_iconst (v := 1) (pc := 24) X d_M_mayIn_24 (by decide) ?_
      refine kw_goto (tgt := 29) (pc := 25) X d_M_mayIn_25 (by decide) ?_
      exact krp_z (pc := 29) X hret d_M_mayIn_29 (Or.inr rfl) hwp
set_option maxRecDepth 100000 in
set_option maxHeartbeats 4000000 in
theorem c_M_mayIn (l : Launch) (t : TY) (G : GS) (a0 : Nat) (p1 : Int32) (p2 : Int32) (K : Int32 → Prop) : Met l y_M_mayIn (Cond.code y_M_mayIn b_M_mayIn 3 (Option.some Jvm.ClassFile.FieldType.boolean) :: GW) rm_M_mayIn (va_Pc [.ref a0, .int p1, .int p2] (fun U => HB t G U.heap ∧ HK t U ∧ w_M_mayIn t G a0 p1 p2 K)) (vp_Si (fun r => isB r ∧ K r)) 0 0 (fun _ => False) := by
  refine Met.ofW (cc := b_M_mayIn) (maxL := 3) (ret := some .boolean) (by decide) rfl ?_
  intro p e s m args below meth c s₁ B hml hv
  obtain ⟨rfl, hB, hK, hwp⟩ := hv
  have hts := atoms_spec (ws := Cond.code y_M_mayIn b_M_mayIn 3 (Option.some Jvm.ClassFile.FieldType.boolean) :: GW) B.pre
  have X : kX p s m _ meth c b_M_mayIn 3 "TreeServerModel" t := ⟨B.exec, B.bytes, hml, findClass_of_methodNamed B.named, fun w h => hts w (List.mem_cons_of_mem _ h), B.notSynchronized, hK⟩
  have hZ : kZ t true s G s.heap [] := ⟨hB, va_S.rf, fun _ => ⟨rfl, rfl⟩⟩
  rw [lg_entry_eq]
  have hl := lv_entry ([.ref a0, .int p1, .int p2]) (n := 3) (by simp [lg_sl, rf_cat, cat_i, cat_l, cat_r])
  exact k_M_mayIn X B.returns _ _ hwp s.heap [] _ hl hZ
abbrev b_M_blocks : ByteArray := prog_13_method_12_code
def y_M_blocks : MethodName := ⟨"TreeServerModel", "blocks", "()I"⟩
theorem d_M_blocks_0 : decode b_M_blocks 0 = .ok (.iconst 0, 1) := by decide +kernel
theorem d_M_blocks_1 : decode b_M_blocks 1 = .ok (.istore_n 1, 1) := by decide +kernel
theorem d_M_blocks_2 : decode b_M_blocks 2 = .ok (.iconst 0, 1) := by decide +kernel
theorem d_M_blocks_3 : decode b_M_blocks 3 = .ok (.istore_n 2, 1) := by decide +kernel
theorem d_M_blocks_4 : decode b_M_blocks 4 = .ok (.iload_n 2, 1) := by decide +kernel
theorem d_M_blocks_5 : decode b_M_blocks 5 = .ok (.bipush 21, 2) := by decide +kernel
theorem d_M_blocks_7 : decode b_M_blocks 7 = .ok (.if_icmp .ge 55, 3) := by decide +kernel
theorem d_M_blocks_10 : decode b_M_blocks 10 = .ok (.aload_n 0, 1) := by decide +kernel
theorem d_M_blocks_11 : decode b_M_blocks 11 = .ok (.iload_n 2, 1) := by decide +kernel
theorem d_M_blocks_12 : decode b_M_blocks 12 = .ok (.iconst 0, 1) := by decide +kernel
theorem d_M_blocks_13 : decode b_M_blocks 13 = .ok (.invokevirtual 81, 3) := by decide +kernel
theorem d_M_blocks_16 : decode b_M_blocks 16 = .ok (.iconst 1, 1) := by decide +kernel
theorem d_M_blocks_17 : decode b_M_blocks 17 = .ok (.if_icmp .ne 39, 3) := by decide +kernel
theorem d_M_blocks_20 : decode b_M_blocks 20 = .ok (.iload_n 1, 1) := by decide +kernel
theorem d_M_blocks_21 : decode b_M_blocks 21 = .ok (.aload_n 0, 1) := by decide +kernel
theorem d_M_blocks_22 : decode b_M_blocks 22 = .ok (.iload_n 2, 1) := by decide +kernel
theorem d_M_blocks_23 : decode b_M_blocks 23 = .ok (.invokevirtual 97, 3) := by decide +kernel
theorem d_M_blocks_26 : decode b_M_blocks 26 = .ok (.ifCond .eq 15, 3) := by decide +kernel
theorem d_M_blocks_29 : decode b_M_blocks 29 = .ok (.aload_n 0, 1) := by decide +kernel
theorem d_M_blocks_30 : decode b_M_blocks 30 = .ok (.iload_n 2, 1) := by decide +kernel
theorem d_M_blocks_31 : decode b_M_blocks 31 = .ok (.invokevirtual 101, 3) := by decide +kernel
theorem d_M_blocks_34 : decode b_M_blocks 34 = .ok (.iconst 3, 1) := by decide +kernel
theorem d_M_blocks_35 : decode b_M_blocks 35 = .ok (.iadd, 1) := by decide +kernel
theorem d_M_blocks_36 : decode b_M_blocks 36 = .ok (.iconst 4, 1) := by decide +kernel
theorem d_M_blocks_37 : decode b_M_blocks 37 = .ok (.idiv, 1) := by decide +kernel
theorem d_M_blocks_38 : decode b_M_blocks 38 = .ok (.goto 16, 3) := by decide +kernel
theorem d_M_blocks_41 : decode b_M_blocks 41 = .ok (.aload_n 0, 1) := by decide +kernel
theorem d_M_blocks_42 : decode b_M_blocks 42 = .ok (.iload_n 2, 1) := by decide +kernel
theorem d_M_blocks_43 : decode b_M_blocks 43 = .ok (.bipush 18, 2) := by decide +kernel
theorem d_M_blocks_45 : decode b_M_blocks 45 = .ok (.invokevirtual 81, 3) := by decide +kernel
theorem d_M_blocks_48 : decode b_M_blocks 48 = .ok (.bipush 15, 2) := by decide +kernel
theorem d_M_blocks_50 : decode b_M_blocks 50 = .ok (.iadd, 1) := by decide +kernel
theorem d_M_blocks_51 : decode b_M_blocks 51 = .ok (.bipush 16, 2) := by decide +kernel
theorem d_M_blocks_53 : decode b_M_blocks 53 = .ok (.idiv, 1) := by decide +kernel
theorem d_M_blocks_54 : decode b_M_blocks 54 = .ok (.iadd, 1) := by decide +kernel
theorem d_M_blocks_55 : decode b_M_blocks 55 = .ok (.istore_n 1, 1) := by decide +kernel
theorem d_M_blocks_56 : decode b_M_blocks 56 = .ok (.iinc 2 1, 3) := by decide +kernel
theorem d_M_blocks_59 : decode b_M_blocks 59 = .ok (.goto (-55), 3) := by decide +kernel
theorem d_M_blocks_62 : decode b_M_blocks 62 = .ok (.iload_n 1, 1) := by decide +kernel
theorem d_M_blocks_63 : decode b_M_blocks 63 = .ok (.ireturn, 1) := by decide +kernel
abbrev rm_M_blocks : Room := { frames := 2, cells := 0, slots := 0, locals := 45 }
set_option maxRecDepth 100000 in
set_option maxHeartbeats 4000000 in
theorem k_M_blocks_4 {p : Program} {l : Launch} {e : Env} {s : State} {m : MethodId} {args : Array Value} {below : List Frame} {meth : Method} {c : Code} {t : TY} {a0 : Nat} {G : GS} {K : Int32 → Prop} (X : kX p s m args meth c b_M_blocks 3 "TreeServerModel" t) (hret : meth.sig.returnType = some .int) : ∀ (n : Nat) (l1 : Int32) (l2 : Int32), w_M_blocks_4 t G a0 K n l1 l2 → kW p l e rm_M_blocks s m args below meth c (MQ below (vp_Si K) args s 0 0 (fun _ => False)) 3 t true 4 [(0, va_rf (some a0)), (1, .int l1), (2, .int l2)] [] G := by
  intro n
  induction n with
  | zero => intro l1 l2 hwp; exact hwp.elim
  | succ n hr_4 =>
    intro l1 l2 hwp
    unfold w_M_blocks_4 at hwp
    dsimp only at hwp
    refine kw_iload_n (pc := 4) X d_M_blocks_4 rfl 2 rfl ?_
    refine kw_bipush (v := 21) (pc := 5) X d_M_blocks_5 (by decide) ?_
    refine kw_icmp_ge (tgt := 62) (pc := 7) X d_M_blocks_7 (by decide) (fun h => ?_) (fun h => ?_)
    · have hwp := ite_t h hwp
      refine kw_iload_n (pc := 62) X d_M_blocks_62 rfl 1 rfl ?_
      exact krp_i (pc := 63) X hret d_M_blocks_63 hwp
    · have hwp := ite_f h hwp
      refine kw_aload_n (pc := 10) X d_M_blocks_10 rfl 0 rfl ?_
      refine kw_iload_n (pc := 11) X d_M_blocks_11 rfl 2 rfl ?_
      refine kw_iconst (v := 0) (pc := 12) X d_M_blocks_12 (by decide) ?_
      obtain ⟨f1, hwp⟩ := hwp
      refine kcVp_i (n := 2) (As := [.int l2, .int (0 : Int32)]) (rest := []) (pc := 13) X (c_M_at l t G a0 l2 (0 : Int32) _) (cwV_of (C := "TreeServerModel") X x_1111 x_1108 x_1110 xp_41 x_13 (by decide +kernel) ⟨rfl, rfl⟩ (by decide)) (rv_10 X f1) rfl rfl (by decide) d_M_blocks_13 hwp (fun v2 hwp => ?_)
      refine kw_iconst (v := 1) (pc := 16) X d_M_blocks_16 (by decide) ?_
      refine kw_icmp_ne (tgt := 56) (pc := 17) X d_M_blocks_17 (by decide) (fun h => ?_) (fun h => ?_)
      · have hwp := ite_t h hwp
        obtain ⟨v3, e_v3⟩ : ∃ z, z = (l2 + (1 : Int32)) := ⟨_, rfl⟩
        have hwp := hwp v3 e_v3
        refine kw_iinc (v := v3) (lv' := [(2, .int v3), (0, va_rf (some a0)), (1, .int l1)]) (pc := 56) X d_M_blocks_56 2 rfl (by rw [e_v3]; rfl) (by decide) rfl ?_
        refine kw_goto (tgt := 4) (pc := 59) X d_M_blocks_59 (by decide) ?_
        exact kW.sub [1, 2, 0] rfl (hr_4 _ _ hwp)
      · have hwp := ite_f (not_not_intro h) hwp
        refine kw_iload_n (pc := 20) X d_M_blocks_20 rfl 1 rfl ?_
        refine kw_aload_n (pc := 21) X d_M_blocks_21 rfl 0 rfl ?_
        refine kw_iload_n (pc := 22) X d_M_blocks_22 rfl 2 rfl ?_
        refine kcVp_i (n := 1) (As := [.int l2]) (rest := [.int l1]) (pc := 23) X (c_M_isDirectory l t G a0 l2 _) (cwV_of (C := "TreeServerModel") X x_1115 x_1112 x_1114 xp_42 x_13 (by decide +kernel) ⟨rfl, rfl⟩ (by decide)) (rv_10 X f1) rfl rfl (by simp [rf_cat, cat_i, cat_l, cat_r]) d_M_blocks_23 hwp (fun v4 hwp => ?_)
        obtain ⟨b_v4, hwp⟩ := hwp
        refine kw_if_eq (tgt := 41) (pc := 26) X d_M_blocks_26 (by decide) (fun h => ?_) (fun h => ?_)
        · have hwp := ite_t h hwp
          refine kw_aload_n (pc := 41) X d_M_blocks_41 rfl 0 rfl ?_
          refine kw_iload_n (pc := 42) X d_M_blocks_42 rfl 2 rfl ?_
          refine kw_bipush (v := 18) (pc := 43) X d_M_blocks_43 (by decide) ?_
          refine kcVp_i (n := 2) (As := [.int l2, .int (18 : Int32)]) (rest := [.int l1]) (pc := 45) X (c_M_at l t G a0 l2 (18 : Int32) _) (cwV_of (C := "TreeServerModel") X x_1111 x_1108 x_1110 xp_41 x_13 (by decide +kernel) ⟨rfl, rfl⟩ (by decide)) (rv_10 X f1) rfl rfl (by simp [rf_cat, cat_i, cat_l, cat_r]) d_M_blocks_45 hwp (fun v5 hwp => ?_)
          refine kw_bipush (v := 15) (pc := 48) X d_M_blocks_48 (by decide) ?_
          refine kw_iadd (pc := 50) X d_M_blocks_50 ?_
          refine kw_bipush (v := 16) (pc := 51) X d_M_blocks_51 (by decide) ?_
          refine kw_idiv (pc := 53) X d_M_blocks_53 (by decide) ?_
          refine kw_iadd (pc := 54) X d_M_blocks_54 ?_
          obtain ⟨v6, e_v6⟩ : ∃ z, z = (l1 + ((v5 + (15 : Int32)) / (16 : Int32))) := ⟨_, rfl⟩
          have hwp := hwp v6 e_v6
          refine kW.st (st' := .int v6 :: _) (by rw [e_v6]) ?_
          refine kw_istore_n (i := 1) (lv' := [(1, .int v6), (0, va_rf (some a0)), (2, .int l2)]) (pc := 55) X d_M_blocks_55 rfl (by decide) rfl ?_
          obtain ⟨v7, e_v7⟩ : ∃ z, z = (l2 + (1 : Int32)) := ⟨_, rfl⟩
          have hwp := hwp v7 e_v7
          refine kw_iinc (v := v7) (lv' := [(2, .int v7), (1, .int v6), (0, va_rf (some a0))]) (pc := 56) X d_M_blocks_56 2 rfl (by rw [e_v7]; rfl) (by decide) rfl ?_
          refine kw_goto (tgt := 4) (pc := 59) X d_M_blocks_59 (by decide) ?_
          exact kW.sub [2, 1, 0] rfl (hr_4 _ _ hwp)
        · have hwp := ite_f h hwp
          refine kw_aload_n (pc := 29) X d_M_blocks_29 rfl 0 rfl ?_
          refine kw_iload_n (pc := 30) X d_M_blocks_30 rfl 2 rfl ?_
          refine kcVp_i (n := 1) (As := [.int l2]) (rest := [.int l1]) (pc := 31) X (c_M_entries l t G a0 l2 _) (cwV_of (C := "TreeServerModel") X x_1119 x_1116 x_1118 xp_43 x_13 (by decide +kernel) ⟨rfl, rfl⟩ (by decide)) (rv_10 X f1) rfl rfl (by simp [rf_cat, cat_i, cat_l, cat_r]) d_M_blocks_31 hwp (fun v8 hwp => ?_)
          refine kw_iconst (v := 3) (pc := 34) X d_M_blocks_34 (by decide) ?_
          refine kw_iadd (pc := 35) X d_M_blocks_35 ?_
          refine kw_iconst (v := 4) (pc := 36) X d_M_blocks_36 (by decide) ?_
          refine kw_idiv (pc := 37) X d_M_blocks_37 (by decide) ?_
          refine kw_goto (tgt := 54) (pc := 38) X d_M_blocks_38 (by decide) ?_
          refine kw_iadd (pc := 54) X d_M_blocks_54 ?_
          obtain ⟨v9, e_v9⟩ : ∃ z, z = (l1 + ((v8 + (3 : Int32)) / (4 : Int32))) := ⟨_, rfl⟩
          have hwp := hwp v9 e_v9
          refine kW.st (st' := .int v9 :: _) (by rw [e_v9]) ?_
          refine kw_istore_n (i := 1) (lv' := [(1, .int v9), (0, va_rf (some a0)), (2, .int l2)]) (pc := 55) X d_M_blocks_55 rfl (by decide) rfl ?_
          obtain ⟨v10, e_v10⟩ : ∃ z, z = (l2 + (1 : Int32)) := ⟨_, rfl⟩
          have hwp := hwp v10 e_v10
          refine kw_iinc (v := v10) (lv' := [(2, .int v10), (1, .int v9), (0, va_rf (some a0))]) (pc := 56) X d_M_blocks_56 2 rfl (by rw [e_v10]; rfl) (by decide) rfl ?_
          refine kw_goto (tgt := 4) (pc := 59) X d_M_blocks_59 (by decide) ?_
          exact kW.sub [2, 1, 0] rfl (hr_4 _ _ hwp)
set_option maxRecDepth 100000 in
set_option maxHeartbeats 4000000 in
theorem k_M_blocks {p : Program} {l : Launch} {e : Env} {s : State} {m : MethodId} {args : Array Value} {below : List Frame} {meth : Method} {c : Code} {t : TY} {a0 : Nat} {G : GS} {K : Int32 → Prop} (X : kX p s m args meth c b_M_blocks 3 "TreeServerModel" t) (hret : meth.sig.returnType = some .int)  (hwp : w_M_blocks t G a0 K) : kW p l e rm_M_blocks s m args below meth c (MQ below (vp_Si K) args s 0 0 (fun _ => False)) 3 t true 0 [(0, va_rf (some a0))] [] G := by
  unfold w_M_blocks at hwp
  refine kw_iconst (v := 0) (pc := 0) X d_M_blocks_0 (by decide) ?_
  refine kw_istore_n (i := 1) (lv' := [(1, .int (0 : Int32)), (0, va_rf (some a0))]) (pc := 1) X d_M_blocks_1 rfl (by decide) rfl ?_
  refine kw_iconst (v := 0) (pc := 2) X d_M_blocks_2 (by decide) ?_
  refine kw_istore_n (i := 2) (lv' := [(2, .int (0 : Int32)), (1, .int (0 : Int32)), (0, va_rf (some a0))]) (pc := 3) X d_M_blocks_3 rfl (by decide) rfl ?_
  obtain ⟨n, hwp⟩ := hwp
  exact kW.sub [2, 1, 0] rfl (k_M_blocks_4 X hret  n _ _ hwp)
set_option maxRecDepth 100000 in
set_option maxHeartbeats 4000000 in
theorem c_M_blocks (l : Launch) (t : TY) (G : GS) (a0 : Nat) (K : Int32 → Prop) : Met l y_M_blocks (Cond.code y_M_blocks b_M_blocks 3 (Option.some Jvm.ClassFile.FieldType.int) :: GW) rm_M_blocks (va_Pc [.ref a0] (fun U => HB t G U.heap ∧ HK t U ∧ w_M_blocks t G a0 K)) (vp_Si K) 0 0 (fun _ => False) := by
  refine Met.ofW (cc := b_M_blocks) (maxL := 3) (ret := some .int) (by decide) rfl ?_
  intro p e s m args below meth c s₁ B hml hv
  obtain ⟨rfl, hB, hK, hwp⟩ := hv
  have hts := atoms_spec (ws := Cond.code y_M_blocks b_M_blocks 3 (Option.some Jvm.ClassFile.FieldType.int) :: GW) B.pre
  have X : kX p s m _ meth c b_M_blocks 3 "TreeServerModel" t := ⟨B.exec, B.bytes, hml, findClass_of_methodNamed B.named, fun w h => hts w (List.mem_cons_of_mem _ h), B.notSynchronized, hK⟩
  have hZ : kZ t true s G s.heap [] := ⟨hB, va_S.rf, fun _ => ⟨rfl, rfl⟩⟩
  rw [lg_entry_eq]
  have hl := lv_entry ([.ref a0]) (n := 3) (by simp [lg_sl, rf_cat, cat_i, cat_l, cat_r])
  exact k_M_blocks X B.returns hwp s.heap [] _ hl hZ
abbrev b_M_changes : ByteArray := prog_13_method_13_code
def y_M_changes : MethodName := ⟨"TreeServerModel", "changes", "(II)V"⟩
theorem d_M_changes_0 : decode b_M_changes 0 = .ok (.aload_n 0, 1) := by decide +kernel
theorem d_M_changes_1 : decode b_M_changes 1 = .ok (.iload_n 1, 1) := by decide +kernel
theorem d_M_changes_2 : decode b_M_changes 2 = .ok (.iconst 2, 1) := by decide +kernel
theorem d_M_changes_3 : decode b_M_changes 3 = .ok (.aload_n 0, 1) := by decide +kernel
theorem d_M_changes_4 : decode b_M_changes 4 = .ok (.iload_n 1, 1) := by decide +kernel
theorem d_M_changes_5 : decode b_M_changes 5 = .ok (.iconst 2, 1) := by decide +kernel
theorem d_M_changes_6 : decode b_M_changes 6 = .ok (.invokevirtual 81, 3) := by decide +kernel
theorem d_M_changes_9 : decode b_M_changes 9 = .ok (.iconst 1, 1) := by decide +kernel
theorem d_M_changes_10 : decode b_M_changes 10 = .ok (.iadd, 1) := by decide +kernel
theorem d_M_changes_11 : decode b_M_changes 11 = .ok (.invokevirtual 104, 3) := by decide +kernel
theorem d_M_changes_14 : decode b_M_changes 14 = .ok (.aload_n 0, 1) := by decide +kernel
theorem d_M_changes_15 : decode b_M_changes 15 = .ok (.iload_n 1, 1) := by decide +kernel
theorem d_M_changes_16 : decode b_M_changes 16 = .ok (.iconst 4, 1) := by decide +kernel
theorem d_M_changes_17 : decode b_M_changes 17 = .ok (.aload_n 0, 1) := by decide +kernel
theorem d_M_changes_18 : decode b_M_changes 18 = .ok (.getfield 108, 3) := by decide +kernel
theorem d_M_changes_21 : decode b_M_changes 21 = .ok (.invokevirtual 104, 3) := by decide +kernel
theorem d_M_changes_24 : decode b_M_changes 24 = .ok (.aload_n 0, 1) := by decide +kernel
theorem d_M_changes_25 : decode b_M_changes 25 = .ok (.iload_n 1, 1) := by decide +kernel
theorem d_M_changes_26 : decode b_M_changes 26 = .ok (.bipush 7, 2) := by decide +kernel
theorem d_M_changes_28 : decode b_M_changes 28 = .ok (.iload_n 2, 1) := by decide +kernel
theorem d_M_changes_29 : decode b_M_changes 29 = .ok (.invokevirtual 104, 3) := by decide +kernel
theorem d_M_changes_32 : decode b_M_changes 32 = .ok (.return_, 1) := by decide +kernel
abbrev rm_M_changes : Room := { frames := 1, cells := 0, slots := 0, locals := 23 }
set_option maxRecDepth 100000 in
set_option maxHeartbeats 4000000 in
theorem k_M_changes {p : Program} {l : Launch} {e : Env} {s : State} {m : MethodId} {args : Array Value} {below : List Frame} {meth : Method} {c : Code} {t : TY} {a0 : Nat} {K : GS → Prop} (X : kX p s m args meth c b_M_changes 3 "TreeServerModel" t) (hret : meth.sig.returnType = none) (G : GS) (p1 : Int32) (p2 : Int32) (hwp : w_M_changes t G a0 p1 p2 K) : kW p l e rm_M_changes s m args below meth c (MQ below (va_Qv (fun u : GS => K u) (fun u T => HB t u T.heap) (tA t)) args s 0 0 (tA t)) 3 t false 0 [(0, va_rf (some a0)), (1, .int p1), (2, .int p2)] [] G := by
  unfold w_M_changes at hwp
  refine kw_aload_n (pc := 0) X d_M_changes_0 rfl 0 rfl ?_
  refine kw_iload_n (pc := 1) X d_M_changes_1 rfl 1 rfl ?_
  refine kw_iconst (v := 2) (pc := 2) X d_M_changes_2 (by decide) ?_
  refine kw_aload_n (pc := 3) X d_M_changes_3 rfl 0 rfl ?_
  refine kw_iload_n (pc := 4) X d_M_changes_4 rfl 1 rfl ?_
  refine kw_iconst (v := 2) (pc := 5) X d_M_changes_5 (by decide) ?_
  obtain ⟨f1, hwp⟩ := hwp
  refine kcVp_i (n := 2) (As := [.int p1, .int (2 : Int32)]) (rest := [.int (2 : Int32), .int p1, va_rf (some a0)]) (pc := 6) X (c_M_at l t G a0 p1 (2 : Int32) _) (cwV_of (C := "TreeServerModel") X x_1111 x_1108 x_1110 xp_41 x_13 (by decide +kernel) ⟨rfl, rfl⟩ (by decide)) (rv_10 X f1) rfl rfl (by simp [rf_cat, cat_i, cat_l, cat_r]) d_M_changes_6 hwp (fun v2 hwp => ?_)
  refine kw_iconst (v := 1) (pc := 9) X d_M_changes_9 (by decide) ?_
  refine kw_iadd (pc := 10) X d_M_changes_10 ?_
  refine kcV_v (n := 3) (As := [.int p1, .int (2 : Int32), .int (v2 + (1 : Int32))]) (rest := []) (pc := 11) X rfl (c_M_set l t G a0 p1 (2 : Int32) (v2 + (1 : Int32)) _) (cwV_of (C := "TreeServerModel") X x_1139 x_1136 x_1138 xp_48 x_13 (by decide +kernel) ⟨rfl, rfl⟩ (by decide)) (rv_10 X f1) rfl rfl (by decide) d_M_changes_11 hwp (fun G3 hwp => ?_)
  refine kw_aload_n (pc := 14) X d_M_changes_14 rfl 0 rfl ?_
  refine kw_iload_n (pc := 15) X d_M_changes_15 rfl 1 rfl ?_
  refine kw_iconst (v := 4) (pc := 16) X d_M_changes_16 (by decide) ?_
  refine kw_aload_n (pc := 17) X d_M_changes_17 rfl 0 rfl ?_
  refine kg_78 (a := a0) (pc := 18) X d_M_changes_18 x_998 rfl f1 ?_
  refine kcV_v (n := 3) (As := [.int p1, .int (4 : Int32), .int (gi G3 78 a0)]) (rest := []) (pc := 21) X rfl (c_M_set l t G3 a0 p1 (4 : Int32) (gi G3 78 a0) _) (cwV_of (C := "TreeServerModel") X x_1139 x_1136 x_1138 xp_48 x_13 (by decide +kernel) ⟨rfl, rfl⟩ (by decide)) (rv_10 X f1) rfl rfl (by decide) d_M_changes_21 hwp (fun G4 hwp => ?_)
  refine kw_aload_n (pc := 24) X d_M_changes_24 rfl 0 rfl ?_
  refine kw_iload_n (pc := 25) X d_M_changes_25 rfl 1 rfl ?_
  refine kw_bipush (v := 7) (pc := 26) X d_M_changes_26 (by decide) ?_
  refine kw_iload_n (pc := 28) X d_M_changes_28 rfl 2 rfl ?_
  refine kcV_v (n := 3) (As := [.int p1, .int (7 : Int32), .int p2]) (rest := []) (pc := 29) X rfl (c_M_set l t G4 a0 p1 (7 : Int32) p2 _) (cwV_of (C := "TreeServerModel") X x_1139 x_1136 x_1138 xp_48 x_13 (by decide +kernel) ⟨rfl, rfl⟩ (by decide)) (rv_10 X f1) rfl rfl (by decide) d_M_changes_29 hwp (fun G5 hwp => ?_)
  exact kr_v (pc := 32) X hret d_M_changes_32 hwp
set_option maxRecDepth 100000 in
set_option maxHeartbeats 4000000 in
theorem c_M_changes (l : Launch) (t : TY) (G : GS) (a0 : Nat) (p1 : Int32) (p2 : Int32) (K : GS → Prop) : Met l y_M_changes (Cond.code y_M_changes b_M_changes 3 (Option.none : Option Jvm.ClassFile.FieldType) :: GW) rm_M_changes (va_Pc [.ref a0, .int p1, .int p2] (fun U => HB t G U.heap ∧ HK t U ∧ w_M_changes t G a0 p1 p2 K)) (va_Qv (fun u : GS => K u) (fun u T => HB t u T.heap) (tA t)) 0 0 (tA t) := by
  refine Met.ofW (cc := b_M_changes) (maxL := 3) (ret := none) (by decide) rfl ?_
  intro p e s m args below meth c s₁ B hml hv
  obtain ⟨rfl, hB, hK, hwp⟩ := hv
  have hts := atoms_spec (ws := Cond.code y_M_changes b_M_changes 3 (Option.none : Option Jvm.ClassFile.FieldType) :: GW) B.pre
  have X : kX p s m _ meth c b_M_changes 3 "TreeServerModel" t := ⟨B.exec, B.bytes, hml, findClass_of_methodNamed B.named, fun w h => hts w (List.mem_cons_of_mem _ h), B.notSynchronized, hK⟩
  have hZ : kZ t false s G s.heap [] := ⟨hB, va_S.rf, fun _ => ⟨rfl, rfl⟩⟩
  rw [lg_entry_eq]
  have hl := lv_entry ([.ref a0, .int p1, .int p2]) (n := 3) (by simp [lg_sl, rf_cat, cat_i, cat_l, cat_r])
  exact k_M_changes X B.returns _ _ _ hwp s.heap [] _ hl hZ
abbrev b_M_cutOut : ByteArray := prog_13_method_14_code
def y_M_cutOut : MethodName := ⟨"TreeServerModel", "cutOut", "(II)V"⟩
theorem d_M_cutOut_0 : decode b_M_cutOut 0 = .ok (.aload_n 0, 1) := by decide +kernel
theorem d_M_cutOut_1 : decode b_M_cutOut 1 = .ok (.aload_n 0, 1) := by decide +kernel
theorem d_M_cutOut_2 : decode b_M_cutOut 2 = .ok (.iload_n 1, 1) := by decide +kernel
theorem d_M_cutOut_3 : decode b_M_cutOut 3 = .ok (.bipush 8, 2) := by decide +kernel
theorem d_M_cutOut_5 : decode b_M_cutOut 5 = .ok (.invokevirtual 81, 3) := by decide +kernel
theorem d_M_cutOut_8 : decode b_M_cutOut 8 = .ok (.invokevirtual 89, 3) := by decide +kernel
theorem d_M_cutOut_11 : decode b_M_cutOut 11 = .ok (.istore_n 3, 1) := by decide +kernel
theorem d_M_cutOut_12 : decode b_M_cutOut 12 = .ok (.aload_n 0, 1) := by decide +kernel
theorem d_M_cutOut_13 : decode b_M_cutOut 13 = .ok (.iload_n 1, 1) := by decide +kernel
theorem d_M_cutOut_14 : decode b_M_cutOut 14 = .ok (.iconst 0, 1) := by decide +kernel
theorem d_M_cutOut_15 : decode b_M_cutOut 15 = .ok (.iconst 0, 1) := by decide +kernel
theorem d_M_cutOut_16 : decode b_M_cutOut 16 = .ok (.invokevirtual 104, 3) := by decide +kernel
theorem d_M_cutOut_19 : decode b_M_cutOut 19 = .ok (.aload_n 0, 1) := by decide +kernel
theorem d_M_cutOut_20 : decode b_M_cutOut 20 = .ok (.iload_n 3, 1) := by decide +kernel
theorem d_M_cutOut_21 : decode b_M_cutOut 21 = .ok (.iload_n 2, 1) := by decide +kernel
theorem d_M_cutOut_22 : decode b_M_cutOut 22 = .ok (.invokevirtual 111, 3) := by decide +kernel
theorem d_M_cutOut_25 : decode b_M_cutOut 25 = .ok (.return_, 1) := by decide +kernel
abbrev rm_M_cutOut : Room := { frames := 2, cells := 0, slots := 0, locals := 45 }
set_option maxRecDepth 100000 in
set_option maxHeartbeats 4000000 in
theorem k_M_cutOut {p : Program} {l : Launch} {e : Env} {s : State} {m : MethodId} {args : Array Value} {below : List Frame} {meth : Method} {c : Code} {t : TY} {a0 : Nat} {K : GS → Prop} (X : kX p s m args meth c b_M_cutOut 4 "TreeServerModel" t) (hret : meth.sig.returnType = none) (G : GS) (p1 : Int32) (p2 : Int32) (hwp : w_M_cutOut t G a0 p1 p2 K) : kW p l e rm_M_cutOut s m args below meth c (MQ below (va_Qv (fun u : GS => K u) (fun u T => HB t u T.heap) (tA t)) args s 0 0 (tA t)) 4 t false 0 [(0, va_rf (some a0)), (1, .int p1), (2, .int p2)] [] G := by
  unfold w_M_cutOut at hwp
  refine kw_aload_n (pc := 0) X d_M_cutOut_0 rfl 0 rfl ?_
  refine kw_aload_n (pc := 1) X d_M_cutOut_1 rfl 0 rfl ?_
  refine kw_iload_n (pc := 2) X d_M_cutOut_2 rfl 1 rfl ?_
  refine kw_bipush (v := 8) (pc := 3) X d_M_cutOut_3 (by decide) ?_
  obtain ⟨f1, hwp⟩ := hwp
  refine kcVp_i (n := 2) (As := [.int p1, .int (8 : Int32)]) (rest := [va_rf (some a0)]) (pc := 5) X (c_M_at l t G a0 p1 (8 : Int32) _) (cwV_of (C := "TreeServerModel") X x_1111 x_1108 x_1110 xp_41 x_13 (by decide +kernel) ⟨rfl, rfl⟩ (by decide)) (rv_10 X f1) rfl rfl (by simp [rf_cat, cat_i, cat_l, cat_r]) d_M_cutOut_5 hwp (fun v2 hwp => ?_)
  refine kcVp_i (n := 1) (As := [.int v2]) (rest := []) (pc := 8) X (c_M_find l t G a0 v2 _) (cwV_of (C := "TreeServerModel") X x_1107 x_1104 x_1106 xp_40 x_13 (by decide +kernel) ⟨rfl, rfl⟩ (by decide)) (rv_10 X f1) rfl rfl (by decide) d_M_cutOut_8 hwp (fun v3 hwp => ?_)
  refine kw_istore_n (i := 3) (lv' := [(3, .int v3), (0, va_rf (some a0)), (1, .int p1), (2, .int p2)]) (pc := 11) X d_M_cutOut_11 rfl (by decide) rfl ?_
  refine kw_aload_n (pc := 12) X d_M_cutOut_12 rfl 1 rfl ?_
  refine kw_iload_n (pc := 13) X d_M_cutOut_13 rfl 2 rfl ?_
  refine kw_iconst (v := 0) (pc := 14) X d_M_cutOut_14 (by decide) ?_
  refine kw_iconst (v := 0) (pc := 15) X d_M_cutOut_15 (by decide) ?_
  refine kcV_v (n := 3) (As := [.int p1, .int (0 : Int32), .int (0 : Int32)]) (rest := []) (pc := 16) X rfl (c_M_set l t G a0 p1 (0 : Int32) (0 : Int32) _) (cwV_of (C := "TreeServerModel") X x_1139 x_1136 x_1138 xp_48 x_13 (by decide +kernel) ⟨rfl, rfl⟩ (by decide)) (rv_10 X f1) rfl rfl (by decide) d_M_cutOut_16 hwp (fun G4 hwp => ?_)
  refine kw_aload_n (pc := 19) X d_M_cutOut_19 rfl 1 rfl ?_
  refine kw_iload_n (pc := 20) X d_M_cutOut_20 rfl 0 rfl ?_
  refine kw_iload_n (pc := 21) X d_M_cutOut_21 rfl 3 rfl ?_
  refine kcV_v (n := 2) (As := [.int v3, .int p2]) (rest := []) (pc := 22) X rfl (c_M_changes l t G4 a0 v3 p2 _) (cwV_of (C := "TreeServerModel") X x_1143 x_1140 x_1142 xp_49 x_13 (by decide +kernel) ⟨rfl, rfl⟩ (by decide)) (rv_10 X f1) rfl rfl (by decide) d_M_cutOut_22 hwp (fun G5 hwp => ?_)
  exact kr_v (pc := 25) X hret d_M_cutOut_25 hwp
set_option maxRecDepth 100000 in
set_option maxHeartbeats 4000000 in
theorem c_M_cutOut (l : Launch) (t : TY) (G : GS) (a0 : Nat) (p1 : Int32) (p2 : Int32) (K : GS → Prop) : Met l y_M_cutOut (Cond.code y_M_cutOut b_M_cutOut 4 (Option.none : Option Jvm.ClassFile.FieldType) :: GW) rm_M_cutOut (va_Pc [.ref a0, .int p1, .int p2] (fun U => HB t G U.heap ∧ HK t U ∧ w_M_cutOut t G a0 p1 p2 K)) (va_Qv (fun u : GS => K u) (fun u T => HB t u T.heap) (tA t)) 0 0 (tA t) := by
  refine Met.ofW (cc := b_M_cutOut) (maxL := 4) (ret := none) (by decide) rfl ?_
  intro p e s m args below meth c s₁ B hml hv
  obtain ⟨rfl, hB, hK, hwp⟩ := hv
  have hts := atoms_spec (ws := Cond.code y_M_cutOut b_M_cutOut 4 (Option.none : Option Jvm.ClassFile.FieldType) :: GW) B.pre
  have X : kX p s m _ meth c b_M_cutOut 4 "TreeServerModel" t := ⟨B.exec, B.bytes, hml, findClass_of_methodNamed B.named, fun w h => hts w (List.mem_cons_of_mem _ h), B.notSynchronized, hK⟩
  have hZ : kZ t false s G s.heap [] := ⟨hB, va_S.rf, fun _ => ⟨rfl, rfl⟩⟩
  rw [lg_entry_eq]
  have hl := lv_entry ([.ref a0, .int p1, .int p2]) (n := 4) (by simp [lg_sl, rf_cat, cat_i, cat_l, cat_r])
  exact k_M_cutOut X B.returns _ _ _ hwp s.heap [] _ hl hZ
abbrev b_M_begin : ByteArray := prog_13_method_15_code
def y_M_begin : MethodName := ⟨"TreeServerModel", "begin", "()V"⟩
theorem d_M_begin_0 : decode b_M_begin 0 = .ok (.iconst 0, 1) := by decide +kernel
theorem d_M_begin_1 : decode b_M_begin 1 = .ok (.istore_n 1, 1) := by decide +kernel
theorem d_M_begin_2 : decode b_M_begin 2 = .ok (.iload_n 1, 1) := by decide +kernel
theorem d_M_begin_3 : decode b_M_begin 3 = .ok (.sipush 1743, 3) := by decide +kernel
theorem d_M_begin_6 : decode b_M_begin 6 = .ok (.if_icmp .ge 21, 3) := by decide +kernel
theorem d_M_begin_9 : decode b_M_begin 9 = .ok (.aload_n 0, 1) := by decide +kernel
theorem d_M_begin_10 : decode b_M_begin 10 = .ok (.getfield 13, 3) := by decide +kernel
theorem d_M_begin_13 : decode b_M_begin 13 = .ok (.iload_n 1, 1) := by decide +kernel
theorem d_M_begin_14 : decode b_M_begin 14 = .ok (.aload_n 0, 1) := by decide +kernel
theorem d_M_begin_15 : decode b_M_begin 15 = .ok (.getfield 7, 3) := by decide +kernel
theorem d_M_begin_18 : decode b_M_begin 18 = .ok (.iload_n 1, 1) := by decide +kernel
theorem d_M_begin_19 : decode b_M_begin 19 = .ok (.iaload, 1) := by decide +kernel
theorem d_M_begin_20 : decode b_M_begin 20 = .ok (.iastore, 1) := by decide +kernel
theorem d_M_begin_21 : decode b_M_begin 21 = .ok (.iinc 1 1, 3) := by decide +kernel
theorem d_M_begin_24 : decode b_M_begin 24 = .ok (.goto (-22), 3) := by decide +kernel
theorem d_M_begin_27 : decode b_M_begin 27 = .ok (.return_, 1) := by decide +kernel
abbrev rm_M_begin : Room := { frames := 0, cells := 0, slots := 0, locals := 0 }
set_option maxRecDepth 100000 in
set_option maxHeartbeats 4000000 in
theorem k_M_begin_2 {p : Program} {l : Launch} {e : Env} {s : State} {m : MethodId} {args : Array Value} {below : List Frame} {meth : Method} {c : Code} {t : TY} {a0 : Nat} {K : GS → Prop} (X : kX p s m args meth c b_M_begin 2 "TreeServerModel" t) (hret : meth.sig.returnType = none) : ∀ (n : Nat) (l1 : Int32) (G : GS), w_M_begin_2 t a0 K n l1 G → kW p l e rm_M_begin s m args below meth c (MQ below (va_Qv (fun u : GS => K u) (fun u T => HB t u T.heap) (tA t)) args s 0 0 (tA t)) 2 t false 2 [(0, va_rf (some a0)), (1, .int l1)] [] G := by
  intro n
  induction n with
  | zero => intro l1 G hwp; exact hwp.elim
  | succ n hr_2 =>
    intro l1 G hwp
    unfold w_M_begin_2 at hwp
    dsimp only at hwp
    refine kw_iload_n (pc := 2) X d_M_begin_2 rfl 1 rfl ?_
    refine kw_sipush (v := 1743) (pc := 3) X d_M_begin_3 (by decide) ?_
    refine kw_icmp_ge (tgt := 27) (pc := 6) X d_M_begin_6 (by decide) (fun h => ?_) (fun h => ?_)
    · have hwp := ite_t h hwp
      exact kr_v (pc := 27) X hret d_M_begin_27 hwp
    · have hwp := ite_f h hwp
      refine kw_aload_n (pc := 9) X d_M_begin_9 rfl 0 rfl ?_
      obtain ⟨f1, hwp⟩ := hwp
      refine kg_71 (a := a0) (pc := 10) X d_M_begin_10 x_991 rfl f1 ?_
      refine kw_iload_n (pc := 13) X d_M_begin_13 rfl 1 rfl ?_
      refine kw_aload_n (pc := 14) X d_M_begin_14 rfl 0 rfl ?_
      refine kg_70 (a := a0) (pc := 15) X d_M_begin_15 x_990 rfl f1 ?_
      refine kw_iload_n (pc := 18) X d_M_begin_18 rfl 1 rfl ?_
      obtain ⟨a2, h_a2, hwp⟩ := hwp
      obtain ⟨f3, hwp⟩ := hwp
      obtain ⟨f4, hwp⟩ := hwp
      refine ka_iald (a := a2) (pc := 19) X d_M_begin_19 h_a2 f3 f4 ?_
      obtain ⟨a5, h_a5, hwp⟩ := hwp
      obtain ⟨f6, hwp⟩ := hwp
      obtain ⟨f7, hwp⟩ := hwp
      refine ka_iast (a := a5) (pc := 20) X rfl d_M_begin_20 h_a5 f6 f7 ?_
      obtain ⟨G8, e_G8⟩ : ∃ g, g = ais G a5 l1.toNatClampNeg (ai G a2 l1.toNatClampNeg) := ⟨_, rfl⟩
      have hwp := hwp G8 e_G8
      refine kW.g e_G8.symm ?_
      obtain ⟨v9, e_v9⟩ : ∃ z, z = (l1 + (1 : Int32)) := ⟨_, rfl⟩
      have hwp := hwp v9 e_v9
      refine kw_iinc (v := v9) (lv' := [(1, .int v9), (0, va_rf (some a0))]) (pc := 21) X d_M_begin_21 1 rfl (by rw [e_v9]; rfl) (by decide) rfl ?_
      refine kw_goto (tgt := 2) (pc := 24) X d_M_begin_24 (by decide) ?_
      exact kW.sub [1, 0] rfl (hr_2 _ _ hwp)
set_option maxRecDepth 100000 in
set_option maxHeartbeats 4000000 in
theorem k_M_begin {p : Program} {l : Launch} {e : Env} {s : State} {m : MethodId} {args : Array Value} {below : List Frame} {meth : Method} {c : Code} {t : TY} {a0 : Nat} {K : GS → Prop} (X : kX p s m args meth c b_M_begin 2 "TreeServerModel" t) (hret : meth.sig.returnType = none) (G : GS)  (hwp : w_M_begin t G a0 K) : kW p l e rm_M_begin s m args below meth c (MQ below (va_Qv (fun u : GS => K u) (fun u T => HB t u T.heap) (tA t)) args s 0 0 (tA t)) 2 t false 0 [(0, va_rf (some a0))] [] G := by
  unfold w_M_begin at hwp
  refine kw_iconst (v := 0) (pc := 0) X d_M_begin_0 (by decide) ?_
  refine kw_istore_n (i := 1) (lv' := [(1, .int (0 : Int32)), (0, va_rf (some a0))]) (pc := 1) X d_M_begin_1 rfl (by decide) rfl ?_
  obtain ⟨n, hwp⟩ := hwp
  exact kW.sub [1, 0] rfl (k_M_begin_2 X hret  n _ _ hwp)
set_option maxRecDepth 100000 in
set_option maxHeartbeats 4000000 in
theorem c_M_begin (l : Launch) (t : TY) (G : GS) (a0 : Nat) (K : GS → Prop) : Met l y_M_begin (Cond.code y_M_begin b_M_begin 2 (Option.none : Option Jvm.ClassFile.FieldType) :: GW) rm_M_begin (va_Pc [.ref a0] (fun U => HB t G U.heap ∧ HK t U ∧ w_M_begin t G a0 K)) (va_Qv (fun u : GS => K u) (fun u T => HB t u T.heap) (tA t)) 0 0 (tA t) := by
  refine Met.ofW (cc := b_M_begin) (maxL := 2) (ret := none) (by decide) rfl ?_
  intro p e s m args below meth c s₁ B hml hv
  obtain ⟨rfl, hB, hK, hwp⟩ := hv
  have hts := atoms_spec (ws := Cond.code y_M_begin b_M_begin 2 (Option.none : Option Jvm.ClassFile.FieldType) :: GW) B.pre
  have X : kX p s m _ meth c b_M_begin 2 "TreeServerModel" t := ⟨B.exec, B.bytes, hml, findClass_of_methodNamed B.named, fun w h => hts w (List.mem_cons_of_mem _ h), B.notSynchronized, hK⟩
  have hZ : kZ t false s G s.heap [] := ⟨hB, va_S.rf, fun _ => ⟨rfl, rfl⟩⟩
  rw [lg_entry_eq]
  have hl := lv_entry ([.ref a0]) (n := 2) (by simp [lg_sl, rf_cat, cat_i, cat_l, cat_r])
  exact k_M_begin X B.returns _ hwp s.heap [] _ hl hZ
abbrev b_M_back : ByteArray := prog_13_method_16_code
def y_M_back : MethodName := ⟨"TreeServerModel", "back", "()V"⟩
theorem d_M_back_0 : decode b_M_back 0 = .ok (.iconst 0, 1) := by decide +kernel
theorem d_M_back_1 : decode b_M_back 1 = .ok (.istore_n 1, 1) := by decide +kernel
theorem d_M_back_2 : decode b_M_back 2 = .ok (.iload_n 1, 1) := by decide +kernel
theorem d_M_back_3 : decode b_M_back 3 = .ok (.sipush 1743, 3) := by decide +kernel
theorem d_M_back_6 : decode b_M_back 6 = .ok (.if_icmp .ge 21, 3) := by decide +kernel
theorem d_M_back_9 : decode b_M_back 9 = .ok (.aload_n 0, 1) := by decide +kernel
theorem d_M_back_10 : decode b_M_back 10 = .ok (.getfield 7, 3) := by decide +kernel
theorem d_M_back_13 : decode b_M_back 13 = .ok (.iload_n 1, 1) := by decide +kernel
theorem d_M_back_14 : decode b_M_back 14 = .ok (.aload_n 0, 1) := by decide +kernel
theorem d_M_back_15 : decode b_M_back 15 = .ok (.getfield 13, 3) := by decide +kernel
theorem d_M_back_18 : decode b_M_back 18 = .ok (.iload_n 1, 1) := by decide +kernel
theorem d_M_back_19 : decode b_M_back 19 = .ok (.iaload, 1) := by decide +kernel
theorem d_M_back_20 : decode b_M_back 20 = .ok (.iastore, 1) := by decide +kernel
theorem d_M_back_21 : decode b_M_back 21 = .ok (.iinc 1 1, 3) := by decide +kernel
theorem d_M_back_24 : decode b_M_back 24 = .ok (.goto (-22), 3) := by decide +kernel
theorem d_M_back_27 : decode b_M_back 27 = .ok (.return_, 1) := by decide +kernel
abbrev rm_M_back : Room := { frames := 0, cells := 0, slots := 0, locals := 0 }
set_option maxRecDepth 100000 in
set_option maxHeartbeats 4000000 in
theorem k_M_back_2 {p : Program} {l : Launch} {e : Env} {s : State} {m : MethodId} {args : Array Value} {below : List Frame} {meth : Method} {c : Code} {t : TY} {a0 : Nat} {K : GS → Prop} (X : kX p s m args meth c b_M_back 2 "TreeServerModel" t) (hret : meth.sig.returnType = none) : ∀ (n : Nat) (l1 : Int32) (G : GS), w_M_back_2 t a0 K n l1 G → kW p l e rm_M_back s m args below meth c (MQ below (va_Qv (fun u : GS => K u) (fun u T => HB t u T.heap) (tA t)) args s 0 0 (tA t)) 2 t false 2 [(0, va_rf (some a0)), (1, .int l1)] [] G := by
  intro n
  induction n with
  | zero => intro l1 G hwp; exact hwp.elim
  | succ n hr_2 =>
    intro l1 G hwp
    unfold w_M_back_2 at hwp
    dsimp only at hwp
    refine kw_iload_n (pc := 2) X d_M_back_2 rfl 1 rfl ?_
    refine kw_sipush (v := 1743) (pc := 3) X d_M_back_3 (by decide) ?_
    refine kw_icmp_ge (tgt := 27) (pc := 6) X d_M_back_6 (by decide) (fun h => ?_) (fun h => ?_)
    · have hwp := ite_t h hwp
      exact kr_v (pc := 27) X hret d_M_back_27 hwp
    · have hwp := ite_f h hwp
      refine kw_aload_n (pc := 9) X d_M_back_9 rfl 0 rfl ?_
      obtain ⟨f1, hwp⟩ := hwp
      refine kg_70 (a := a0) (pc := 10) X d_M_back_10 x_990 rfl f1 ?_
      refine kw_iload_n (pc := 13) X d_M_back_13 rfl 1 rfl ?_
      refine kw_aload_n (pc := 14) X d_M_back_14 rfl 0 rfl ?_
      refine kg_71 (a := a0) (pc := 15) X d_M_back_15 x_991 rfl f1 ?_
      refine kw_iload_n (pc := 18) X d_M_back_18 rfl 1 rfl ?_
      obtain ⟨a2, h_a2, hwp⟩ := hwp
      obtain ⟨f3, hwp⟩ := hwp
      obtain ⟨f4, hwp⟩ := hwp
      refine ka_iald (a := a2) (pc := 19) X d_M_back_19 h_a2 f3 f4 ?_
      obtain ⟨a5, h_a5, hwp⟩ := hwp
      obtain ⟨f6, hwp⟩ := hwp
      obtain ⟨f7, hwp⟩ := hwp
      refine ka_iast (a := a5) (pc := 20) X rfl d_M_back_20 h_a5 f6 f7 ?_
      obtain ⟨G8, e_G8⟩ : ∃ g, g = ais G a5 l1.toNatClampNeg (ai G a2 l1.toNatClampNeg) := ⟨_, rfl⟩
      have hwp := hwp G8 e_G8
      refine kW.g e_G8.symm ?_
      obtain ⟨v9, e_v9⟩ : ∃ z, z = (l1 + (1 : Int32)) := ⟨_, rfl⟩
      have hwp := hwp v9 e_v9
      refine kw_iinc (v := v9) (lv' := [(1, .int v9), (0, va_rf (some a0))]) (pc := 21) X d_M_back_21 1 rfl (by rw [e_v9]; rfl) (by decide) rfl ?_
      refine kw_goto (tgt := 2) (pc := 24) X d_M_back_24 (by decide) ?_
      exact kW.sub [1, 0] rfl (hr_2 _ _ hwp)
set_option maxRecDepth 100000 in
set_option maxHeartbeats 4000000 in
theorem k_M_back {p : Program} {l : Launch} {e : Env} {s : State} {m : MethodId} {args : Array Value} {below : List Frame} {meth : Method} {c : Code} {t : TY} {a0 : Nat} {K : GS → Prop} (X : kX p s m args meth c b_M_back 2 "TreeServerModel" t) (hret : meth.sig.returnType = none) (G : GS)  (hwp : w_M_back t G a0 K) : kW p l e rm_M_back s m args below meth c (MQ below (va_Qv (fun u : GS => K u) (fun u T => HB t u T.heap) (tA t)) args s 0 0 (tA t)) 2 t false 0 [(0, va_rf (some a0))] [] G := by
  unfold w_M_back at hwp
  refine kw_iconst (v := 0) (pc := 0) X d_M_back_0 (by decide) ?_
  refine kw_istore_n (i := 1) (lv' := [(1, .int (0 : Int32)), (0, va_rf (some a0))]) (pc := 1) X d_M_back_1 rfl (by decide) rfl ?_
  obtain ⟨n, hwp⟩ := hwp
  exact kW.sub [1, 0] rfl (k_M_back_2 X hret  n _ _ hwp)
set_option maxRecDepth 100000 in
set_option maxHeartbeats 4000000 in
theorem c_M_back (l : Launch) (t : TY) (G : GS) (a0 : Nat) (K : GS → Prop) : Met l y_M_back (Cond.code y_M_back b_M_back 2 (Option.none : Option Jvm.ClassFile.FieldType) :: GW) rm_M_back (va_Pc [.ref a0] (fun U => HB t G U.heap ∧ HK t U ∧ w_M_back t G a0 K)) (va_Qv (fun u : GS => K u) (fun u T => HB t u T.heap) (tA t)) 0 0 (tA t) := by
  refine Met.ofW (cc := b_M_back) (maxL := 2) (ret := none) (by decide) rfl ?_
  intro p e s m args below meth c s₁ B hml hv
  obtain ⟨rfl, hB, hK, hwp⟩ := hv
  have hts := atoms_spec (ws := Cond.code y_M_back b_M_back 2 (Option.none : Option Jvm.ClassFile.FieldType) :: GW) B.pre
  have X : kX p s m _ meth c b_M_back 2 "TreeServerModel" t := ⟨B.exec, B.bytes, hml, findClass_of_methodNamed B.named, fun w h => hts w (List.mem_cons_of_mem _ h), B.notSynchronized, hK⟩
  have hZ : kZ t false s G s.heap [] := ⟨hB, va_S.rf, fun _ => ⟨rfl, rfl⟩⟩
  rw [lg_entry_eq]
  have hl := lv_entry ([.ref a0]) (n := 2) (by simp [lg_sl, rf_cat, cat_i, cat_l, cat_r])
  exact k_M_back X B.returns _ hwp s.heap [] _ hl hZ
abbrev b_M_commit : ByteArray := prog_13_method_17_code
def y_M_commit : MethodName := ⟨"TreeServerModel", "commit", "(I)Z"⟩
theorem d_M_commit_0 : decode b_M_commit 0 = .ok (.iload_n 1, 1) := by decide +kernel
theorem d_M_commit_1 : decode b_M_commit 1 = .ok (.bipush 15, 2) := by decide +kernel
theorem d_M_commit_3 : decode b_M_commit 3 = .ok (.iadd, 1) := by decide +kernel
theorem d_M_commit_4 : decode b_M_commit 4 = .ok (.bipush 16, 2) := by decide +kernel
theorem d_M_commit_6 : decode b_M_commit 6 = .ok (.idiv, 1) := by decide +kernel
theorem d_M_commit_7 : decode b_M_commit 7 = .ok (.istore_n 2, 1) := by decide +kernel
theorem d_M_commit_8 : decode b_M_commit 8 = .ok (.aload_n 0, 1) := by decide +kernel
theorem d_M_commit_9 : decode b_M_commit 9 = .ok (.getfield 19, 3) := by decide +kernel
theorem d_M_commit_12 : decode b_M_commit 12 = .ok (.istore_n 3, 1) := by decide +kernel
theorem d_M_commit_13 : decode b_M_commit 13 = .ok (.aload_n 0, 1) := by decide +kernel
theorem d_M_commit_14 : decode b_M_commit 14 = .ok (.iconst (-1), 1) := by decide +kernel
theorem d_M_commit_15 : decode b_M_commit 15 = .ok (.putfield 19, 3) := by decide +kernel
theorem d_M_commit_18 : decode b_M_commit 18 = .ok (.iload_n 3, 1) := by decide +kernel
theorem d_M_commit_19 : decode b_M_commit 19 = .ok (.ifCond .lt 10, 3) := by decide +kernel
theorem d_M_commit_22 : decode b_M_commit 22 = .ok (.iload_n 3, 1) := by decide +kernel
theorem d_M_commit_23 : decode b_M_commit 23 = .ok (.iload_n 2, 1) := by decide +kernel
theorem d_M_commit_24 : decode b_M_commit 24 = .ok (.iconst 2, 1) := by decide +kernel
theorem d_M_commit_25 : decode b_M_commit 25 = .ok (.iadd, 1) := by decide +kernel
theorem d_M_commit_26 : decode b_M_commit 26 = .ok (.if_icmp .lt 17, 3) := by decide +kernel
theorem d_M_commit_29 : decode b_M_commit 29 = .ok (.aload_n 0, 1) := by decide +kernel
theorem d_M_commit_30 : decode b_M_commit 30 = .ok (.dup, 1) := by decide +kernel
theorem d_M_commit_31 : decode b_M_commit 31 = .ok (.getfield 115, 3) := by decide +kernel
theorem d_M_commit_34 : decode b_M_commit 34 = .ok (.iload_n 2, 1) := by decide +kernel
theorem d_M_commit_35 : decode b_M_commit 35 = .ok (.iconst 2, 1) := by decide +kernel
theorem d_M_commit_36 : decode b_M_commit 36 = .ok (.iadd, 1) := by decide +kernel
theorem d_M_commit_37 : decode b_M_commit 37 = .ok (.iadd, 1) := by decide +kernel
theorem d_M_commit_38 : decode b_M_commit 38 = .ok (.putfield 115, 3) := by decide +kernel
theorem d_M_commit_41 : decode b_M_commit 41 = .ok (.iconst 1, 1) := by decide +kernel
theorem d_M_commit_42 : decode b_M_commit 42 = .ok (.ireturn, 1) := by decide +kernel
theorem d_M_commit_43 : decode b_M_commit 43 = .ok (.aload_n 0, 1) := by decide +kernel
theorem d_M_commit_44 : decode b_M_commit 44 = .ok (.dup, 1) := by decide +kernel
theorem d_M_commit_45 : decode b_M_commit 45 = .ok (.getfield 115, 3) := by decide +kernel
theorem d_M_commit_48 : decode b_M_commit 48 = .ok (.iload_n 3, 1) := by decide +kernel
theorem d_M_commit_49 : decode b_M_commit 49 = .ok (.iadd, 1) := by decide +kernel
theorem d_M_commit_50 : decode b_M_commit 50 = .ok (.putfield 115, 3) := by decide +kernel
theorem d_M_commit_53 : decode b_M_commit 53 = .ok (.aload_n 0, 1) := by decide +kernel
theorem d_M_commit_54 : decode b_M_commit 54 = .ok (.iload_n 3, 1) := by decide +kernel
theorem d_M_commit_55 : decode b_M_commit 55 = .ok (.iload_n 2, 1) := by decide +kernel
theorem d_M_commit_56 : decode b_M_commit 56 = .ok (.iconst 1, 1) := by decide +kernel
theorem d_M_commit_57 : decode b_M_commit 57 = .ok (.iadd, 1) := by decide +kernel
theorem d_M_commit_58 : decode b_M_commit 58 = .ok (.if_icmp .ne 7, 3) := by decide +kernel
theorem d_M_commit_61 : decode b_M_commit 61 = .ok (.iconst 1, 1) := by decide +kernel
theorem d_M_commit_62 : decode b_M_commit 62 = .ok (.goto 4, 3) := by decide +kernel
theorem d_M_commit_65 : decode b_M_commit 65 = .ok (.iconst 0, 1) := by decide +kernel
theorem d_M_commit_66 : decode b_M_commit 66 = .ok (.putfield 118, 3) := by decide +kernel
theorem d_M_commit_69 : decode b_M_commit 69 = .ok (.iconst 0, 1) := by decide +kernel
theorem d_M_commit_70 : decode b_M_commit 70 = .ok (.istore 4, 2) := by decide +kernel
theorem d_M_commit_72 : decode b_M_commit 72 = .ok (.iload 4, 2) := by decide +kernel
theorem d_M_commit_74 : decode b_M_commit 74 = .ok (.sipush 1743, 3) := by decide +kernel
theorem d_M_commit_77 : decode b_M_commit 77 = .ok (.if_icmp .ge 23, 3) := by decide +kernel
theorem d_M_commit_80 : decode b_M_commit 80 = .ok (.aload_n 0, 1) := by decide +kernel
theorem d_M_commit_81 : decode b_M_commit 81 = .ok (.getfield 16, 3) := by decide +kernel
theorem d_M_commit_84 : decode b_M_commit 84 = .ok (.iload 4, 2) := by decide +kernel
theorem d_M_commit_86 : decode b_M_commit 86 = .ok (.aload_n 0, 1) := by decide +kernel
theorem d_M_commit_87 : decode b_M_commit 87 = .ok (.getfield 7, 3) := by decide +kernel
theorem d_M_commit_90 : decode b_M_commit 90 = .ok (.iload 4, 2) := by decide +kernel
theorem d_M_commit_92 : decode b_M_commit 92 = .ok (.iaload, 1) := by decide +kernel
theorem d_M_commit_93 : decode b_M_commit 93 = .ok (.iastore, 1) := by decide +kernel
theorem d_M_commit_94 : decode b_M_commit 94 = .ok (.iinc 4 1, 3) := by decide +kernel
theorem d_M_commit_97 : decode b_M_commit 97 = .ok (.goto (-25), 3) := by decide +kernel
theorem d_M_commit_100 : decode b_M_commit 100 = .ok (.aload_n 0, 1) := by decide +kernel
theorem d_M_commit_101 : decode b_M_commit 101 = .ok (.invokevirtual 122, 3) := by decide +kernel
theorem d_M_commit_104 : decode b_M_commit 104 = .ok (.aload_n 0, 1) := by decide +kernel
theorem d_M_commit_105 : decode b_M_commit 105 = .ok (.iconst 1, 1) := by decide +kernel
theorem d_M_commit_106 : decode b_M_commit 106 = .ok (.putfield 125, 3) := by decide +kernel
theorem d_M_commit_109 : decode b_M_commit 109 = .ok (.aload_n 0, 1) := by decide +kernel
theorem d_M_commit_110 : decode b_M_commit 110 = .ok (.iconst 0, 1) := by decide +kernel
theorem d_M_commit_111 : decode b_M_commit 111 = .ok (.invokevirtual 77, 3) := by decide +kernel
theorem d_M_commit_114 : decode b_M_commit 114 = .ok (.aload_n 0, 1) := by decide +kernel
theorem d_M_commit_115 : decode b_M_commit 115 = .ok (.iconst 1, 1) := by decide +kernel
theorem d_M_commit_116 : decode b_M_commit 116 = .ok (.invokevirtual 77, 3) := by decide +kernel
theorem d_M_commit_119 : decode b_M_commit 119 = .ok (.iconst 0, 1) := by decide +kernel
theorem d_M_commit_120 : decode b_M_commit 120 = .ok (.ireturn, 1) := by decide +kernel
abbrev rm_M_commit : Room := { frames := 1, cells := 0, slots := 0, locals := 22 }
set_option maxRecDepth 100000 in
set_option maxHeartbeats 4000000 in
theorem k_M_commit_29 {p : Program} {l : Launch} {e : Env} {s : State} {m : MethodId} {args : Array Value} {below : List Frame} {meth : Method} {c : Code} {t : TY} {a0 : Nat} {K : GS → Int32 → Prop} (X : kX p s m args meth c b_M_commit 5 "TreeServerModel" t) (hret : meth.sig.returnType = some .boolean) (l2 : Int32) (G : GS) (hwp : w_M_commit_29 t a0 K l2 G) : kW p l e rm_M_commit s m args below meth c (MQ below (va_Qi (fun r (u : GS) => isB r ∧ K u r) (fun u T => HB t u T.heap) (tA t)) args s 0 0 (tA t)) 5 t false 29 [(0, va_rf (some a0)), (2, .int l2)] [] G := by
  unfold w_M_commit_29 at hwp
  refine kw_aload_n (pc := 29) X d_M_commit_29 rfl 0 rfl ?_
  refine kw_dup (pc := 30) X d_M_commit_30 rfl ?_
  obtain ⟨f1, hwp⟩ := hwp
  refine kg_77 (a := a0) (pc := 31) X d_M_commit_31 x_997 rfl f1 ?_
  refine kw_iload_n (pc := 34) X d_M_commit_34 rfl 1 rfl ?_
  refine kw_iconst (v := 2) (pc := 35) X d_M_commit_35 (by decide) ?_
  refine kw_iadd (pc := 36) X d_M_commit_36 ?_
  refine kw_iadd (pc := 37) X d_M_commit_37 ?_
  refine kp_77 (a := a0) (x := ((gi G 77 a0) + (l2 + (2 : Int32)))) (pc := 38) X rfl d_M_commit_38 x_997 rfl f1 ?_
  obtain ⟨G2, e_G2⟩ : ∃ g, g = si G 77 a0 ((gi G 77 a0) + (l2 + (2 : Int32))) := ⟨_, rfl⟩
  have hwp := hwp G2 e_G2
  refine kW.g e_G2.symm ?_
  refine kw_iconst (v := 1) (pc := 41) X d_M_commit_41 (by decide) ?_
  exact kr_z (pc := 42) X hret d_M_commit_42 (Or.inr rfl) hwp
set_option maxRecDepth 100000 in
set_option maxHeartbeats 4000000 in
theorem k_M_commit_72 {p : Program} {l : Launch} {e : Env} {s : State} {m : MethodId} {args : Array Value} {below : List Frame} {meth : Method} {c : Code} {t : TY} {a0 : Nat} {K : GS → Int32 → Prop} (X : kX p s m args meth c b_M_commit 5 "TreeServerModel" t) (hret : meth.sig.returnType = some .boolean) : ∀ (n : Nat) (l4 : Int32) (G : GS), w_M_commit_72 t a0 K n l4 G → kW p l e rm_M_commit s m args below meth c (MQ below (va_Qi (fun r (u : GS) => isB r ∧ K u r) (fun u T => HB t u T.heap) (tA t)) args s 0 0 (tA t)) 5 t false 72 [(0, va_rf (some a0)), (4, .int l4)] [] G := by
  intro n
  induction n with
  | zero => intro l4 G hwp; exact hwp.elim
  | succ n hr_72 =>
    intro l4 G hwp
    unfold w_M_commit_72 at hwp
    dsimp only at hwp
    refine kw_iload (pc := 72) X d_M_commit_72 1 rfl ?_
    refine kw_sipush (v := 1743) (pc := 74) X d_M_commit_74 (by decide) ?_
    refine kw_icmp_ge (tgt := 100) (pc := 77) X d_M_commit_77 (by decide) (fun h => ?_) (fun h => ?_)
    · have hwp := ite_t h hwp
      refine kw_aload_n (pc := 100) X d_M_commit_100 rfl 0 rfl ?_
      obtain ⟨f1, hwp⟩ := hwp
      refine kcV_v (n := 0) (As := []) (rest := []) (pc := 101) X rfl (c_M_back l t G a0 _) (cwV_of (C := "TreeServerModel") X x_1151 x_1148 x_1150 xp_51 x_13 (by decide +kernel) ⟨rfl, rfl⟩ (by decide)) (rv_10 X f1) rfl rfl (by decide) d_M_commit_101 hwp (fun G2 hwp => ?_)
      refine kw_aload_n (pc := 104) X d_M_commit_104 rfl 0 rfl ?_
      refine kw_iconst (v := 1) (pc := 105) X d_M_commit_105 (by decide) ?_
      refine kp_75 (a := a0) (x := (1 : Int32)) (pc := 106) X rfl d_M_commit_106 x_995 rfl f1 (Or.inr rfl) ?_
      obtain ⟨G3, e_G3⟩ : ∃ g, g = si G2 75 a0 (1 : Int32) := ⟨_, rfl⟩
      have hwp := hwp G3 e_G3
      refine kW.g e_G3.symm ?_
      refine kw_aload_n (pc := 109) X d_M_commit_109 rfl 0 rfl ?_
      refine kw_iconst (v := 0) (pc := 110) X d_M_commit_110 (by decide) ?_
      refine kcV_v (n := 1) (As := [.int (0 : Int32)]) (rest := []) (pc := 111) X rfl (c_M_fresh l t G3 a0 (0 : Int32) _) (cwV_of (C := "TreeServerModel") X x_989 x_986 x_988 xp_36 x_13 (by decide +kernel) ⟨rfl, rfl⟩ (by decide)) (rv_10 X f1) rfl rfl (by decide) d_M_commit_111 hwp (fun G4 hwp => ?_)
      refine kw_aload_n (pc := 114) X d_M_commit_114 rfl 0 rfl ?_
      refine kw_iconst (v := 1) (pc := 115) X d_M_commit_115 (by decide) ?_
      refine kcV_v (n := 1) (As := [.int (1 : Int32)]) (rest := []) (pc := 116) X rfl (c_M_fresh l t G4 a0 (1 : Int32) _) (cwV_of (C := "TreeServerModel") X x_989 x_986 x_988 xp_36 x_13 (by decide +kernel) ⟨rfl, rfl⟩ (by decide)) (rv_10 X f1) rfl rfl (by decide) d_M_commit_116 hwp (fun G5 hwp => ?_)
      refine kw_iconst (v := 0) (pc := 119) X d_M_commit_119 (by decide) ?_
      exact kr_z (pc := 120) X hret d_M_commit_120 (Or.inl rfl) hwp
    · have hwp := ite_f h hwp
      refine kw_aload_n (pc := 80) X d_M_commit_80 rfl 0 rfl ?_
      obtain ⟨f6, hwp⟩ := hwp
      refine kg_72 (a := a0) (pc := 81) X d_M_commit_81 x_992 rfl f6 ?_
      refine kw_iload (pc := 84) X d_M_commit_84 1 rfl ?_
      refine kw_aload_n (pc := 86) X d_M_commit_86 rfl 0 rfl ?_
      refine kg_70 (a := a0) (pc := 87) X d_M_commit_87 x_990 rfl f6 ?_
      refine kw_iload (pc := 90) X d_M_commit_90 1 rfl ?_
      obtain ⟨a7, h_a7, hwp⟩ := hwp
      obtain ⟨f8, hwp⟩ := hwp
      obtain ⟨f9, hwp⟩ := hwp
      refine ka_iald (a := a7) (pc := 92) X d_M_commit_92 h_a7 f8 f9 ?_
      obtain ⟨a10, h_a10, hwp⟩ := hwp
      obtain ⟨f11, hwp⟩ := hwp
      obtain ⟨f12, hwp⟩ := hwp
      refine ka_iast (a := a10) (pc := 93) X rfl d_M_commit_93 h_a10 f11 f12 ?_
      obtain ⟨G13, e_G13⟩ : ∃ g, g = ais G a10 l4.toNatClampNeg (ai G a7 l4.toNatClampNeg) := ⟨_, rfl⟩
      have hwp := hwp G13 e_G13
      refine kW.g e_G13.symm ?_
      obtain ⟨v14, e_v14⟩ : ∃ z, z = (l4 + (1 : Int32)) := ⟨_, rfl⟩
      have hwp := hwp v14 e_v14
      refine kw_iinc (v := v14) (lv' := [(4, .int v14), (0, va_rf (some a0))]) (pc := 94) X d_M_commit_94 1 rfl (by rw [e_v14]; rfl) (by decide) rfl ?_
      refine kw_goto (tgt := 72) (pc := 97) X d_M_commit_97 (by decide) ?_
      exact kW.sub [1, 0] rfl (hr_72 _ _ hwp)
set_option maxRecDepth 100000 in
set_option maxHeartbeats 4000000 in
theorem k_M_commit_66 {p : Program} {l : Launch} {e : Env} {s : State} {m : MethodId} {args : Array Value} {below : List Frame} {meth : Method} {c : Code} {t : TY} {a0 : Nat} {K : GS → Int32 → Prop} (X : kX p s m args meth c b_M_commit 5 "TreeServerModel" t) (hret : meth.sig.returnType = some .boolean) (s0 : Option Nat) (s1 : Int32) (G : GS) (hwp : w_M_commit_66 t a0 K s0 s1 G) : kW p l e rm_M_commit s m args below meth c (MQ below (va_Qi (fun r (u : GS) => isB r ∧ K u r) (fun u T => HB t u T.heap) (tA t)) args s 0 0 (tA t)) 5 t false 66 [(0, va_rf (some a0))] [.int s1, va_rf s0] G := by
  unfold w_M_commit_66 at hwp
  obtain ⟨a1, h_a1, hwp⟩ := hwp
  obtain ⟨f2, hwp⟩ := hwp
  obtain ⟨f3, hwp⟩ := hwp
  refine kp_73 (a := a1) (x := s1) (pc := 66) X rfl d_M_commit_66 x_993 h_a1 f2 f3 ?_
  obtain ⟨G4, e_G4⟩ : ∃ g, g = si G 73 a1 s1 := ⟨_, rfl⟩
  have hwp := hwp G4 e_G4
  refine kW.g e_G4.symm ?_
  refine kw_iconst (v := 0) (pc := 69) X d_M_commit_69 (by decide) ?_
  refine kw_istore (i := 4) (lv' := [(4, .int (0 : Int32)), (0, va_rf (some a0))]) (pc := 70) X d_M_commit_70 (by decide) rfl ?_
  obtain ⟨n, hwp⟩ := hwp
  exact kW.sub [1, 0] rfl (k_M_commit_72 X hret  n _ _ hwp)
set_option maxRecDepth 100000 in
set_option maxHeartbeats 4000000 in
theorem k_M_commit {p : Program} {l : Launch} {e : Env} {s : State} {m : MethodId} {args : Array Value} {below : List Frame} {meth : Method} {c : Code} {t : TY} {a0 : Nat} {K : GS → Int32 → Prop} (X : kX p s m args meth c b_M_commit 5 "TreeServerModel" t) (hret : meth.sig.returnType = some .boolean) (G : GS) (p1 : Int32) (hwp : w_M_commit t G a0 p1 K) : kW p l e rm_M_commit s m args below meth c (MQ below (va_Qi (fun r (u : GS) => isB r ∧ K u r) (fun u T => HB t u T.heap) (tA t)) args s 0 0 (tA t)) 5 t false 0 [(0, va_rf (some a0)), (1, .int p1)] [] G := by
  unfold w_M_commit at hwp
  refine kw_iload_n (pc := 0) X d_M_commit_0 rfl 1 rfl ?_
  refine kw_bipush (v := 15) (pc := 1) X d_M_commit_1 (by decide) ?_
  refine kw_iadd (pc := 3) X d_M_commit_3 ?_
  refine kw_bipush (v := 16) (pc := 4) X d_M_commit_4 (by decide) ?_
  refine kw_idiv (pc := 6) X d_M_commit_6 (by decide) ?_
  obtain ⟨v1, e_v1⟩ : ∃ z, z = ((p1 + (15 : Int32)) / (16 : Int32)) := ⟨_, rfl⟩
  have hwp := hwp v1 e_v1
  refine kW.st (st' := .int v1 :: _) (by rw [e_v1]) ?_
  refine kw_istore_n (i := 2) (lv' := [(2, .int v1), (0, va_rf (some a0)), (1, .int p1)]) (pc := 7) X d_M_commit_7 rfl (by decide) rfl ?_
  refine kw_aload_n (pc := 8) X d_M_commit_8 rfl 1 rfl ?_
  obtain ⟨f2, hwp⟩ := hwp
  refine kg_76 (a := a0) (pc := 9) X d_M_commit_9 x_996 rfl f2 ?_
  obtain ⟨v3, e_v3⟩ : ∃ z, z = (gi G 76 a0) := ⟨_, rfl⟩
  have hwp := hwp v3 e_v3
  refine kW.st (st' := .int v3 :: _) (by rw [e_v3]) ?_
  refine kw_istore_n (i := 3) (lv' := [(3, .int v3), (2, .int v1), (0, va_rf (some a0)), (1, .int p1)]) (pc := 12) X d_M_commit_12 rfl (by decide) rfl ?_
  refine kw_aload_n (pc := 13) X d_M_commit_13 rfl 2 rfl ?_
  refine kw_iconst (v := -1) (pc := 14) X d_M_commit_14 (by decide) ?_
  refine kp_76 (a := a0) (x := (-1 : Int32)) (pc := 15) X rfl d_M_commit_15 x_996 rfl f2 ?_
  obtain ⟨G4, e_G4⟩ : ∃ g, g = si G 76 a0 (-1 : Int32) := ⟨_, rfl⟩
  have hwp := hwp G4 e_G4
  refine kW.g e_G4.symm ?_
  refine kw_iload_n (pc := 18) X d_M_commit_18 rfl 0 rfl ?_
  refine kw_if_lt (tgt := 29) (pc := 19) X d_M_commit_19 (by decide) (fun h => ?_) (fun h => ?_)
  · have hwp := ite_t h hwp
    exact kW.sub [2, 1] rfl (k_M_commit_29 X hret  _ _ hwp)
  · have hwp := ite_f h hwp
    refine kw_iload_n (pc := 22) X d_M_commit_22 rfl 0 rfl ?_
    refine kw_iload_n (pc := 23) X d_M_commit_23 rfl 1 rfl ?_
    refine kw_iconst (v := 2) (pc := 24) X d_M_commit_24 (by decide) ?_
    refine kw_iadd (pc := 25) X d_M_commit_25 ?_
    refine kw_icmp_lt (tgt := 43) (pc := 26) X d_M_commit_26 (by decide) (fun h => ?_) (fun h => ?_)
    · have hwp := ite_t h hwp
      refine kw_aload_n (pc := 43) X d_M_commit_43 rfl 2 rfl ?_
      refine kw_dup (pc := 44) X d_M_commit_44 rfl ?_
      refine kg_77 (a := a0) (pc := 45) X d_M_commit_45 x_997 rfl f2 ?_
      refine kw_iload_n (pc := 48) X d_M_commit_48 rfl 0 rfl ?_
      refine kw_iadd (pc := 49) X d_M_commit_49 ?_
      refine kp_77 (a := a0) (x := ((gi G4 77 a0) + v3)) (pc := 50) X rfl d_M_commit_50 x_997 rfl f2 ?_
      obtain ⟨G5, e_G5⟩ : ∃ g, g = si G4 77 a0 ((gi G4 77 a0) + v3) := ⟨_, rfl⟩
      have hwp := hwp G5 e_G5
      refine kW.g e_G5.symm ?_
      refine kw_aload_n (pc := 53) X d_M_commit_53 rfl 2 rfl ?_
      refine kw_iload_n (pc := 54) X d_M_commit_54 rfl 0 rfl ?_
      refine kw_iload_n (pc := 55) X d_M_commit_55 rfl 1 rfl ?_
      refine kw_iconst (v := 1) (pc := 56) X d_M_commit_56 (by decide) ?_
      refine kw_iadd (pc := 57) X d_M_commit_57 ?_
      refine kw_icmp_ne (tgt := 65) (pc := 58) X d_M_commit_58 (by decide) (fun h => ?_) (fun h => ?_)
      · have hwp := ite_t h hwp
        refine kw_iconst (v := 0) (pc := 65) X d_M_commit_65 (by decide) ?_
        exact kW.sub [2] rfl (k_M_commit_66 X hret  _ _ _ hwp)
      · have hwp := ite_f (not_not_intro h) hwp
        refine kw_iconst (v := 1) (pc := 61) X d_M_commit_61 (by decide) ?_
        refine kw_goto (tgt := 66) (pc := 62) X d_M_commit_62 (by decide) ?_
        exact kW.sub [2] rfl (k_M_commit_66 X hret  _ _ _ hwp)
    · have hwp := ite_f h hwp
      exact kW.sub [2, 1] rfl (k_M_commit_29 X hret  _ _ hwp)
set_option maxRecDepth 100000 in
set_option maxHeartbeats 4000000 in
theorem c_M_commit (l : Launch) (t : TY) (G : GS) (a0 : Nat) (p1 : Int32) (K : GS → Int32 → Prop) : Met l y_M_commit (Cond.code y_M_commit b_M_commit 5 (Option.some Jvm.ClassFile.FieldType.boolean) :: GW) rm_M_commit (va_Pc [.ref a0, .int p1] (fun U => HB t G U.heap ∧ HK t U ∧ w_M_commit t G a0 p1 K)) (va_Qi (fun r (u : GS) => isB r ∧ K u r) (fun u T => HB t u T.heap) (tA t)) 0 0 (tA t) := by
  refine Met.ofW (cc := b_M_commit) (maxL := 5) (ret := some .boolean) (by decide) rfl ?_
  intro p e s m args below meth c s₁ B hml hv
  obtain ⟨rfl, hB, hK, hwp⟩ := hv
  have hts := atoms_spec (ws := Cond.code y_M_commit b_M_commit 5 (Option.some Jvm.ClassFile.FieldType.boolean) :: GW) B.pre
  have X : kX p s m _ meth c b_M_commit 5 "TreeServerModel" t := ⟨B.exec, B.bytes, hml, findClass_of_methodNamed B.named, fun w h => hts w (List.mem_cons_of_mem _ h), B.notSynchronized, hK⟩
  have hZ : kZ t false s G s.heap [] := ⟨hB, va_S.rf, fun _ => ⟨rfl, rfl⟩⟩
  rw [lg_entry_eq]
  have hl := lv_entry ([.ref a0, .int p1]) (n := 5) (by simp [lg_sl, rf_cat, cat_i, cat_l, cat_r])
  exact k_M_commit X B.returns _ _ hwp s.heap [] _ hl hZ
abbrev b_M_put : ByteArray := prog_13_method_19_code
def y_M_put : MethodName := ⟨"TreeServerModel", "put", "(JI)V"⟩
theorem d_M_put_0 : decode b_M_put 0 = .ok (.iconst 0, 1) := by decide +kernel
theorem d_M_put_1 : decode b_M_put 1 = .ok (.istore 4, 2) := by decide +kernel
theorem d_M_put_3 : decode b_M_put 3 = .ok (.iload 4, 2) := by decide +kernel
theorem d_M_put_5 : decode b_M_put 5 = .ok (.iload_n 3, 1) := by decide +kernel
theorem d_M_put_6 : decode b_M_put 6 = .ok (.if_icmp .ge 40, 3) := by decide +kernel
theorem d_M_put_9 : decode b_M_put 9 = .ok (.aload_n 0, 1) := by decide +kernel
theorem d_M_put_10 : decode b_M_put 10 = .ok (.getfield 73, 3) := by decide +kernel
theorem d_M_put_13 : decode b_M_put 13 = .ok (.aload_n 0, 1) := by decide +kernel
theorem d_M_put_14 : decode b_M_put 14 = .ok (.getfield 128, 3) := by decide +kernel
theorem d_M_put_17 : decode b_M_put 17 = .ok (.lload_n 1, 1) := by decide +kernel
theorem d_M_put_18 : decode b_M_put 18 = .ok (.bipush 8, 2) := by decide +kernel
theorem d_M_put_20 : decode b_M_put 20 = .ok (.iload 4, 2) := by decide +kernel
theorem d_M_put_22 : decode b_M_put 22 = .ok (.imul, 1) := by decide +kernel
theorem d_M_put_23 : decode b_M_put 23 = .ok (.lshr, 1) := by decide +kernel
theorem d_M_put_24 : decode b_M_put 24 = .ok (.ldc2_w 131, 3) := by decide +kernel
theorem d_M_put_27 : decode b_M_put 27 = .ok (.land, 1) := by decide +kernel
theorem d_M_put_28 : decode b_M_put 28 = .ok (.l2i, 1) := by decide +kernel
theorem d_M_put_29 : decode b_M_put 29 = .ok (.iastore, 1) := by decide +kernel
theorem d_M_put_30 : decode b_M_put 30 = .ok (.aload_n 0, 1) := by decide +kernel
theorem d_M_put_31 : decode b_M_put 31 = .ok (.dup, 1) := by decide +kernel
theorem d_M_put_32 : decode b_M_put 32 = .ok (.getfield 128, 3) := by decide +kernel
theorem d_M_put_35 : decode b_M_put 35 = .ok (.iconst 1, 1) := by decide +kernel
theorem d_M_put_36 : decode b_M_put 36 = .ok (.iadd, 1) := by decide +kernel
theorem d_M_put_37 : decode b_M_put 37 = .ok (.putfield 128, 3) := by decide +kernel
theorem d_M_put_40 : decode b_M_put 40 = .ok (.iinc 4 1, 3) := by decide +kernel
theorem d_M_put_43 : decode b_M_put 43 = .ok (.goto (-40), 3) := by decide +kernel
theorem d_M_put_46 : decode b_M_put 46 = .ok (.return_, 1) := by decide +kernel
abbrev rm_M_put : Room := { frames := 0, cells := 0, slots := 0, locals := 0 }
set_option maxRecDepth 100000 in
set_option maxHeartbeats 4000000 in
theorem k_M_put_3 {p : Program} {l : Launch} {e : Env} {s : State} {m : MethodId} {args : Array Value} {below : List Frame} {meth : Method} {c : Code} {t : TY} {a0 : Nat} {K : GS → Prop} (X : kX p s m args meth c b_M_put 5 "TreeServerModel" t) (hret : meth.sig.returnType = none) : ∀ (n : Nat) (l1 : Int64) (l3 : Int32) (l4 : Int32) (G : GS), w_M_put_3 t a0 K n l1 l3 l4 G → kW p l e rm_M_put s m args below meth c (MQ below (va_Qv (fun u : GS => K u) (fun u T => HB t u T.heap) (tA t)) args s 0 0 (tA t)) 5 t false 3 [(0, va_rf (some a0)), (1, .long l1), (3, .int l3), (4, .int l4)] [] G := by
  intro n
  induction n with
  | zero => intro l1 l3 l4 G hwp; exact hwp.elim
  | succ n hr_3 =>
    intro l1 l3 l4 G hwp
    unfold w_M_put_3 at hwp
    dsimp only at hwp
    refine kw_iload (pc := 3) X d_M_put_3 3 rfl ?_
    refine kw_iload_n (pc := 5) X d_M_put_5 rfl 2 rfl ?_
    refine kw_icmp_ge (tgt := 46) (pc := 6) X d_M_put_6 (by decide) (fun h => ?_) (fun h => ?_)
    · have hwp := ite_t h hwp
      exact kr_v (pc := 46) X hret d_M_put_46 hwp
    · have hwp := ite_f h hwp
      refine kw_aload_n (pc := 9) X d_M_put_9 rfl 0 rfl ?_
      obtain ⟨f1, hwp⟩ := hwp
      refine kg_96 (a := a0) (pc := 10) X d_M_put_10 x_1016 rfl f1 ?_
      refine kw_aload_n (pc := 13) X d_M_put_13 rfl 0 rfl ?_
      refine kg_97 (a := a0) (pc := 14) X d_M_put_14 x_1017 rfl f1 ?_
      refine kw_lload_n (pc := 17) X d_M_put_17 rfl 1 rfl ?_
      refine kw_bipush (v := 8) (pc := 18) X d_M_put_18 (by decide) ?_
      refine kw_iload (pc := 20) X d_M_put_20 3 rfl ?_
      refine kw_imul (pc := 22) X d_M_put_22 ?_
      refine kw_lshr (pc := 23) X d_M_put_23 ?_
      refine kw_ldc2 (v := 255) (pc := 24) X d_M_put_24 x_1090 ?_
      refine kw_land (pc := 27) X d_M_put_27 ?_
      refine kw_l2i (pc := 28) X d_M_put_28 ?_
      obtain ⟨a2, h_a2, hwp⟩ := hwp
      obtain ⟨f3, hwp⟩ := hwp
      obtain ⟨f4, hwp⟩ := hwp
      refine ka_iast (a := a2) (pc := 29) X rfl d_M_put_29 h_a2 f3 f4 ?_
      obtain ⟨G5, e_G5⟩ : ∃ g, g = ais G a2 (gi G 97 a0).toNatClampNeg (((l1 >>> (((8 : Int32) * l4).toInt64 &&& 63)) &&& (255 : Int64)).toInt32) := ⟨_, rfl⟩
      have hwp := hwp G5 e_G5
      refine kW.g e_G5.symm ?_
      refine kw_aload_n (pc := 30) X d_M_put_30 rfl 0 rfl ?_
      refine kw_dup (pc := 31) X d_M_put_31 rfl ?_
      refine kg_97 (a := a0) (pc := 32) X d_M_put_32 x_1017 rfl f1 ?_
      refine kw_iconst (v := 1) (pc := 35) X d_M_put_35 (by decide) ?_
      refine kw_iadd (pc := 36) X d_M_put_36 ?_
      refine kp_97 (a := a0) (x := ((gi G5 97 a0) + (1 : Int32))) (pc := 37) X rfl d_M_put_37 x_1017 rfl f1 ?_
      obtain ⟨G6, e_G6⟩ : ∃ g, g = si G5 97 a0 ((gi G5 97 a0) + (1 : Int32)) := ⟨_, rfl⟩
      have hwp := hwp G6 e_G6
      refine kW.g e_G6.symm ?_
      obtain ⟨v7, e_v7⟩ : ∃ z, z = (l4 + (1 : Int32)) := ⟨_, rfl⟩
      have hwp := hwp v7 e_v7
      refine kw_iinc (v := v7) (lv' := [(4, .int v7), (0, va_rf (some a0)), (1, .long l1), (3, .int l3)]) (pc := 40) X d_M_put_40 3 rfl (by rw [e_v7]; rfl) (by decide) rfl ?_
      refine kw_goto (tgt := 3) (pc := 43) X d_M_put_43 (by decide) ?_
      exact kW.sub [1, 2, 3, 0] rfl (hr_3 _ _ _ _ hwp)
set_option maxRecDepth 100000 in
set_option maxHeartbeats 4000000 in
theorem k_M_put {p : Program} {l : Launch} {e : Env} {s : State} {m : MethodId} {args : Array Value} {below : List Frame} {meth : Method} {c : Code} {t : TY} {a0 : Nat} {K : GS → Prop} (X : kX p s m args meth c b_M_put 5 "TreeServerModel" t) (hret : meth.sig.returnType = none) (G : GS) (p1 : Int64) (p3 : Int32) (hwp : w_M_put t G a0 p1 p3 K) : kW p l e rm_M_put s m args below meth c (MQ below (va_Qv (fun u : GS => K u) (fun u T => HB t u T.heap) (tA t)) args s 0 0 (tA t)) 5 t false 0 [(0, va_rf (some a0)), (1, .long p1), (3, .int p3)] [] G := by
  unfold w_M_put at hwp
  refine kw_iconst (v := 0) (pc := 0) X d_M_put_0 (by decide) ?_
  refine kw_istore (i := 4) (lv' := [(4, .int (0 : Int32)), (0, va_rf (some a0)), (1, .long p1), (3, .int p3)]) (pc := 1) X d_M_put_1 (by decide) rfl ?_
  obtain ⟨n, hwp⟩ := hwp
  exact kW.sub [1, 2, 3, 0] rfl (k_M_put_3 X hret  n _ _ _ _ hwp)
set_option maxRecDepth 100000 in
set_option maxHeartbeats 4000000 in
theorem c_M_put (l : Launch) (t : TY) (G : GS) (a0 : Nat) (p1 : Int64) (p3 : Int32) (K : GS → Prop) : Met l y_M_put (Cond.code y_M_put b_M_put 5 (Option.none : Option Jvm.ClassFile.FieldType) :: GW) rm_M_put (va_Pc [.ref a0, .long p1, .int p3] (fun U => HB t G U.heap ∧ HK t U ∧ w_M_put t G a0 p1 p3 K)) (va_Qv (fun u : GS => K u) (fun u T => HB t u T.heap) (tA t)) 0 0 (tA t) := by
  refine Met.ofW (cc := b_M_put) (maxL := 5) (ret := none) (by decide) rfl ?_
  intro p e s m args below meth c s₁ B hml hv
  obtain ⟨rfl, hB, hK, hwp⟩ := hv
  have hts := atoms_spec (ws := Cond.code y_M_put b_M_put 5 (Option.none : Option Jvm.ClassFile.FieldType) :: GW) B.pre
  have X : kX p s m _ meth c b_M_put 5 "TreeServerModel" t := ⟨B.exec, B.bytes, hml, findClass_of_methodNamed B.named, fun w h => hts w (List.mem_cons_of_mem _ h), B.notSynchronized, hK⟩
  have hZ : kZ t false s G s.heap [] := ⟨hB, va_S.rf, fun _ => ⟨rfl, rfl⟩⟩
  rw [lg_entry_eq]
  have hl := lv_entry ([.ref a0, .long p1, .int p3]) (n := 5) (by simp [lg_sl, rf_cat, cat_i, cat_l, cat_r])
  exact k_M_put X B.returns _ _ _ hwp s.heap [] _ hl hZ
abbrev b_M_lengthOf : ByteArray := prog_13_method_20_code
def y_M_lengthOf : MethodName := ⟨"TreeServerModel", "lengthOf", "(J)I"⟩
theorem d_M_lengthOf_0 : decode b_M_lengthOf 0 = .ok (.iconst 0, 1) := by decide +kernel
theorem d_M_lengthOf_1 : decode b_M_lengthOf 1 = .ok (.istore_n 2, 1) := by decide +kernel
theorem d_M_lengthOf_2 : decode b_M_lengthOf 2 = .ok (.lload_n 0, 1) := by decide +kernel
theorem d_M_lengthOf_3 : decode b_M_lengthOf 3 = .ok (.lstore_n 3, 1) := by decide +kernel
theorem d_M_lengthOf_4 : decode b_M_lengthOf 4 = .ok (.lload_n 3, 1) := by decide +kernel
theorem d_M_lengthOf_5 : decode b_M_lengthOf 5 = .ok (.lconst 0, 1) := by decide +kernel
theorem d_M_lengthOf_6 : decode b_M_lengthOf 6 = .ok (.lcmp, 1) := by decide +kernel
theorem d_M_lengthOf_7 : decode b_M_lengthOf 7 = .ok (.ifCond .eq 14, 3) := by decide +kernel
theorem d_M_lengthOf_10 : decode b_M_lengthOf 10 = .ok (.iinc 2 1, 3) := by decide +kernel
theorem d_M_lengthOf_13 : decode b_M_lengthOf 13 = .ok (.lload_n 3, 1) := by decide +kernel
theorem d_M_lengthOf_14 : decode b_M_lengthOf 14 = .ok (.bipush 8, 2) := by decide +kernel
theorem d_M_lengthOf_16 : decode b_M_lengthOf 16 = .ok (.lushr, 1) := by decide +kernel
theorem d_M_lengthOf_17 : decode b_M_lengthOf 17 = .ok (.lstore_n 3, 1) := by decide +kernel
theorem d_M_lengthOf_18 : decode b_M_lengthOf 18 = .ok (.goto (-14), 3) := by decide +kernel
theorem d_M_lengthOf_21 : decode b_M_lengthOf 21 = .ok (.iload_n 2, 1) := by decide +kernel
theorem d_M_lengthOf_22 : decode b_M_lengthOf 22 = .ok (.ireturn, 1) := by decide +kernel
abbrev rm_M_lengthOf : Room := { frames := 0, cells := 0, slots := 0, locals := 0 }
set_option maxRecDepth 100000 in
set_option maxHeartbeats 4000000 in
theorem k_M_lengthOf_4 {p : Program} {l : Launch} {e : Env} {s : State} {m : MethodId} {args : Array Value} {below : List Frame} {meth : Method} {c : Code} {t : TY} {G : GS} {K : Int32 → Prop} (X : kX p s m args meth c b_M_lengthOf 5 "TreeServerModel" t) (hret : meth.sig.returnType = some .int) : ∀ (n : Nat) (l2 : Int32) (l3 : Int64), w_M_lengthOf_4 t G K n l2 l3 → kW p l e rm_M_lengthOf s m args below meth c (MQ below (vp_Si K) args s 0 0 (fun _ => False)) 5 t true 4 [(2, .int l2), (3, .long l3)] [] G := by
  intro n
  induction n with
  | zero => intro l2 l3 hwp; exact hwp.elim
  | succ n hr_4 =>
    intro l2 l3 hwp
    unfold w_M_lengthOf_4 at hwp
    dsimp only at hwp
    refine kw_lload_n (pc := 4) X d_M_lengthOf_4 rfl 1 rfl ?_
    refine kw_lconst (v := 0) (pc := 5) X d_M_lengthOf_5 (by decide) ?_
    refine kw_lcmp_eq (tgt := 21) (pc := 6) X d_M_lengthOf_6 d_M_lengthOf_7 (by decide) (fun h => ?_) (fun h => ?_)
    · have hwp := ite_t h hwp
      refine kw_iload_n (pc := 21) X d_M_lengthOf_21 rfl 0 rfl ?_
      exact krp_i (pc := 22) X hret d_M_lengthOf_22 hwp
    · have hwp := ite_f h hwp
      obtain ⟨v1, e_v1⟩ : ∃ z, z = (l2 + (1 : Int32)) := ⟨_, rfl⟩
      have hwp := hwp v1 e_v1
      refine kw_iinc (v := v1) (lv' := [(2, .int v1), (3, .long l3)]) (pc := 10) X d_M_lengthOf_10 0 rfl (by rw [e_v1]; rfl) (by decide) rfl ?_
      refine kw_lload_n (pc := 13) X d_M_lengthOf_13 rfl 1 rfl ?_
      refine kw_bipush (v := 8) (pc := 14) X d_M_lengthOf_14 (by decide) ?_
      refine kw_lushr (pc := 16) X d_M_lengthOf_16 ?_
      obtain ⟨v2, e_v2⟩ : ∃ z, z = (l3.toUInt64 >>> ((8 : Int32).toInt64.toUInt64 &&& Int64.toUInt64 63)).toInt64 := ⟨_, rfl⟩
      have hwp := hwp v2 e_v2
      refine kW.st (st' := .long v2 :: _) (by rw [e_v2]) ?_
      refine kw_lstore_n (i := 3) (lv' := [(3, .long v2), (2, .int v1)]) (pc := 17) X d_M_lengthOf_17 rfl (by decide) rfl ?_
      refine kw_goto (tgt := 4) (pc := 18) X d_M_lengthOf_18 (by decide) ?_
      exact kW.sub [1, 0] rfl (hr_4 _ _ hwp)
set_option maxRecDepth 100000 in
set_option maxHeartbeats 4000000 in
theorem k_M_lengthOf {p : Program} {l : Launch} {e : Env} {s : State} {m : MethodId} {args : Array Value} {below : List Frame} {meth : Method} {c : Code} {t : TY} {G : GS} {K : Int32 → Prop} (X : kX p s m args meth c b_M_lengthOf 5 "TreeServerModel" t) (hret : meth.sig.returnType = some .int) (p0 : Int64) (hwp : w_M_lengthOf t G p0 K) : kW p l e rm_M_lengthOf s m args below meth c (MQ below (vp_Si K) args s 0 0 (fun _ => False)) 5 t true 0 [(0, .long p0)] [] G := by
  unfold w_M_lengthOf at hwp
  refine kw_iconst (v := 0) (pc := 0) X d_M_lengthOf_0 (by decide) ?_
  refine kw_istore_n (i := 2) (lv' := [(2, .int (0 : Int32)), (0, .long p0)]) (pc := 1) X d_M_lengthOf_1 rfl (by decide) rfl ?_
  refine kw_lload_n (pc := 2) X d_M_lengthOf_2 rfl 1 rfl ?_
  refine kw_lstore_n (i := 3) (lv' := [(3, .long p0), (2, .int (0 : Int32)), (0, .long p0)]) (pc := 3) X d_M_lengthOf_3 rfl (by decide) rfl ?_
  obtain ⟨n, hwp⟩ := hwp
  exact kW.sub [1, 0] rfl (k_M_lengthOf_4 X hret  n _ _ hwp)
set_option maxRecDepth 100000 in
set_option maxHeartbeats 4000000 in
theorem c_M_lengthOf (l : Launch) (t : TY) (G : GS) (p0 : Int64) (K : Int32 → Prop) : Met l y_M_lengthOf (Cond.code y_M_lengthOf b_M_lengthOf 5 (Option.some Jvm.ClassFile.FieldType.int) :: GW) rm_M_lengthOf (va_Pc [.long p0] (fun U => HB t G U.heap ∧ HK t U ∧ w_M_lengthOf t G p0 K)) (vp_Si K) 0 0 (fun _ => False) := by
  refine Met.ofW (cc := b_M_lengthOf) (maxL := 5) (ret := some .int) (by decide) rfl ?_
  intro p e s m args below meth c s₁ B hml hv
  obtain ⟨rfl, hB, hK, hwp⟩ := hv
  have hts := atoms_spec (ws := Cond.code y_M_lengthOf b_M_lengthOf 5 (Option.some Jvm.ClassFile.FieldType.int) :: GW) B.pre
  have X : kX p s m _ meth c b_M_lengthOf 5 "TreeServerModel" t := ⟨B.exec, B.bytes, hml, findClass_of_methodNamed B.named, fun w h => hts w (List.mem_cons_of_mem _ h), B.notSynchronized, hK⟩
  have hZ : kZ t true s G s.heap [] := ⟨hB, va_S.rf, fun _ => ⟨rfl, rfl⟩⟩
  rw [lg_entry_eq]
  have hl := lv_entry ([.long p0]) (n := 5) (by simp [lg_sl, rf_cat, cat_i, cat_l, cat_r])
  exact k_M_lengthOf X B.returns _ hwp s.heap [] _ hl hZ
abbrev b_M_say : ByteArray := prog_13_method_21_code
def y_M_say : MethodName := ⟨"TreeServerModel", "say", "(J)V"⟩
theorem d_M_say_0 : decode b_M_say 0 = .ok (.lload_n 1, 1) := by decide +kernel
theorem d_M_say_1 : decode b_M_say 1 = .ok (.invokestatic 133, 3) := by decide +kernel
theorem d_M_say_4 : decode b_M_say 4 = .ok (.istore_n 3, 1) := by decide +kernel
theorem d_M_say_5 : decode b_M_say 5 = .ok (.aload_n 0, 1) := by decide +kernel
theorem d_M_say_6 : decode b_M_say 6 = .ok (.iload_n 3, 1) := by decide +kernel
theorem d_M_say_7 : decode b_M_say 7 = .ok (.i2l, 1) := by decide +kernel
theorem d_M_say_8 : decode b_M_say 8 = .ok (.iconst 2, 1) := by decide +kernel
theorem d_M_say_9 : decode b_M_say 9 = .ok (.invokevirtual 137, 3) := by decide +kernel
theorem d_M_say_12 : decode b_M_say 12 = .ok (.aload_n 0, 1) := by decide +kernel
theorem d_M_say_13 : decode b_M_say 13 = .ok (.lload_n 1, 1) := by decide +kernel
theorem d_M_say_14 : decode b_M_say 14 = .ok (.iload_n 3, 1) := by decide +kernel
theorem d_M_say_15 : decode b_M_say 15 = .ok (.invokevirtual 137, 3) := by decide +kernel
theorem d_M_say_18 : decode b_M_say 18 = .ok (.return_, 1) := by decide +kernel
abbrev rm_M_say : Room := { frames := 1, cells := 0, slots := 0, locals := 24 }
set_option maxRecDepth 100000 in
set_option maxHeartbeats 4000000 in
theorem k_M_say {p : Program} {l : Launch} {e : Env} {s : State} {m : MethodId} {args : Array Value} {below : List Frame} {meth : Method} {c : Code} {t : TY} {a0 : Nat} {K : GS → Prop} (X : kX p s m args meth c b_M_say 4 "TreeServerModel" t) (hret : meth.sig.returnType = none) (G : GS) (p1 : Int64) (hwp : w_M_say t G a0 p1 K) : kW p l e rm_M_say s m args below meth c (MQ below (va_Qv (fun u : GS => K u) (fun u T => HB t u T.heap) (tA t)) args s 0 0 (tA t)) 4 t false 0 [(0, va_rf (some a0)), (1, .long p1)] [] G := by
  unfold w_M_say at hwp
  refine kw_lload_n (pc := 0) X d_M_say_0 rfl 1 rfl ?_
  refine kcSp_i (n := 1) (As := [.long p1]) (rest := []) (pc := 1) X (c_M_lengthOf l t G p1 _) (cwS_of X x_1207 x_1205 x_1206 x_13 (by decide +kernel) ⟨rfl, rfl⟩ (by decide)) rfl rfl (by decide) d_M_say_1 hwp (fun v1 hwp => ?_)
  refine kw_istore_n (i := 3) (lv' := [(3, .int v1), (0, va_rf (some a0)), (1, .long p1)]) (pc := 4) X d_M_say_4 rfl (by decide) rfl ?_
  refine kw_aload_n (pc := 5) X d_M_say_5 rfl 1 rfl ?_
  refine kw_iload_n (pc := 6) X d_M_say_6 rfl 0 rfl ?_
  refine kw_i2l (pc := 7) X d_M_say_7 ?_
  refine kw_iconst (v := 2) (pc := 8) X d_M_say_8 (by decide) ?_
  obtain ⟨f2, hwp⟩ := hwp
  refine kcV_v (n := 2) (As := [.long v1.toInt64, .int (2 : Int32)]) (rest := []) (pc := 9) X rfl (c_M_put l t G a0 v1.toInt64 (2 : Int32) _) (cwV_of (C := "TreeServerModel") X x_1199 x_1196 x_1198 xp_60 x_13 (by decide +kernel) ⟨rfl, rfl⟩ (by decide)) (rv_10 X f2) rfl rfl (by decide) d_M_say_9 hwp (fun G3 hwp => ?_)
  refine kw_aload_n (pc := 12) X d_M_say_12 rfl 1 rfl ?_
  refine kw_lload_n (pc := 13) X d_M_say_13 rfl 2 rfl ?_
  refine kw_iload_n (pc := 14) X d_M_say_14 rfl 0 rfl ?_
  refine kcV_v (n := 2) (As := [.long p1, .int v1]) (rest := []) (pc := 15) X rfl (c_M_put l t G3 a0 p1 v1 _) (cwV_of (C := "TreeServerModel") X x_1199 x_1196 x_1198 xp_60 x_13 (by decide +kernel) ⟨rfl, rfl⟩ (by decide)) (rv_10 X f2) rfl rfl (by decide) d_M_say_15 hwp (fun G4 hwp => ?_)
  exact kr_v (pc := 18) X hret d_M_say_18 hwp
set_option maxRecDepth 100000 in
set_option maxHeartbeats 4000000 in
theorem c_M_say (l : Launch) (t : TY) (G : GS) (a0 : Nat) (p1 : Int64) (K : GS → Prop) : Met l y_M_say (Cond.code y_M_say b_M_say 4 (Option.none : Option Jvm.ClassFile.FieldType) :: GW) rm_M_say (va_Pc [.ref a0, .long p1] (fun U => HB t G U.heap ∧ HK t U ∧ w_M_say t G a0 p1 K)) (va_Qv (fun u : GS => K u) (fun u T => HB t u T.heap) (tA t)) 0 0 (tA t) := by
  refine Met.ofW (cc := b_M_say) (maxL := 4) (ret := none) (by decide) rfl ?_
  intro p e s m args below meth c s₁ B hml hv
  obtain ⟨rfl, hB, hK, hwp⟩ := hv
  have hts := atoms_spec (ws := Cond.code y_M_say b_M_say 4 (Option.none : Option Jvm.ClassFile.FieldType) :: GW) B.pre
  have X : kX p s m _ meth c b_M_say 4 "TreeServerModel" t := ⟨B.exec, B.bytes, hml, findClass_of_methodNamed B.named, fun w h => hts w (List.mem_cons_of_mem _ h), B.notSynchronized, hK⟩
  have hZ : kZ t false s G s.heap [] := ⟨hB, va_S.rf, fun _ => ⟨rfl, rfl⟩⟩
  rw [lg_entry_eq]
  have hl := lv_entry ([.ref a0, .long p1]) (n := 4) (by simp [lg_sl, rf_cat, cat_i, cat_l, cat_r])
  exact k_M_say X B.returns _ _ hwp s.heap [] _ hl hZ
abbrev b_M_nameOf : ByteArray := prog_13_method_22_code
def y_M_nameOf : MethodName := ⟨"TreeServerModel", "nameOf", "(I)J"⟩
theorem d_M_nameOf_0 : decode b_M_nameOf 0 = .ok (.iload_n 0, 1) := by decide +kernel
theorem d_M_nameOf_1 : decode b_M_nameOf 1 = .ok (.ifCond .ne 9, 3) := by decide +kernel
theorem d_M_nameOf_4 : decode b_M_nameOf 4 = .ok (.ldc2_w 141, 3) := by decide +kernel
theorem d_M_nameOf_7 : decode b_M_nameOf 7 = .ok (.goto 17, 3) := by decide +kernel
theorem d_M_nameOf_10 : decode b_M_nameOf 10 = .ok (.iload_n 0, 1) := by decide +kernel
theorem d_M_nameOf_11 : decode b_M_nameOf 11 = .ok (.iconst 1, 1) := by decide +kernel
theorem d_M_nameOf_12 : decode b_M_nameOf 12 = .ok (.if_icmp .ne 9, 3) := by decide +kernel
theorem d_M_nameOf_15 : decode b_M_nameOf 15 = .ok (.ldc2_w 143, 3) := by decide +kernel
theorem d_M_nameOf_18 : decode b_M_nameOf 18 = .ok (.goto 6, 3) := by decide +kernel
theorem d_M_nameOf_21 : decode b_M_nameOf 21 = .ok (.ldc2_w 145, 3) := by decide +kernel
theorem d_M_nameOf_24 : decode b_M_nameOf 24 = .ok (.lreturn, 1) := by decide +kernel
abbrev rm_M_nameOf : Room := { frames := 0, cells := 0, slots := 0, locals := 0 }
set_option maxRecDepth 100000 in
set_option maxHeartbeats 4000000 in
theorem k_M_nameOf {p : Program} {l : Launch} {e : Env} {s : State} {m : MethodId} {args : Array Value} {below : List Frame} {meth : Method} {c : Code} {t : TY} {G : GS} {K : Int64 → Prop} (X : kX p s m args meth c b_M_nameOf 1 "TreeServerModel" t) (hret : meth.sig.returnType = some .long) (p0 : Int32) (hwp : w_M_nameOf t G p0 K) : kW p l e rm_M_nameOf s m args below meth c (MQ below (vp_Sl K) args s 0 0 (fun _ => False)) 1 t true 0 [(0, .int p0)] [] G := by
  unfold w_M_nameOf at hwp
  refine kw_iload_n (pc := 0) X d_M_nameOf_0 rfl 0 rfl ?_
  refine kw_if_ne (tgt := 10) (pc := 1) X d_M_nameOf_1 (by decide) (fun h => ?_) (fun h => ?_)
  · have hwp := ite_t h hwp
    refine kw_iload_n (pc := 10) X d_M_nameOf_10 rfl 0 rfl ?_
    refine kw_iconst (v := 1) (pc := 11) X d_M_nameOf_11 (by decide) ?_
    refine kw_icmp_ne (tgt := 21) (pc := 12) X d_M_nameOf_12 (by decide) (fun h => ?_) (fun h => ?_)
    · have hwp := ite_t h hwp
      refine kw_ldc2 (v := 31075) (pc := 21) X d_M_nameOf_21 x_1219 ?_
      exact krp_l (pc := 24) X hret d_M_nameOf_24 hwp
    · have hwp := ite_f (not_not_intro h) hwp
      refine kw_ldc2 (v := 6451042) (pc := 15) X d_M_nameOf_15 x_1218 ?_
      refine kw_goto (tgt := 24) (pc := 18) X d_M_nameOf_18 (by decide) ?_
      exact krp_l (pc := 24) X hret d_M_nameOf_24 hwp
  · have hwp := ite_f (not_not_intro h) hwp
    refine kw_ldc2 (v := 7237217) (pc := 4) X d_M_nameOf_4 x_1217 ?_
    refine kw_goto (tgt := 24) (pc := 7) X d_M_nameOf_7 (by decide) ?_
    exact krp_l (pc := 24) X hret d_M_nameOf_24 hwp
set_option maxRecDepth 100000 in
set_option maxHeartbeats 4000000 in
theorem c_M_nameOf (l : Launch) (t : TY) (G : GS) (p0 : Int32) (K : Int64 → Prop) : Met l y_M_nameOf (Cond.code y_M_nameOf b_M_nameOf 1 (Option.some Jvm.ClassFile.FieldType.long) :: GW) rm_M_nameOf (va_Pc [.int p0] (fun U => HB t G U.heap ∧ HK t U ∧ w_M_nameOf t G p0 K)) (vp_Sl K) 0 0 (fun _ => False) := by
  refine Met.ofW (cc := b_M_nameOf) (maxL := 1) (ret := some .long) (by decide) rfl ?_
  intro p e s m args below meth c s₁ B hml hv
  obtain ⟨rfl, hB, hK, hwp⟩ := hv
  have hts := atoms_spec (ws := Cond.code y_M_nameOf b_M_nameOf 1 (Option.some Jvm.ClassFile.FieldType.long) :: GW) B.pre
  have X : kX p s m _ meth c b_M_nameOf 1 "TreeServerModel" t := ⟨B.exec, B.bytes, hml, findClass_of_methodNamed B.named, fun w h => hts w (List.mem_cons_of_mem _ h), B.notSynchronized, hK⟩
  have hZ : kZ t true s G s.heap [] := ⟨hB, va_S.rf, fun _ => ⟨rfl, rfl⟩⟩
  rw [lg_entry_eq]
  have hl := lv_entry ([.int p0]) (n := 1) (by simp [lg_sl, rf_cat, cat_i, cat_l, cat_r])
  exact k_M_nameOf X B.returns _ hwp s.heap [] _ hl hZ
abbrev b_M_userAt : ByteArray := prog_13_method_23_code
def y_M_userAt : MethodName := ⟨"TreeServerModel", "userAt", "(I)I"⟩
theorem d_M_userAt_0 : decode b_M_userAt 0 = .ok (.aload_n 0, 1) := by decide +kernel
theorem d_M_userAt_1 : decode b_M_userAt 1 = .ok (.iload_n 1, 1) := by decide +kernel
theorem d_M_userAt_2 : decode b_M_userAt 2 = .ok (.iconst 2, 1) := by decide +kernel
theorem d_M_userAt_3 : decode b_M_userAt 3 = .ok (.invokevirtual 85, 3) := by decide +kernel
theorem d_M_userAt_6 : decode b_M_userAt 6 = .ok (.l2i, 1) := by decide +kernel
theorem d_M_userAt_7 : decode b_M_userAt 7 = .ok (.istore_n 2, 1) := by decide +kernel
theorem d_M_userAt_8 : decode b_M_userAt 8 = .ok (.iload_n 2, 1) := by decide +kernel
theorem d_M_userAt_9 : decode b_M_userAt 9 = .ok (.iconst 1, 1) := by decide +kernel
theorem d_M_userAt_10 : decode b_M_userAt 10 = .ok (.if_icmp .lt 8, 3) := by decide +kernel
theorem d_M_userAt_13 : decode b_M_userAt 13 = .ok (.iload_n 2, 1) := by decide +kernel
theorem d_M_userAt_14 : decode b_M_userAt 14 = .ok (.iconst 3, 1) := by decide +kernel
theorem d_M_userAt_15 : decode b_M_userAt 15 = .ok (.if_icmp .le 7, 3) := by decide +kernel
theorem d_M_userAt_18 : decode b_M_userAt 18 = .ok (.lconst 0, 1) := by decide +kernel
theorem d_M_userAt_19 : decode b_M_userAt 19 = .ok (.goto 11, 3) := by decide +kernel
theorem d_M_userAt_22 : decode b_M_userAt 22 = .ok (.aload_n 0, 1) := by decide +kernel
theorem d_M_userAt_23 : decode b_M_userAt 23 = .ok (.iload_n 1, 1) := by decide +kernel
theorem d_M_userAt_24 : decode b_M_userAt 24 = .ok (.iconst 2, 1) := by decide +kernel
theorem d_M_userAt_25 : decode b_M_userAt 25 = .ok (.iadd, 1) := by decide +kernel
theorem d_M_userAt_26 : decode b_M_userAt 26 = .ok (.iload_n 2, 1) := by decide +kernel
theorem d_M_userAt_27 : decode b_M_userAt 27 = .ok (.invokevirtual 85, 3) := by decide +kernel
theorem d_M_userAt_30 : decode b_M_userAt 30 = .ok (.lstore_n 3, 1) := by decide +kernel
theorem d_M_userAt_31 : decode b_M_userAt 31 = .ok (.lload_n 3, 1) := by decide +kernel
theorem d_M_userAt_32 : decode b_M_userAt 32 = .ok (.ldc2_w 141, 3) := by decide +kernel
theorem d_M_userAt_35 : decode b_M_userAt 35 = .ok (.lcmp, 1) := by decide +kernel
theorem d_M_userAt_36 : decode b_M_userAt 36 = .ok (.ifCond .ne 12, 3) := by decide +kernel
theorem d_M_userAt_39 : decode b_M_userAt 39 = .ok (.iload_n 2, 1) := by decide +kernel
theorem d_M_userAt_40 : decode b_M_userAt 40 = .ok (.iconst 3, 1) := by decide +kernel
theorem d_M_userAt_41 : decode b_M_userAt 41 = .ok (.if_icmp .ne 7, 3) := by decide +kernel
theorem d_M_userAt_44 : decode b_M_userAt 44 = .ok (.iconst 0, 1) := by decide +kernel
theorem d_M_userAt_45 : decode b_M_userAt 45 = .ok (.goto 38, 3) := by decide +kernel
theorem d_M_userAt_48 : decode b_M_userAt 48 = .ok (.lload_n 3, 1) := by decide +kernel
theorem d_M_userAt_49 : decode b_M_userAt 49 = .ok (.ldc2_w 143, 3) := by decide +kernel
theorem d_M_userAt_52 : decode b_M_userAt 52 = .ok (.lcmp, 1) := by decide +kernel
theorem d_M_userAt_53 : decode b_M_userAt 53 = .ok (.ifCond .ne 12, 3) := by decide +kernel
theorem d_M_userAt_56 : decode b_M_userAt 56 = .ok (.iload_n 2, 1) := by decide +kernel
theorem d_M_userAt_57 : decode b_M_userAt 57 = .ok (.iconst 3, 1) := by decide +kernel
theorem d_M_userAt_58 : decode b_M_userAt 58 = .ok (.if_icmp .ne 7, 3) := by decide +kernel
theorem d_M_userAt_61 : decode b_M_userAt 61 = .ok (.iconst 1, 1) := by decide +kernel
theorem d_M_userAt_62 : decode b_M_userAt 62 = .ok (.goto 21, 3) := by decide +kernel
theorem d_M_userAt_65 : decode b_M_userAt 65 = .ok (.lload_n 3, 1) := by decide +kernel
theorem d_M_userAt_66 : decode b_M_userAt 66 = .ok (.ldc2_w 145, 3) := by decide +kernel
theorem d_M_userAt_69 : decode b_M_userAt 69 = .ok (.lcmp, 1) := by decide +kernel
theorem d_M_userAt_70 : decode b_M_userAt 70 = .ok (.ifCond .ne 12, 3) := by decide +kernel
theorem d_M_userAt_73 : decode b_M_userAt 73 = .ok (.iload_n 2, 1) := by decide +kernel
theorem d_M_userAt_74 : decode b_M_userAt 74 = .ok (.iconst 2, 1) := by decide +kernel
theorem d_M_userAt_75 : decode b_M_userAt 75 = .ok (.if_icmp .ne 7, 3) := by decide +kernel
theorem d_M_userAt_78 : decode b_M_userAt 78 = .ok (.iconst 2, 1) := by decide +kernel
theorem d_M_userAt_79 : decode b_M_userAt 79 = .ok (.goto 4, 3) := by decide +kernel
theorem d_M_userAt_82 : decode b_M_userAt 82 = .ok (.iconst (-1), 1) := by decide +kernel
theorem d_M_userAt_83 : decode b_M_userAt 83 = .ok (.ireturn, 1) := by decide +kernel
abbrev rm_M_userAt : Room := { frames := 1, cells := 0, slots := 0, locals := 25 }
set_option maxRecDepth 100000 in
set_option maxHeartbeats 4000000 in
theorem k_M_userAt_65 {p : Program} {l : Launch} {e : Env} {s : State} {m : MethodId} {args : Array Value} {below : List Frame} {meth : Method} {c : Code} {t : TY} {a0 : Nat} {G : GS} {K : Int32 → Prop} (X : kX p s m args meth c b_M_userAt 5 "TreeServerModel" t) (hret : meth.sig.returnType = some .int) (l2 : Int32) (l3 : Int64) (hwp : w_M_userAt_65 t G a0 K l2 l3) : kW p l e rm_M_userAt s m args below meth c (MQ below (vp_Si K) args s 0 0 (fun _ => False)) 5 t true 65 [(0, va_rf (some a0)), (2, .int l2), (3, .long l3)] [] G := by
  unfold w_M_userAt_65 at hwp
  refine kw_lload_n (pc := 65) X d_M_userAt_65 rfl 2 rfl ?_
  refine kw_ldc2 (v := 31075) (pc := 66) X d_M_userAt_66 x_1219 ?_
  refine kw_lcmp_ne (tgt := 82) (pc := 69) X d_M_userAt_69 d_M_userAt_70 (by decide) (fun h => ?_) (fun h => ?_)
  · have hwp := ite_t h hwp
    refine kw_iconst (v := -1) (pc := 82) X d_M_userAt_82 (by decide) ?_
    exact krp_i (pc := 83) X hret d_M_userAt_83 hwp
  · have hwp := ite_f (not_not_intro h) hwp
    refine kw_iload_n (pc := 73) X d_M_userAt_73 rfl 1 rfl ?_
    refine kw_iconst (v := 2) (pc := 74) X d_M_userAt_74 (by decide) ?_
    refine kw_icmp_ne (tgt := 82) (pc := 75) X d_M_userAt_75 (by decide) (fun h => ?_) (fun h => ?_)
    · have hwp := ite_t h hwp
      refine kw_iconst (v := -1) (pc := 82) X d_M_userAt_82 (by decide) ?_
      exact krp_i (pc := 83) X hret d_M_userAt_83 hwp
    · have hwp := ite_f (not_not_intro h) hwp
      refine kw_iconst (v := 2) (pc := 78) X d_M_userAt_78 (by decide) ?_
      refine kw_goto (tgt := 83) (pc := 79) X d_M_userAt_79 (by decide) ?_
      exact krp_i (pc := 83) X hret d_M_userAt_83 hwp
set_option maxRecDepth 100000 in
set_option maxHeartbeats 4000000 in
theorem k_M_userAt_48 {p : Program} {l : Launch} {e : Env} {s : State} {m : MethodId} {args : Array Value} {below : List Frame} {meth : Method} {c : Code} {t : TY} {a0 : Nat} {G : GS} {K : Int32 → Prop} (X : kX p s m args meth c b_M_userAt 5 "TreeServerModel" t) (hret : meth.sig.returnType = some .int) (l2 : Int32) (l3 : Int64) (hwp : w_M_userAt_48 t G a0 K l2 l3) : kW p l e rm_M_userAt s m args below meth c (MQ below (vp_Si K) args s 0 0 (fun _ => False)) 5 t true 48 [(0, va_rf (some a0)), (2, .int l2), (3, .long l3)] [] G := by
  unfold w_M_userAt_48 at hwp
  refine kw_lload_n (pc := 48) X d_M_userAt_48 rfl 2 rfl ?_
  refine kw_ldc2 (v := 6451042) (pc := 49) X d_M_userAt_49 x_1218 ?_
  refine kw_lcmp_ne (tgt := 65) (pc := 52) X d_M_userAt_52 d_M_userAt_53 (by decide) (fun h => ?_) (fun h => ?_)
  · have hwp := ite_t h hwp
    exact kW.sub [0, 1, 2] rfl (k_M_userAt_65 X hret  _ _ hwp)
  · have hwp := ite_f (not_not_intro h) hwp
    refine kw_iload_n (pc := 56) X d_M_userAt_56 rfl 1 rfl ?_
    refine kw_iconst (v := 3) (pc := 57) X d_M_userAt_57 (by decide) ?_
    refine kw_icmp_ne (tgt := 65) (pc := 58) X d_M_userAt_58 (by decide) (fun h => ?_) (fun h => ?_)
    · have hwp := ite_t h hwp
      exact kW.sub [0, 1, 2] rfl (k_M_userAt_65 X hret  _ _ hwp)
    · have hwp := ite_f (not_not_intro h) hwp
      refine kw_iconst (v := 1) (pc := 61) X d_M_userAt_61 (by decide) ?_
      refine kw_goto (tgt := 83) (pc := 62) X d_M_userAt_62 (by decide) ?_
      exact krp_i (pc := 83) X hret d_M_userAt_83 hwp
set_option maxRecDepth 100000 in
set_option maxHeartbeats 4000000 in
theorem k_M_userAt_30 {p : Program} {l : Launch} {e : Env} {s : State} {m : MethodId} {args : Array Value} {below : List Frame} {meth : Method} {c : Code} {t : TY} {a0 : Nat} {G : GS} {K : Int32 → Prop} (X : kX p s m args meth c b_M_userAt 5 "TreeServerModel" t) (hret : meth.sig.returnType = some .int) (l2 : Int32) (s0 : Int64) (hwp : w_M_userAt_30 t G a0 K l2 s0) : kW p l e rm_M_userAt s m args below meth c (MQ below (vp_Si K) args s 0 0 (fun _ => False)) 5 t true 30 [(0, va_rf (some a0)), (2, .int l2)] [.long s0] G := by
  unfold w_M_userAt_30 at hwp
  refine kw_lstore_n (i := 3) (lv' := [(3, .long s0), (0, va_rf (some a0)), (2, .int l2)]) (pc := 30) X d_M_userAt_30 rfl (by decide) rfl ?_
  refine kw_lload_n (pc := 31) X d_M_userAt_31 rfl 0 rfl ?_
  refine kw_ldc2 (v := 7237217) (pc := 32) X d_M_userAt_32 x_1217 ?_
  refine kw_lcmp_ne (tgt := 48) (pc := 35) X d_M_userAt_35 d_M_userAt_36 (by decide) (fun h => ?_) (fun h => ?_)
  · have hwp := ite_t h hwp
    exact kW.sub [1, 2, 0] rfl (k_M_userAt_48 X hret  _ _ hwp)
  · have hwp := ite_f (not_not_intro h) hwp
    refine kw_iload_n (pc := 39) X d_M_userAt_39 rfl 2 rfl ?_
    refine kw_iconst (v := 3) (pc := 40) X d_M_userAt_40 (by decide) ?_
    refine kw_icmp_ne (tgt := 48) (pc := 41) X d_M_userAt_41 (by decide) (fun h => ?_) (fun h => ?_)
    · have hwp := ite_t h hwp
      exact kW.sub [1, 2, 0] rfl (k_M_userAt_48 X hret  _ _ hwp)
    · have hwp := ite_f (not_not_intro h) hwp
      refine kw_iconst (v := 0) (pc := 44) X d_M_userAt_44 (by decide) ?_
      refine kw_goto (tgt := 83) (pc := 45) X d_M_userAt_45 (by decide) ?_
      exact krp_i (pc := 83) X hret d_M_userAt_83 hwp
set_option maxRecDepth 100000 in
set_option maxHeartbeats 4000000 in
theorem k_M_userAt_18 {p : Program} {l : Launch} {e : Env} {s : State} {m : MethodId} {args : Array Value} {below : List Frame} {meth : Method} {c : Code} {t : TY} {a0 : Nat} {G : GS} {K : Int32 → Prop} (X : kX p s m args meth c b_M_userAt 5 "TreeServerModel" t) (hret : meth.sig.returnType = some .int) (l2 : Int32) (hwp : w_M_userAt_18 t G a0 K l2) : kW p l e rm_M_userAt s m args below meth c (MQ below (vp_Si K) args s 0 0 (fun _ => False)) 5 t true 18 [(0, va_rf (some a0)), (2, .int l2)] [] G := by
  unfold w_M_userAt_18 at hwp
  refine kw_lconst (v := 0) (pc := 18) X d_M_userAt_18 (by decide) ?_
  refine kw_goto (tgt := 30) (pc := 19) X d_M_userAt_19 (by decide) ?_
  exact kW.sub [0, 1] rfl (k_M_userAt_30 X hret  _ _ hwp)
set_option maxRecDepth 100000 in
set_option maxHeartbeats 4000000 in
theorem k_M_userAt {p : Program} {l : Launch} {e : Env} {s : State} {m : MethodId} {args : Array Value} {below : List Frame} {meth : Method} {c : Code} {t : TY} {a0 : Nat} {G : GS} {K : Int32 → Prop} (X : kX p s m args meth c b_M_userAt 5 "TreeServerModel" t) (hret : meth.sig.returnType = some .int) (p1 : Int32) (hwp : w_M_userAt t G a0 p1 K) : kW p l e rm_M_userAt s m args below meth c (MQ below (vp_Si K) args s 0 0 (fun _ => False)) 5 t true 0 [(0, va_rf (some a0)), (1, .int p1)] [] G := by
  unfold w_M_userAt at hwp
  refine kw_aload_n (pc := 0) X d_M_userAt_0 rfl 0 rfl ?_
  refine kw_iload_n (pc := 1) X d_M_userAt_1 rfl 1 rfl ?_
  refine kw_iconst (v := 2) (pc := 2) X d_M_userAt_2 (by decide) ?_
  obtain ⟨f1, hwp⟩ := hwp
  refine kcVp_l (n := 2) (As := [.int p1, .int (2 : Int32)]) (rest := []) (pc := 3) X (c_M_get l t G a0 p1 (2 : Int32) _) (cwV_of (C := "TreeServerModel") X x_1175 x_1172 x_1174 xp_56 x_13 (by decide +kernel) ⟨rfl, rfl⟩ (by decide)) (rv_10 X f1) rfl rfl (by decide) d_M_userAt_3 hwp (fun v2 hwp => ?_)
  refine kw_l2i (pc := 6) X d_M_userAt_6 ?_
  obtain ⟨v3, e_v3⟩ : ∃ z, z = v2.toInt32 := ⟨_, rfl⟩
  have hwp := hwp v3 e_v3
  refine kW.st (st' := .int v3 :: _) (by rw [e_v3]) ?_
  refine kw_istore_n (i := 2) (lv' := [(2, .int v3), (0, va_rf (some a0)), (1, .int p1)]) (pc := 7) X d_M_userAt_7 rfl (by decide) rfl ?_
  refine kw_iload_n (pc := 8) X d_M_userAt_8 rfl 0 rfl ?_
  refine kw_iconst (v := 1) (pc := 9) X d_M_userAt_9 (by decide) ?_
  refine kw_icmp_lt (tgt := 18) (pc := 10) X d_M_userAt_10 (by decide) (fun h => ?_) (fun h => ?_)
  · have hwp := ite_t h hwp
    exact kW.sub [1, 0] rfl (k_M_userAt_18 X hret  _ hwp)
  · have hwp := ite_f h hwp
    refine kw_iload_n (pc := 13) X d_M_userAt_13 rfl 0 rfl ?_
    refine kw_iconst (v := 3) (pc := 14) X d_M_userAt_14 (by decide) ?_
    refine kw_icmp_le (tgt := 22) (pc := 15) X d_M_userAt_15 (by decide) (fun h => ?_) (fun h => ?_)
    · have hwp := ite_t h hwp
      refine kw_aload_n (pc := 22) X d_M_userAt_22 rfl 1 rfl ?_
      refine kw_iload_n (pc := 23) X d_M_userAt_23 rfl 2 rfl ?_
      refine kw_iconst (v := 2) (pc := 24) X d_M_userAt_24 (by decide) ?_
      refine kw_iadd (pc := 25) X d_M_userAt_25 ?_
      refine kw_iload_n (pc := 26) X d_M_userAt_26 rfl 0 rfl ?_
      refine kcVp_l (n := 2) (As := [.int (p1 + (2 : Int32)), .int v3]) (rest := []) (pc := 27) X (c_M_get l t G a0 (p1 + (2 : Int32)) v3 _) (cwV_of (C := "TreeServerModel") X x_1175 x_1172 x_1174 xp_56 x_13 (by decide +kernel) ⟨rfl, rfl⟩ (by decide)) (rv_10 X f1) rfl rfl (by decide) d_M_userAt_27 hwp (fun v4 hwp => ?_)
      exact kW.sub [1, 0] rfl (k_M_userAt_30 X hret  _ _ hwp)
    · have hwp := ite_f h hwp
      exact kW.sub [1, 0] rfl (k_M_userAt_18 X hret  _ hwp)
set_option maxRecDepth 100000 in
set_option maxHeartbeats 4000000 in
theorem c_M_userAt (l : Launch) (t : TY) (G : GS) (a0 : Nat) (p1 : Int32) (K : Int32 → Prop) : Met l y_M_userAt (Cond.code y_M_userAt b_M_userAt 5 (Option.some Jvm.ClassFile.FieldType.int) :: GW) rm_M_userAt (va_Pc [.ref a0, .int p1] (fun U => HB t G U.heap ∧ HK t U ∧ w_M_userAt t G a0 p1 K)) (vp_Si K) 0 0 (fun _ => False) := by
  refine Met.ofW (cc := b_M_userAt) (maxL := 5) (ret := some .int) (by decide) rfl ?_
  intro p e s m args below meth c s₁ B hml hv
  obtain ⟨rfl, hB, hK, hwp⟩ := hv
  have hts := atoms_spec (ws := Cond.code y_M_userAt b_M_userAt 5 (Option.some Jvm.ClassFile.FieldType.int) :: GW) B.pre
  have X : kX p s m _ meth c b_M_userAt 5 "TreeServerModel" t := ⟨B.exec, B.bytes, hml, findClass_of_methodNamed B.named, fun w h => hts w (List.mem_cons_of_mem _ h), B.notSynchronized, hK⟩
  have hZ : kZ t true s G s.heap [] := ⟨hB, va_S.rf, fun _ => ⟨rfl, rfl⟩⟩
  rw [lg_entry_eq]
  have hl := lv_entry ([.ref a0, .int p1]) (n := 5) (by simp [lg_sl, rf_cat, cat_i, cat_l, cat_r])
  exact k_M_userAt X B.returns _ hwp s.heap [] _ hl hZ
abbrev b_M_behind : ByteArray := prog_13_method_24_code
def y_M_behind : MethodName := ⟨"TreeServerModel", "behind", "(II)I"⟩
theorem d_M_behind_0 : decode b_M_behind 0 = .ok (.iload_n 1, 1) := by decide +kernel
theorem d_M_behind_1 : decode b_M_behind 1 = .ok (.ifCond .lt 10, 3) := by decide +kernel
theorem d_M_behind_4 : decode b_M_behind 4 = .ok (.iload_n 1, 1) := by decide +kernel
theorem d_M_behind_5 : decode b_M_behind 5 = .ok (.iconst 2, 1) := by decide +kernel
theorem d_M_behind_6 : decode b_M_behind 6 = .ok (.iadd, 1) := by decide +kernel
theorem d_M_behind_7 : decode b_M_behind 7 = .ok (.iload_n 2, 1) := by decide +kernel
theorem d_M_behind_8 : decode b_M_behind 8 = .ok (.if_icmp .le 5, 3) := by decide +kernel
theorem d_M_behind_11 : decode b_M_behind 11 = .ok (.iconst (-1), 1) := by decide +kernel
theorem d_M_behind_12 : decode b_M_behind 12 = .ok (.ireturn, 1) := by decide +kernel
theorem d_M_behind_13 : decode b_M_behind 13 = .ok (.iload_n 1, 1) := by decide +kernel
theorem d_M_behind_14 : decode b_M_behind 14 = .ok (.iconst 2, 1) := by decide +kernel
theorem d_M_behind_15 : decode b_M_behind 15 = .ok (.iadd, 1) := by decide +kernel
theorem d_M_behind_16 : decode b_M_behind 16 = .ok (.aload_n 0, 1) := by decide +kernel
theorem d_M_behind_17 : decode b_M_behind 17 = .ok (.iload_n 1, 1) := by decide +kernel
theorem d_M_behind_18 : decode b_M_behind 18 = .ok (.iconst 2, 1) := by decide +kernel
theorem d_M_behind_19 : decode b_M_behind 19 = .ok (.invokevirtual 85, 3) := by decide +kernel
theorem d_M_behind_22 : decode b_M_behind 22 = .ok (.l2i, 1) := by decide +kernel
theorem d_M_behind_23 : decode b_M_behind 23 = .ok (.iadd, 1) := by decide +kernel
theorem d_M_behind_24 : decode b_M_behind 24 = .ok (.istore_n 3, 1) := by decide +kernel
theorem d_M_behind_25 : decode b_M_behind 25 = .ok (.iload_n 3, 1) := by decide +kernel
theorem d_M_behind_26 : decode b_M_behind 26 = .ok (.iload_n 2, 1) := by decide +kernel
theorem d_M_behind_27 : decode b_M_behind 27 = .ok (.if_icmp .le 7, 3) := by decide +kernel
theorem d_M_behind_30 : decode b_M_behind 30 = .ok (.iconst (-1), 1) := by decide +kernel
theorem d_M_behind_31 : decode b_M_behind 31 = .ok (.goto 4, 3) := by decide +kernel
theorem d_M_behind_34 : decode b_M_behind 34 = .ok (.iload_n 3, 1) := by decide +kernel
theorem d_M_behind_35 : decode b_M_behind 35 = .ok (.ireturn, 1) := by decide +kernel
abbrev rm_M_behind : Room := { frames := 1, cells := 0, slots := 0, locals := 25 }
set_option maxRecDepth 100000 in
set_option maxHeartbeats 4000000 in
theorem k_M_behind {p : Program} {l : Launch} {e : Env} {s : State} {m : MethodId} {args : Array Value} {below : List Frame} {meth : Method} {c : Code} {t : TY} {a0 : Nat} {G : GS} {K : Int32 → Prop} (X : kX p s m args meth c b_M_behind 4 "TreeServerModel" t) (hret : meth.sig.returnType = some .int) (p1 : Int32) (p2 : Int32) (hwp : w_M_behind t G a0 p1 p2 K) : kW p l e rm_M_behind s m args below meth c (MQ below (vp_Si K) args s 0 0 (fun _ => False)) 4 t true 0 [(0, va_rf (some a0)), (1, .int p1), (2, .int p2)] [] G := by
  unfold w_M_behind at hwp
  refine kw_iload_n (pc := 0) X d_M_behind_0 rfl 1 rfl ?_
  refine kw_if_lt (tgt := 11) (pc := 1) X d_M_behind_1 (by decide) (fun h => ?_) (fun h => ?_)
  · have hwp := ite_t h hwp
    refine kw_iconst (v := -1) (pc := 11) X d_M_behind_11 (by decide) ?_
    exact krp_i (pc := 12) X hret d_M_behind_12 hwp
  · have hwp := ite_f h hwp
    refine kw_iload_n (pc := 4) X d_M_behind_4 rfl 1 rfl ?_
    refine kw_iconst (v := 2) (pc := 5) X d_M_behind_5 (by decide) ?_
    refine kw_iadd (pc := 6) X d_M_behind_6 ?_
    refine kw_iload_n (pc := 7) X d_M_behind_7 rfl 2 rfl ?_
    refine kw_icmp_le (tgt := 13) (pc := 8) X d_M_behind_8 (by decide) (fun h => ?_) (fun h => ?_)
    · have hwp := ite_t h hwp
      refine kw_iload_n (pc := 13) X d_M_behind_13 rfl 1 rfl ?_
      refine kw_iconst (v := 2) (pc := 14) X d_M_behind_14 (by decide) ?_
      refine kw_iadd (pc := 15) X d_M_behind_15 ?_
      refine kw_aload_n (pc := 16) X d_M_behind_16 rfl 0 rfl ?_
      refine kw_iload_n (pc := 17) X d_M_behind_17 rfl 1 rfl ?_
      refine kw_iconst (v := 2) (pc := 18) X d_M_behind_18 (by decide) ?_
      obtain ⟨f1, hwp⟩ := hwp
      refine kcVp_l (n := 2) (As := [.int p1, .int (2 : Int32)]) (rest := [.int (p1 + (2 : Int32))]) (pc := 19) X (c_M_get l t G a0 p1 (2 : Int32) _) (cwV_of (C := "TreeServerModel") X x_1175 x_1172 x_1174 xp_56 x_13 (by decide +kernel) ⟨rfl, rfl⟩ (by decide)) (rv_10 X f1) rfl rfl (by simp [rf_cat, cat_i, cat_l, cat_r]) d_M_behind_19 hwp (fun v2 hwp => ?_)
      refine kw_l2i (pc := 22) X d_M_behind_22 ?_
      refine kw_iadd (pc := 23) X d_M_behind_23 ?_
      obtain ⟨v3, e_v3⟩ : ∃ z, z = ((p1 + (2 : Int32)) + v2.toInt32) := ⟨_, rfl⟩
      have hwp := hwp v3 e_v3
      refine kW.st (st' := .int v3 :: _) (by rw [e_v3]) ?_
      refine kw_istore_n (i := 3) (lv' := [(3, .int v3), (0, va_rf (some a0)), (1, .int p1), (2, .int p2)]) (pc := 24) X d_M_behind_24 rfl (by decide) rfl ?_
      refine kw_iload_n (pc := 25) X d_M_behind_25 rfl 0 rfl ?_
      refine kw_iload_n (pc := 26) X d_M_behind_26 rfl 3 rfl ?_
      refine kw_icmp_le (tgt := 34) (pc := 27) X d_M_behind_27 (by decide) (fun h => ?_) (fun h => ?_)
      · have hwp := ite_t h hwp
        refine kw_iload_n (pc := 34) X d_M_behind_34 rfl 0 rfl ?_
        exact krp_i (pc := 35) X hret d_M_behind_35 hwp
      · have hwp := ite_f h hwp
        refine kw_iconst (v := -1) (pc := 30) X d_M_behind_30 (by decide) ?_
        refine kw_goto (tgt := 35) (pc := 31) X d_M_behind_31 (by decide) ?_
        exact krp_i (pc := 35) X hret d_M_behind_35 hwp
    · have hwp := ite_f h hwp
      refine kw_iconst (v := -1) (pc := 11) X d_M_behind_11 (by decide) ?_
      exact krp_i (pc := 12) X hret d_M_behind_12 hwp
set_option maxRecDepth 100000 in
set_option maxHeartbeats 4000000 in
theorem c_M_behind (l : Launch) (t : TY) (G : GS) (a0 : Nat) (p1 : Int32) (p2 : Int32) (K : Int32 → Prop) : Met l y_M_behind (Cond.code y_M_behind b_M_behind 4 (Option.some Jvm.ClassFile.FieldType.int) :: GW) rm_M_behind (va_Pc [.ref a0, .int p1, .int p2] (fun U => HB t G U.heap ∧ HK t U ∧ w_M_behind t G a0 p1 p2 K)) (vp_Si K) 0 0 (fun _ => False) := by
  refine Met.ofW (cc := b_M_behind) (maxL := 4) (ret := some .int) (by decide) rfl ?_
  intro p e s m args below meth c s₁ B hml hv
  obtain ⟨rfl, hB, hK, hwp⟩ := hv
  have hts := atoms_spec (ws := Cond.code y_M_behind b_M_behind 4 (Option.some Jvm.ClassFile.FieldType.int) :: GW) B.pre
  have X : kX p s m _ meth c b_M_behind 4 "TreeServerModel" t := ⟨B.exec, B.bytes, hml, findClass_of_methodNamed B.named, fun w h => hts w (List.mem_cons_of_mem _ h), B.notSynchronized, hK⟩
  have hZ : kZ t true s G s.heap [] := ⟨hB, va_S.rf, fun _ => ⟨rfl, rfl⟩⟩
  rw [lg_entry_eq]
  have hl := lv_entry ([.ref a0, .int p1, .int p2]) (n := 4) (by simp [lg_sl, rf_cat, cat_i, cat_l, cat_r])
  exact k_M_behind X B.returns _ _ hwp s.heap [] _ hl hZ
abbrev b_M_fits : ByteArray := prog_13_method_25_code
def y_M_fits : MethodName := ⟨"TreeServerModel", "fits", "(I)Z"⟩
theorem d_M_fits_0 : decode b_M_fits 0 = .ok (.aload_n 0, 1) := by decide +kernel
theorem d_M_fits_1 : decode b_M_fits 1 = .ok (.iload_n 1, 1) := by decide +kernel
theorem d_M_fits_2 : decode b_M_fits 2 = .ok (.iconst 2, 1) := by decide +kernel
theorem d_M_fits_3 : decode b_M_fits 3 = .ok (.invokevirtual 85, 3) := by decide +kernel
theorem d_M_fits_6 : decode b_M_fits 6 = .ok (.l2i, 1) := by decide +kernel
theorem d_M_fits_7 : decode b_M_fits 7 = .ok (.istore_n 2, 1) := by decide +kernel
theorem d_M_fits_8 : decode b_M_fits 8 = .ok (.iload_n 2, 1) := by decide +kernel
theorem d_M_fits_9 : decode b_M_fits 9 = .ok (.iconst 1, 1) := by decide +kernel
theorem d_M_fits_10 : decode b_M_fits 10 = .ok (.if_icmp .lt 9, 3) := by decide +kernel
theorem d_M_fits_13 : decode b_M_fits 13 = .ok (.iload_n 2, 1) := by decide +kernel
theorem d_M_fits_14 : decode b_M_fits 14 = .ok (.bipush 8, 2) := by decide +kernel
theorem d_M_fits_16 : decode b_M_fits 16 = .ok (.if_icmp .le 5, 3) := by decide +kernel
theorem d_M_fits_19 : decode b_M_fits 19 = .ok (.iconst 0, 1) := by decide +kernel
theorem d_M_fits_20 : decode b_M_fits 20 = .ok (.ireturn, 1) := by decide +kernel
theorem d_M_fits_21 : decode b_M_fits 21 = .ok (.iconst 1, 1) := by decide +kernel
theorem d_M_fits_22 : decode b_M_fits 22 = .ok (.istore_n 3, 1) := by decide +kernel
theorem d_M_fits_23 : decode b_M_fits 23 = .ok (.iload_n 2, 1) := by decide +kernel
theorem d_M_fits_24 : decode b_M_fits 24 = .ok (.iconst 3, 1) := by decide +kernel
theorem d_M_fits_25 : decode b_M_fits 25 = .ok (.if_icmp .ge 7, 3) := by decide +kernel
theorem d_M_fits_28 : decode b_M_fits 28 = .ok (.iconst 1, 1) := by decide +kernel
theorem d_M_fits_29 : decode b_M_fits 29 = .ok (.goto 4, 3) := by decide +kernel
theorem d_M_fits_32 : decode b_M_fits 32 = .ok (.iconst 0, 1) := by decide +kernel
theorem d_M_fits_33 : decode b_M_fits 33 = .ok (.istore 4, 2) := by decide +kernel
theorem d_M_fits_35 : decode b_M_fits 35 = .ok (.iconst 0, 1) := by decide +kernel
theorem d_M_fits_36 : decode b_M_fits 36 = .ok (.istore 5, 2) := by decide +kernel
theorem d_M_fits_38 : decode b_M_fits 38 = .ok (.iload 5, 2) := by decide +kernel
theorem d_M_fits_40 : decode b_M_fits 40 = .ok (.iload_n 2, 1) := by decide +kernel
theorem d_M_fits_41 : decode b_M_fits 41 = .ok (.if_icmp .ge 72, 3) := by decide +kernel
theorem d_M_fits_44 : decode b_M_fits 44 = .ok (.aload_n 0, 1) := by decide +kernel
theorem d_M_fits_45 : decode b_M_fits 45 = .ok (.getfield 70, 3) := by decide +kernel
theorem d_M_fits_48 : decode b_M_fits 48 = .ok (.iload_n 1, 1) := by decide +kernel
theorem d_M_fits_49 : decode b_M_fits 49 = .ok (.iconst 2, 1) := by decide +kernel
theorem d_M_fits_50 : decode b_M_fits 50 = .ok (.iadd, 1) := by decide +kernel
theorem d_M_fits_51 : decode b_M_fits 51 = .ok (.iload 5, 2) := by decide +kernel
theorem d_M_fits_53 : decode b_M_fits 53 = .ok (.iadd, 1) := by decide +kernel
theorem d_M_fits_54 : decode b_M_fits 54 = .ok (.iaload, 1) := by decide +kernel
theorem d_M_fits_55 : decode b_M_fits 55 = .ok (.istore 6, 2) := by decide +kernel
theorem d_M_fits_57 : decode b_M_fits 57 = .ok (.iload_n 3, 1) := by decide +kernel
theorem d_M_fits_58 : decode b_M_fits 58 = .ok (.ifCond .eq 28, 3) := by decide +kernel
theorem d_M_fits_61 : decode b_M_fits 61 = .ok (.iload 6, 2) := by decide +kernel
theorem d_M_fits_63 : decode b_M_fits 63 = .ok (.bipush 32, 2) := by decide +kernel
theorem d_M_fits_65 : decode b_M_fits 65 = .ok (.if_icmp .le 21, 3) := by decide +kernel
theorem d_M_fits_68 : decode b_M_fits 68 = .ok (.iload 6, 2) := by decide +kernel
theorem d_M_fits_70 : decode b_M_fits 70 = .ok (.bipush 127, 2) := by decide +kernel
theorem d_M_fits_72 : decode b_M_fits 72 = .ok (.if_icmp .ge 14, 3) := by decide +kernel
theorem d_M_fits_75 : decode b_M_fits 75 = .ok (.iload 6, 2) := by decide +kernel
theorem d_M_fits_77 : decode b_M_fits 77 = .ok (.bipush 47, 2) := by decide +kernel
theorem d_M_fits_79 : decode b_M_fits 79 = .ok (.if_icmp .eq 7, 3) := by decide +kernel
theorem d_M_fits_82 : decode b_M_fits 82 = .ok (.iconst 1, 1) := by decide +kernel
theorem d_M_fits_83 : decode b_M_fits 83 = .ok (.goto 4, 3) := by decide +kernel
theorem d_M_fits_86 : decode b_M_fits 86 = .ok (.iconst 0, 1) := by decide +kernel
theorem d_M_fits_87 : decode b_M_fits 87 = .ok (.istore_n 3, 1) := by decide +kernel
theorem d_M_fits_88 : decode b_M_fits 88 = .ok (.iload 4, 2) := by decide +kernel
theorem d_M_fits_90 : decode b_M_fits 90 = .ok (.ifCond .eq 14, 3) := by decide +kernel
theorem d_M_fits_93 : decode b_M_fits 93 = .ok (.iload 6, 2) := by decide +kernel
theorem d_M_fits_95 : decode b_M_fits 95 = .ok (.bipush 46, 2) := by decide +kernel
theorem d_M_fits_97 : decode b_M_fits 97 = .ok (.if_icmp .ne 7, 3) := by decide +kernel
theorem d_M_fits_100 : decode b_M_fits 100 = .ok (.iconst 1, 1) := by decide +kernel
theorem d_M_fits_101 : decode b_M_fits 101 = .ok (.goto 4, 3) := by decide +kernel
theorem d_M_fits_104 : decode b_M_fits 104 = .ok (.iconst 0, 1) := by decide +kernel
theorem d_M_fits_105 : decode b_M_fits 105 = .ok (.istore 4, 2) := by decide +kernel
theorem d_M_fits_107 : decode b_M_fits 107 = .ok (.iinc 5 1, 3) := by decide +kernel
theorem d_M_fits_110 : decode b_M_fits 110 = .ok (.goto (-72), 3) := by decide +kernel
theorem d_M_fits_113 : decode b_M_fits 113 = .ok (.iload_n 3, 1) := by decide +kernel
theorem d_M_fits_114 : decode b_M_fits 114 = .ok (.ifCond .eq 12, 3) := by decide +kernel
theorem d_M_fits_117 : decode b_M_fits 117 = .ok (.iload 4, 2) := by decide +kernel
theorem d_M_fits_119 : decode b_M_fits 119 = .ok (.ifCond .ne 7, 3) := by decide +kernel
theorem d_M_fits_122 : decode b_M_fits 122 = .ok (.iconst 1, 1) := by decide +kernel
theorem d_M_fits_123 : decode b_M_fits 123 = .ok (.goto 4, 3) := by decide +kernel
theorem d_M_fits_126 : decode b_M_fits 126 = .ok (.iconst 0, 1) := by decide +kernel
theorem d_M_fits_127 : decode b_M_fits 127 = .ok (.ireturn, 1) := by decide +kernel
abbrev rm_M_fits : Room := { frames := 1, cells := 0, slots := 0, locals := 25 }
set_option maxRecDepth 100000 in
set_option maxHeartbeats 4000000 in
theorem k_M_fits_105 {p : Program} {l : Launch} {e : Env} {s : State} {m : MethodId} {args : Array Value} {below : List Frame} {meth : Method} {c : Code} {t : TY} {a0 : Nat} {G : GS} {K : Int32 → Prop} {r38 : Int32 → Int32 → Int32 → Int32 → Int32 → Prop} (X : kX p s m args meth c b_M_fits 7 "TreeServerModel" t) (hret : meth.sig.returnType = some .boolean) (hr_38 : ∀ (l1 : Int32) (l2 : Int32) (l3 : Int32) (l4 : Int32) (l5 : Int32), r38 l1 l2 l3 l4 l5 → kW p l e rm_M_fits s m args below meth c (MQ below (vp_Si (fun r => isB r ∧ K r)) args s 0 0 (fun _ => False)) 7 t true 38 [(0, va_rf (some a0)), (1, .int l1), (2, .int l2), (3, .int l3), (4, .int l4), (5, .int l5)] [] G) (l1 : Int32) (l2 : Int32) (l3 : Int32) (l5 : Int32) (s0 : Int32) (hwp : w_M_fits_105 t G a0 K r38 l1 l2 l3 l5 s0) : kW p l e rm_M_fits s m args below meth c (MQ below (vp_Si (fun r => isB r ∧ K r)) args s 0 0 (fun _ => False)) 7 t true 105 [(0, va_rf (some a0)), (1, .int l1), (2, .int l2), (3, .int l3), (5, .int l5)] [.int s0] G := by
  unfold w_M_fits_105 at hwp
  refine kw_istore (i := 4) (lv' := [(4, .int s0), (0, va_rf (some a0)), (1, .int l1), (2, .int l2), (3, .int l3), (5, .int l5)]) (pc := 105) X d_M_fits_105 (by decide) rfl ?_
  obtain ⟨v1, e_v1⟩ : ∃ z, z = (l5 + (1 : Int32)) := ⟨_, rfl⟩
  have hwp := hwp v1 e_v1
  refine kw_iinc (v := v1) (lv' := [(5, .int v1), (4, .int s0), (0, va_rf (some a0)), (1, .int l1), (2, .int l2), (3, .int l3)]) (pc := 107) X d_M_fits_107 5 rfl (by rw [e_v1]; rfl) (by decide) rfl ?_
  refine kw_goto (tgt := 38) (pc := 110) X d_M_fits_110 (by decide) ?_
  exact kW.sub [2, 3, 4, 5, 1, 0] rfl (hr_38 _ _ _ _ _ hwp)
set_option maxRecDepth 100000 in
set_option maxHeartbeats 4000000 in
theorem k_M_fits_104 {p : Program} {l : Launch} {e : Env} {s : State} {m : MethodId} {args : Array Value} {below : List Frame} {meth : Method} {c : Code} {t : TY} {a0 : Nat} {G : GS} {K : Int32 → Prop} {r38 : Int32 → Int32 → Int32 → Int32 → Int32 → Prop} (X : kX p s m args meth c b_M_fits 7 "TreeServerModel" t) (hret : meth.sig.returnType = some .boolean) (hr_38 : ∀ (l1 : Int32) (l2 : Int32) (l3 : Int32) (l4 : Int32) (l5 : Int32), r38 l1 l2 l3 l4 l5 → kW p l e rm_M_fits s m args below meth c (MQ below (vp_Si (fun r => isB r ∧ K r)) args s 0 0 (fun _ => False)) 7 t true 38 [(0, va_rf (some a0)), (1, .int l1), (2, .int l2), (3, .int l3), (4, .int l4), (5, .int l5)] [] G) (l1 : Int32) (l2 : Int32) (l3 : Int32) (l5 : Int32) (hwp : w_M_fits_104 t G a0 K r38 l1 l2 l3 l5) : kW p l e rm_M_fits s m args below meth c (MQ below (vp_Si (fun r => isB r ∧ K r)) args s 0 0 (fun _ => False)) 7 t true 104 [(0, va_rf (some a0)), (1, .int l1), (2, .int l2), (3, .int l3), (5, .int l5)] [] G := by
  unfold w_M_fits_104 at hwp
  refine kw_iconst (v := 0) (pc := 104) X d_M_fits_104 (by decide) ?_
  exact kW.sub [0, 1, 2, 3, 4] rfl (k_M_fits_105 X hret hr_38 _ _ _ _ _ hwp)
set_option maxRecDepth 100000 in
set_option maxHeartbeats 4000000 in
theorem k_M_fits_87 {p : Program} {l : Launch} {e : Env} {s : State} {m : MethodId} {args : Array Value} {below : List Frame} {meth : Method} {c : Code} {t : TY} {a0 : Nat} {G : GS} {K : Int32 → Prop} {r38 : Int32 → Int32 → Int32 → Int32 → Int32 → Prop} (X : kX p s m args meth c b_M_fits 7 "TreeServerModel" t) (hret : meth.sig.returnType = some .boolean) (hr_38 : ∀ (l1 : Int32) (l2 : Int32) (l3 : Int32) (l4 : Int32) (l5 : Int32), r38 l1 l2 l3 l4 l5 → kW p l e rm_M_fits s m args below meth c (MQ below (vp_Si (fun r => isB r ∧ K r)) args s 0 0 (fun _ => False)) 7 t true 38 [(0, va_rf (some a0)), (1, .int l1), (2, .int l2), (3, .int l3), (4, .int l4), (5, .int l5)] [] G) (l1 : Int32) (l2 : Int32) (l4 : Int32) (l5 : Int32) (l6 : Int32) (s0 : Int32) (hwp : w_M_fits_87 t G a0 K r38 l1 l2 l4 l5 l6 s0) : kW p l e rm_M_fits s m args below meth c (MQ below (vp_Si (fun r => isB r ∧ K r)) args s 0 0 (fun _ => False)) 7 t true 87 [(0, va_rf (some a0)), (1, .int l1), (2, .int l2), (4, .int l4), (5, .int l5), (6, .int l6)] [.int s0] G := by
  unfold w_M_fits_87 at hwp
  refine kw_istore_n (i := 3) (lv' := [(3, .int s0), (0, va_rf (some a0)), (1, .int l1), (2, .int l2), (4, .int l4), (5, .int l5), (6, .int l6)]) (pc := 87) X d_M_fits_87 rfl (by decide) rfl ?_
  refine kw_iload (pc := 88) X d_M_fits_88 4 rfl ?_
  refine kw_if_eq (tgt := 104) (pc := 90) X d_M_fits_90 (by decide) (fun h => ?_) (fun h => ?_)
  · have hwp := ite_t h hwp
    exact kW.sub [1, 2, 3, 0, 5] rfl (k_M_fits_104 X hret hr_38 _ _ _ _ hwp)
  · have hwp := ite_f h hwp
    refine kw_iload (pc := 93) X d_M_fits_93 6 rfl ?_
    refine kw_bipush (v := 46) (pc := 95) X d_M_fits_95 (by decide) ?_
    refine kw_icmp_ne (tgt := 104) (pc := 97) X d_M_fits_97 (by decide) (fun h => ?_) (fun h => ?_)
    · have hwp := ite_t h hwp
      exact kW.sub [1, 2, 3, 0, 5] rfl (k_M_fits_104 X hret hr_38 _ _ _ _ hwp)
    · have hwp := ite_f (not_not_intro h) hwp
      refine kw_iconst (v := 1) (pc := 100) X d_M_fits_100 (by decide) ?_
      refine kw_goto (tgt := 105) (pc := 101) X d_M_fits_101 (by decide) ?_
      exact kW.sub [1, 2, 3, 0, 5] rfl (k_M_fits_105 X hret hr_38 _ _ _ _ _ hwp)
set_option maxRecDepth 100000 in
set_option maxHeartbeats 4000000 in
theorem k_M_fits_86 {p : Program} {l : Launch} {e : Env} {s : State} {m : MethodId} {args : Array Value} {below : List Frame} {meth : Method} {c : Code} {t : TY} {a0 : Nat} {G : GS} {K : Int32 → Prop} {r38 : Int32 → Int32 → Int32 → Int32 → Int32 → Prop} (X : kX p s m args meth c b_M_fits 7 "TreeServerModel" t) (hret : meth.sig.returnType = some .boolean) (hr_38 : ∀ (l1 : Int32) (l2 : Int32) (l3 : Int32) (l4 : Int32) (l5 : Int32), r38 l1 l2 l3 l4 l5 → kW p l e rm_M_fits s m args below meth c (MQ below (vp_Si (fun r => isB r ∧ K r)) args s 0 0 (fun _ => False)) 7 t true 38 [(0, va_rf (some a0)), (1, .int l1), (2, .int l2), (3, .int l3), (4, .int l4), (5, .int l5)] [] G) (l1 : Int32) (l2 : Int32) (l4 : Int32) (l5 : Int32) (l6 : Int32) (hwp : w_M_fits_86 t G a0 K r38 l1 l2 l4 l5 l6) : kW p l e rm_M_fits s m args below meth c (MQ below (vp_Si (fun r => isB r ∧ K r)) args s 0 0 (fun _ => False)) 7 t true 86 [(0, va_rf (some a0)), (1, .int l1), (2, .int l2), (4, .int l4), (5, .int l5), (6, .int l6)] [] G := by
  unfold w_M_fits_86 at hwp
  refine kw_iconst (v := 0) (pc := 86) X d_M_fits_86 (by decide) ?_
  exact kW.sub [0, 1, 2, 3, 4, 5] rfl (k_M_fits_87 X hret hr_38 _ _ _ _ _ _ hwp)
set_option maxRecDepth 100000 in
set_option maxHeartbeats 4000000 in
theorem k_M_fits_38 {p : Program} {l : Launch} {e : Env} {s : State} {m : MethodId} {args : Array Value} {below : List Frame} {meth : Method} {c : Code} {t : TY} {a0 : Nat} {G : GS} {K : Int32 → Prop} (X : kX p s m args meth c b_M_fits 7 "TreeServerModel" t) (hret : meth.sig.returnType = some .boolean) : ∀ (n : Nat) (l1 : Int32) (l2 : Int32) (l3 : Int32) (l4 : Int32) (l5 : Int32), w_M_fits_38 t G a0 K n l1 l2 l3 l4 l5 → kW p l e rm_M_fits s m args below meth c (MQ below (vp_Si (fun r => isB r ∧ K r)) args s 0 0 (fun _ => False)) 7 t true 38 [(0, va_rf (some a0)), (1, .int l1), (2, .int l2), (3, .int l3), (4, .int l4), (5, .int l5)] [] G := by
  intro n
  induction n with
  | zero => intro l1 l2 l3 l4 l5 hwp; exact hwp.elim
  | succ n hr_38 =>
    intro l1 l2 l3 l4 l5 hwp
    unfold w_M_fits_38 at hwp
    dsimp only at hwp
    refine kw_iload (pc := 38) X d_M_fits_38 5 rfl ?_
    refine kw_iload_n (pc := 40) X d_M_fits_40 rfl 2 rfl ?_
    refine kw_icmp_ge (tgt := 113) (pc := 41) X d_M_fits_41 (by decide) (fun h => ?_) (fun h => ?_)
    · have hwp := ite_t h hwp
      refine kw_iload_n (pc := 113) X d_M_fits_113 rfl 3 rfl ?_
      refine kw_if_eq (tgt := 126) (pc := 114) X d_M_fits_114 (by decide) (fun h => ?_) (fun h => ?_)
      · have hwp := ite_t h hwp
        refine kw_iconst (v := 0) (pc := 126) X d_M_fits_126 (by decide) ?_
        exact krp_z (pc := 127) X hret d_M_fits_127 (Or.inl rfl) hwp
      · have hwp := ite_f h hwp
        refine kw_iload (pc := 117) X d_M_fits_117 4 rfl ?_
        refine kw_if_ne (tgt := 126) (pc := 119) X d_M_fits_119 (by decide) (fun h => ?_) (fun h => ?_)
        · have hwp := ite_t h hwp
          refine kw_iconst (v := 0) (pc := 126) X d_M_fits_126 (by decide) ?_
          exact krp_z (pc := 127) X hret d_M_fits_127 (Or.inl rfl) hwp
        · have hwp := ite_f (not_not_intro h) hwp
          refine kw_iconst (v := 1) (pc := 122) X d_M_fits_122 (by decide) ?_
          refine kw_goto (tgt := 127) (pc := 123) X d_M_fits_123 (by decide) ?_
          exact krp_z (pc := 127) X hret d_M_fits_127 (Or.inr rfl) hwp
    · have hwp := ite_f h hwp
      refine kw_aload_n (pc := 44) X d_M_fits_44 rfl 0 rfl ?_
      obtain ⟨f1, hwp⟩ := hwp
      refine kg_94 (a := a0) (pc := 45) X d_M_fits_45 x_1014 rfl f1 ?_
      refine kw_iload_n (pc := 48) X d_M_fits_48 rfl 1 rfl ?_
      refine kw_iconst (v := 2) (pc := 49) X d_M_fits_49 (by decide) ?_
      refine kw_iadd (pc := 50) X d_M_fits_50 ?_
      refine kw_iload (pc := 51) X d_M_fits_51 5 rfl ?_
      refine kw_iadd (pc := 53) X d_M_fits_53 ?_
      obtain ⟨a2, h_a2, hwp⟩ := hwp
      obtain ⟨f3, hwp⟩ := hwp
      obtain ⟨f4, hwp⟩ := hwp
      refine ka_iald (a := a2) (pc := 54) X d_M_fits_54 h_a2 f3 f4 ?_
      obtain ⟨v5, e_v5⟩ : ∃ z, z = (ai G a2 ((l1 + (2 : Int32)) + l5).toNatClampNeg) := ⟨_, rfl⟩
      have hwp := hwp v5 e_v5
      refine kW.st (st' := .int v5 :: _) (by rw [e_v5]) ?_
      refine kw_istore (i := 6) (lv' := [(6, .int v5), (0, va_rf (some a0)), (1, .int l1), (2, .int l2), (3, .int l3), (4, .int l4), (5, .int l5)]) (pc := 55) X d_M_fits_55 (by decide) rfl ?_
      refine kw_iload_n (pc := 57) X d_M_fits_57 rfl 4 rfl ?_
      refine kw_if_eq (tgt := 86) (pc := 58) X d_M_fits_58 (by decide) (fun h => ?_) (fun h => ?_)
      · have hwp := ite_t h hwp
        exact kW.sub [1, 2, 3, 5, 6, 0] rfl (k_M_fits_86 X hret hr_38 _ _ _ _ _ hwp)
      · have hwp := ite_f h hwp
        refine kw_iload (pc := 61) X d_M_fits_61 0 rfl ?_
        refine kw_bipush (v := 32) (pc := 63) X d_M_fits_63 (by decide) ?_
        refine kw_icmp_le (tgt := 86) (pc := 65) X d_M_fits_65 (by decide) (fun h => ?_) (fun h => ?_)
        · have hwp := ite_t h hwp
          exact kW.sub [1, 2, 3, 5, 6, 0] rfl (k_M_fits_86 X hret hr_38 _ _ _ _ _ hwp)
        · have hwp := ite_f h hwp
          refine kw_iload (pc := 68) X d_M_fits_68 0 rfl ?_
          refine kw_bipush (v := 127) (pc := 70) X d_M_fits_70 (by decide) ?_
          refine kw_icmp_ge (tgt := 86) (pc := 72) X d_M_fits_72 (by decide) (fun h => ?_) (fun h => ?_)
          · have hwp := ite_t h hwp
            exact kW.sub [1, 2, 3, 5, 6, 0] rfl (k_M_fits_86 X hret hr_38 _ _ _ _ _ hwp)
          · have hwp := ite_f h hwp
            refine kw_iload (pc := 75) X d_M_fits_75 0 rfl ?_
            refine kw_bipush (v := 47) (pc := 77) X d_M_fits_77 (by decide) ?_
            refine kw_icmp_eq (tgt := 86) (pc := 79) X d_M_fits_79 (by decide) (fun h => ?_) (fun h => ?_)
            · have hwp := ite_t h hwp
              exact kW.sub [1, 2, 3, 5, 6, 0] rfl (k_M_fits_86 X hret hr_38 _ _ _ _ _ hwp)
            · have hwp := ite_f h hwp
              refine kw_iconst (v := 1) (pc := 82) X d_M_fits_82 (by decide) ?_
              refine kw_goto (tgt := 87) (pc := 83) X d_M_fits_83 (by decide) ?_
              exact kW.sub [1, 2, 3, 5, 6, 0] rfl (k_M_fits_87 X hret hr_38 _ _ _ _ _ _ hwp)
set_option maxRecDepth 100000 in
set_option maxHeartbeats 4000000 in
theorem k_M_fits_33 {p : Program} {l : Launch} {e : Env} {s : State} {m : MethodId} {args : Array Value} {below : List Frame} {meth : Method} {c : Code} {t : TY} {a0 : Nat} {G : GS} {K : Int32 → Prop} (X : kX p s m args meth c b_M_fits 7 "TreeServerModel" t) (hret : meth.sig.returnType = some .boolean) (l1 : Int32) (l2 : Int32) (l3 : Int32) (s0 : Int32) (hwp : w_M_fits_33 t G a0 K l1 l2 l3 s0) : kW p l e rm_M_fits s m args below meth c (MQ below (vp_Si (fun r => isB r ∧ K r)) args s 0 0 (fun _ => False)) 7 t true 33 [(0, va_rf (some a0)), (1, .int l1), (2, .int l2), (3, .int l3)] [.int s0] G := by
  unfold w_M_fits_33 at hwp
  refine kw_istore (i := 4) (lv' := [(4, .int s0), (0, va_rf (some a0)), (1, .int l1), (2, .int l2), (3, .int l3)]) (pc := 33) X d_M_fits_33 (by decide) rfl ?_
  refine kw_iconst (v := 0) (pc := 35) X d_M_fits_35 (by decide) ?_
  refine kw_istore (i := 5) (lv' := [(5, .int (0 : Int32)), (4, .int s0), (0, va_rf (some a0)), (1, .int l1), (2, .int l2), (3, .int l3)]) (pc := 36) X d_M_fits_36 (by decide) rfl ?_
  obtain ⟨n, hwp⟩ := hwp
  exact kW.sub [2, 3, 4, 5, 1, 0] rfl (k_M_fits_38 X hret  n _ _ _ _ _ hwp)
set_option maxRecDepth 100000 in
set_option maxHeartbeats 4000000 in
theorem k_M_fits {p : Program} {l : Launch} {e : Env} {s : State} {m : MethodId} {args : Array Value} {below : List Frame} {meth : Method} {c : Code} {t : TY} {a0 : Nat} {G : GS} {K : Int32 → Prop} (X : kX p s m args meth c b_M_fits 7 "TreeServerModel" t) (hret : meth.sig.returnType = some .boolean) (p1 : Int32) (hwp : w_M_fits t G a0 p1 K) : kW p l e rm_M_fits s m args below meth c (MQ below (vp_Si (fun r => isB r ∧ K r)) args s 0 0 (fun _ => False)) 7 t true 0 [(0, va_rf (some a0)), (1, .int p1)] [] G := by
  unfold w_M_fits at hwp
  refine kw_aload_n (pc := 0) X d_M_fits_0 rfl 0 rfl ?_
  refine kw_iload_n (pc := 1) X d_M_fits_1 rfl 1 rfl ?_
  refine kw_iconst (v := 2) (pc := 2) X d_M_fits_2 (by decide) ?_
  obtain ⟨f1, hwp⟩ := hwp
  refine kcVp_l (n := 2) (As := [.int p1, .int (2 : Int32)]) (rest := []) (pc := 3) X (c_M_get l t G a0 p1 (2 : Int32) _) (cwV_of (C := "TreeServerModel") X x_1175 x_1172 x_1174 xp_56 x_13 (by decide +kernel) ⟨rfl, rfl⟩ (by decide)) (rv_10 X f1) rfl rfl (by decide) d_M_fits_3 hwp (fun v2 hwp => ?_)
  refine kw_l2i (pc := 6) X d_M_fits_6 ?_
  obtain ⟨v3, e_v3⟩ : ∃ z, z = v2.toInt32 := ⟨_, rfl⟩
  have hwp := hwp v3 e_v3
  refine kW.st (st' := .int v3 :: _) (by rw [e_v3]) ?_
  refine kw_istore_n (i := 2) (lv' := [(2, .int v3), (0, va_rf (some a0)), (1, .int p1)]) (pc := 7) X d_M_fits_7 rfl (by decide) rfl ?_
  refine kw_iload_n (pc := 8) X d_M_fits_8 rfl 0 rfl ?_
  refine kw_iconst (v := 1) (pc := 9) X d_M_fits_9 (by decide) ?_
  refine kw_icmp_lt (tgt := 19) (pc := 10) X d_M_fits_10 (by decide) (fun h => ?_) (fun h => ?_)
  · have hwp := ite_t h hwp
    refine kw_iconst (v := 0) (pc := 19) X d_M_fits_19 (by decide) ?_
    exact krp_z (pc := 20) X hret d_M_fits_20 (Or.inl rfl) hwp
  · have hwp := ite_f h hwp
    refine kw_iload_n (pc := 13) X d_M_fits_13 rfl 0 rfl ?_
    refine kw_bipush (v := 8) (pc := 14) X d_M_fits_14 (by decide) ?_
    refine kw_icmp_le (tgt := 21) (pc := 16) X d_M_fits_16 (by decide) (fun h => ?_) (fun h => ?_)
    · have hwp := ite_t h hwp
      refine kw_iconst (v := 1) (pc := 21) X d_M_fits_21 (by decide) ?_
      refine kw_istore_n (i := 3) (lv' := [(3, .int (1 : Int32)), (2, .int v3), (0, va_rf (some a0)), (1, .int p1)]) (pc := 22) X d_M_fits_22 rfl (by decide) rfl ?_
      refine kw_iload_n (pc := 23) X d_M_fits_23 rfl 1 rfl ?_
      refine kw_iconst (v := 3) (pc := 24) X d_M_fits_24 (by decide) ?_
      refine kw_icmp_ge (tgt := 32) (pc := 25) X d_M_fits_25 (by decide) (fun h => ?_) (fun h => ?_)
      · have hwp := ite_t h hwp
        refine kw_iconst (v := 0) (pc := 32) X d_M_fits_32 (by decide) ?_
        exact kW.sub [2, 3, 1, 0] rfl (k_M_fits_33 X hret  _ _ _ _ hwp)
      · have hwp := ite_f h hwp
        refine kw_iconst (v := 1) (pc := 28) X d_M_fits_28 (by decide) ?_
        refine kw_goto (tgt := 33) (pc := 29) X d_M_fits_29 (by decide) ?_
        exact kW.sub [2, 3, 1, 0] rfl (k_M_fits_33 X hret  _ _ _ _ hwp)
    · have hwp := ite_f h hwp
      refine kw_iconst (v := 0) (pc := 19) X d_M_fits_19 (by decide) ?_
      exact krp_z (pc := 20) X hret d_M_fits_20 (Or.inl rfl) hwp
set_option maxRecDepth 100000 in
set_option maxHeartbeats 4000000 in
theorem c_M_fits (l : Launch) (t : TY) (G : GS) (a0 : Nat) (p1 : Int32) (K : Int32 → Prop) : Met l y_M_fits (Cond.code y_M_fits b_M_fits 7 (Option.some Jvm.ClassFile.FieldType.boolean) :: GW) rm_M_fits (va_Pc [.ref a0, .int p1] (fun U => HB t G U.heap ∧ HK t U ∧ w_M_fits t G a0 p1 K)) (vp_Si (fun r => isB r ∧ K r)) 0 0 (fun _ => False) := by
  refine Met.ofW (cc := b_M_fits) (maxL := 7) (ret := some .boolean) (by decide) rfl ?_
  intro p e s m args below meth c s₁ B hml hv
  obtain ⟨rfl, hB, hK, hwp⟩ := hv
  have hts := atoms_spec (ws := Cond.code y_M_fits b_M_fits 7 (Option.some Jvm.ClassFile.FieldType.boolean) :: GW) B.pre
  have X : kX p s m _ meth c b_M_fits 7 "TreeServerModel" t := ⟨B.exec, B.bytes, hml, findClass_of_methodNamed B.named, fun w h => hts w (List.mem_cons_of_mem _ h), B.notSynchronized, hK⟩
  have hZ : kZ t true s G s.heap [] := ⟨hB, va_S.rf, fun _ => ⟨rfl, rfl⟩⟩
  rw [lg_entry_eq]
  have hl := lv_entry ([.ref a0, .int p1]) (n := 7) (by simp [lg_sl, rf_cat, cat_i, cat_l, cat_r])
  exact k_M_fits X B.returns _ hwp s.heap [] _ hl hZ
abbrev b_M_isDots : ByteArray := prog_13_method_26_code
def y_M_isDots : MethodName := ⟨"TreeServerModel", "isDots", "(I)Z"⟩
theorem d_M_isDots_0 : decode b_M_isDots 0 = .ok (.aload_n 0, 1) := by decide +kernel
theorem d_M_isDots_1 : decode b_M_isDots 1 = .ok (.iload_n 1, 1) := by decide +kernel
theorem d_M_isDots_2 : decode b_M_isDots 2 = .ok (.iconst 2, 1) := by decide +kernel
theorem d_M_isDots_3 : decode b_M_isDots 3 = .ok (.invokevirtual 85, 3) := by decide +kernel
theorem d_M_isDots_6 : decode b_M_isDots 6 = .ok (.ldc2_w 147, 3) := by decide +kernel
theorem d_M_isDots_9 : decode b_M_isDots 9 = .ok (.lcmp, 1) := by decide +kernel
theorem d_M_isDots_10 : decode b_M_isDots 10 = .ok (.ifCond .ne 33, 3) := by decide +kernel
theorem d_M_isDots_13 : decode b_M_isDots 13 = .ok (.aload_n 0, 1) := by decide +kernel
theorem d_M_isDots_14 : decode b_M_isDots 14 = .ok (.getfield 70, 3) := by decide +kernel
theorem d_M_isDots_17 : decode b_M_isDots 17 = .ok (.iload_n 1, 1) := by decide +kernel
theorem d_M_isDots_18 : decode b_M_isDots 18 = .ok (.iconst 2, 1) := by decide +kernel
theorem d_M_isDots_19 : decode b_M_isDots 19 = .ok (.iadd, 1) := by decide +kernel
theorem d_M_isDots_20 : decode b_M_isDots 20 = .ok (.iaload, 1) := by decide +kernel
theorem d_M_isDots_21 : decode b_M_isDots 21 = .ok (.bipush 46, 2) := by decide +kernel
theorem d_M_isDots_23 : decode b_M_isDots 23 = .ok (.if_icmp .ne 20, 3) := by decide +kernel
theorem d_M_isDots_26 : decode b_M_isDots 26 = .ok (.aload_n 0, 1) := by decide +kernel
theorem d_M_isDots_27 : decode b_M_isDots 27 = .ok (.getfield 70, 3) := by decide +kernel
theorem d_M_isDots_30 : decode b_M_isDots 30 = .ok (.iload_n 1, 1) := by decide +kernel
theorem d_M_isDots_31 : decode b_M_isDots 31 = .ok (.iconst 3, 1) := by decide +kernel
theorem d_M_isDots_32 : decode b_M_isDots 32 = .ok (.iadd, 1) := by decide +kernel
theorem d_M_isDots_33 : decode b_M_isDots 33 = .ok (.iaload, 1) := by decide +kernel
theorem d_M_isDots_34 : decode b_M_isDots 34 = .ok (.bipush 46, 2) := by decide +kernel
theorem d_M_isDots_36 : decode b_M_isDots 36 = .ok (.if_icmp .ne 7, 3) := by decide +kernel
theorem d_M_isDots_39 : decode b_M_isDots 39 = .ok (.iconst 1, 1) := by decide +kernel
theorem d_M_isDots_40 : decode b_M_isDots 40 = .ok (.goto 4, 3) := by decide +kernel
theorem d_M_isDots_43 : decode b_M_isDots 43 = .ok (.iconst 0, 1) := by decide +kernel
theorem d_M_isDots_44 : decode b_M_isDots 44 = .ok (.ireturn, 1) := by decide +kernel
abbrev rm_M_isDots : Room := { frames := 1, cells := 0, slots := 0, locals := 25 }
set_option maxRecDepth 100000 in
set_option maxHeartbeats 4000000 in
theorem k_M_isDots {p : Program} {l : Launch} {e : Env} {s : State} {m : MethodId} {args : Array Value} {below : List Frame} {meth : Method} {c : Code} {t : TY} {a0 : Nat} {G : GS} {K : Int32 → Prop} (X : kX p s m args meth c b_M_isDots 2 "TreeServerModel" t) (hret : meth.sig.returnType = some .boolean) (p1 : Int32) (hwp : w_M_isDots t G a0 p1 K) : kW p l e rm_M_isDots s m args below meth c (MQ below (vp_Si (fun r => isB r ∧ K r)) args s 0 0 (fun _ => False)) 2 t true 0 [(0, va_rf (some a0)), (1, .int p1)] [] G := by
  unfold w_M_isDots at hwp
  refine kw_aload_n (pc := 0) X d_M_isDots_0 rfl 0 rfl ?_
  refine kw_iload_n (pc := 1) X d_M_isDots_1 rfl 1 rfl ?_
  refine kw_iconst (v := 2) (pc := 2) X d_M_isDots_2 (by decide) ?_
  obtain ⟨f1, hwp⟩ := hwp
  refine kcVp_l (n := 2) (As := [.int p1, .int (2 : Int32)]) (rest := []) (pc := 3) X (c_M_get l t G a0 p1 (2 : Int32) _) (cwV_of (C := "TreeServerModel") X x_1175 x_1172 x_1174 xp_56 x_13 (by decide +kernel) ⟨rfl, rfl⟩ (by decide)) (rv_10 X f1) rfl rfl (by decide) d_M_isDots_3 hwp (fun v2 hwp => ?_)
  refine kw_ldc2 (v := 2) (pc := 6) X d_M_isDots_6 x_1265 ?_
  refine kw_lcmp_ne (tgt := 43) (pc := 9) X d_M_isDots_9 d_M_isDots_10 (by decide) (fun h => ?_) (fun h => ?_)
  · have hwp := ite_t h hwp
    refine kw_iconst (v := 0) (pc := 43) X d_M_isDots_43 (by decide) ?_
    exact krp_z (pc := 44) X hret d_M_isDots_44 (Or.inl rfl) hwp
  · have hwp := ite_f (not_not_intro h) hwp
    refine kw_aload_n (pc := 13) X d_M_isDots_13 rfl 0 rfl ?_
    refine kg_94 (a := a0) (pc := 14) X d_M_isDots_14 x_1014 rfl f1 ?_
    refine kw_iload_n (pc := 17) X d_M_isDots_17 rfl 1 rfl ?_
    refine kw_iconst (v := 2) (pc := 18) X d_M_isDots_18 (by decide) ?_
    refine kw_iadd (pc := 19) X d_M_isDots_19 ?_
    obtain ⟨a3, h_a3, hwp⟩ := hwp
    obtain ⟨f4, hwp⟩ := hwp
    obtain ⟨f5, hwp⟩ := hwp
    refine ka_iald (a := a3) (pc := 20) X d_M_isDots_20 h_a3 f4 f5 ?_
    refine kw_bipush (v := 46) (pc := 21) X d_M_isDots_21 (by decide) ?_
    refine kw_icmp_ne (tgt := 43) (pc := 23) X d_M_isDots_23 (by decide) (fun h => ?_) (fun h => ?_)
    · have hwp := ite_t h hwp
      refine kw_iconst (v := 0) (pc := 43) X d_M_isDots_43 (by decide) ?_
      exact krp_z (pc := 44) X hret d_M_isDots_44 (Or.inl rfl) hwp
    · have hwp := ite_f (not_not_intro h) hwp
      refine kw_aload_n (pc := 26) X d_M_isDots_26 rfl 0 rfl ?_
      refine kg_94 (a := a0) (pc := 27) X d_M_isDots_27 x_1014 rfl f1 ?_
      refine kw_iload_n (pc := 30) X d_M_isDots_30 rfl 1 rfl ?_
      refine kw_iconst (v := 3) (pc := 31) X d_M_isDots_31 (by decide) ?_
      refine kw_iadd (pc := 32) X d_M_isDots_32 ?_
      obtain ⟨f6, hwp⟩ := hwp
      refine ka_iald (a := a3) (pc := 33) X d_M_isDots_33 h_a3 f4 f6 ?_
      refine kw_bipush (v := 46) (pc := 34) X d_M_isDots_34 (by decide) ?_
      refine kw_icmp_ne (tgt := 43) (pc := 36) X d_M_isDots_36 (by decide) (fun h => ?_) (fun h => ?_)
      · have hwp := ite_t h hwp
        refine kw_iconst (v := 0) (pc := 43) X d_M_isDots_43 (by decide) ?_
        exact krp_z (pc := 44) X hret d_M_isDots_44 (Or.inl rfl) hwp
      · have hwp := ite_f (not_not_intro h) hwp
        refine kw_iconst (v := 1) (pc := 39) X d_M_isDots_39 (by decide) ?_
        refine kw_goto (tgt := 44) (pc := 40) X d_M_isDots_40 (by decide) ?_
        exact krp_z (pc := 44) X hret d_M_isDots_44 (Or.inr rfl) hwp
set_option maxRecDepth 100000 in
set_option maxHeartbeats 4000000 in
theorem c_M_isDots (l : Launch) (t : TY) (G : GS) (a0 : Nat) (p1 : Int32) (K : Int32 → Prop) : Met l y_M_isDots (Cond.code y_M_isDots b_M_isDots 2 (Option.some Jvm.ClassFile.FieldType.boolean) :: GW) rm_M_isDots (va_Pc [.ref a0, .int p1] (fun U => HB t G U.heap ∧ HK t U ∧ w_M_isDots t G a0 p1 K)) (vp_Si (fun r => isB r ∧ K r)) 0 0 (fun _ => False) := by
  refine Met.ofW (cc := b_M_isDots) (maxL := 2) (ret := some .boolean) (by decide) rfl ?_
  intro p e s m args below meth c s₁ B hml hv
  obtain ⟨rfl, hB, hK, hwp⟩ := hv
  have hts := atoms_spec (ws := Cond.code y_M_isDots b_M_isDots 2 (Option.some Jvm.ClassFile.FieldType.boolean) :: GW) B.pre
  have X : kX p s m _ meth c b_M_isDots 2 "TreeServerModel" t := ⟨B.exec, B.bytes, hml, findClass_of_methodNamed B.named, fun w h => hts w (List.mem_cons_of_mem _ h), B.notSynchronized, hK⟩
  have hZ : kZ t true s G s.heap [] := ⟨hB, va_S.rf, fun _ => ⟨rfl, rfl⟩⟩
  rw [lg_entry_eq]
  have hl := lv_entry ([.ref a0, .int p1]) (n := 2) (by simp [lg_sl, rf_cat, cat_i, cat_l, cat_r])
  exact k_M_isDots X B.returns _ hwp s.heap [] _ hl hZ
abbrev b_M_qid : ByteArray := prog_13_method_27_code
def y_M_qid : MethodName := ⟨"TreeServerModel", "qid", "(I)V"⟩
theorem d_M_qid_0 : decode b_M_qid 0 = .ok (.aload_n 0, 1) := by decide +kernel
theorem d_M_qid_1 : decode b_M_qid 1 = .ok (.aload_n 0, 1) := by decide +kernel
theorem d_M_qid_2 : decode b_M_qid 2 = .ok (.iload_n 1, 1) := by decide +kernel
theorem d_M_qid_3 : decode b_M_qid 3 = .ok (.iconst 3, 1) := by decide +kernel
theorem d_M_qid_4 : decode b_M_qid 4 = .ok (.invokevirtual 81, 3) := by decide +kernel
theorem d_M_qid_7 : decode b_M_qid 7 = .ok (.bipush 24, 2) := by decide +kernel
theorem d_M_qid_9 : decode b_M_qid 9 = .ok (.iushr, 1) := by decide +kernel
theorem d_M_qid_10 : decode b_M_qid 10 = .ok (.i2l, 1) := by decide +kernel
theorem d_M_qid_11 : decode b_M_qid 11 = .ok (.iconst 1, 1) := by decide +kernel
theorem d_M_qid_12 : decode b_M_qid 12 = .ok (.invokevirtual 137, 3) := by decide +kernel
theorem d_M_qid_15 : decode b_M_qid 15 = .ok (.aload_n 0, 1) := by decide +kernel
theorem d_M_qid_16 : decode b_M_qid 16 = .ok (.aload_n 0, 1) := by decide +kernel
theorem d_M_qid_17 : decode b_M_qid 17 = .ok (.iload_n 1, 1) := by decide +kernel
theorem d_M_qid_18 : decode b_M_qid 18 = .ok (.iconst 2, 1) := by decide +kernel
theorem d_M_qid_19 : decode b_M_qid 19 = .ok (.invokevirtual 81, 3) := by decide +kernel
theorem d_M_qid_22 : decode b_M_qid 22 = .ok (.i2l, 1) := by decide +kernel
theorem d_M_qid_23 : decode b_M_qid 23 = .ok (.iconst 4, 1) := by decide +kernel
theorem d_M_qid_24 : decode b_M_qid 24 = .ok (.invokevirtual 137, 3) := by decide +kernel
theorem d_M_qid_27 : decode b_M_qid 27 = .ok (.aload_n 0, 1) := by decide +kernel
theorem d_M_qid_28 : decode b_M_qid 28 = .ok (.aload_n 0, 1) := by decide +kernel
theorem d_M_qid_29 : decode b_M_qid 29 = .ok (.iload_n 1, 1) := by decide +kernel
theorem d_M_qid_30 : decode b_M_qid 30 = .ok (.iconst 1, 1) := by decide +kernel
theorem d_M_qid_31 : decode b_M_qid 31 = .ok (.invokevirtual 81, 3) := by decide +kernel
theorem d_M_qid_34 : decode b_M_qid 34 = .ok (.i2l, 1) := by decide +kernel
theorem d_M_qid_35 : decode b_M_qid 35 = .ok (.bipush 8, 2) := by decide +kernel
theorem d_M_qid_37 : decode b_M_qid 37 = .ok (.invokevirtual 137, 3) := by decide +kernel
theorem d_M_qid_40 : decode b_M_qid 40 = .ok (.return_, 1) := by decide +kernel
abbrev rm_M_qid : Room := { frames := 1, cells := 0, slots := 0, locals := 24 }
set_option maxRecDepth 100000 in
set_option maxHeartbeats 4000000 in
theorem k_M_qid {p : Program} {l : Launch} {e : Env} {s : State} {m : MethodId} {args : Array Value} {below : List Frame} {meth : Method} {c : Code} {t : TY} {a0 : Nat} {K : GS → Prop} (X : kX p s m args meth c b_M_qid 2 "TreeServerModel" t) (hret : meth.sig.returnType = none) (G : GS) (p1 : Int32) (hwp : w_M_qid t G a0 p1 K) : kW p l e rm_M_qid s m args below meth c (MQ below (va_Qv (fun u : GS => K u) (fun u T => HB t u T.heap) (tA t)) args s 0 0 (tA t)) 2 t false 0 [(0, va_rf (some a0)), (1, .int p1)] [] G := by
  unfold w_M_qid at hwp
  refine kw_aload_n (pc := 0) X d_M_qid_0 rfl 0 rfl ?_
  refine kw_aload_n (pc := 1) X d_M_qid_1 rfl 0 rfl ?_
  refine kw_iload_n (pc := 2) X d_M_qid_2 rfl 1 rfl ?_
  refine kw_iconst (v := 3) (pc := 3) X d_M_qid_3 (by decide) ?_
  obtain ⟨f1, hwp⟩ := hwp
  refine kcVp_i (n := 2) (As := [.int p1, .int (3 : Int32)]) (rest := [va_rf (some a0)]) (pc := 4) X (c_M_at l t G a0 p1 (3 : Int32) _) (cwV_of (C := "TreeServerModel") X x_1111 x_1108 x_1110 xp_41 x_13 (by decide +kernel) ⟨rfl, rfl⟩ (by decide)) (rv_10 X f1) rfl rfl (by simp [rf_cat, cat_i, cat_l, cat_r]) d_M_qid_4 hwp (fun v2 hwp => ?_)
  refine kw_bipush (v := 24) (pc := 7) X d_M_qid_7 (by decide) ?_
  refine kw_iushr (pc := 9) X d_M_qid_9 ?_
  refine kw_i2l (pc := 10) X d_M_qid_10 ?_
  refine kw_iconst (v := 1) (pc := 11) X d_M_qid_11 (by decide) ?_
  refine kcV_v (n := 2) (As := [.long ((v2.toUInt32 >>> ((24 : Int32).toUInt32 &&& Int32.toUInt32 31)).toInt32.toInt64), .int (1 : Int32)]) (rest := []) (pc := 12) X rfl (c_M_put l t G a0 ((v2.toUInt32 >>> ((24 : Int32).toUInt32 &&& Int32.toUInt32 31)).toInt32.toInt64) (1 : Int32) _) (cwV_of (C := "TreeServerModel") X x_1199 x_1196 x_1198 xp_60 x_13 (by decide +kernel) ⟨rfl, rfl⟩ (by decide)) (rv_10 X f1) rfl rfl (by decide) d_M_qid_12 hwp (fun G3 hwp => ?_)
  refine kw_aload_n (pc := 15) X d_M_qid_15 rfl 0 rfl ?_
  refine kw_aload_n (pc := 16) X d_M_qid_16 rfl 0 rfl ?_
  refine kw_iload_n (pc := 17) X d_M_qid_17 rfl 1 rfl ?_
  refine kw_iconst (v := 2) (pc := 18) X d_M_qid_18 (by decide) ?_
  refine kcVp_i (n := 2) (As := [.int p1, .int (2 : Int32)]) (rest := [va_rf (some a0)]) (pc := 19) X (c_M_at l t G3 a0 p1 (2 : Int32) _) (cwV_of (C := "TreeServerModel") X x_1111 x_1108 x_1110 xp_41 x_13 (by decide +kernel) ⟨rfl, rfl⟩ (by decide)) (rv_10 X f1) rfl rfl (by simp [rf_cat, cat_i, cat_l, cat_r]) d_M_qid_19 hwp (fun v4 hwp => ?_)
  refine kw_i2l (pc := 22) X d_M_qid_22 ?_
  refine kw_iconst (v := 4) (pc := 23) X d_M_qid_23 (by decide) ?_
  refine kcV_v (n := 2) (As := [.long v4.toInt64, .int (4 : Int32)]) (rest := []) (pc := 24) X rfl (c_M_put l t G3 a0 v4.toInt64 (4 : Int32) _) (cwV_of (C := "TreeServerModel") X x_1199 x_1196 x_1198 xp_60 x_13 (by decide +kernel) ⟨rfl, rfl⟩ (by decide)) (rv_10 X f1) rfl rfl (by decide) d_M_qid_24 hwp (fun G5 hwp => ?_)
  refine kw_aload_n (pc := 27) X d_M_qid_27 rfl 0 rfl ?_
  refine kw_aload_n (pc := 28) X d_M_qid_28 rfl 0 rfl ?_
  refine kw_iload_n (pc := 29) X d_M_qid_29 rfl 1 rfl ?_
  refine kw_iconst (v := 1) (pc := 30) X d_M_qid_30 (by decide) ?_
  refine kcVp_i (n := 2) (As := [.int p1, .int (1 : Int32)]) (rest := [va_rf (some a0)]) (pc := 31) X (c_M_at l t G5 a0 p1 (1 : Int32) _) (cwV_of (C := "TreeServerModel") X x_1111 x_1108 x_1110 xp_41 x_13 (by decide +kernel) ⟨rfl, rfl⟩ (by decide)) (rv_10 X f1) rfl rfl (by simp [rf_cat, cat_i, cat_l, cat_r]) d_M_qid_31 hwp (fun v6 hwp => ?_)
  refine kw_i2l (pc := 34) X d_M_qid_34 ?_
  refine kw_bipush (v := 8) (pc := 35) X d_M_qid_35 (by decide) ?_
  refine kcV_v (n := 2) (As := [.long v6.toInt64, .int (8 : Int32)]) (rest := []) (pc := 37) X rfl (c_M_put l t G5 a0 v6.toInt64 (8 : Int32) _) (cwV_of (C := "TreeServerModel") X x_1199 x_1196 x_1198 xp_60 x_13 (by decide +kernel) ⟨rfl, rfl⟩ (by decide)) (rv_10 X f1) rfl rfl (by decide) d_M_qid_37 hwp (fun G7 hwp => ?_)
  exact kr_v (pc := 40) X hret d_M_qid_40 hwp
set_option maxRecDepth 100000 in
set_option maxHeartbeats 4000000 in
theorem c_M_qid (l : Launch) (t : TY) (G : GS) (a0 : Nat) (p1 : Int32) (K : GS → Prop) : Met l y_M_qid (Cond.code y_M_qid b_M_qid 2 (Option.none : Option Jvm.ClassFile.FieldType) :: GW) rm_M_qid (va_Pc [.ref a0, .int p1] (fun U => HB t G U.heap ∧ HK t U ∧ w_M_qid t G a0 p1 K)) (va_Qv (fun u : GS => K u) (fun u T => HB t u T.heap) (tA t)) 0 0 (tA t) := by
  refine Met.ofW (cc := b_M_qid) (maxL := 2) (ret := none) (by decide) rfl ?_
  intro p e s m args below meth c s₁ B hml hv
  obtain ⟨rfl, hB, hK, hwp⟩ := hv
  have hts := atoms_spec (ws := Cond.code y_M_qid b_M_qid 2 (Option.none : Option Jvm.ClassFile.FieldType) :: GW) B.pre
  have X : kX p s m _ meth c b_M_qid 2 "TreeServerModel" t := ⟨B.exec, B.bytes, hml, findClass_of_methodNamed B.named, fun w h => hts w (List.mem_cons_of_mem _ h), B.notSynchronized, hK⟩
  have hZ : kZ t false s G s.heap [] := ⟨hB, va_S.rf, fun _ => ⟨rfl, rfl⟩⟩
  rw [lg_entry_eq]
  have hl := lv_entry ([.ref a0, .int p1]) (n := 2) (by simp [lg_sl, rf_cat, cat_i, cat_l, cat_r])
  exact k_M_qid X B.returns _ _ hwp s.heap [] _ hl hZ
abbrev b_M_statSize : ByteArray := prog_13_method_28_code
def y_M_statSize : MethodName := ⟨"TreeServerModel", "statSize", "(I)I"⟩
theorem d_M_statSize_0 : decode b_M_statSize 0 = .ok (.bipush 49, 2) := by decide +kernel
theorem d_M_statSize_2 : decode b_M_statSize 2 = .ok (.aload_n 0, 1) := by decide +kernel
theorem d_M_statSize_3 : decode b_M_statSize 3 = .ok (.iload_n 1, 1) := by decide +kernel
theorem d_M_statSize_4 : decode b_M_statSize 4 = .ok (.bipush 9, 2) := by decide +kernel
theorem d_M_statSize_6 : decode b_M_statSize 6 = .ok (.invokevirtual 81, 3) := by decide +kernel
theorem d_M_statSize_9 : decode b_M_statSize 9 = .ok (.iadd, 1) := by decide +kernel
theorem d_M_statSize_10 : decode b_M_statSize 10 = .ok (.aload_n 0, 1) := by decide +kernel
theorem d_M_statSize_11 : decode b_M_statSize 11 = .ok (.iload_n 1, 1) := by decide +kernel
theorem d_M_statSize_12 : decode b_M_statSize 12 = .ok (.iconst 5, 1) := by decide +kernel
theorem d_M_statSize_13 : decode b_M_statSize 13 = .ok (.invokevirtual 81, 3) := by decide +kernel
theorem d_M_statSize_16 : decode b_M_statSize 16 = .ok (.invokestatic 149, 3) := by decide +kernel
theorem d_M_statSize_19 : decode b_M_statSize 19 = .ok (.invokestatic 133, 3) := by decide +kernel
theorem d_M_statSize_22 : decode b_M_statSize 22 = .ok (.iadd, 1) := by decide +kernel
theorem d_M_statSize_23 : decode b_M_statSize 23 = .ok (.aload_n 0, 1) := by decide +kernel
theorem d_M_statSize_24 : decode b_M_statSize 24 = .ok (.iload_n 1, 1) := by decide +kernel
theorem d_M_statSize_25 : decode b_M_statSize 25 = .ok (.bipush 6, 2) := by decide +kernel
theorem d_M_statSize_27 : decode b_M_statSize 27 = .ok (.invokevirtual 81, 3) := by decide +kernel
theorem d_M_statSize_30 : decode b_M_statSize 30 = .ok (.invokestatic 149, 3) := by decide +kernel
theorem d_M_statSize_33 : decode b_M_statSize 33 = .ok (.invokestatic 133, 3) := by decide +kernel
theorem d_M_statSize_36 : decode b_M_statSize 36 = .ok (.iadd, 1) := by decide +kernel
theorem d_M_statSize_37 : decode b_M_statSize 37 = .ok (.aload_n 0, 1) := by decide +kernel
theorem d_M_statSize_38 : decode b_M_statSize 38 = .ok (.iload_n 1, 1) := by decide +kernel
theorem d_M_statSize_39 : decode b_M_statSize 39 = .ok (.bipush 7, 2) := by decide +kernel
theorem d_M_statSize_41 : decode b_M_statSize 41 = .ok (.invokevirtual 81, 3) := by decide +kernel
theorem d_M_statSize_44 : decode b_M_statSize 44 = .ok (.invokestatic 149, 3) := by decide +kernel
theorem d_M_statSize_47 : decode b_M_statSize 47 = .ok (.invokestatic 133, 3) := by decide +kernel
theorem d_M_statSize_50 : decode b_M_statSize 50 = .ok (.iadd, 1) := by decide +kernel
theorem d_M_statSize_51 : decode b_M_statSize 51 = .ok (.ireturn, 1) := by decide +kernel
abbrev rm_M_statSize : Room := { frames := 1, cells := 0, slots := 0, locals := 24 }
set_option maxRecDepth 100000 in
set_option maxHeartbeats 4000000 in
theorem k_M_statSize {p : Program} {l : Launch} {e : Env} {s : State} {m : MethodId} {args : Array Value} {below : List Frame} {meth : Method} {c : Code} {t : TY} {a0 : Nat} {G : GS} {K : Int32 → Prop} (X : kX p s m args meth c b_M_statSize 2 "TreeServerModel" t) (hret : meth.sig.returnType = some .int) (p1 : Int32) (hwp : w_M_statSize t G a0 p1 K) : kW p l e rm_M_statSize s m args below meth c (MQ below (vp_Si K) args s 0 0 (fun _ => False)) 2 t true 0 [(0, va_rf (some a0)), (1, .int p1)] [] G := by
  unfold w_M_statSize at hwp
  refine kw_bipush (v := 49) (pc := 0) X d_M_statSize_0 (by decide) ?_
  refine kw_aload_n (pc := 2) X d_M_statSize_2 rfl 0 rfl ?_
  refine kw_iload_n (pc := 3) X d_M_statSize_3 rfl 1 rfl ?_
  refine kw_bipush (v := 9) (pc := 4) X d_M_statSize_4 (by decide) ?_
  obtain ⟨f1, hwp⟩ := hwp
  refine kcVp_i (n := 2) (As := [.int p1, .int (9 : Int32)]) (rest := [.int (49 : Int32)]) (pc := 6) X (c_M_at l t G a0 p1 (9 : Int32) _) (cwV_of (C := "TreeServerModel") X x_1111 x_1108 x_1110 xp_41 x_13 (by decide +kernel) ⟨rfl, rfl⟩ (by decide)) (rv_10 X f1) rfl rfl (by simp [rf_cat, cat_i, cat_l, cat_r]) d_M_statSize_6 hwp (fun v2 hwp => ?_)
  refine kw_iadd (pc := 9) X d_M_statSize_9 ?_
  refine kw_aload_n (pc := 10) X d_M_statSize_10 rfl 0 rfl ?_
  refine kw_iload_n (pc := 11) X d_M_statSize_11 rfl 1 rfl ?_
  refine kw_iconst (v := 5) (pc := 12) X d_M_statSize_12 (by decide) ?_
  refine kcVp_i (n := 2) (As := [.int p1, .int (5 : Int32)]) (rest := [.int ((49 : Int32) + v2)]) (pc := 13) X (c_M_at l t G a0 p1 (5 : Int32) _) (cwV_of (C := "TreeServerModel") X x_1111 x_1108 x_1110 xp_41 x_13 (by decide +kernel) ⟨rfl, rfl⟩ (by decide)) (rv_10 X f1) rfl rfl (by simp [rf_cat, cat_i, cat_l, cat_r]) d_M_statSize_13 hwp (fun v3 hwp => ?_)
  refine kcSp_l (n := 1) (As := [.int v3]) (rest := [.int ((49 : Int32) + v2)]) (pc := 16) X (c_M_nameOf l t G v3 _) (cwS_of X x_1327 x_1325 x_1326 x_13 (by decide +kernel) ⟨rfl, rfl⟩ (by decide)) rfl rfl (by simp [rf_cat, cat_i, cat_l, cat_r]) d_M_statSize_16 hwp (fun v4 hwp => ?_)
  refine kcSp_i (n := 1) (As := [.long v4]) (rest := [.int ((49 : Int32) + v2)]) (pc := 19) X (c_M_lengthOf l t G v4 _) (cwS_of X x_1207 x_1205 x_1206 x_13 (by decide +kernel) ⟨rfl, rfl⟩ (by decide)) rfl rfl (by simp [rf_cat, cat_i, cat_l, cat_r]) d_M_statSize_19 hwp (fun v5 hwp => ?_)
  refine kw_iadd (pc := 22) X d_M_statSize_22 ?_
  refine kw_aload_n (pc := 23) X d_M_statSize_23 rfl 0 rfl ?_
  refine kw_iload_n (pc := 24) X d_M_statSize_24 rfl 1 rfl ?_
  refine kw_bipush (v := 6) (pc := 25) X d_M_statSize_25 (by decide) ?_
  refine kcVp_i (n := 2) (As := [.int p1, .int (6 : Int32)]) (rest := [.int (((49 : Int32) + v2) + v5)]) (pc := 27) X (c_M_at l t G a0 p1 (6 : Int32) _) (cwV_of (C := "TreeServerModel") X x_1111 x_1108 x_1110 xp_41 x_13 (by decide +kernel) ⟨rfl, rfl⟩ (by decide)) (rv_10 X f1) rfl rfl (by simp [rf_cat, cat_i, cat_l, cat_r]) d_M_statSize_27 hwp (fun v6 hwp => ?_)
  refine kcSp_l (n := 1) (As := [.int v6]) (rest := [.int (((49 : Int32) + v2) + v5)]) (pc := 30) X (c_M_nameOf l t G v6 _) (cwS_of X x_1327 x_1325 x_1326 x_13 (by decide +kernel) ⟨rfl, rfl⟩ (by decide)) rfl rfl (by simp [rf_cat, cat_i, cat_l, cat_r]) d_M_statSize_30 hwp (fun v7 hwp => ?_)
  refine kcSp_i (n := 1) (As := [.long v7]) (rest := [.int (((49 : Int32) + v2) + v5)]) (pc := 33) X (c_M_lengthOf l t G v7 _) (cwS_of X x_1207 x_1205 x_1206 x_13 (by decide +kernel) ⟨rfl, rfl⟩ (by decide)) rfl rfl (by simp [rf_cat, cat_i, cat_l, cat_r]) d_M_statSize_33 hwp (fun v8 hwp => ?_)
  refine kw_iadd (pc := 36) X d_M_statSize_36 ?_
  refine kw_aload_n (pc := 37) X d_M_statSize_37 rfl 0 rfl ?_
  refine kw_iload_n (pc := 38) X d_M_statSize_38 rfl 1 rfl ?_
  refine kw_bipush (v := 7) (pc := 39) X d_M_statSize_39 (by decide) ?_
  refine kcVp_i (n := 2) (As := [.int p1, .int (7 : Int32)]) (rest := [.int ((((49 : Int32) + v2) + v5) + v8)]) (pc := 41) X (c_M_at l t G a0 p1 (7 : Int32) _) (cwV_of (C := "TreeServerModel") X x_1111 x_1108 x_1110 xp_41 x_13 (by decide +kernel) ⟨rfl, rfl⟩ (by decide)) (rv_10 X f1) rfl rfl (by simp [rf_cat, cat_i, cat_l, cat_r]) d_M_statSize_41 hwp (fun v9 hwp => ?_)
  refine kcSp_l (n := 1) (As := [.int v9]) (rest := [.int ((((49 : Int32) + v2) + v5) + v8)]) (pc := 44) X (c_M_nameOf l t G v9 _) (cwS_of X x_1327 x_1325 x_1326 x_13 (by decide +kernel) ⟨rfl, rfl⟩ (by decide)) rfl rfl (by simp [rf_cat, cat_i, cat_l, cat_r]) d_M_statSize_44 hwp (fun v10 hwp => ?_)
  refine kcSp_i (n := 1) (As := [.long v10]) (rest := [.int ((((49 : Int32) + v2) + v5) + v8)]) (pc := 47) X (c_M_lengthOf l t G v10 _) (cwS_of X x_1207 x_1205 x_1206 x_13 (by decide +kernel) ⟨rfl, rfl⟩ (by decide)) rfl rfl (by simp [rf_cat, cat_i, cat_l, cat_r]) d_M_statSize_47 hwp (fun v11 hwp => ?_)
  refine kw_iadd (pc := 50) X d_M_statSize_50 ?_
  exact krp_i (pc := 51) X hret d_M_statSize_51 hwp
set_option maxRecDepth 100000 in
set_option maxHeartbeats 4000000 in
theorem c_M_statSize (l : Launch) (t : TY) (G : GS) (a0 : Nat) (p1 : Int32) (K : Int32 → Prop) : Met l y_M_statSize (Cond.code y_M_statSize b_M_statSize 2 (Option.some Jvm.ClassFile.FieldType.int) :: GW) rm_M_statSize (va_Pc [.ref a0, .int p1] (fun U => HB t G U.heap ∧ HK t U ∧ w_M_statSize t G a0 p1 K)) (vp_Si K) 0 0 (fun _ => False) := by
  refine Met.ofW (cc := b_M_statSize) (maxL := 2) (ret := some .int) (by decide) rfl ?_
  intro p e s m args below meth c s₁ B hml hv
  obtain ⟨rfl, hB, hK, hwp⟩ := hv
  have hts := atoms_spec (ws := Cond.code y_M_statSize b_M_statSize 2 (Option.some Jvm.ClassFile.FieldType.int) :: GW) B.pre
  have X : kX p s m _ meth c b_M_statSize 2 "TreeServerModel" t := ⟨B.exec, B.bytes, hml, findClass_of_methodNamed B.named, fun w h => hts w (List.mem_cons_of_mem _ h), B.notSynchronized, hK⟩
  have hZ : kZ t true s G s.heap [] := ⟨hB, va_S.rf, fun _ => ⟨rfl, rfl⟩⟩
  rw [lg_entry_eq]
  have hl := lv_entry ([.ref a0, .int p1]) (n := 2) (by simp [lg_sl, rf_cat, cat_i, cat_l, cat_r])
  exact k_M_statSize X B.returns _ hwp s.heap [] _ hl hZ
abbrev b_M_stat : ByteArray := prog_13_method_29_code
def y_M_stat : MethodName := ⟨"TreeServerModel", "stat", "(I)V"⟩
theorem d_M_stat_0 : decode b_M_stat 0 = .ok (.aload_n 0, 1) := by decide +kernel
theorem d_M_stat_1 : decode b_M_stat 1 = .ok (.aload_n 0, 1) := by decide +kernel
theorem d_M_stat_2 : decode b_M_stat 2 = .ok (.iload_n 1, 1) := by decide +kernel
theorem d_M_stat_3 : decode b_M_stat 3 = .ok (.invokevirtual 153, 3) := by decide +kernel
theorem d_M_stat_6 : decode b_M_stat 6 = .ok (.iconst 2, 1) := by decide +kernel
theorem d_M_stat_7 : decode b_M_stat 7 = .ok (.isub, 1) := by decide +kernel
theorem d_M_stat_8 : decode b_M_stat 8 = .ok (.i2l, 1) := by decide +kernel
theorem d_M_stat_9 : decode b_M_stat 9 = .ok (.iconst 2, 1) := by decide +kernel
theorem d_M_stat_10 : decode b_M_stat 10 = .ok (.invokevirtual 137, 3) := by decide +kernel
theorem d_M_stat_13 : decode b_M_stat 13 = .ok (.aload_n 0, 1) := by decide +kernel
theorem d_M_stat_14 : decode b_M_stat 14 = .ok (.lconst 0, 1) := by decide +kernel
theorem d_M_stat_15 : decode b_M_stat 15 = .ok (.bipush 6, 2) := by decide +kernel
theorem d_M_stat_17 : decode b_M_stat 17 = .ok (.invokevirtual 137, 3) := by decide +kernel
theorem d_M_stat_20 : decode b_M_stat 20 = .ok (.aload_n 0, 1) := by decide +kernel
theorem d_M_stat_21 : decode b_M_stat 21 = .ok (.iload_n 1, 1) := by decide +kernel
theorem d_M_stat_22 : decode b_M_stat 22 = .ok (.invokevirtual 156, 3) := by decide +kernel
theorem d_M_stat_25 : decode b_M_stat 25 = .ok (.aload_n 0, 1) := by decide +kernel
theorem d_M_stat_26 : decode b_M_stat 26 = .ok (.aload_n 0, 1) := by decide +kernel
theorem d_M_stat_27 : decode b_M_stat 27 = .ok (.iload_n 1, 1) := by decide +kernel
theorem d_M_stat_28 : decode b_M_stat 28 = .ok (.iconst 3, 1) := by decide +kernel
theorem d_M_stat_29 : decode b_M_stat 29 = .ok (.invokevirtual 81, 3) := by decide +kernel
theorem d_M_stat_32 : decode b_M_stat 32 = .ok (.i2l, 1) := by decide +kernel
theorem d_M_stat_33 : decode b_M_stat 33 = .ok (.iconst 4, 1) := by decide +kernel
theorem d_M_stat_34 : decode b_M_stat 34 = .ok (.invokevirtual 137, 3) := by decide +kernel
theorem d_M_stat_37 : decode b_M_stat 37 = .ok (.aload_n 0, 1) := by decide +kernel
theorem d_M_stat_38 : decode b_M_stat 38 = .ok (.aload_n 0, 1) := by decide +kernel
theorem d_M_stat_39 : decode b_M_stat 39 = .ok (.iload_n 1, 1) := by decide +kernel
theorem d_M_stat_40 : decode b_M_stat 40 = .ok (.iconst 4, 1) := by decide +kernel
theorem d_M_stat_41 : decode b_M_stat 41 = .ok (.invokevirtual 81, 3) := by decide +kernel
theorem d_M_stat_44 : decode b_M_stat 44 = .ok (.i2l, 1) := by decide +kernel
theorem d_M_stat_45 : decode b_M_stat 45 = .ok (.iconst 4, 1) := by decide +kernel
theorem d_M_stat_46 : decode b_M_stat 46 = .ok (.invokevirtual 137, 3) := by decide +kernel
theorem d_M_stat_49 : decode b_M_stat 49 = .ok (.aload_n 0, 1) := by decide +kernel
theorem d_M_stat_50 : decode b_M_stat 50 = .ok (.aload_n 0, 1) := by decide +kernel
theorem d_M_stat_51 : decode b_M_stat 51 = .ok (.iload_n 1, 1) := by decide +kernel
theorem d_M_stat_52 : decode b_M_stat 52 = .ok (.iconst 4, 1) := by decide +kernel
theorem d_M_stat_53 : decode b_M_stat 53 = .ok (.invokevirtual 81, 3) := by decide +kernel
theorem d_M_stat_56 : decode b_M_stat 56 = .ok (.i2l, 1) := by decide +kernel
theorem d_M_stat_57 : decode b_M_stat 57 = .ok (.iconst 4, 1) := by decide +kernel
theorem d_M_stat_58 : decode b_M_stat 58 = .ok (.invokevirtual 137, 3) := by decide +kernel
theorem d_M_stat_61 : decode b_M_stat 61 = .ok (.aload_n 0, 1) := by decide +kernel
theorem d_M_stat_62 : decode b_M_stat 62 = .ok (.aload_n 0, 1) := by decide +kernel
theorem d_M_stat_63 : decode b_M_stat 63 = .ok (.iload_n 1, 1) := by decide +kernel
theorem d_M_stat_64 : decode b_M_stat 64 = .ok (.invokevirtual 97, 3) := by decide +kernel
theorem d_M_stat_67 : decode b_M_stat 67 = .ok (.ifCond .eq 7, 3) := by decide +kernel
theorem d_M_stat_70 : decode b_M_stat 70 = .ok (.lconst 0, 1) := by decide +kernel
theorem d_M_stat_71 : decode b_M_stat 71 = .ok (.goto 11, 3) := by decide +kernel
theorem d_M_stat_74 : decode b_M_stat 74 = .ok (.aload_n 0, 1) := by decide +kernel
theorem d_M_stat_75 : decode b_M_stat 75 = .ok (.iload_n 1, 1) := by decide +kernel
theorem d_M_stat_76 : decode b_M_stat 76 = .ok (.bipush 18, 2) := by decide +kernel
theorem d_M_stat_78 : decode b_M_stat 78 = .ok (.invokevirtual 81, 3) := by decide +kernel
theorem d_M_stat_81 : decode b_M_stat 81 = .ok (.i2l, 1) := by decide +kernel
theorem d_M_stat_82 : decode b_M_stat 82 = .ok (.bipush 8, 2) := by decide +kernel
theorem d_M_stat_84 : decode b_M_stat 84 = .ok (.invokevirtual 137, 3) := by decide +kernel
theorem d_M_stat_87 : decode b_M_stat 87 = .ok (.aload_n 0, 1) := by decide +kernel
theorem d_M_stat_88 : decode b_M_stat 88 = .ok (.aload_n 0, 1) := by decide +kernel
theorem d_M_stat_89 : decode b_M_stat 89 = .ok (.iload_n 1, 1) := by decide +kernel
theorem d_M_stat_90 : decode b_M_stat 90 = .ok (.bipush 9, 2) := by decide +kernel
theorem d_M_stat_92 : decode b_M_stat 92 = .ok (.invokevirtual 81, 3) := by decide +kernel
theorem d_M_stat_95 : decode b_M_stat 95 = .ok (.i2l, 1) := by decide +kernel
theorem d_M_stat_96 : decode b_M_stat 96 = .ok (.iconst 2, 1) := by decide +kernel
theorem d_M_stat_97 : decode b_M_stat 97 = .ok (.invokevirtual 137, 3) := by decide +kernel
theorem d_M_stat_100 : decode b_M_stat 100 = .ok (.iconst 0, 1) := by decide +kernel
theorem d_M_stat_101 : decode b_M_stat 101 = .ok (.istore_n 2, 1) := by decide +kernel
theorem d_M_stat_102 : decode b_M_stat 102 = .ok (.iload_n 2, 1) := by decide +kernel
theorem d_M_stat_103 : decode b_M_stat 103 = .ok (.aload_n 0, 1) := by decide +kernel
theorem d_M_stat_104 : decode b_M_stat 104 = .ok (.iload_n 1, 1) := by decide +kernel
theorem d_M_stat_105 : decode b_M_stat 105 = .ok (.bipush 9, 2) := by decide +kernel
theorem d_M_stat_107 : decode b_M_stat 107 = .ok (.invokevirtual 81, 3) := by decide +kernel
theorem d_M_stat_110 : decode b_M_stat 110 = .ok (.if_icmp .ge 24, 3) := by decide +kernel
theorem d_M_stat_113 : decode b_M_stat 113 = .ok (.aload_n 0, 1) := by decide +kernel
theorem d_M_stat_114 : decode b_M_stat 114 = .ok (.aload_n 0, 1) := by decide +kernel
theorem d_M_stat_115 : decode b_M_stat 115 = .ok (.iload_n 1, 1) := by decide +kernel
theorem d_M_stat_116 : decode b_M_stat 116 = .ok (.bipush 10, 2) := by decide +kernel
theorem d_M_stat_118 : decode b_M_stat 118 = .ok (.iload_n 2, 1) := by decide +kernel
theorem d_M_stat_119 : decode b_M_stat 119 = .ok (.iadd, 1) := by decide +kernel
theorem d_M_stat_120 : decode b_M_stat 120 = .ok (.invokevirtual 81, 3) := by decide +kernel
theorem d_M_stat_123 : decode b_M_stat 123 = .ok (.i2l, 1) := by decide +kernel
theorem d_M_stat_124 : decode b_M_stat 124 = .ok (.iconst 1, 1) := by decide +kernel
theorem d_M_stat_125 : decode b_M_stat 125 = .ok (.invokevirtual 137, 3) := by decide +kernel
theorem d_M_stat_128 : decode b_M_stat 128 = .ok (.iinc 2 1, 3) := by decide +kernel
theorem d_M_stat_131 : decode b_M_stat 131 = .ok (.goto (-29), 3) := by decide +kernel
theorem d_M_stat_134 : decode b_M_stat 134 = .ok (.aload_n 0, 1) := by decide +kernel
theorem d_M_stat_135 : decode b_M_stat 135 = .ok (.aload_n 0, 1) := by decide +kernel
theorem d_M_stat_136 : decode b_M_stat 136 = .ok (.iload_n 1, 1) := by decide +kernel
theorem d_M_stat_137 : decode b_M_stat 137 = .ok (.iconst 5, 1) := by decide +kernel
theorem d_M_stat_138 : decode b_M_stat 138 = .ok (.invokevirtual 81, 3) := by decide +kernel
theorem d_M_stat_141 : decode b_M_stat 141 = .ok (.invokestatic 149, 3) := by decide +kernel
theorem d_M_stat_144 : decode b_M_stat 144 = .ok (.invokevirtual 159, 3) := by decide +kernel
theorem d_M_stat_147 : decode b_M_stat 147 = .ok (.aload_n 0, 1) := by decide +kernel
theorem d_M_stat_148 : decode b_M_stat 148 = .ok (.aload_n 0, 1) := by decide +kernel
theorem d_M_stat_149 : decode b_M_stat 149 = .ok (.iload_n 1, 1) := by decide +kernel
theorem d_M_stat_150 : decode b_M_stat 150 = .ok (.bipush 6, 2) := by decide +kernel
theorem d_M_stat_152 : decode b_M_stat 152 = .ok (.invokevirtual 81, 3) := by decide +kernel
theorem d_M_stat_155 : decode b_M_stat 155 = .ok (.invokestatic 149, 3) := by decide +kernel
theorem d_M_stat_158 : decode b_M_stat 158 = .ok (.invokevirtual 159, 3) := by decide +kernel
theorem d_M_stat_161 : decode b_M_stat 161 = .ok (.aload_n 0, 1) := by decide +kernel
theorem d_M_stat_162 : decode b_M_stat 162 = .ok (.aload_n 0, 1) := by decide +kernel
theorem d_M_stat_163 : decode b_M_stat 163 = .ok (.iload_n 1, 1) := by decide +kernel
theorem d_M_stat_164 : decode b_M_stat 164 = .ok (.bipush 7, 2) := by decide +kernel
theorem d_M_stat_166 : decode b_M_stat 166 = .ok (.invokevirtual 81, 3) := by decide +kernel
theorem d_M_stat_169 : decode b_M_stat 169 = .ok (.invokestatic 149, 3) := by decide +kernel
theorem d_M_stat_172 : decode b_M_stat 172 = .ok (.invokevirtual 159, 3) := by decide +kernel
theorem d_M_stat_175 : decode b_M_stat 175 = .ok (.return_, 1) := by decide +kernel
abbrev rm_M_stat : Room := { frames := 2, cells := 0, slots := 0, locals := 47 }
set_option maxRecDepth 100000 in
set_option maxHeartbeats 4000000 in
theorem k_M_stat_102 {p : Program} {l : Launch} {e : Env} {s : State} {m : MethodId} {args : Array Value} {below : List Frame} {meth : Method} {c : Code} {t : TY} {a0 : Nat} {K : GS → Prop} (X : kX p s m args meth c b_M_stat 3 "TreeServerModel" t) (hret : meth.sig.returnType = none) : ∀ (n : Nat) (l1 : Int32) (l2 : Int32) (G : GS), w_M_stat_102 t a0 K n l1 l2 G → kW p l e rm_M_stat s m args below meth c (MQ below (va_Qv (fun u : GS => K u) (fun u T => HB t u T.heap) (tA t)) args s 0 0 (tA t)) 3 t false 102 [(0, va_rf (some a0)), (1, .int l1), (2, .int l2)] [] G := by
  intro n
  induction n with
  | zero => intro l1 l2 G hwp; exact hwp.elim
  | succ n hr_102 =>
    intro l1 l2 G hwp
    unfold w_M_stat_102 at hwp
    dsimp only at hwp
    refine kw_iload_n (pc := 102) X d_M_stat_102 rfl 2 rfl ?_
    refine kw_aload_n (pc := 103) X d_M_stat_103 rfl 0 rfl ?_
    refine kw_iload_n (pc := 104) X d_M_stat_104 rfl 1 rfl ?_
    refine kw_bipush (v := 9) (pc := 105) X d_M_stat_105 (by decide) ?_
    obtain ⟨f1, hwp⟩ := hwp
    refine kcVp_i (n := 2) (As := [.int l1, .int (9 : Int32)]) (rest := [.int l2]) (pc := 107) X (c_M_at l t G a0 l1 (9 : Int32) _) (cwV_of (C := "TreeServerModel") X x_1111 x_1108 x_1110 xp_41 x_13 (by decide +kernel) ⟨rfl, rfl⟩ (by decide)) (rv_10 X f1) rfl rfl (by simp [rf_cat, cat_i, cat_l, cat_r]) d_M_stat_107 hwp (fun v2 hwp => ?_)
    refine kw_icmp_ge (tgt := 134) (pc := 110) X d_M_stat_110 (by decide) (fun h => ?_) (fun h => ?_)
    · have hwp := ite_t h hwp
      refine kw_aload_n (pc := 134) X d_M_stat_134 rfl 0 rfl ?_
      refine kw_aload_n (pc := 135) X d_M_stat_135 rfl 0 rfl ?_
      refine kw_iload_n (pc := 136) X d_M_stat_136 rfl 1 rfl ?_
      refine kw_iconst (v := 5) (pc := 137) X d_M_stat_137 (by decide) ?_
      refine kcVp_i (n := 2) (As := [.int l1, .int (5 : Int32)]) (rest := [va_rf (some a0)]) (pc := 138) X (c_M_at l t G a0 l1 (5 : Int32) _) (cwV_of (C := "TreeServerModel") X x_1111 x_1108 x_1110 xp_41 x_13 (by decide +kernel) ⟨rfl, rfl⟩ (by decide)) (rv_10 X f1) rfl rfl (by simp [rf_cat, cat_i, cat_l, cat_r]) d_M_stat_138 hwp (fun v3 hwp => ?_)
      refine kcSp_l (n := 1) (As := [.int v3]) (rest := [va_rf (some a0)]) (pc := 141) X (c_M_nameOf l t G v3 _) (cwS_of X x_1327 x_1325 x_1326 x_13 (by decide +kernel) ⟨rfl, rfl⟩ (by decide)) rfl rfl (by simp [rf_cat, cat_i, cat_l, cat_r]) d_M_stat_141 hwp (fun v4 hwp => ?_)
      refine kcV_v (n := 1) (As := [.long v4]) (rest := []) (pc := 144) X rfl (c_M_say l t G a0 v4 _) (cwV_of (C := "TreeServerModel") X x_1204 x_1201 x_1203 xp_61 x_13 (by decide +kernel) ⟨rfl, rfl⟩ (by decide)) (rv_10 X f1) rfl rfl (by decide) d_M_stat_144 hwp (fun G5 hwp => ?_)
      refine kw_aload_n (pc := 147) X d_M_stat_147 rfl 0 rfl ?_
      refine kw_aload_n (pc := 148) X d_M_stat_148 rfl 0 rfl ?_
      refine kw_iload_n (pc := 149) X d_M_stat_149 rfl 1 rfl ?_
      refine kw_bipush (v := 6) (pc := 150) X d_M_stat_150 (by decide) ?_
      refine kcVp_i (n := 2) (As := [.int l1, .int (6 : Int32)]) (rest := [va_rf (some a0)]) (pc := 152) X (c_M_at l t G5 a0 l1 (6 : Int32) _) (cwV_of (C := "TreeServerModel") X x_1111 x_1108 x_1110 xp_41 x_13 (by decide +kernel) ⟨rfl, rfl⟩ (by decide)) (rv_10 X f1) rfl rfl (by simp [rf_cat, cat_i, cat_l, cat_r]) d_M_stat_152 hwp (fun v6 hwp => ?_)
      refine kcSp_l (n := 1) (As := [.int v6]) (rest := [va_rf (some a0)]) (pc := 155) X (c_M_nameOf l t G5 v6 _) (cwS_of X x_1327 x_1325 x_1326 x_13 (by decide +kernel) ⟨rfl, rfl⟩ (by decide)) rfl rfl (by simp [rf_cat, cat_i, cat_l, cat_r]) d_M_stat_155 hwp (fun v7 hwp => ?_)
      refine kcV_v (n := 1) (As := [.long v7]) (rest := []) (pc := 158) X rfl (c_M_say l t G5 a0 v7 _) (cwV_of (C := "TreeServerModel") X x_1204 x_1201 x_1203 xp_61 x_13 (by decide +kernel) ⟨rfl, rfl⟩ (by decide)) (rv_10 X f1) rfl rfl (by decide) d_M_stat_158 hwp (fun G8 hwp => ?_)
      refine kw_aload_n (pc := 161) X d_M_stat_161 rfl 0 rfl ?_
      refine kw_aload_n (pc := 162) X d_M_stat_162 rfl 0 rfl ?_
      refine kw_iload_n (pc := 163) X d_M_stat_163 rfl 1 rfl ?_
      refine kw_bipush (v := 7) (pc := 164) X d_M_stat_164 (by decide) ?_
      refine kcVp_i (n := 2) (As := [.int l1, .int (7 : Int32)]) (rest := [va_rf (some a0)]) (pc := 166) X (c_M_at l t G8 a0 l1 (7 : Int32) _) (cwV_of (C := "TreeServerModel") X x_1111 x_1108 x_1110 xp_41 x_13 (by decide +kernel) ⟨rfl, rfl⟩ (by decide)) (rv_10 X f1) rfl rfl (by simp [rf_cat, cat_i, cat_l, cat_r]) d_M_stat_166 hwp (fun v9 hwp => ?_)
      refine kcSp_l (n := 1) (As := [.int v9]) (rest := [va_rf (some a0)]) (pc := 169) X (c_M_nameOf l t G8 v9 _) (cwS_of X x_1327 x_1325 x_1326 x_13 (by decide +kernel) ⟨rfl, rfl⟩ (by decide)) rfl rfl (by simp [rf_cat, cat_i, cat_l, cat_r]) d_M_stat_169 hwp (fun v10 hwp => ?_)
      refine kcV_v (n := 1) (As := [.long v10]) (rest := []) (pc := 172) X rfl (c_M_say l t G8 a0 v10 _) (cwV_of (C := "TreeServerModel") X x_1204 x_1201 x_1203 xp_61 x_13 (by decide +kernel) ⟨rfl, rfl⟩ (by decide)) (rv_10 X f1) rfl rfl (by decide) d_M_stat_172 hwp (fun G11 hwp => ?_)
      exact kr_v (pc := 175) X hret d_M_stat_175 hwp
    · have hwp := ite_f h hwp
      refine kw_aload_n (pc := 113) X d_M_stat_113 rfl 0 rfl ?_
      refine kw_aload_n (pc := 114) X d_M_stat_114 rfl 0 rfl ?_
      refine kw_iload_n (pc := 115) X d_M_stat_115 rfl 1 rfl ?_
      refine kw_bipush (v := 10) (pc := 116) X d_M_stat_116 (by decide) ?_
      refine kw_iload_n (pc := 118) X d_M_stat_118 rfl 2 rfl ?_
      refine kw_iadd (pc := 119) X d_M_stat_119 ?_
      refine kcVp_i (n := 2) (As := [.int l1, .int ((10 : Int32) + l2)]) (rest := [va_rf (some a0)]) (pc := 120) X (c_M_at l t G a0 l1 ((10 : Int32) + l2) _) (cwV_of (C := "TreeServerModel") X x_1111 x_1108 x_1110 xp_41 x_13 (by decide +kernel) ⟨rfl, rfl⟩ (by decide)) (rv_10 X f1) rfl rfl (by simp [rf_cat, cat_i, cat_l, cat_r]) d_M_stat_120 hwp (fun v12 hwp => ?_)
      refine kw_i2l (pc := 123) X d_M_stat_123 ?_
      refine kw_iconst (v := 1) (pc := 124) X d_M_stat_124 (by decide) ?_
      refine kcV_v (n := 2) (As := [.long v12.toInt64, .int (1 : Int32)]) (rest := []) (pc := 125) X rfl (c_M_put l t G a0 v12.toInt64 (1 : Int32) _) (cwV_of (C := "TreeServerModel") X x_1199 x_1196 x_1198 xp_60 x_13 (by decide +kernel) ⟨rfl, rfl⟩ (by decide)) (rv_10 X f1) rfl rfl (by decide) d_M_stat_125 hwp (fun G13 hwp => ?_)
      obtain ⟨v14, e_v14⟩ : ∃ z, z = (l2 + (1 : Int32)) := ⟨_, rfl⟩
      have hwp := hwp v14 e_v14
      refine kw_iinc (v := v14) (lv' := [(2, .int v14), (0, va_rf (some a0)), (1, .int l1)]) (pc := 128) X d_M_stat_128 2 rfl (by rw [e_v14]; rfl) (by decide) rfl ?_
      refine kw_goto (tgt := 102) (pc := 131) X d_M_stat_131 (by decide) ?_
      exact kW.sub [1, 2, 0] rfl (hr_102 _ _ _ hwp)
set_option maxRecDepth 100000 in
set_option maxHeartbeats 4000000 in
theorem k_M_stat_82 {p : Program} {l : Launch} {e : Env} {s : State} {m : MethodId} {args : Array Value} {below : List Frame} {meth : Method} {c : Code} {t : TY} {a0 : Nat} {K : GS → Prop} (X : kX p s m args meth c b_M_stat 3 "TreeServerModel" t) (hret : meth.sig.returnType = none) (l1 : Int32) (s0 : Option Nat) (s1 : Int64) (G : GS) (hwp : w_M_stat_82 t a0 K l1 s0 s1 G) : kW p l e rm_M_stat s m args below meth c (MQ below (va_Qv (fun u : GS => K u) (fun u T => HB t u T.heap) (tA t)) args s 0 0 (tA t)) 3 t false 82 [(0, va_rf (some a0)), (1, .int l1)] [.long s1, va_rf s0] G := by
  unfold w_M_stat_82 at hwp
  refine kw_bipush (v := 8) (pc := 82) X d_M_stat_82 (by decide) ?_
  obtain ⟨a1, h_a1, hwp⟩ := hwp
  obtain ⟨f2, hwp⟩ := hwp
  refine kW.st (st' := [.int (8 : Int32), .long s1, .ref a1]) (by simp only [h_a1]; rfl) ?_
  refine kcV_v (n := 2) (As := [.long s1, .int (8 : Int32)]) (rest := []) (pc := 84) X rfl (c_M_put l t G a1 s1 (8 : Int32) _) (cwV_of (C := "TreeServerModel") X x_1199 x_1196 x_1198 xp_60 x_13 (by decide +kernel) ⟨rfl, rfl⟩ (by decide)) (rv_10 X f2) rfl rfl (by decide) d_M_stat_84 hwp (fun G3 hwp => ?_)
  refine kw_aload_n (pc := 87) X d_M_stat_87 rfl 0 rfl ?_
  refine kw_aload_n (pc := 88) X d_M_stat_88 rfl 0 rfl ?_
  refine kw_iload_n (pc := 89) X d_M_stat_89 rfl 1 rfl ?_
  refine kw_bipush (v := 9) (pc := 90) X d_M_stat_90 (by decide) ?_
  obtain ⟨f4, hwp⟩ := hwp
  refine kcVp_i (n := 2) (As := [.int l1, .int (9 : Int32)]) (rest := [va_rf (some a0)]) (pc := 92) X (c_M_at l t G3 a0 l1 (9 : Int32) _) (cwV_of (C := "TreeServerModel") X x_1111 x_1108 x_1110 xp_41 x_13 (by decide +kernel) ⟨rfl, rfl⟩ (by decide)) (rv_10 X f4) rfl rfl (by simp [rf_cat, cat_i, cat_l, cat_r]) d_M_stat_92 hwp (fun v5 hwp => ?_)
  refine kw_i2l (pc := 95) X d_M_stat_95 ?_
  refine kw_iconst (v := 2) (pc := 96) X d_M_stat_96 (by decide) ?_
  refine kcV_v (n := 2) (As := [.long v5.toInt64, .int (2 : Int32)]) (rest := []) (pc := 97) X rfl (c_M_put l t G3 a0 v5.toInt64 (2 : Int32) _) (cwV_of (C := "TreeServerModel") X x_1199 x_1196 x_1198 xp_60 x_13 (by decide +kernel) ⟨rfl, rfl⟩ (by decide)) (rv_10 X f4) rfl rfl (by decide) d_M_stat_97 hwp (fun G6 hwp => ?_)
  refine kw_iconst (v := 0) (pc := 100) X d_M_stat_100 (by decide) ?_
  refine kw_istore_n (i := 2) (lv' := [(2, .int (0 : Int32)), (0, va_rf (some a0)), (1, .int l1)]) (pc := 101) X d_M_stat_101 rfl (by decide) rfl ?_
  obtain ⟨n, hwp⟩ := hwp
  exact kW.sub [1, 2, 0] rfl (k_M_stat_102 X hret  n _ _ _ hwp)
set_option maxRecDepth 100000 in
set_option maxHeartbeats 4000000 in
theorem k_M_stat {p : Program} {l : Launch} {e : Env} {s : State} {m : MethodId} {args : Array Value} {below : List Frame} {meth : Method} {c : Code} {t : TY} {a0 : Nat} {K : GS → Prop} (X : kX p s m args meth c b_M_stat 3 "TreeServerModel" t) (hret : meth.sig.returnType = none) (G : GS) (p1 : Int32) (hwp : w_M_stat t G a0 p1 K) : kW p l e rm_M_stat s m args below meth c (MQ below (va_Qv (fun u : GS => K u) (fun u T => HB t u T.heap) (tA t)) args s 0 0 (tA t)) 3 t false 0 [(0, va_rf (some a0)), (1, .int p1)] [] G := by
  unfold w_M_stat at hwp
  refine kw_aload_n (pc := 0) X d_M_stat_0 rfl 0 rfl ?_
  refine kw_aload_n (pc := 1) X d_M_stat_1 rfl 0 rfl ?_
  refine kw_iload_n (pc := 2) X d_M_stat_2 rfl 1 rfl ?_
  obtain ⟨f1, hwp⟩ := hwp
  refine kcVp_i (n := 1) (As := [.int p1]) (rest := [va_rf (some a0)]) (pc := 3) X (c_M_statSize l t G a0 p1 _) (cwV_of (C := "TreeServerModel") X x_1324 x_1321 x_1323 xp_84 x_13 (by decide +kernel) ⟨rfl, rfl⟩ (by decide)) (rv_10 X f1) rfl rfl (by simp [rf_cat, cat_i, cat_l, cat_r]) d_M_stat_3 hwp (fun v2 hwp => ?_)
  refine kw_iconst (v := 2) (pc := 6) X d_M_stat_6 (by decide) ?_
  refine kw_isub (pc := 7) X d_M_stat_7 ?_
  refine kw_i2l (pc := 8) X d_M_stat_8 ?_
  refine kw_iconst (v := 2) (pc := 9) X d_M_stat_9 (by decide) ?_
  refine kcV_v (n := 2) (As := [.long ((v2 - (2 : Int32)).toInt64), .int (2 : Int32)]) (rest := []) (pc := 10) X rfl (c_M_put l t G a0 ((v2 - (2 : Int32)).toInt64) (2 : Int32) _) (cwV_of (C := "TreeServerModel") X x_1199 x_1196 x_1198 xp_60 x_13 (by decide +kernel) ⟨rfl, rfl⟩ (by decide)) (rv_10 X f1) rfl rfl (by decide) d_M_stat_10 hwp (fun G3 hwp => ?_)
  refine kw_aload_n (pc := 13) X d_M_stat_13 rfl 0 rfl ?_
  refine kw_lconst (v := 0) (pc := 14) X d_M_stat_14 (by decide) ?_
  refine kw_bipush (v := 6) (pc := 15) X d_M_stat_15 (by decide) ?_
  refine kcV_v (n := 2) (As := [.long (0 : Int64), .int (6 : Int32)]) (rest := []) (pc := 17) X rfl (c_M_put l t G3 a0 (0 : Int64) (6 : Int32) _) (cwV_of (C := "TreeServerModel") X x_1199 x_1196 x_1198 xp_60 x_13 (by decide +kernel) ⟨rfl, rfl⟩ (by decide)) (rv_10 X f1) rfl rfl (by decide) d_M_stat_17 hwp (fun G4 hwp => ?_)
  refine kw_aload_n (pc := 20) X d_M_stat_20 rfl 0 rfl ?_
  refine kw_iload_n (pc := 21) X d_M_stat_21 rfl 1 rfl ?_
  refine kcV_v (n := 1) (As := [.int p1]) (rest := []) (pc := 22) X rfl (c_M_qid l t G4 a0 p1 _) (cwV_of (C := "TreeServerModel") X x_1243 x_1240 x_1242 xp_68 x_13 (by decide +kernel) ⟨rfl, rfl⟩ (by decide)) (rv_10 X f1) rfl rfl (by decide) d_M_stat_22 hwp (fun G5 hwp => ?_)
  refine kw_aload_n (pc := 25) X d_M_stat_25 rfl 0 rfl ?_
  refine kw_aload_n (pc := 26) X d_M_stat_26 rfl 0 rfl ?_
  refine kw_iload_n (pc := 27) X d_M_stat_27 rfl 1 rfl ?_
  refine kw_iconst (v := 3) (pc := 28) X d_M_stat_28 (by decide) ?_
  refine kcVp_i (n := 2) (As := [.int p1, .int (3 : Int32)]) (rest := [va_rf (some a0)]) (pc := 29) X (c_M_at l t G5 a0 p1 (3 : Int32) _) (cwV_of (C := "TreeServerModel") X x_1111 x_1108 x_1110 xp_41 x_13 (by decide +kernel) ⟨rfl, rfl⟩ (by decide)) (rv_10 X f1) rfl rfl (by simp [rf_cat, cat_i, cat_l, cat_r]) d_M_stat_29 hwp (fun v6 hwp => ?_)
  refine kw_i2l (pc := 32) X d_M_stat_32 ?_
  refine kw_iconst (v := 4) (pc := 33) X d_M_stat_33 (by decide) ?_
  refine kcV_v (n := 2) (As := [.long v6.toInt64, .int (4 : Int32)]) (rest := []) (pc := 34) X rfl (c_M_put l t G5 a0 v6.toInt64 (4 : Int32) _) (cwV_of (C := "TreeServerModel") X x_1199 x_1196 x_1198 xp_60 x_13 (by decide +kernel) ⟨rfl, rfl⟩ (by decide)) (rv_10 X f1) rfl rfl (by decide) d_M_stat_34 hwp (fun G7 hwp => ?_)
  refine kw_aload_n (pc := 37) X d_M_stat_37 rfl 0 rfl ?_
  refine kw_aload_n (pc := 38) X d_M_stat_38 rfl 0 rfl ?_
  refine kw_iload_n (pc := 39) X d_M_stat_39 rfl 1 rfl ?_
  refine kw_iconst (v := 4) (pc := 40) X d_M_stat_40 (by decide) ?_
  refine kcVp_i (n := 2) (As := [.int p1, .int (4 : Int32)]) (rest := [va_rf (some a0)]) (pc := 41) X (c_M_at l t G7 a0 p1 (4 : Int32) _) (cwV_of (C := "TreeServerModel") X x_1111 x_1108 x_1110 xp_41 x_13 (by decide +kernel) ⟨rfl, rfl⟩ (by decide)) (rv_10 X f1) rfl rfl (by simp [rf_cat, cat_i, cat_l, cat_r]) d_M_stat_41 hwp (fun v8 hwp => ?_)
  refine kw_i2l (pc := 44) X d_M_stat_44 ?_
  refine kw_iconst (v := 4) (pc := 45) X d_M_stat_45 (by decide) ?_
  refine kcV_v (n := 2) (As := [.long v8.toInt64, .int (4 : Int32)]) (rest := []) (pc := 46) X rfl (c_M_put l t G7 a0 v8.toInt64 (4 : Int32) _) (cwV_of (C := "TreeServerModel") X x_1199 x_1196 x_1198 xp_60 x_13 (by decide +kernel) ⟨rfl, rfl⟩ (by decide)) (rv_10 X f1) rfl rfl (by decide) d_M_stat_46 hwp (fun G9 hwp => ?_)
  refine kw_aload_n (pc := 49) X d_M_stat_49 rfl 0 rfl ?_
  refine kw_aload_n (pc := 50) X d_M_stat_50 rfl 0 rfl ?_
  refine kw_iload_n (pc := 51) X d_M_stat_51 rfl 1 rfl ?_
  refine kw_iconst (v := 4) (pc := 52) X d_M_stat_52 (by decide) ?_
  refine kcVp_i (n := 2) (As := [.int p1, .int (4 : Int32)]) (rest := [va_rf (some a0)]) (pc := 53) X (c_M_at l t G9 a0 p1 (4 : Int32) _) (cwV_of (C := "TreeServerModel") X x_1111 x_1108 x_1110 xp_41 x_13 (by decide +kernel) ⟨rfl, rfl⟩ (by decide)) (rv_10 X f1) rfl rfl (by simp [rf_cat, cat_i, cat_l, cat_r]) d_M_stat_53 hwp (fun v10 hwp => ?_)
  refine kw_i2l (pc := 56) X d_M_stat_56 ?_
  refine kw_iconst (v := 4) (pc := 57) X d_M_stat_57 (by decide) ?_
  refine kcV_v (n := 2) (As := [.long v10.toInt64, .int (4 : Int32)]) (rest := []) (pc := 58) X rfl (c_M_put l t G9 a0 v10.toInt64 (4 : Int32) _) (cwV_of (C := "TreeServerModel") X x_1199 x_1196 x_1198 xp_60 x_13 (by decide +kernel) ⟨rfl, rfl⟩ (by decide)) (rv_10 X f1) rfl rfl (by decide) d_M_stat_58 hwp (fun G11 hwp => ?_)
  refine kw_aload_n (pc := 61) X d_M_stat_61 rfl 0 rfl ?_
  refine kw_aload_n (pc := 62) X d_M_stat_62 rfl 0 rfl ?_
  refine kw_iload_n (pc := 63) X d_M_stat_63 rfl 1 rfl ?_
  refine kcVp_i (n := 1) (As := [.int p1]) (rest := [va_rf (some a0)]) (pc := 64) X (c_M_isDirectory l t G11 a0 p1 _) (cwV_of (C := "TreeServerModel") X x_1115 x_1112 x_1114 xp_42 x_13 (by decide +kernel) ⟨rfl, rfl⟩ (by decide)) (rv_10 X f1) rfl rfl (by simp [rf_cat, cat_i, cat_l, cat_r]) d_M_stat_64 hwp (fun v12 hwp => ?_)
  obtain ⟨b_v12, hwp⟩ := hwp
  refine kw_if_eq (tgt := 74) (pc := 67) X d_M_stat_67 (by decide) (fun h => ?_) (fun h => ?_)
  · have hwp := ite_t h hwp
    refine kw_aload_n (pc := 74) X d_M_stat_74 rfl 0 rfl ?_
    refine kw_iload_n (pc := 75) X d_M_stat_75 rfl 1 rfl ?_
    refine kw_bipush (v := 18) (pc := 76) X d_M_stat_76 (by decide) ?_
    refine kcVp_i (n := 2) (As := [.int p1, .int (18 : Int32)]) (rest := [va_rf (some a0)]) (pc := 78) X (c_M_at l t G11 a0 p1 (18 : Int32) _) (cwV_of (C := "TreeServerModel") X x_1111 x_1108 x_1110 xp_41 x_13 (by decide +kernel) ⟨rfl, rfl⟩ (by decide)) (rv_10 X f1) rfl rfl (by simp [rf_cat, cat_i, cat_l, cat_r]) d_M_stat_78 hwp (fun v13 hwp => ?_)
    refine kw_i2l (pc := 81) X d_M_stat_81 ?_
    exact kW.sub [0, 1] rfl (k_M_stat_82 X hret  _ _ _ _ hwp)
  · have hwp := ite_f h hwp
    refine kw_lconst (v := 0) (pc := 70) X d_M_stat_70 (by decide) ?_
    refine kw_goto (tgt := 82) (pc := 71) X d_M_stat_71 (by decide) ?_
    exact kW.sub [0, 1] rfl (k_M_stat_82 X hret  _ _ _ _ hwp)
set_option maxRecDepth 100000 in
set_option maxHeartbeats 4000000 in
theorem c_M_stat (l : Launch) (t : TY) (G : GS) (a0 : Nat) (p1 : Int32) (K : GS → Prop) : Met l y_M_stat (Cond.code y_M_stat b_M_stat 3 (Option.none : Option Jvm.ClassFile.FieldType) :: GW) rm_M_stat (va_Pc [.ref a0, .int p1] (fun U => HB t G U.heap ∧ HK t U ∧ w_M_stat t G a0 p1 K)) (va_Qv (fun u : GS => K u) (fun u T => HB t u T.heap) (tA t)) 0 0 (tA t) := by
  refine Met.ofW (cc := b_M_stat) (maxL := 3) (ret := none) (by decide) rfl ?_
  intro p e s m args below meth c s₁ B hml hv
  obtain ⟨rfl, hB, hK, hwp⟩ := hv
  have hts := atoms_spec (ws := Cond.code y_M_stat b_M_stat 3 (Option.none : Option Jvm.ClassFile.FieldType) :: GW) B.pre
  have X : kX p s m _ meth c b_M_stat 3 "TreeServerModel" t := ⟨B.exec, B.bytes, hml, findClass_of_methodNamed B.named, fun w h => hts w (List.mem_cons_of_mem _ h), B.notSynchronized, hK⟩
  have hZ : kZ t false s G s.heap [] := ⟨hB, va_S.rf, fun _ => ⟨rfl, rfl⟩⟩
  rw [lg_entry_eq]
  have hl := lv_entry ([.ref a0, .int p1]) (n := 3) (by simp [lg_sl, rf_cat, cat_i, cat_l, cat_r])
  exact k_M_stat X B.returns _ _ hwp s.heap [] _ hl hZ
abbrev b_M_fid : ByteArray := prog_13_method_30_code
def y_M_fid : MethodName := ⟨"TreeServerModel", "fid", "(IJ)I"⟩
theorem d_M_fid_0 : decode b_M_fid 0 = .ok (.bipush 6, 2) := by decide +kernel
theorem d_M_fid_2 : decode b_M_fid 2 = .ok (.iload_n 1, 1) := by decide +kernel
theorem d_M_fid_3 : decode b_M_fid 3 = .ok (.imul, 1) := by decide +kernel
theorem d_M_fid_4 : decode b_M_fid 4 = .ok (.istore 4, 2) := by decide +kernel
theorem d_M_fid_6 : decode b_M_fid 6 = .ok (.iload 4, 2) := by decide +kernel
theorem d_M_fid_8 : decode b_M_fid 8 = .ok (.bipush 6, 2) := by decide +kernel
theorem d_M_fid_10 : decode b_M_fid 10 = .ok (.iload_n 1, 1) := by decide +kernel
theorem d_M_fid_11 : decode b_M_fid 11 = .ok (.imul, 1) := by decide +kernel
theorem d_M_fid_12 : decode b_M_fid 12 = .ok (.bipush 6, 2) := by decide +kernel
theorem d_M_fid_14 : decode b_M_fid 14 = .ok (.iadd, 1) := by decide +kernel
theorem d_M_fid_15 : decode b_M_fid 15 = .ok (.if_icmp .ge 34, 3) := by decide +kernel
theorem d_M_fid_18 : decode b_M_fid 18 = .ok (.aload_n 0, 1) := by decide +kernel
theorem d_M_fid_19 : decode b_M_fid 19 = .ok (.getfield 45, 3) := by decide +kernel
theorem d_M_fid_22 : decode b_M_fid 22 = .ok (.iload 4, 2) := by decide +kernel
theorem d_M_fid_24 : decode b_M_fid 24 = .ok (.baload, 1) := by decide +kernel
theorem d_M_fid_25 : decode b_M_fid 25 = .ok (.ifCond .eq 18, 3) := by decide +kernel
theorem d_M_fid_28 : decode b_M_fid 28 = .ok (.aload_n 0, 1) := by decide +kernel
theorem d_M_fid_29 : decode b_M_fid 29 = .ok (.getfield 48, 3) := by decide +kernel
theorem d_M_fid_32 : decode b_M_fid 32 = .ok (.iload 4, 2) := by decide +kernel
theorem d_M_fid_34 : decode b_M_fid 34 = .ok (.laload, 1) := by decide +kernel
theorem d_M_fid_35 : decode b_M_fid 35 = .ok (.lload_n 2, 1) := by decide +kernel
theorem d_M_fid_36 : decode b_M_fid 36 = .ok (.lcmp, 1) := by decide +kernel
theorem d_M_fid_37 : decode b_M_fid 37 = .ok (.ifCond .ne 6, 3) := by decide +kernel
theorem d_M_fid_40 : decode b_M_fid 40 = .ok (.iload 4, 2) := by decide +kernel
theorem d_M_fid_42 : decode b_M_fid 42 = .ok (.ireturn, 1) := by decide +kernel
theorem d_M_fid_43 : decode b_M_fid 43 = .ok (.iinc 4 1, 3) := by decide +kernel
theorem d_M_fid_46 : decode b_M_fid 46 = .ok (.goto (-40), 3) := by decide +kernel
theorem d_M_fid_49 : decode b_M_fid 49 = .ok (.iconst (-1), 1) := by decide +kernel
theorem d_M_fid_50 : decode b_M_fid 50 = .ok (.ireturn, 1) := by decide +kernel
abbrev rm_M_fid : Room := { frames := 0, cells := 0, slots := 0, locals := 0 }
set_option maxRecDepth 100000 in
set_option maxHeartbeats 4000000 in
theorem k_M_fid_6 {p : Program} {l : Launch} {e : Env} {s : State} {m : MethodId} {args : Array Value} {below : List Frame} {meth : Method} {c : Code} {t : TY} {a0 : Nat} {G : GS} {K : Int32 → Prop} (X : kX p s m args meth c b_M_fid 5 "TreeServerModel" t) (hret : meth.sig.returnType = some .int) : ∀ (n : Nat) (l1 : Int32) (l2 : Int64) (l4 : Int32), w_M_fid_6 t G a0 K n l1 l2 l4 → kW p l e rm_M_fid s m args below meth c (MQ below (vp_Si K) args s 0 0 (fun _ => False)) 5 t true 6 [(0, va_rf (some a0)), (1, .int l1), (2, .long l2), (4, .int l4)] [] G := by
  intro n
  induction n with
  | zero => intro l1 l2 l4 hwp; exact hwp.elim
  | succ n hr_6 =>
    intro l1 l2 l4 hwp
    unfold w_M_fid_6 at hwp
    dsimp only at hwp
    refine kw_iload (pc := 6) X d_M_fid_6 3 rfl ?_
    refine kw_bipush (v := 6) (pc := 8) X d_M_fid_8 (by decide) ?_
    refine kw_iload_n (pc := 10) X d_M_fid_10 rfl 1 rfl ?_
    refine kw_imul (pc := 11) X d_M_fid_11 ?_
    refine kw_bipush (v := 6) (pc := 12) X d_M_fid_12 (by decide) ?_
    refine kw_iadd (pc := 14) X d_M_fid_14 ?_
    refine kw_icmp_ge (tgt := 49) (pc := 15) X d_M_fid_15 (by decide) (fun h => ?_) (fun h => ?_)
    · have hwp := ite_t h hwp
      refine kw_iconst (v := -1) (pc := 49) X d_M_fid_49 (by decide) ?_
      exact krp_i (pc := 50) X hret d_M_fid_50 hwp
    · have hwp := ite_f h hwp
      refine kw_aload_n (pc := 18) X d_M_fid_18 rfl 0 rfl ?_
      obtain ⟨f1, hwp⟩ := hwp
      refine kg_86 (a := a0) (pc := 19) X d_M_fid_19 x_1006 rfl f1 ?_
      refine kw_iload (pc := 22) X d_M_fid_22 3 rfl ?_
      obtain ⟨a2, h_a2, hwp⟩ := hwp
      obtain ⟨f3, hwp⟩ := hwp
      obtain ⟨f4, hwp⟩ := hwp
      refine ka_zald (a := a2) (pc := 24) X d_M_fid_24 h_a2 f3 f4 ?_
      refine kw_if_eq (tgt := 43) (pc := 25) X d_M_fid_25 (by decide) (fun h => ?_) (fun h => ?_)
      · have hwp := ite_t h hwp
        obtain ⟨v5, e_v5⟩ : ∃ z, z = (l4 + (1 : Int32)) := ⟨_, rfl⟩
        have hwp := hwp v5 e_v5
        refine kw_iinc (v := v5) (lv' := [(4, .int v5), (0, va_rf (some a0)), (1, .int l1), (2, .long l2)]) (pc := 43) X d_M_fid_43 3 rfl (by rw [e_v5]; rfl) (by decide) rfl ?_
        refine kw_goto (tgt := 6) (pc := 46) X d_M_fid_46 (by decide) ?_
        exact kW.sub [1, 2, 3, 0] rfl (hr_6 _ _ _ hwp)
      · have hwp := ite_f h hwp
        refine kw_aload_n (pc := 28) X d_M_fid_28 rfl 0 rfl ?_
        refine kg_87 (a := a0) (pc := 29) X d_M_fid_29 x_1007 rfl f1 ?_
        refine kw_iload (pc := 32) X d_M_fid_32 3 rfl ?_
        obtain ⟨a6, h_a6, hwp⟩ := hwp
        obtain ⟨f7, hwp⟩ := hwp
        obtain ⟨f8, hwp⟩ := hwp
        refine ka_lald (a := a6) (pc := 34) X d_M_fid_34 h_a6 f7 f8 ?_
        refine kw_lload_n (pc := 35) X d_M_fid_35 rfl 2 rfl ?_
        refine kw_lcmp_ne (tgt := 43) (pc := 36) X d_M_fid_36 d_M_fid_37 (by decide) (fun h => ?_) (fun h => ?_)
        · have hwp := ite_t h hwp
          obtain ⟨v9, e_v9⟩ : ∃ z, z = (l4 + (1 : Int32)) := ⟨_, rfl⟩
          have hwp := hwp v9 e_v9
          refine kw_iinc (v := v9) (lv' := [(4, .int v9), (0, va_rf (some a0)), (1, .int l1), (2, .long l2)]) (pc := 43) X d_M_fid_43 3 rfl (by rw [e_v9]; rfl) (by decide) rfl ?_
          refine kw_goto (tgt := 6) (pc := 46) X d_M_fid_46 (by decide) ?_
          exact kW.sub [1, 2, 3, 0] rfl (hr_6 _ _ _ hwp)
        · have hwp := ite_f (not_not_intro h) hwp
          refine kw_iload (pc := 40) X d_M_fid_40 3 rfl ?_
          exact krp_i (pc := 42) X hret d_M_fid_42 hwp
set_option maxRecDepth 100000 in
set_option maxHeartbeats 4000000 in
theorem k_M_fid {p : Program} {l : Launch} {e : Env} {s : State} {m : MethodId} {args : Array Value} {below : List Frame} {meth : Method} {c : Code} {t : TY} {a0 : Nat} {G : GS} {K : Int32 → Prop} (X : kX p s m args meth c b_M_fid 5 "TreeServerModel" t) (hret : meth.sig.returnType = some .int) (p1 : Int32) (p2 : Int64) (hwp : w_M_fid t G a0 p1 p2 K) : kW p l e rm_M_fid s m args below meth c (MQ below (vp_Si K) args s 0 0 (fun _ => False)) 5 t true 0 [(0, va_rf (some a0)), (1, .int p1), (2, .long p2)] [] G := by
  unfold w_M_fid at hwp
  refine kw_bipush (v := 6) (pc := 0) X d_M_fid_0 (by decide) ?_
  refine kw_iload_n (pc := 2) X d_M_fid_2 rfl 1 rfl ?_
  refine kw_imul (pc := 3) X d_M_fid_3 ?_
  obtain ⟨v1, e_v1⟩ : ∃ z, z = ((6 : Int32) * p1) := ⟨_, rfl⟩
  have hwp := hwp v1 e_v1
  refine kW.st (st' := .int v1 :: _) (by rw [e_v1]) ?_
  refine kw_istore (i := 4) (lv' := [(4, .int v1), (0, va_rf (some a0)), (1, .int p1), (2, .long p2)]) (pc := 4) X d_M_fid_4 (by decide) rfl ?_
  obtain ⟨n, hwp⟩ := hwp
  exact kW.sub [1, 2, 3, 0] rfl (k_M_fid_6 X hret  n _ _ _ hwp)
set_option maxRecDepth 100000 in
set_option maxHeartbeats 4000000 in
theorem c_M_fid (l : Launch) (t : TY) (G : GS) (a0 : Nat) (p1 : Int32) (p2 : Int64) (K : Int32 → Prop) : Met l y_M_fid (Cond.code y_M_fid b_M_fid 5 (Option.some Jvm.ClassFile.FieldType.int) :: GW) rm_M_fid (va_Pc [.ref a0, .int p1, .long p2] (fun U => HB t G U.heap ∧ HK t U ∧ w_M_fid t G a0 p1 p2 K)) (vp_Si K) 0 0 (fun _ => False) := by
  refine Met.ofW (cc := b_M_fid) (maxL := 5) (ret := some .int) (by decide) rfl ?_
  intro p e s m args below meth c s₁ B hml hv
  obtain ⟨rfl, hB, hK, hwp⟩ := hv
  have hts := atoms_spec (ws := Cond.code y_M_fid b_M_fid 5 (Option.some Jvm.ClassFile.FieldType.int) :: GW) B.pre
  have X : kX p s m _ meth c b_M_fid 5 "TreeServerModel" t := ⟨B.exec, B.bytes, hml, findClass_of_methodNamed B.named, fun w h => hts w (List.mem_cons_of_mem _ h), B.notSynchronized, hK⟩
  have hZ : kZ t true s G s.heap [] := ⟨hB, va_S.rf, fun _ => ⟨rfl, rfl⟩⟩
  rw [lg_entry_eq]
  have hl := lv_entry ([.ref a0, .int p1, .long p2]) (n := 5) (by simp [lg_sl, rf_cat, cat_i, cat_l, cat_r])
  exact k_M_fid X B.returns _ _ hwp s.heap [] _ hl hZ
abbrev b_M_many : ByteArray := prog_13_method_31_code
def y_M_many : MethodName := ⟨"TreeServerModel", "many", "(I)I"⟩
theorem d_M_many_0 : decode b_M_many 0 = .ok (.iconst 0, 1) := by decide +kernel
theorem d_M_many_1 : decode b_M_many 1 = .ok (.istore_n 2, 1) := by decide +kernel
theorem d_M_many_2 : decode b_M_many 2 = .ok (.bipush 6, 2) := by decide +kernel
theorem d_M_many_4 : decode b_M_many 4 = .ok (.iload_n 1, 1) := by decide +kernel
theorem d_M_many_5 : decode b_M_many 5 = .ok (.imul, 1) := by decide +kernel
theorem d_M_many_6 : decode b_M_many 6 = .ok (.istore_n 3, 1) := by decide +kernel
theorem d_M_many_7 : decode b_M_many 7 = .ok (.iload_n 3, 1) := by decide +kernel
theorem d_M_many_8 : decode b_M_many 8 = .ok (.bipush 6, 2) := by decide +kernel
theorem d_M_many_10 : decode b_M_many 10 = .ok (.iload_n 1, 1) := by decide +kernel
theorem d_M_many_11 : decode b_M_many 11 = .ok (.imul, 1) := by decide +kernel
theorem d_M_many_12 : decode b_M_many 12 = .ok (.bipush 6, 2) := by decide +kernel
theorem d_M_many_14 : decode b_M_many 14 = .ok (.iadd, 1) := by decide +kernel
theorem d_M_many_15 : decode b_M_many 15 = .ok (.if_icmp .ge 26, 3) := by decide +kernel
theorem d_M_many_18 : decode b_M_many 18 = .ok (.aload_n 0, 1) := by decide +kernel
theorem d_M_many_19 : decode b_M_many 19 = .ok (.getfield 45, 3) := by decide +kernel
theorem d_M_many_22 : decode b_M_many 22 = .ok (.iload_n 3, 1) := by decide +kernel
theorem d_M_many_23 : decode b_M_many 23 = .ok (.baload, 1) := by decide +kernel
theorem d_M_many_24 : decode b_M_many 24 = .ok (.ifCond .eq 9, 3) := by decide +kernel
theorem d_M_many_27 : decode b_M_many 27 = .ok (.iload_n 2, 1) := by decide +kernel
theorem d_M_many_28 : decode b_M_many 28 = .ok (.iconst 1, 1) := by decide +kernel
theorem d_M_many_29 : decode b_M_many 29 = .ok (.iadd, 1) := by decide +kernel
theorem d_M_many_30 : decode b_M_many 30 = .ok (.goto 4, 3) := by decide +kernel
theorem d_M_many_33 : decode b_M_many 33 = .ok (.iload_n 2, 1) := by decide +kernel
theorem d_M_many_34 : decode b_M_many 34 = .ok (.istore_n 2, 1) := by decide +kernel
theorem d_M_many_35 : decode b_M_many 35 = .ok (.iinc 3 1, 3) := by decide +kernel
theorem d_M_many_38 : decode b_M_many 38 = .ok (.goto (-31), 3) := by decide +kernel
theorem d_M_many_41 : decode b_M_many 41 = .ok (.iload_n 2, 1) := by decide +kernel
theorem d_M_many_42 : decode b_M_many 42 = .ok (.ireturn, 1) := by decide +kernel
abbrev rm_M_many : Room := { frames := 0, cells := 0, slots := 0, locals := 0 }
set_option maxRecDepth 100000 in
set_option maxHeartbeats 4000000 in
theorem k_M_many_34 {p : Program} {l : Launch} {e : Env} {s : State} {m : MethodId} {args : Array Value} {below : List Frame} {meth : Method} {c : Code} {t : TY} {a0 : Nat} {G : GS} {K : Int32 → Prop} {r7 : Int32 → Int32 → Int32 → Prop} (X : kX p s m args meth c b_M_many 4 "TreeServerModel" t) (hret : meth.sig.returnType = some .int) (hr_7 : ∀ (l1 : Int32) (l2 : Int32) (l3 : Int32), r7 l1 l2 l3 → kW p l e rm_M_many s m args below meth c (MQ below (vp_Si K) args s 0 0 (fun _ => False)) 4 t true 7 [(0, va_rf (some a0)), (1, .int l1), (2, .int l2), (3, .int l3)] [] G) (l1 : Int32) (l3 : Int32) (s0 : Int32) (hwp : w_M_many_34 t G a0 K r7 l1 l3 s0) : kW p l e rm_M_many s m args below meth c (MQ below (vp_Si K) args s 0 0 (fun _ => False)) 4 t true 34 [(0, va_rf (some a0)), (1, .int l1), (3, .int l3)] [.int s0] G := by
  unfold w_M_many_34 at hwp
  refine kw_istore_n (i := 2) (lv' := [(2, .int s0), (0, va_rf (some a0)), (1, .int l1), (3, .int l3)]) (pc := 34) X d_M_many_34 rfl (by decide) rfl ?_
  obtain ⟨v1, e_v1⟩ : ∃ z, z = (l3 + (1 : Int32)) := ⟨_, rfl⟩
  have hwp := hwp v1 e_v1
  refine kw_iinc (v := v1) (lv' := [(3, .int v1), (2, .int s0), (0, va_rf (some a0)), (1, .int l1)]) (pc := 35) X d_M_many_35 3 rfl (by rw [e_v1]; rfl) (by decide) rfl ?_
  refine kw_goto (tgt := 7) (pc := 38) X d_M_many_38 (by decide) ?_
  exact kW.sub [2, 3, 1, 0] rfl (hr_7 _ _ _ hwp)
set_option maxRecDepth 100000 in
set_option maxHeartbeats 4000000 in
theorem k_M_many_7 {p : Program} {l : Launch} {e : Env} {s : State} {m : MethodId} {args : Array Value} {below : List Frame} {meth : Method} {c : Code} {t : TY} {a0 : Nat} {G : GS} {K : Int32 → Prop} (X : kX p s m args meth c b_M_many 4 "TreeServerModel" t) (hret : meth.sig.returnType = some .int) : ∀ (n : Nat) (l1 : Int32) (l2 : Int32) (l3 : Int32), w_M_many_7 t G a0 K n l1 l2 l3 → kW p l e rm_M_many s m args below meth c (MQ below (vp_Si K) args s 0 0 (fun _ => False)) 4 t true 7 [(0, va_rf (some a0)), (1, .int l1), (2, .int l2), (3, .int l3)] [] G := by
  intro n
  induction n with
  | zero => intro l1 l2 l3 hwp; exact hwp.elim
  | succ n hr_7 =>
    intro l1 l2 l3 hwp
    unfold w_M_many_7 at hwp
    dsimp only at hwp
    refine kw_iload_n (pc := 7) X d_M_many_7 rfl 3 rfl ?_
    refine kw_bipush (v := 6) (pc := 8) X d_M_many_8 (by decide) ?_
    refine kw_iload_n (pc := 10) X d_M_many_10 rfl 1 rfl ?_
    refine kw_imul (pc := 11) X d_M_many_11 ?_
    refine kw_bipush (v := 6) (pc := 12) X d_M_many_12 (by decide) ?_
    refine kw_iadd (pc := 14) X d_M_many_14 ?_
    refine kw_icmp_ge (tgt := 41) (pc := 15) X d_M_many_15 (by decide) (fun h => ?_) (fun h => ?_)
    · have hwp := ite_t h hwp
      refine kw_iload_n (pc := 41) X d_M_many_41 rfl 2 rfl ?_
      exact krp_i (pc := 42) X hret d_M_many_42 hwp
    · have hwp := ite_f h hwp
      refine kw_aload_n (pc := 18) X d_M_many_18 rfl 0 rfl ?_
      obtain ⟨f1, hwp⟩ := hwp
      refine kg_86 (a := a0) (pc := 19) X d_M_many_19 x_1006 rfl f1 ?_
      refine kw_iload_n (pc := 22) X d_M_many_22 rfl 3 rfl ?_
      obtain ⟨a2, h_a2, hwp⟩ := hwp
      obtain ⟨f3, hwp⟩ := hwp
      obtain ⟨f4, hwp⟩ := hwp
      refine ka_zald (a := a2) (pc := 23) X d_M_many_23 h_a2 f3 f4 ?_
      refine kw_if_eq (tgt := 33) (pc := 24) X d_M_many_24 (by decide) (fun h => ?_) (fun h => ?_)
      · have hwp := ite_t h hwp
        refine kw_iload_n (pc := 33) X d_M_many_33 rfl 2 rfl ?_
        exact kW.sub [0, 1, 3] rfl (k_M_many_34 X hret hr_7 _ _ _ hwp)
      · have hwp := ite_f h hwp
        refine kw_iload_n (pc := 27) X d_M_many_27 rfl 2 rfl ?_
        refine kw_iconst (v := 1) (pc := 28) X d_M_many_28 (by decide) ?_
        refine kw_iadd (pc := 29) X d_M_many_29 ?_
        refine kw_goto (tgt := 34) (pc := 30) X d_M_many_30 (by decide) ?_
        exact kW.sub [0, 1, 3] rfl (k_M_many_34 X hret hr_7 _ _ _ hwp)
set_option maxRecDepth 100000 in
set_option maxHeartbeats 4000000 in
theorem k_M_many {p : Program} {l : Launch} {e : Env} {s : State} {m : MethodId} {args : Array Value} {below : List Frame} {meth : Method} {c : Code} {t : TY} {a0 : Nat} {G : GS} {K : Int32 → Prop} (X : kX p s m args meth c b_M_many 4 "TreeServerModel" t) (hret : meth.sig.returnType = some .int) (p1 : Int32) (hwp : w_M_many t G a0 p1 K) : kW p l e rm_M_many s m args below meth c (MQ below (vp_Si K) args s 0 0 (fun _ => False)) 4 t true 0 [(0, va_rf (some a0)), (1, .int p1)] [] G := by
  unfold w_M_many at hwp
  refine kw_iconst (v := 0) (pc := 0) X d_M_many_0 (by decide) ?_
  refine kw_istore_n (i := 2) (lv' := [(2, .int (0 : Int32)), (0, va_rf (some a0)), (1, .int p1)]) (pc := 1) X d_M_many_1 rfl (by decide) rfl ?_
  refine kw_bipush (v := 6) (pc := 2) X d_M_many_2 (by decide) ?_
  refine kw_iload_n (pc := 4) X d_M_many_4 rfl 2 rfl ?_
  refine kw_imul (pc := 5) X d_M_many_5 ?_
  obtain ⟨v1, e_v1⟩ : ∃ z, z = ((6 : Int32) * p1) := ⟨_, rfl⟩
  have hwp := hwp v1 e_v1
  refine kW.st (st' := .int v1 :: _) (by rw [e_v1]) ?_
  refine kw_istore_n (i := 3) (lv' := [(3, .int v1), (2, .int (0 : Int32)), (0, va_rf (some a0)), (1, .int p1)]) (pc := 6) X d_M_many_6 rfl (by decide) rfl ?_
  obtain ⟨n, hwp⟩ := hwp
  exact kW.sub [2, 3, 1, 0] rfl (k_M_many_7 X hret  n _ _ _ hwp)
set_option maxRecDepth 100000 in
set_option maxHeartbeats 4000000 in
theorem c_M_many (l : Launch) (t : TY) (G : GS) (a0 : Nat) (p1 : Int32) (K : Int32 → Prop) : Met l y_M_many (Cond.code y_M_many b_M_many 4 (Option.some Jvm.ClassFile.FieldType.int) :: GW) rm_M_many (va_Pc [.ref a0, .int p1] (fun U => HB t G U.heap ∧ HK t U ∧ w_M_many t G a0 p1 K)) (vp_Si K) 0 0 (fun _ => False) := by
  refine Met.ofW (cc := b_M_many) (maxL := 4) (ret := some .int) (by decide) rfl ?_
  intro p e s m args below meth c s₁ B hml hv
  obtain ⟨rfl, hB, hK, hwp⟩ := hv
  have hts := atoms_spec (ws := Cond.code y_M_many b_M_many 4 (Option.some Jvm.ClassFile.FieldType.int) :: GW) B.pre
  have X : kX p s m _ meth c b_M_many 4 "TreeServerModel" t := ⟨B.exec, B.bytes, hml, findClass_of_methodNamed B.named, fun w h => hts w (List.mem_cons_of_mem _ h), B.notSynchronized, hK⟩
  have hZ : kZ t true s G s.heap [] := ⟨hB, va_S.rf, fun _ => ⟨rfl, rfl⟩⟩
  rw [lg_entry_eq]
  have hl := lv_entry ([.ref a0, .int p1]) (n := 4) (by simp [lg_sl, rf_cat, cat_i, cat_l, cat_r])
  exact k_M_many X B.returns _ hwp s.heap [] _ hl hZ
abbrev b_M_point : ByteArray := prog_13_method_33_code
def y_M_point : MethodName := ⟨"TreeServerModel", "point", "(III)V"⟩
theorem d_M_point_0 : decode b_M_point 0 = .ok (.aload_n 0, 1) := by decide +kernel
theorem d_M_point_1 : decode b_M_point 1 = .ok (.getfield 52, 3) := by decide +kernel
theorem d_M_point_4 : decode b_M_point 4 = .ok (.iload_n 1, 1) := by decide +kernel
theorem d_M_point_5 : decode b_M_point 5 = .ok (.aload_n 0, 1) := by decide +kernel
theorem d_M_point_6 : decode b_M_point 6 = .ok (.iload_n 2, 1) := by decide +kernel
theorem d_M_point_7 : decode b_M_point 7 = .ok (.iconst 1, 1) := by decide +kernel
theorem d_M_point_8 : decode b_M_point 8 = .ok (.invokevirtual 81, 3) := by decide +kernel
theorem d_M_point_11 : decode b_M_point 11 = .ok (.iastore, 1) := by decide +kernel
theorem d_M_point_12 : decode b_M_point 12 = .ok (.aload_n 0, 1) := by decide +kernel
theorem d_M_point_13 : decode b_M_point 13 = .ok (.getfield 55, 3) := by decide +kernel
theorem d_M_point_16 : decode b_M_point 16 = .ok (.iload_n 1, 1) := by decide +kernel
theorem d_M_point_17 : decode b_M_point 17 = .ok (.iload_n 3, 1) := by decide +kernel
theorem d_M_point_18 : decode b_M_point 18 = .ok (.iastore, 1) := by decide +kernel
theorem d_M_point_19 : decode b_M_point 19 = .ok (.aload_n 0, 1) := by decide +kernel
theorem d_M_point_20 : decode b_M_point 20 = .ok (.getfield 58, 3) := by decide +kernel
theorem d_M_point_23 : decode b_M_point 23 = .ok (.iload_n 1, 1) := by decide +kernel
theorem d_M_point_24 : decode b_M_point 24 = .ok (.iconst (-1), 1) := by decide +kernel
theorem d_M_point_25 : decode b_M_point 25 = .ok (.iastore, 1) := by decide +kernel
theorem d_M_point_26 : decode b_M_point 26 = .ok (.aload_n 0, 1) := by decide +kernel
theorem d_M_point_27 : decode b_M_point 27 = .ok (.getfield 61, 3) := by decide +kernel
theorem d_M_point_30 : decode b_M_point 30 = .ok (.iload_n 1, 1) := by decide +kernel
theorem d_M_point_31 : decode b_M_point 31 = .ok (.iconst 0, 1) := by decide +kernel
theorem d_M_point_32 : decode b_M_point 32 = .ok (.bastore, 1) := by decide +kernel
theorem d_M_point_33 : decode b_M_point 33 = .ok (.aload_n 0, 1) := by decide +kernel
theorem d_M_point_34 : decode b_M_point 34 = .ok (.getfield 64, 3) := by decide +kernel
theorem d_M_point_37 : decode b_M_point 37 = .ok (.iload_n 1, 1) := by decide +kernel
theorem d_M_point_38 : decode b_M_point 38 = .ok (.lconst 0, 1) := by decide +kernel
theorem d_M_point_39 : decode b_M_point 39 = .ok (.lastore, 1) := by decide +kernel
theorem d_M_point_40 : decode b_M_point 40 = .ok (.aload_n 0, 1) := by decide +kernel
theorem d_M_point_41 : decode b_M_point 41 = .ok (.getfield 67, 3) := by decide +kernel
theorem d_M_point_44 : decode b_M_point 44 = .ok (.iload_n 1, 1) := by decide +kernel
theorem d_M_point_45 : decode b_M_point 45 = .ok (.iconst 0, 1) := by decide +kernel
theorem d_M_point_46 : decode b_M_point 46 = .ok (.iastore, 1) := by decide +kernel
theorem d_M_point_47 : decode b_M_point 47 = .ok (.return_, 1) := by decide +kernel
abbrev rm_M_point : Room := { frames := 1, cells := 0, slots := 0, locals := 22 }
set_option maxRecDepth 100000 in
set_option maxHeartbeats 4000000 in
theorem k_M_point {p : Program} {l : Launch} {e : Env} {s : State} {m : MethodId} {args : Array Value} {below : List Frame} {meth : Method} {c : Code} {t : TY} {a0 : Nat} {K : GS → Prop} (X : kX p s m args meth c b_M_point 4 "TreeServerModel" t) (hret : meth.sig.returnType = none) (G : GS) (p1 : Int32) (p2 : Int32) (p3 : Int32) (hwp : w_M_point t G a0 p1 p2 p3 K) : kW p l e rm_M_point s m args below meth c (MQ below (va_Qv (fun u : GS => K u) (fun u T => HB t u T.heap) (tA t)) args s 0 0 (tA t)) 4 t false 0 [(0, va_rf (some a0)), (1, .int p1), (2, .int p2), (3, .int p3)] [] G := by
  unfold w_M_point at hwp
  refine kw_aload_n (pc := 0) X d_M_point_0 rfl 0 rfl ?_
  obtain ⟨f1, hwp⟩ := hwp
  refine kg_88 (a := a0) (pc := 1) X d_M_point_1 x_1008 rfl f1 ?_
  refine kw_iload_n (pc := 4) X d_M_point_4 rfl 1 rfl ?_
  refine kw_aload_n (pc := 5) X d_M_point_5 rfl 0 rfl ?_
  refine kw_iload_n (pc := 6) X d_M_point_6 rfl 2 rfl ?_
  refine kw_iconst (v := 1) (pc := 7) X d_M_point_7 (by decide) ?_
  refine kcVp_i (n := 2) (As := [.int p2, .int (1 : Int32)]) (rest := [.int p1, va_rf (gr G 88 a0)]) (pc := 8) X (c_M_at l t G a0 p2 (1 : Int32) _) (cwV_of (C := "TreeServerModel") X x_1111 x_1108 x_1110 xp_41 x_13 (by decide +kernel) ⟨rfl, rfl⟩ (by decide)) (rv_10 X f1) rfl rfl (by simp [rf_cat, cat_i, cat_l, cat_r]) d_M_point_8 hwp (fun v2 hwp => ?_)
  obtain ⟨a3, h_a3, hwp⟩ := hwp
  obtain ⟨f4, hwp⟩ := hwp
  obtain ⟨f5, hwp⟩ := hwp
  refine ka_iast (a := a3) (pc := 11) X rfl d_M_point_11 h_a3 f4 f5 ?_
  obtain ⟨G6, e_G6⟩ : ∃ g, g = ais G a3 p1.toNatClampNeg v2 := ⟨_, rfl⟩
  have hwp := hwp G6 e_G6
  refine kW.g e_G6.symm ?_
  refine kw_aload_n (pc := 12) X d_M_point_12 rfl 0 rfl ?_
  refine kg_89 (a := a0) (pc := 13) X d_M_point_13 x_1009 rfl f1 ?_
  refine kw_iload_n (pc := 16) X d_M_point_16 rfl 1 rfl ?_
  refine kw_iload_n (pc := 17) X d_M_point_17 rfl 3 rfl ?_
  obtain ⟨a7, h_a7, hwp⟩ := hwp
  obtain ⟨f8, hwp⟩ := hwp
  obtain ⟨f9, hwp⟩ := hwp
  refine ka_iast (a := a7) (pc := 18) X rfl d_M_point_18 h_a7 f8 f9 ?_
  obtain ⟨G10, e_G10⟩ : ∃ g, g = ais G6 a7 p1.toNatClampNeg p3 := ⟨_, rfl⟩
  have hwp := hwp G10 e_G10
  refine kW.g e_G10.symm ?_
  refine kw_aload_n (pc := 19) X d_M_point_19 rfl 0 rfl ?_
  refine kg_90 (a := a0) (pc := 20) X d_M_point_20 x_1010 rfl f1 ?_
  refine kw_iload_n (pc := 23) X d_M_point_23 rfl 1 rfl ?_
  refine kw_iconst (v := -1) (pc := 24) X d_M_point_24 (by decide) ?_
  obtain ⟨a11, h_a11, hwp⟩ := hwp
  obtain ⟨f12, hwp⟩ := hwp
  obtain ⟨f13, hwp⟩ := hwp
  refine ka_iast (a := a11) (pc := 25) X rfl d_M_point_25 h_a11 f12 f13 ?_
  obtain ⟨G14, e_G14⟩ : ∃ g, g = ais G10 a11 p1.toNatClampNeg (-1 : Int32) := ⟨_, rfl⟩
  have hwp := hwp G14 e_G14
  refine kW.g e_G14.symm ?_
  refine kw_aload_n (pc := 26) X d_M_point_26 rfl 0 rfl ?_
  refine kg_91 (a := a0) (pc := 27) X d_M_point_27 x_1011 rfl f1 ?_
  refine kw_iload_n (pc := 30) X d_M_point_30 rfl 1 rfl ?_
  refine kw_iconst (v := 0) (pc := 31) X d_M_point_31 (by decide) ?_
  obtain ⟨a15, h_a15, hwp⟩ := hwp
  obtain ⟨f16, hwp⟩ := hwp
  obtain ⟨f17, hwp⟩ := hwp
  refine ka_zast (a := a15) (pc := 32) X rfl d_M_point_32 h_a15 f16 f17 ?_
  obtain ⟨G18, e_G18⟩ : ∃ g, g = ais G14 a15 p1.toNatClampNeg (vp_nar .boolean (0 : Int32)) := ⟨_, rfl⟩
  have hwp := hwp G18 e_G18
  refine kW.g e_G18.symm ?_
  refine kw_aload_n (pc := 33) X d_M_point_33 rfl 0 rfl ?_
  refine kg_92 (a := a0) (pc := 34) X d_M_point_34 x_1012 rfl f1 ?_
  refine kw_iload_n (pc := 37) X d_M_point_37 rfl 1 rfl ?_
  refine kw_lconst (v := 0) (pc := 38) X d_M_point_38 (by decide) ?_
  obtain ⟨a19, h_a19, hwp⟩ := hwp
  obtain ⟨f20, hwp⟩ := hwp
  obtain ⟨f21, hwp⟩ := hwp
  refine ka_last (a := a19) (pc := 39) X rfl d_M_point_39 h_a19 f20 f21 ?_
  obtain ⟨G22, e_G22⟩ : ∃ g, g = als G18 a19 p1.toNatClampNeg (0 : Int64) := ⟨_, rfl⟩
  have hwp := hwp G22 e_G22
  refine kW.g e_G22.symm ?_
  refine kw_aload_n (pc := 40) X d_M_point_40 rfl 0 rfl ?_
  refine kg_93 (a := a0) (pc := 41) X d_M_point_41 x_1013 rfl f1 ?_
  refine kw_iload_n (pc := 44) X d_M_point_44 rfl 1 rfl ?_
  refine kw_iconst (v := 0) (pc := 45) X d_M_point_45 (by decide) ?_
  obtain ⟨a23, h_a23, hwp⟩ := hwp
  obtain ⟨f24, hwp⟩ := hwp
  obtain ⟨f25, hwp⟩ := hwp
  refine ka_iast (a := a23) (pc := 46) X rfl d_M_point_46 h_a23 f24 f25 ?_
  obtain ⟨G26, e_G26⟩ : ∃ g, g = ais G22 a23 p1.toNatClampNeg (0 : Int32) := ⟨_, rfl⟩
  have hwp := hwp G26 e_G26
  refine kW.g e_G26.symm ?_
  exact kr_v (pc := 47) X hret d_M_point_47 hwp
set_option maxRecDepth 100000 in
set_option maxHeartbeats 4000000 in
theorem c_M_point (l : Launch) (t : TY) (G : GS) (a0 : Nat) (p1 : Int32) (p2 : Int32) (p3 : Int32) (K : GS → Prop) : Met l y_M_point (Cond.code y_M_point b_M_point 4 (Option.none : Option Jvm.ClassFile.FieldType) :: GW) rm_M_point (va_Pc [.ref a0, .int p1, .int p2, .int p3] (fun U => HB t G U.heap ∧ HK t U ∧ w_M_point t G a0 p1 p2 p3 K)) (va_Qv (fun u : GS => K u) (fun u T => HB t u T.heap) (tA t)) 0 0 (tA t) := by
  refine Met.ofW (cc := b_M_point) (maxL := 4) (ret := none) (by decide) rfl ?_
  intro p e s m args below meth c s₁ B hml hv
  obtain ⟨rfl, hB, hK, hwp⟩ := hv
  have hts := atoms_spec (ws := Cond.code y_M_point b_M_point 4 (Option.none : Option Jvm.ClassFile.FieldType) :: GW) B.pre
  have X : kX p s m _ meth c b_M_point 4 "TreeServerModel" t := ⟨B.exec, B.bytes, hml, findClass_of_methodNamed B.named, fun w h => hts w (List.mem_cons_of_mem _ h), B.notSynchronized, hK⟩
  have hZ : kZ t false s G s.heap [] := ⟨hB, va_S.rf, fun _ => ⟨rfl, rfl⟩⟩
  rw [lg_entry_eq]
  have hl := lv_entry ([.ref a0, .int p1, .int p2, .int p3]) (n := 4) (by simp [lg_sl, rf_cat, cat_i, cat_l, cat_r])
  exact k_M_point X B.returns _ _ _ _ hwp s.heap [] _ hl hZ
