abbrev b_S_isOpenSomewhere : ByteArray := prog_1_method_33_code
def y_S_isOpenSomewhere : MethodName := ⟨"TreeServer", "isOpenSomewhere", "(LTreeServer$Node;)Z"⟩
theorem d_S_isOpenSomewhere_0 : decode b_S_isOpenSomewhere 0 = .ok (.iconst 0, 1) := by decide +kernel
theorem d_S_isOpenSomewhere_1 : decode b_S_isOpenSomewhere 1 = .ok (.istore_n 2, 1) := by decide +kernel
theorem d_S_isOpenSomewhere_2 : decode b_S_isOpenSomewhere 2 = .ok (.iload_n 2, 1) := by decide +kernel
theorem d_S_isOpenSomewhere_3 : decode b_S_isOpenSomewhere 3 = .ok (.iconst 2, 1) := by decide +kernel
theorem d_S_isOpenSomewhere_4 : decode b_S_isOpenSomewhere 4 = .ok (.if_icmp .ge 24, 3) := by decide +kernel
theorem d_S_isOpenSomewhere_7 : decode b_S_isOpenSomewhere 7 = .ok (.aload_n 0, 1) := by decide +kernel
theorem d_S_isOpenSomewhere_8 : decode b_S_isOpenSomewhere 8 = .ok (.getfield 46, 3) := by decide +kernel
theorem d_S_isOpenSomewhere_11 : decode b_S_isOpenSomewhere 11 = .ok (.iload_n 2, 1) := by decide +kernel
theorem d_S_isOpenSomewhere_12 : decode b_S_isOpenSomewhere 12 = .ok (.aaload, 1) := by decide +kernel
theorem d_S_isOpenSomewhere_13 : decode b_S_isOpenSomewhere 13 = .ok (.aload_n 1, 1) := by decide +kernel
theorem d_S_isOpenSomewhere_14 : decode b_S_isOpenSomewhere 14 = .ok (.invokevirtual 416, 3) := by decide +kernel
theorem d_S_isOpenSomewhere_17 : decode b_S_isOpenSomewhere 17 = .ok (.ifCond .eq 5, 3) := by decide +kernel
theorem d_S_isOpenSomewhere_20 : decode b_S_isOpenSomewhere 20 = .ok (.iconst 1, 1) := by decide +kernel
theorem d_S_isOpenSomewhere_21 : decode b_S_isOpenSomewhere 21 = .ok (.ireturn, 1) := by decide +kernel
theorem d_S_isOpenSomewhere_22 : decode b_S_isOpenSomewhere 22 = .ok (.iinc 2 1, 3) := by decide +kernel
theorem d_S_isOpenSomewhere_25 : decode b_S_isOpenSomewhere 25 = .ok (.goto (-23), 3) := by decide +kernel
theorem d_S_isOpenSomewhere_28 : decode b_S_isOpenSomewhere 28 = .ok (.iconst 0, 1) := by decide +kernel
theorem d_S_isOpenSomewhere_29 : decode b_S_isOpenSomewhere 29 = .ok (.ireturn, 1) := by decide +kernel
abbrev rm_S_isOpenSomewhere : Room := { frames := 2, cells := 0, slots := 0, locals := 43 }
set_option maxRecDepth 100000 in
set_option maxHeartbeats 4000000 in
theorem k_S_isOpenSomewhere_2 {p : Program} {l : Launch} {e : Env} {s : State} {m : MethodId} {args : Array Value} {below : List Frame} {meth : Method} {c : Code} {t : TY} {a0 : Nat} {G : GS} {K : Int32 → Prop} (X : kX p s m args meth c b_S_isOpenSomewhere 3 "TreeServer" t) (hret : meth.sig.returnType = some .boolean) : ∀ (n : Nat) (p1 : Nat) (l2 : Int32), w_S_isOpenSomewhere_2 t G a0 K n p1 l2 → kW p l e rm_S_isOpenSomewhere s m args below meth c (MQ below (vp_Si (fun r => isB r ∧ K r)) args s 0 0 (fun _ => False)) 3 t true 2 [(0, va_rf (some a0)), (1, va_rf (some p1)), (2, .int l2)] [] G := by
  intro n
  induction n with
  | zero => intro p1 l2 hwp; exact hwp.elim
  | succ n hr_2 =>
    intro p1 l2 hwp
    unfold w_S_isOpenSomewhere_2 at hwp
    dsimp only at hwp
    refine kw_iload_n (pc := 2) X d_S_isOpenSomewhere_2 rfl 2 rfl ?_
    refine kw_iconst (v := 2) (pc := 3) X d_S_isOpenSomewhere_3 (by decide) ?_
    refine kw_icmp_ge (tgt := 28) (pc := 4) X d_S_isOpenSomewhere_4 (by decide) (fun h => ?_) (fun h => ?_)
    · have hwp := ite_t h hwp
      refine kw_iconst (v := 0) (pc := 28) X d_S_isOpenSomewhere_28 (by decide) ?_
      exact krp_z (pc := 29) X hret d_S_isOpenSomewhere_29 (Or.inl rfl) hwp
    · have hwp := ite_f h hwp
      refine kw_aload_n (pc := 7) X d_S_isOpenSomewhere_7 rfl 0 rfl ?_
      obtain ⟨f1, hwp⟩ := hwp
      refine kg_68 (a := a0) (pc := 8) X d_S_isOpenSomewhere_8 x_369 rfl f1 ?_
      refine kw_iload_n (pc := 11) X d_S_isOpenSomewhere_11 rfl 2 rfl ?_
      obtain ⟨a2, h_a2, hwp⟩ := hwp
      obtain ⟨f3, hwp⟩ := hwp
      obtain ⟨f4, hwp⟩ := hwp
      refine ka_aald55 (a := a2) (pc := 12) X d_S_isOpenSomewhere_12 h_a2 f3 f4 ?_
      refine kw_aload_n (pc := 13) X d_S_isOpenSomewhere_13 rfl 1 rfl ?_
      obtain ⟨a5, h_a5, hwp⟩ := hwp
      obtain ⟨f6, hwp⟩ := hwp
      refine kW.st (st' := [.ref p1, .ref a5]) (by simp only [h_a5]; rfl) ?_
      refine kcVp_i (n := 1) (As := [.ref p1]) (rest := []) (pc := 14) X (c_Link_hasOpenFidAt l t G a5 p1 _) (cwV_of (C := "TreeServer$Link") X x_758 x_755 x_756 x_757 x_11 (by decide +kernel) ⟨rfl, rfl⟩ (by decide)) (rv_8 X f6) rfl rfl (by decide) d_S_isOpenSomewhere_14 hwp (fun v7 hwp => ?_)
      obtain ⟨b_v7, hwp⟩ := hwp
      refine kw_if_eq (tgt := 22) (pc := 17) X d_S_isOpenSomewhere_17 (by decide) (fun h => ?_) (fun h => ?_)
      · have hwp := ite_t h hwp
        obtain ⟨v8, e_v8⟩ : ∃ z, z = (l2 + (1 : Int32)) := ⟨_, rfl⟩
        have hwp := hwp v8 e_v8
        refine kw_iinc (v := v8) (lv' := [(2, .int v8), (0, va_rf (some a0)), (1, va_rf (some p1))]) (pc := 22) X d_S_isOpenSomewhere_22 2 rfl (by rw [e_v8]; rfl) (by decide) rfl ?_
        refine kw_goto (tgt := 2) (pc := 25) X d_S_isOpenSomewhere_25 (by decide) ?_
        exact kW.sub [1, 2, 0] rfl (hr_2 _ _ hwp)
      · have hwp := ite_f h hwp
        refine kw_iconst (v := 1) (pc := 20) X d_S_isOpenSomewhere_20 (by decide) ?_
        exact krp_z (pc := 21) X hret d_S_isOpenSomewhere_21 (Or.inr rfl) hwp
set_option maxRecDepth 100000 in
set_option maxHeartbeats 4000000 in
theorem k_S_isOpenSomewhere {p : Program} {l : Launch} {e : Env} {s : State} {m : MethodId} {args : Array Value} {below : List Frame} {meth : Method} {c : Code} {t : TY} {a0 : Nat} {G : GS} {K : Int32 → Prop} (X : kX p s m args meth c b_S_isOpenSomewhere 3 "TreeServer" t) (hret : meth.sig.returnType = some .boolean) (p1 : Nat) (hwp : w_S_isOpenSomewhere t G a0 p1 K) : kW p l e rm_S_isOpenSomewhere s m args below meth c (MQ below (vp_Si (fun r => isB r ∧ K r)) args s 0 0 (fun _ => False)) 3 t true 0 [(0, va_rf (some a0)), (1, va_rf (some p1))] [] G := by
  unfold w_S_isOpenSomewhere at hwp
  refine kw_iconst (v := 0) (pc := 0) X d_S_isOpenSomewhere_0 (by decide) ?_
  refine kw_istore_n (i := 2) (lv' := [(2, .int (0 : Int32)), (0, va_rf (some a0)), (1, va_rf (some p1))]) (pc := 1) X d_S_isOpenSomewhere_1 rfl (by decide) rfl ?_
  obtain ⟨n, hwp⟩ := hwp
  exact kW.sub [1, 2, 0] rfl (k_S_isOpenSomewhere_2 X hret  n _ _ hwp)
set_option maxRecDepth 100000 in
set_option maxHeartbeats 4000000 in
theorem c_S_isOpenSomewhere (l : Launch) (t : TY) (G : GS) (a0 : Nat) (p1 : Nat) (K : Int32 → Prop) : Met l y_S_isOpenSomewhere (Cond.code y_S_isOpenSomewhere b_S_isOpenSomewhere 3 (Option.some Jvm.ClassFile.FieldType.boolean) :: GW) rm_S_isOpenSomewhere (va_Pc [.ref a0, .ref p1] (fun U => HB t G U.heap ∧ HK t U ∧ w_S_isOpenSomewhere t G a0 p1 K)) (vp_Si (fun r => isB r ∧ K r)) 0 0 (fun _ => False) := by
  refine Met.ofW (cc := b_S_isOpenSomewhere) (maxL := 3) (ret := some .boolean) (by decide) rfl ?_
  intro p e s m args below meth c s₁ B hml hv
  obtain ⟨rfl, hB, hK, hwp⟩ := hv
  have hts := atoms_spec (ws := Cond.code y_S_isOpenSomewhere b_S_isOpenSomewhere 3 (Option.some Jvm.ClassFile.FieldType.boolean) :: GW) B.pre
  have X : kX p s m _ meth c b_S_isOpenSomewhere 3 "TreeServer" t := ⟨B.exec, B.bytes, hml, findClass_of_methodNamed B.named, fun w h => hts w (List.mem_cons_of_mem _ h), B.notSynchronized, hK⟩
  have hZ : kZ t true s G s.heap [] := ⟨hB, va_S.rf, fun _ => ⟨rfl, rfl⟩⟩
  rw [lg_entry_eq]
  have hl := lv_entry ([.ref a0, .ref p1]) (n := 3) (by simp [lg_sl, rf_cat, cat_i, cat_l, cat_r])
  exact k_S_isOpenSomewhere X B.returns _ hwp s.heap [] _ hl hZ
abbrev b_Fid_open : ByteArray := prog_4_method_3_code
def y_Fid_open : MethodName := ⟨"TreeServer$Fid", "open", "(I)V"⟩
theorem d_Fid_open_0 : decode b_Fid_open 0 = .ok (.aload_n 0, 1) := by decide +kernel
theorem d_Fid_open_1 : decode b_Fid_open 1 = .ok (.iload_n 1, 1) := by decide +kernel
theorem d_Fid_open_2 : decode b_Fid_open 2 = .ok (.iconst 3, 1) := by decide +kernel
theorem d_Fid_open_3 : decode b_Fid_open 3 = .ok (.iand, 1) := by decide +kernel
theorem d_Fid_open_4 : decode b_Fid_open 4 = .ok (.putfield 20, 3) := by decide +kernel
theorem d_Fid_open_7 : decode b_Fid_open 7 = .ok (.aload_n 0, 1) := by decide +kernel
theorem d_Fid_open_8 : decode b_Fid_open 8 = .ok (.iload_n 1, 1) := by decide +kernel
theorem d_Fid_open_9 : decode b_Fid_open 9 = .ok (.bipush 64, 2) := by decide +kernel
theorem d_Fid_open_11 : decode b_Fid_open 11 = .ok (.iand, 1) := by decide +kernel
theorem d_Fid_open_12 : decode b_Fid_open 12 = .ok (.ifCond .eq 7, 3) := by decide +kernel
theorem d_Fid_open_15 : decode b_Fid_open 15 = .ok (.iconst 1, 1) := by decide +kernel
theorem d_Fid_open_16 : decode b_Fid_open 16 = .ok (.goto 4, 3) := by decide +kernel
theorem d_Fid_open_19 : decode b_Fid_open 19 = .ok (.iconst 0, 1) := by decide +kernel
theorem d_Fid_open_20 : decode b_Fid_open 20 = .ok (.putfield 42, 3) := by decide +kernel
theorem d_Fid_open_23 : decode b_Fid_open 23 = .ok (.return_, 1) := by decide +kernel
abbrev rm_Fid_open : Room := { frames := 0, cells := 0, slots := 0, locals := 0 }
set_option maxRecDepth 100000 in
set_option maxHeartbeats 4000000 in
theorem k_Fid_open {p : Program} {l : Launch} {e : Env} {s : State} {m : MethodId} {args : Array Value} {below : List Frame} {meth : Method} {c : Code} {t : TY} {a0 : Nat} {K : GS → Prop} (X : kX p s m args meth c b_Fid_open 2 "TreeServer$Fid" t) (hret : meth.sig.returnType = none) (G : GS) (p1 : Int32) (hwp : w_Fid_open t G a0 p1 K) : kW p l e rm_Fid_open s m args below meth c (MQ below (va_Qv (fun u : GS => K u) (fun u T => HB t u T.heap) (tA t)) args s 0 0 (tA t)) 2 t false 0 [(0, va_rf (some a0)), (1, .int p1)] [] G := by
  unfold w_Fid_open at hwp
  refine kw_aload_n (pc := 0) X d_Fid_open_0 rfl 0 rfl ?_
  refine kw_iload_n (pc := 1) X d_Fid_open_1 rfl 1 rfl ?_
  refine kw_iconst (v := 3) (pc := 2) X d_Fid_open_2 (by decide) ?_
  refine kw_iand (pc := 3) X d_Fid_open_3 ?_
  obtain ⟨f1, hwp⟩ := hwp
  refine kp_51 (a := a0) (x := (p1 &&& (3 : Int32))) (pc := 4) X rfl d_Fid_open_4 x_304 rfl f1 ?_
  obtain ⟨G2, e_G2⟩ : ∃ g, g = si G 51 a0 (p1 &&& (3 : Int32)) := ⟨_, rfl⟩
  have hwp := hwp G2 e_G2
  refine kW.g e_G2.symm ?_
  refine kw_aload_n (pc := 7) X d_Fid_open_7 rfl 0 rfl ?_
  refine kw_iload_n (pc := 8) X d_Fid_open_8 rfl 1 rfl ?_
  refine kw_bipush (v := 64) (pc := 9) X d_Fid_open_9 (by decide) ?_
  refine kw_iand (pc := 11) X d_Fid_open_11 ?_
  refine kw_if_eq (tgt := 19) (pc := 12) X d_Fid_open_12 (by decide) (fun h => ?_) (fun h => ?_)
  · have hwp := ite_t h hwp
    refine kw_iconst (v := 0) (pc := 19) X d_Fid_open_19 (by decide) ?_
    refine kp_52 (a := a0) (x := (0 : Int32)) (pc := 20) X rfl d_Fid_open_20 x_307 rfl f1 (Or.inl rfl) ?_
    obtain ⟨G3, e_G3⟩ : ∃ g, g = si G2 52 a0 (0 : Int32) := ⟨_, rfl⟩
    have hwp := hwp G3 e_G3
    refine kW.g e_G3.symm ?_
    exact kr_v (pc := 23) X hret d_Fid_open_23 hwp
  · have hwp := ite_f h hwp
    refine kw_iconst (v := 1) (pc := 15) X d_Fid_open_15 (by decide) ?_
    refine kw_goto (tgt := 20) (pc := 16) X d_Fid_open_16 (by decide) ?_
    refine kp_52 (a := a0) (x := (1 : Int32)) (pc := 20) X rfl d_Fid_open_20 x_307 rfl f1 (Or.inr rfl) ?_
    obtain ⟨G4, e_G4⟩ : ∃ g, g = si G2 52 a0 (1 : Int32) := ⟨_, rfl⟩
    have hwp := hwp G4 e_G4
    refine kW.g e_G4.symm ?_
    exact kr_v (pc := 23) X hret d_Fid_open_23 hwp
set_option maxRecDepth 100000 in
set_option maxHeartbeats 4000000 in
theorem c_Fid_open (l : Launch) (t : TY) (G : GS) (a0 : Nat) (p1 : Int32) (K : GS → Prop) : Met l y_Fid_open (Cond.code y_Fid_open b_Fid_open 2 (Option.none : Option Jvm.ClassFile.FieldType) :: GW) rm_Fid_open (va_Pc [.ref a0, .int p1] (fun U => HB t G U.heap ∧ HK t U ∧ w_Fid_open t G a0 p1 K)) (va_Qv (fun u : GS => K u) (fun u T => HB t u T.heap) (tA t)) 0 0 (tA t) := by
  refine Met.ofW (cc := b_Fid_open) (maxL := 2) (ret := none) (by decide) rfl ?_
  intro p e s m args below meth c s₁ B hml hv
  obtain ⟨rfl, hB, hK, hwp⟩ := hv
  have hts := atoms_spec (ws := Cond.code y_Fid_open b_Fid_open 2 (Option.none : Option Jvm.ClassFile.FieldType) :: GW) B.pre
  have X : kX p s m _ meth c b_Fid_open 2 "TreeServer$Fid" t := ⟨B.exec, B.bytes, hml, findClass_of_methodNamed B.named, fun w h => hts w (List.mem_cons_of_mem _ h), B.notSynchronized, hK⟩
  have hZ : kZ t false s G s.heap [] := ⟨hB, va_S.rf, fun _ => ⟨rfl, rfl⟩⟩
  rw [lg_entry_eq]
  have hl := lv_entry ([.ref a0, .int p1]) (n := 2) (by simp [lg_sl, rf_cat, cat_i, cat_l, cat_r])
  exact k_Fid_open X B.returns _ _ hwp s.heap [] _ hl hZ
abbrev b_S_open : ByteArray := prog_1_method_31_code
def y_S_open : MethodName := ⟨"TreeServer", "open", "(LTreeServer$Fid;)Ljava/lang/String;"⟩
theorem d_S_open_0 : decode b_S_open 0 = .ok (.aload_n 0, 1) := by decide +kernel
theorem d_S_open_1 : decode b_S_open 1 = .ok (.getfield 33, 3) := by decide +kernel
theorem d_S_open_4 : decode b_S_open 4 = .ok (.bipush 11, 2) := by decide +kernel
theorem d_S_open_6 : decode b_S_open 6 = .ok (.iconst 1, 1) := by decide +kernel
theorem d_S_open_7 : decode b_S_open 7 = .ok (.invokevirtual 178, 3) := by decide +kernel
theorem d_S_open_10 : decode b_S_open 10 = .ok (.l2i, 1) := by decide +kernel
theorem d_S_open_11 : decode b_S_open 11 = .ok (.istore_n 2, 1) := by decide +kernel
theorem d_S_open_12 : decode b_S_open 12 = .ok (.aload_n 1, 1) := by decide +kernel
theorem d_S_open_13 : decode b_S_open 13 = .ok (.getfield 232, 3) := by decide +kernel
theorem d_S_open_16 : decode b_S_open 16 = .ok (.astore_n 3, 1) := by decide +kernel
theorem d_S_open_17 : decode b_S_open 17 = .ok (.aload_n 1, 1) := by decide +kernel
theorem d_S_open_18 : decode b_S_open 18 = .ok (.getfield 340, 3) := by decide +kernel
theorem d_S_open_21 : decode b_S_open 21 = .ok (.iconst (-1), 1) := by decide +kernel
theorem d_S_open_22 : decode b_S_open 22 = .ok (.if_icmp .eq 7, 3) := by decide +kernel
theorem d_S_open_25 : decode b_S_open 25 = .ok (.ldc_w 343, 3) := by decide +kernel
theorem d_S_open_28 : decode b_S_open 28 = .ok (.areturn, 1) := by decide +kernel
theorem d_S_open_29 : decode b_S_open 29 = .ok (.iload_n 2, 1) := by decide +kernel
theorem d_S_open_30 : decode b_S_open 30 = .ok (.bipush (-84), 2) := by decide +kernel
theorem d_S_open_32 : decode b_S_open 32 = .ok (.iand, 1) := by decide +kernel
theorem d_S_open_33 : decode b_S_open 33 = .ok (.ifCond .eq 7, 3) := by decide +kernel
theorem d_S_open_36 : decode b_S_open 36 = .ok (.ldc_w 385, 3) := by decide +kernel
theorem d_S_open_39 : decode b_S_open 39 = .ok (.areturn, 1) := by decide +kernel
theorem d_S_open_40 : decode b_S_open 40 = .ok (.aload_n 3, 1) := by decide +kernel
theorem d_S_open_41 : decode b_S_open 41 = .ok (.invokevirtual 365, 3) := by decide +kernel
theorem d_S_open_44 : decode b_S_open 44 = .ok (.ifCond .eq 11, 3) := by decide +kernel
theorem d_S_open_47 : decode b_S_open 47 = .ok (.iload_n 2, 1) := by decide +kernel
theorem d_S_open_48 : decode b_S_open 48 = .ok (.ifCond .eq 7, 3) := by decide +kernel
theorem d_S_open_51 : decode b_S_open 51 = .ok (.ldc_w 368, 3) := by decide +kernel
theorem d_S_open_54 : decode b_S_open 54 = .ok (.areturn, 1) := by decide +kernel
theorem d_S_open_55 : decode b_S_open 55 = .ok (.aload_n 3, 1) := by decide +kernel
theorem d_S_open_56 : decode b_S_open 56 = .ok (.aload_n 1, 1) := by decide +kernel
theorem d_S_open_57 : decode b_S_open 57 = .ok (.getfield 275, 3) := by decide +kernel
theorem d_S_open_60 : decode b_S_open 60 = .ok (.iload_n 2, 1) := by decide +kernel
theorem d_S_open_61 : decode b_S_open 61 = .ok (.invokestatic 387, 3) := by decide +kernel
theorem d_S_open_64 : decode b_S_open 64 = .ok (.ifCond .ne 7, 3) := by decide +kernel
theorem d_S_open_67 : decode b_S_open 67 = .ok (.ldc_w 370, 3) := by decide +kernel
theorem d_S_open_70 : decode b_S_open 70 = .ok (.areturn, 1) := by decide +kernel
theorem d_S_open_71 : decode b_S_open 71 = .ok (.iload_n 2, 1) := by decide +kernel
theorem d_S_open_72 : decode b_S_open 72 = .ok (.bipush 64, 2) := by decide +kernel
theorem d_S_open_74 : decode b_S_open 74 = .ok (.iand, 1) := by decide +kernel
theorem d_S_open_75 : decode b_S_open 75 = .ok (.ifCond .eq 18, 3) := by decide +kernel
theorem d_S_open_78 : decode b_S_open 78 = .ok (.aload_n 3, 1) := by decide +kernel
theorem d_S_open_79 : decode b_S_open 79 = .ok (.aload_n 1, 1) := by decide +kernel
theorem d_S_open_80 : decode b_S_open 80 = .ok (.getfield 275, 3) := by decide +kernel
theorem d_S_open_83 : decode b_S_open 83 = .ok (.invokevirtual 391, 3) := by decide +kernel
theorem d_S_open_86 : decode b_S_open 86 = .ok (.ifCond .ne 7, 3) := by decide +kernel
theorem d_S_open_89 : decode b_S_open 89 = .ok (.ldc_w 370, 3) := by decide +kernel
theorem d_S_open_92 : decode b_S_open 92 = .ok (.areturn, 1) := by decide +kernel
theorem d_S_open_93 : decode b_S_open 93 = .ok (.aload_n 3, 1) := by decide +kernel
theorem d_S_open_94 : decode b_S_open 94 = .ok (.ldc_w 395, 3) := by decide +kernel
theorem d_S_open_97 : decode b_S_open 97 = .ok (.invokevirtual 396, 3) := by decide +kernel
theorem d_S_open_100 : decode b_S_open 100 = .ok (.ifCond .eq 15, 3) := by decide +kernel
theorem d_S_open_103 : decode b_S_open 103 = .ok (.aload_n 0, 1) := by decide +kernel
theorem d_S_open_104 : decode b_S_open 104 = .ok (.aload_n 3, 1) := by decide +kernel
theorem d_S_open_105 : decode b_S_open 105 = .ok (.invokevirtual 399, 3) := by decide +kernel
theorem d_S_open_108 : decode b_S_open 108 = .ok (.ifCond .eq 7, 3) := by decide +kernel
theorem d_S_open_111 : decode b_S_open 111 = .ok (.ldc_w 403, 3) := by decide +kernel
theorem d_S_open_114 : decode b_S_open 114 = .ok (.areturn, 1) := by decide +kernel
theorem d_S_open_115 : decode b_S_open 115 = .ok (.aload_n 1, 1) := by decide +kernel
theorem d_S_open_116 : decode b_S_open 116 = .ok (.iload_n 2, 1) := by decide +kernel
theorem d_S_open_117 : decode b_S_open 117 = .ok (.invokevirtual 405, 3) := by decide +kernel
theorem d_S_open_120 : decode b_S_open 120 = .ok (.iload_n 2, 1) := by decide +kernel
theorem d_S_open_121 : decode b_S_open 121 = .ok (.bipush 16, 2) := by decide +kernel
theorem d_S_open_123 : decode b_S_open 123 = .ok (.iand, 1) := by decide +kernel
theorem d_S_open_124 : decode b_S_open 124 = .ok (.ifCond .eq 51, 3) := by decide +kernel
theorem d_S_open_127 : decode b_S_open 127 = .ok (.aload_n 3, 1) := by decide +kernel
theorem d_S_open_128 : decode b_S_open 128 = .ok (.ldc_w 407, 3) := by decide +kernel
theorem d_S_open_131 : decode b_S_open 131 = .ok (.invokevirtual 396, 3) := by decide +kernel
theorem d_S_open_134 : decode b_S_open 134 = .ok (.ifCond .ne 41, 3) := by decide +kernel
theorem d_S_open_137 : decode b_S_open 137 = .ok (.aload_n 0, 1) := by decide +kernel
theorem d_S_open_138 : decode b_S_open 138 = .ok (.getfield 26, 3) := by decide +kernel
theorem d_S_open_141 : decode b_S_open 141 = .ok (.getstatic 408, 3) := by decide +kernel
theorem d_S_open_144 : decode b_S_open 144 = .ok (.aload_n 3, 1) := by decide +kernel
theorem d_S_open_145 : decode b_S_open 145 = .ok (.aload_n 1, 1) := by decide +kernel
theorem d_S_open_146 : decode b_S_open 146 = .ok (.getfield 275, 3) := by decide +kernel
theorem d_S_open_149 : decode b_S_open 149 = .ok (.aload_n 0, 1) := by decide +kernel
theorem d_S_open_150 : decode b_S_open 150 = .ok (.getfield 95, 3) := by decide +kernel
theorem d_S_open_153 : decode b_S_open 153 = .ok (.invokevirtual 289, 3) := by decide +kernel
theorem d_S_open_156 : decode b_S_open 156 = .ok (.aload_n 0, 1) := by decide +kernel
theorem d_S_open_157 : decode b_S_open 157 = .ok (.getfield 26, 3) := by decide +kernel
theorem d_S_open_160 : decode b_S_open 160 = .ok (.iconst 0, 1) := by decide +kernel
theorem d_S_open_161 : decode b_S_open 161 = .ok (.putfield 411, 3) := by decide +kernel
theorem d_S_open_164 : decode b_S_open 164 = .ok (.aload_n 0, 1) := by decide +kernel
theorem d_S_open_165 : decode b_S_open 165 = .ok (.aload_n 0, 1) := by decide +kernel
theorem d_S_open_166 : decode b_S_open 166 = .ok (.getfield 33, 3) := by decide +kernel
theorem d_S_open_169 : decode b_S_open 169 = .ok (.getfield 413, 3) := by decide +kernel
theorem d_S_open_172 : decode b_S_open 172 = .ok (.invokevirtual 257, 3) := by decide +kernel
theorem d_S_open_175 : decode b_S_open 175 = .ok (.aload_n 0, 1) := by decide +kernel
theorem d_S_open_176 : decode b_S_open 176 = .ok (.getfield 40, 3) := by decide +kernel
theorem d_S_open_179 : decode b_S_open 179 = .ok (.aload_n 3, 1) := by decide +kernel
theorem d_S_open_180 : decode b_S_open 180 = .ok (.invokevirtual 336, 3) := by decide +kernel
theorem d_S_open_183 : decode b_S_open 183 = .ok (.aload_n 0, 1) := by decide +kernel
theorem d_S_open_184 : decode b_S_open 184 = .ok (.getfield 40, 3) := by decide +kernel
theorem d_S_open_187 : decode b_S_open 187 = .ok (.lconst 0, 1) := by decide +kernel
theorem d_S_open_188 : decode b_S_open 188 = .ok (.iconst 4, 1) := by decide +kernel
theorem d_S_open_189 : decode b_S_open 189 = .ok (.invokevirtual 306, 3) := by decide +kernel
theorem d_S_open_192 : decode b_S_open 192 = .ok (.ldc 174, 2) := by decide +kernel
theorem d_S_open_194 : decode b_S_open 194 = .ok (.areturn, 1) := by decide +kernel
abbrev rm_S_open : Room := { frames := 4, cells := 0, slots := 0, locals := 92 }
set_option maxRecDepth 100000 in
set_option maxHeartbeats 4000000 in
theorem k_S_open_175 {p : Program} {l : Launch} {e : Env} {s : State} {m : MethodId} {args : Array Value} {below : List Frame} {meth : Method} {c : Code} {t : TY} {a0 : Nat} {K : GS → Option Nat → Prop} (X : kX p s m args meth c b_S_open 4 "TreeServer" t) (hret : meth.sig.returnType = some (.object "java/lang/String")) (l3 : Option Nat) (G : GS) (hwp : w_S_open_175 t a0 K l3 G) : kW p l e rm_S_open s m args below meth c (MQ below (va_Qq (fun r (u : GS) => K u r) (fun u T => HB t u T.heap) (tA t)) args s 0 0 (tA t)) 4 t false 175 [(0, va_rf (some a0)), (3, va_rf l3)] [] G := by
  unfold w_S_open_175 at hwp
  refine kw_aload_n (pc := 175) X d_S_open_175 rfl 0 rfl ?_
  obtain ⟨f1, hwp⟩ := hwp
  refine kg_67 (a := a0) (pc := 176) X d_S_open_176 x_368 rfl f1 ?_
  refine kw_aload_n (pc := 179) X d_S_open_179 rfl 1 rfl ?_
  obtain ⟨a2, h_a2, hwp⟩ := hwp
  obtain ⟨f3, hwp⟩ := hwp
  obtain ⟨a4, h_a4, hwp⟩ := hwp
  refine kW.st (st' := [.ref a4, .ref a2]) (by simp only [h_a4, h_a2]; rfl) ?_
  refine kcV_v (n := 1) (As := [.ref a4]) (rest := []) (pc := 180) X rfl (c_Answer_putQid l t G a2 a4 _) (cwV_of (C := "TreeServer$Answer") X x_679 x_676 x_677 x_678 x_10 (by decide +kernel) ⟨rfl, rfl⟩ (by decide)) (rv_6 X f3) rfl rfl (by decide) d_S_open_180 hwp (fun G5 hwp => ?_)
  refine kw_aload_n (pc := 183) X d_S_open_183 rfl 0 rfl ?_
  refine kg_67 (a := a0) (pc := 184) X d_S_open_184 x_368 rfl f1 ?_
  refine kw_lconst (v := 0) (pc := 187) X d_S_open_187 (by decide) ?_
  refine kw_iconst (v := 4) (pc := 188) X d_S_open_188 (by decide) ?_
  obtain ⟨a6, h_a6, hwp⟩ := hwp
  obtain ⟨f7, hwp⟩ := hwp
  refine kW.st (st' := [.int (4 : Int32), .long (0 : Int64), .ref a6]) (by simp only [h_a6]; rfl) ?_
  refine kcV_v (n := 2) (As := [.long (0 : Int64), .int (4 : Int32)]) (rest := []) (pc := 189) X rfl (c_Answer_put l t G5 a6 (0 : Int64) (4 : Int32) _) (cwV_of (C := "TreeServer$Answer") X x_549 x_640 x_547 x_548 x_10 (by decide +kernel) ⟨rfl, rfl⟩ (by decide)) (rv_6 X f7) rfl rfl (by decide) d_S_open_189 hwp (fun G8 hwp => ?_)
  refine kw_ldcS (tx := "") (j := 2) (pc := 192) X d_S_open_192 (by decide) rfl ?_
  exact kr_q (pc := 194) X hret d_S_open_194 (Or.inl ⟨_, rfl⟩) hwp
set_option maxRecDepth 100000 in
set_option maxHeartbeats 4000000 in
theorem k_S_open_115 {p : Program} {l : Launch} {e : Env} {s : State} {m : MethodId} {args : Array Value} {below : List Frame} {meth : Method} {c : Code} {t : TY} {a0 : Nat} {K : GS → Option Nat → Prop} (X : kX p s m args meth c b_S_open 4 "TreeServer" t) (hret : meth.sig.returnType = some (.object "java/lang/String")) (p1 : Nat) (l2 : Int32) (l3 : Option Nat) (G : GS) (hwp : w_S_open_115 t a0 K p1 l2 l3 G) : kW p l e rm_S_open s m args below meth c (MQ below (va_Qq (fun r (u : GS) => K u r) (fun u T => HB t u T.heap) (tA t)) args s 0 0 (tA t)) 4 t false 115 [(0, va_rf (some a0)), (1, va_rf (some p1)), (2, .int l2), (3, va_rf l3)] [] G := by
  unfold w_S_open_115 at hwp
  refine kw_aload_n (pc := 115) X d_S_open_115 rfl 1 rfl ?_
  refine kw_iload_n (pc := 116) X d_S_open_116 rfl 2 rfl ?_
  obtain ⟨f1, hwp⟩ := hwp
  refine kcV_v (n := 1) (As := [.int l2]) (rest := []) (pc := 117) X rfl (c_Fid_open l t G p1 l2 _) (cwV_of (C := "TreeServer$Fid") X x_764 x_761 x_762 x_763 x_12 (by decide +kernel) ⟨rfl, rfl⟩ (by decide)) (rv_7 X f1) rfl rfl (by decide) d_S_open_117 hwp (fun G2 hwp => ?_)
  refine kw_iload_n (pc := 120) X d_S_open_120 rfl 2 rfl ?_
  refine kw_bipush (v := 16) (pc := 121) X d_S_open_121 (by decide) ?_
  refine kw_iand (pc := 123) X d_S_open_123 ?_
  refine kw_if_eq (tgt := 175) (pc := 124) X d_S_open_124 (by decide) (fun h => ?_) (fun h => ?_)
  · have hwp := ite_t h hwp
    exact kW.sub [0, 3] rfl (k_S_open_175 X hret  _ _ hwp)
  · have hwp := ite_f h hwp
    refine kw_aload_n (pc := 127) X d_S_open_127 rfl 3 rfl ?_
    refine kw_ldcw (v := 1073741824) (pc := 128) X d_S_open_128 x_765 ?_
    obtain ⟨a3, h_a3, hwp⟩ := hwp
    obtain ⟨f4, hwp⟩ := hwp
    refine kW.st (st' := [.int (1073741824 : Int32), .ref a3]) (by simp only [h_a3]; rfl) ?_
    refine kcVp_i (n := 1) (As := [.int (1073741824 : Int32)]) (rest := []) (pc := 131) X (c_Node_has l t G2 a3 (1073741824 : Int32) _) (cwV_of (C := "TreeServer$Node") X x_750 x_747 x_748 x_749 x_3 (by decide +kernel) ⟨rfl, rfl⟩ (by decide)) (rv_1 X f4) rfl rfl (by decide) d_S_open_131 hwp (fun v5 hwp => ?_)
    obtain ⟨b_v5, hwp⟩ := hwp
    refine kw_if_ne (tgt := 175) (pc := 134) X d_S_open_134 (by decide) (fun h => ?_) (fun h => ?_)
    · have hwp := ite_t h hwp
      exact kW.sub [0, 3] rfl (k_S_open_175 X hret  _ _ hwp)
    · have hwp := ite_f (not_not_intro h) hwp
      refine kw_aload_n (pc := 137) X d_S_open_137 rfl 0 rfl ?_
      obtain ⟨f6, hwp⟩ := hwp
      refine kg_65 (a := a0) (pc := 138) X d_S_open_138 x_366 rfl f6 ?_
      refine ks_6 (pc := 141) X d_S_open_141 x_766 ?_
      refine kw_aload_n (pc := 144) X d_S_open_144 rfl 3 rfl ?_
      refine kw_aload_n (pc := 145) X d_S_open_145 rfl 1 rfl ?_
      refine kg_50 (a := p1) (pc := 146) X d_S_open_146 x_303 rfl f1 ?_
      refine kw_aload_n (pc := 149) X d_S_open_149 rfl 0 rfl ?_
      refine kg_69 (a := a0) (pc := 150) X d_S_open_150 x_370 rfl f6 ?_
      obtain ⟨a7, h_a7, hwp⟩ := hwp
      obtain ⟨f8, hwp⟩ := hwp
      refine kW.st (st' := [.int (gi G2 69 a0), va_rf (gr G2 50 p1), .ref a3, va_rf (some (tad t 6)), .ref a7]) (by simp only [h_a3, h_a7]; rfl) ?_
      refine kcV_v (n := 4) (As := [va_rf (some (tad t 6)), .ref a3, va_rf (gr G2 50 p1), .int (gi G2 69 a0)]) (rest := []) (pc := 153) X rfl (c_Change_begin l t G2 a7 (some (tad t 6)) a3 (gr G2 50 p1) (gi G2 69 a0) _) (cwV_of (C := "TreeServer$Change") X x_452 x_449 x_450 x_451 x_7 (by decide +kernel) ⟨rfl, rfl⟩ (by decide)) (rv_4 X f8) rfl rfl (by decide) d_S_open_153 hwp (fun G9 hwp => ?_)
      refine kw_aload_n (pc := 156) X d_S_open_156 rfl 0 rfl ?_
      refine kg_65 (a := a0) (pc := 157) X d_S_open_157 x_366 rfl f6 ?_
      refine kw_iconst (v := 0) (pc := 160) X d_S_open_160 (by decide) ?_
      obtain ⟨a10, h_a10, hwp⟩ := hwp
      obtain ⟨f11, hwp⟩ := hwp
      refine kp_25 (a := a10) (x := (0 : Int32)) (pc := 161) X rfl d_S_open_161 x_172 h_a10 f11 ?_
      obtain ⟨G12, e_G12⟩ : ∃ g, g = si G9 25 a10 (0 : Int32) := ⟨_, rfl⟩
      have hwp := hwp G12 e_G12
      refine kW.g e_G12.symm ?_
      refine kw_aload_n (pc := 164) X d_S_open_164 rfl 0 rfl ?_
      refine kw_aload_n (pc := 165) X d_S_open_165 rfl 0 rfl ?_
      refine kg_66 (a := a0) (pc := 166) X d_S_open_166 x_367 rfl f6 ?_
      obtain ⟨a13, h_a13, hwp⟩ := hwp
      obtain ⟨f14, hwp⟩ := hwp
      refine kg_37 (a := a13) (pc := 169) X d_S_open_169 x_232 h_a13 f14 ?_
      refine kcV_v (n := 1) (As := [.int (gi G12 37 a13)]) (rest := []) (pc := 172) X rfl (c_S_carryOut l t G12 a0 (gi G12 37 a13) _) (cwV_of (C := "TreeServer") X x_456 x_453 x_455 xp_5 x_1 (by decide +kernel) ⟨rfl, rfl⟩ (by decide)) (rv_9 X f6) rfl rfl (by decide) d_S_open_172 hwp (fun G15 hwp => ?_)
      exact kW.sub [0, 3] rfl (k_S_open_175 X hret  _ _ hwp)
set_option maxRecDepth 100000 in
set_option maxHeartbeats 4000000 in
theorem k_S_open_93 {p : Program} {l : Launch} {e : Env} {s : State} {m : MethodId} {args : Array Value} {below : List Frame} {meth : Method} {c : Code} {t : TY} {a0 : Nat} {K : GS → Option Nat → Prop} (X : kX p s m args meth c b_S_open 4 "TreeServer" t) (hret : meth.sig.returnType = some (.object "java/lang/String")) (p1 : Nat) (l2 : Int32) (l3 : Option Nat) (G : GS) (hwp : w_S_open_93 t a0 K p1 l2 l3 G) : kW p l e rm_S_open s m args below meth c (MQ below (va_Qq (fun r (u : GS) => K u r) (fun u T => HB t u T.heap) (tA t)) args s 0 0 (tA t)) 4 t false 93 [(0, va_rf (some a0)), (1, va_rf (some p1)), (2, .int l2), (3, va_rf l3)] [] G := by
  unfold w_S_open_93 at hwp
  refine kw_aload_n (pc := 93) X d_S_open_93 rfl 3 rfl ?_
  refine kw_ldcw (v := 536870912) (pc := 94) X d_S_open_94 x_746 ?_
  obtain ⟨a1, h_a1, hwp⟩ := hwp
  obtain ⟨f2, hwp⟩ := hwp
  refine kW.st (st' := [.int (536870912 : Int32), .ref a1]) (by simp only [h_a1]; rfl) ?_
  refine kcVp_i (n := 1) (As := [.int (536870912 : Int32)]) (rest := []) (pc := 97) X (c_Node_has l t G a1 (536870912 : Int32) _) (cwV_of (C := "TreeServer$Node") X x_750 x_747 x_748 x_749 x_3 (by decide +kernel) ⟨rfl, rfl⟩ (by decide)) (rv_1 X f2) rfl rfl (by decide) d_S_open_97 hwp (fun v3 hwp => ?_)
  obtain ⟨b_v3, hwp⟩ := hwp
  refine kw_if_eq (tgt := 115) (pc := 100) X d_S_open_100 (by decide) (fun h => ?_) (fun h => ?_)
  · have hwp := ite_t h hwp
    exact kW.sub [0, 1, 2, 3] rfl (k_S_open_115 X hret  _ _ _ _ hwp)
  · have hwp := ite_f h hwp
    refine kw_aload_n (pc := 103) X d_S_open_103 rfl 0 rfl ?_
    refine kw_aload_n (pc := 104) X d_S_open_104 rfl 3 rfl ?_
    obtain ⟨f4, hwp⟩ := hwp
    refine kW.st (st' := [.ref a1, .ref a0]) (by simp only [h_a1]; rfl) ?_
    refine kcVp_i (n := 1) (As := [.ref a1]) (rest := []) (pc := 105) X (c_S_isOpenSomewhere l t G a0 a1 _) (cwV_of (C := "TreeServer") X x_754 x_751 x_753 xp_21 x_1 (by decide +kernel) ⟨rfl, rfl⟩ (by decide)) (rv_9 X f4) rfl rfl (by decide) d_S_open_105 hwp (fun v5 hwp => ?_)
    obtain ⟨b_v5, hwp⟩ := hwp
    refine kw_if_eq (tgt := 115) (pc := 108) X d_S_open_108 (by decide) (fun h => ?_) (fun h => ?_)
    · have hwp := ite_t h hwp
      exact kW.sub [0, 1, 2, 3] rfl (k_S_open_115 X hret  _ _ _ _ hwp)
    · have hwp := ite_f h hwp
      refine kw_ldcwS (j := 20) (pc := 111) X d_S_open_111 (by decide) rfl ?_
      exact kr_q (pc := 114) X hret d_S_open_114 (Or.inl ⟨_, rfl⟩) hwp
set_option maxRecDepth 100000 in
set_option maxHeartbeats 4000000 in
theorem k_S_open_55 {p : Program} {l : Launch} {e : Env} {s : State} {m : MethodId} {args : Array Value} {below : List Frame} {meth : Method} {c : Code} {t : TY} {a0 : Nat} {K : GS → Option Nat → Prop} (X : kX p s m args meth c b_S_open 4 "TreeServer" t) (hret : meth.sig.returnType = some (.object "java/lang/String")) (p1 : Nat) (l2 : Int32) (l3 : Option Nat) (G : GS) (hwp : w_S_open_55 t a0 K p1 l2 l3 G) : kW p l e rm_S_open s m args below meth c (MQ below (va_Qq (fun r (u : GS) => K u r) (fun u T => HB t u T.heap) (tA t)) args s 0 0 (tA t)) 4 t false 55 [(0, va_rf (some a0)), (1, va_rf (some p1)), (2, .int l2), (3, va_rf l3)] [] G := by
  unfold w_S_open_55 at hwp
  refine kw_aload_n (pc := 55) X d_S_open_55 rfl 3 rfl ?_
  refine kw_aload_n (pc := 56) X d_S_open_56 rfl 1 rfl ?_
  obtain ⟨f1, hwp⟩ := hwp
  refine kg_50 (a := p1) (pc := 57) X d_S_open_57 x_303 rfl f1 ?_
  refine kw_iload_n (pc := 60) X d_S_open_60 rfl 2 rfl ?_
  obtain ⟨a2, h_a2, hwp⟩ := hwp
  refine kW.st (st' := [.int l2, va_rf (gr G 50 p1), .ref a2]) (by simp only [h_a2]; rfl) ?_
  refine kcSp_i (n := 3) (As := [.ref a2, va_rf (gr G 50 p1), .int l2]) (rest := []) (pc := 61) X (c_S_letsOpen l t G a2 (gr G 50 p1) l2 _) (cwS_of X x_745 x_743 x_744 x_1 (by decide +kernel) ⟨rfl, rfl⟩ (by decide)) rfl rfl (by decide) d_S_open_61 hwp (fun v3 hwp => ?_)
  obtain ⟨b_v3, hwp⟩ := hwp
  refine kw_if_ne (tgt := 71) (pc := 64) X d_S_open_64 (by decide) (fun h => ?_) (fun h => ?_)
  · have hwp := ite_t h hwp
    refine kw_iload_n (pc := 71) X d_S_open_71 rfl 2 rfl ?_
    refine kw_bipush (v := 64) (pc := 72) X d_S_open_72 (by decide) ?_
    refine kw_iand (pc := 74) X d_S_open_74 ?_
    refine kw_if_eq (tgt := 93) (pc := 75) X d_S_open_75 (by decide) (fun h => ?_) (fun h => ?_)
    · have hwp := ite_t h hwp
      exact kW.sub [0, 1, 2, 3] rfl (k_S_open_93 X hret  _ _ _ _ hwp)
    · have hwp := ite_f h hwp
      refine kw_aload_n (pc := 78) X d_S_open_78 rfl 3 rfl ?_
      refine kw_aload_n (pc := 79) X d_S_open_79 rfl 1 rfl ?_
      refine kg_50 (a := p1) (pc := 80) X d_S_open_80 x_303 rfl f1 ?_
      obtain ⟨f4, hwp⟩ := hwp
      refine kW.st (st' := [va_rf (gr G 50 p1), .ref a2]) (by simp only [h_a2]; rfl) ?_
      refine kcVp_i (n := 1) (As := [va_rf (gr G 50 p1)]) (rest := []) (pc := 83) X (c_Node_letsUnlink l t G a2 (gr G 50 p1) _) (cwV_of (C := "TreeServer$Node") X x_735 x_732 x_733 x_734 x_3 (by decide +kernel) ⟨rfl, rfl⟩ (by decide)) (rv_1 X f4) rfl rfl (by decide) d_S_open_83 hwp (fun v5 hwp => ?_)
      obtain ⟨b_v5, hwp⟩ := hwp
      refine kw_if_ne (tgt := 93) (pc := 86) X d_S_open_86 (by decide) (fun h => ?_) (fun h => ?_)
      · have hwp := ite_t h hwp
        exact kW.sub [0, 1, 2, 3] rfl (k_S_open_93 X hret  _ _ _ _ hwp)
      · have hwp := ite_f (not_not_intro h) hwp
        refine kw_ldcwS (j := 15) (pc := 89) X d_S_open_89 (by decide) rfl ?_
        exact kr_q (pc := 92) X hret d_S_open_92 (Or.inl ⟨_, rfl⟩) hwp
  · have hwp := ite_f (not_not_intro h) hwp
    refine kw_ldcwS (j := 15) (pc := 67) X d_S_open_67 (by decide) rfl ?_
    exact kr_q (pc := 70) X hret d_S_open_70 (Or.inl ⟨_, rfl⟩) hwp
set_option maxRecDepth 100000 in
set_option maxHeartbeats 4000000 in
theorem k_S_open {p : Program} {l : Launch} {e : Env} {s : State} {m : MethodId} {args : Array Value} {below : List Frame} {meth : Method} {c : Code} {t : TY} {a0 : Nat} {K : GS → Option Nat → Prop} (X : kX p s m args meth c b_S_open 4 "TreeServer" t) (hret : meth.sig.returnType = some (.object "java/lang/String")) (G : GS) (p1 : Nat) (hwp : w_S_open t G a0 p1 K) : kW p l e rm_S_open s m args below meth c (MQ below (va_Qq (fun r (u : GS) => K u r) (fun u T => HB t u T.heap) (tA t)) args s 0 0 (tA t)) 4 t false 0 [(0, va_rf (some a0)), (1, va_rf (some p1))] [] G := by
  unfold w_S_open at hwp
  refine kw_aload_n (pc := 0) X d_S_open_0 rfl 0 rfl ?_
  obtain ⟨f1, hwp⟩ := hwp
  refine kg_66 (a := a0) (pc := 1) X d_S_open_1 x_367 rfl f1 ?_
  refine kw_bipush (v := 11) (pc := 4) X d_S_open_4 (by decide) ?_
  refine kw_iconst (v := 1) (pc := 6) X d_S_open_6 (by decide) ?_
  obtain ⟨a2, h_a2, hwp⟩ := hwp
  obtain ⟨f3, hwp⟩ := hwp
  refine kW.st (st' := [.int (1 : Int32), .int (11 : Int32), .ref a2]) (by simp only [h_a2]; rfl) ?_
  refine kcVp_l (n := 2) (As := [.int (11 : Int32), .int (1 : Int32)]) (rest := []) (pc := 7) X (c_Message_number l t G a2 (11 : Int32) (1 : Int32) _) (cwV_of (C := "TreeServer$Message") X x_541 x_578 x_539 x_540 x_9 (by decide +kernel) ⟨rfl, rfl⟩ (by decide)) (rv_5 X f3) rfl rfl (by decide) d_S_open_7 hwp (fun v4 hwp => ?_)
  refine kw_l2i (pc := 10) X d_S_open_10 ?_
  obtain ⟨v5, e_v5⟩ : ∃ z, z = v4.toInt32 := ⟨_, rfl⟩
  have hwp := hwp v5 e_v5
  refine kW.st (st' := .int v5 :: _) (by rw [e_v5]) ?_
  refine kw_istore_n (i := 2) (lv' := [(2, .int v5), (0, va_rf (some a0)), (1, va_rf (some p1))]) (pc := 11) X d_S_open_11 rfl (by decide) rfl ?_
  refine kw_aload_n (pc := 12) X d_S_open_12 rfl 2 rfl ?_
  obtain ⟨f6, hwp⟩ := hwp
  refine kg_48 (a := p1) (pc := 13) X d_S_open_13 x_300 rfl f6 ?_
  refine kw_astore_n (i := 3) (lv' := [(3, va_rf (gr G 48 p1)), (2, .int v5), (0, va_rf (some a0)), (1, va_rf (some p1))]) (pc := 16) X d_S_open_16 rfl (by decide) rfl ?_
  refine kw_aload_n (pc := 17) X d_S_open_17 rfl 3 rfl ?_
  refine kg_51 (a := p1) (pc := 18) X d_S_open_18 x_306 rfl f6 ?_
  refine kw_iconst (v := -1) (pc := 21) X d_S_open_21 (by decide) ?_
  refine kw_icmp_eq (tgt := 29) (pc := 22) X d_S_open_22 (by decide) (fun h => ?_) (fun h => ?_)
  · have hwp := ite_t h hwp
    refine kw_iload_n (pc := 29) X d_S_open_29 rfl 1 rfl ?_
    refine kw_bipush (v := -84) (pc := 30) X d_S_open_30 (by decide) ?_
    refine kw_iand (pc := 32) X d_S_open_32 ?_
    refine kw_if_eq (tgt := 40) (pc := 33) X d_S_open_33 (by decide) (fun h => ?_) (fun h => ?_)
    · have hwp := ite_t h hwp
      refine kw_aload_n (pc := 40) X d_S_open_40 rfl 0 rfl ?_
      obtain ⟨a7, h_a7, hwp⟩ := hwp
      obtain ⟨f8, hwp⟩ := hwp
      refine kW.st (st' := [.ref a7]) (by simp only [h_a7]; rfl) ?_
      refine kcVp_i (n := 0) (As := []) (rest := []) (pc := 41) X (c_Node_isDirectory l t G a7 _) (cwV_of (C := "TreeServer$Node") X x_697 x_694 x_695 x_696 x_3 (by decide +kernel) ⟨rfl, rfl⟩ (by decide)) (rv_1 X f8) rfl rfl (by decide) d_S_open_41 hwp (fun v9 hwp => ?_)
      obtain ⟨b_v9, hwp⟩ := hwp
      refine kw_if_eq (tgt := 55) (pc := 44) X d_S_open_44 (by decide) (fun h => ?_) (fun h => ?_)
      · have hwp := ite_t h hwp
        exact kW.sub [2, 3, 1, 0] rfl (k_S_open_55 X hret  _ _ _ _ hwp)
      · have hwp := ite_f h hwp
        refine kw_iload_n (pc := 47) X d_S_open_47 rfl 1 rfl ?_
        refine kw_if_eq (tgt := 55) (pc := 48) X d_S_open_48 (by decide) (fun h => ?_) (fun h => ?_)
        · have hwp := ite_t h hwp
          exact kW.sub [2, 3, 1, 0] rfl (k_S_open_55 X hret  _ _ _ _ hwp)
        · have hwp := ite_f h hwp
          refine kw_ldcwS (j := 14) (pc := 51) X d_S_open_51 (by decide) rfl ?_
          exact kr_q (pc := 54) X hret d_S_open_54 (Or.inl ⟨_, rfl⟩) hwp
    · have hwp := ite_f h hwp
      refine kw_ldcwS (j := 19) (pc := 36) X d_S_open_36 (by decide) rfl ?_
      exact kr_q (pc := 39) X hret d_S_open_39 (Or.inl ⟨_, rfl⟩) hwp
  · have hwp := ite_f h hwp
    refine kw_ldcwS (j := 13) (pc := 25) X d_S_open_25 (by decide) rfl ?_
    exact kr_q (pc := 28) X hret d_S_open_28 (Or.inl ⟨_, rfl⟩) hwp
set_option maxRecDepth 100000 in
set_option maxHeartbeats 4000000 in
theorem c_S_open (l : Launch) (t : TY) (G : GS) (a0 : Nat) (p1 : Nat) (K : GS → Option Nat → Prop) : Met l y_S_open (Cond.code y_S_open b_S_open 4 (Option.some (Jvm.ClassFile.FieldType.object "java/lang/String")) :: GW) rm_S_open (va_Pc [.ref a0, .ref p1] (fun U => HB t G U.heap ∧ HK t U ∧ w_S_open t G a0 p1 K)) (va_Qq (fun r (u : GS) => K u r) (fun u T => HB t u T.heap) (tA t)) 0 0 (tA t) := by
  refine Met.ofW (cc := b_S_open) (maxL := 4) (ret := some (.object "java/lang/String")) (by decide) rfl ?_
  intro p e s m args below meth c s₁ B hml hv
  obtain ⟨rfl, hB, hK, hwp⟩ := hv
  have hts := atoms_spec (ws := Cond.code y_S_open b_S_open 4 (Option.some (Jvm.ClassFile.FieldType.object "java/lang/String")) :: GW) B.pre
  have X : kX p s m _ meth c b_S_open 4 "TreeServer" t := ⟨B.exec, B.bytes, hml, findClass_of_methodNamed B.named, fun w h => hts w (List.mem_cons_of_mem _ h), B.notSynchronized, hK⟩
  have hZ : kZ t false s G s.heap [] := ⟨hB, va_S.rf, fun _ => ⟨rfl, rfl⟩⟩
  rw [lg_entry_eq]
  have hl := lv_entry ([.ref a0, .ref p1]) (n := 4) (by simp [lg_sl, rf_cat, cat_i, cat_l, cat_r])
  exact k_S_open X B.returns _ _ hwp s.heap [] _ hl hZ
abbrev b_Message_nameFits : ByteArray := prog_8_method_12_code
def y_Message_nameFits : MethodName := ⟨"TreeServer$Message", "nameFits", "(I)Z"⟩
theorem d_Message_nameFits_0 : decode b_Message_nameFits 0 = .ok (.aload_n 0, 1) := by decide +kernel
theorem d_Message_nameFits_1 : decode b_Message_nameFits 1 = .ok (.getfield 19, 3) := by decide +kernel
theorem d_Message_nameFits_4 : decode b_Message_nameFits 4 = .ok (.iload_n 1, 1) := by decide +kernel
theorem d_Message_nameFits_5 : decode b_Message_nameFits 5 = .ok (.iaload, 1) := by decide +kernel
theorem d_Message_nameFits_6 : decode b_Message_nameFits 6 = .ok (.istore_n 2, 1) := by decide +kernel
theorem d_Message_nameFits_7 : decode b_Message_nameFits 7 = .ok (.iload_n 2, 1) := by decide +kernel
theorem d_Message_nameFits_8 : decode b_Message_nameFits 8 = .ok (.iconst 1, 1) := by decide +kernel
theorem d_Message_nameFits_9 : decode b_Message_nameFits 9 = .ok (.if_icmp .lt 9, 3) := by decide +kernel
theorem d_Message_nameFits_12 : decode b_Message_nameFits 12 = .ok (.iload_n 2, 1) := by decide +kernel
theorem d_Message_nameFits_13 : decode b_Message_nameFits 13 = .ok (.bipush 8, 2) := by decide +kernel
theorem d_Message_nameFits_15 : decode b_Message_nameFits 15 = .ok (.if_icmp .le 5, 3) := by decide +kernel
theorem d_Message_nameFits_18 : decode b_Message_nameFits 18 = .ok (.iconst 0, 1) := by decide +kernel
theorem d_Message_nameFits_19 : decode b_Message_nameFits 19 = .ok (.ireturn, 1) := by decide +kernel
theorem d_Message_nameFits_20 : decode b_Message_nameFits 20 = .ok (.iconst 0, 1) := by decide +kernel
theorem d_Message_nameFits_21 : decode b_Message_nameFits 21 = .ok (.istore_n 3, 1) := by decide +kernel
theorem d_Message_nameFits_22 : decode b_Message_nameFits 22 = .ok (.iconst 0, 1) := by decide +kernel
theorem d_Message_nameFits_23 : decode b_Message_nameFits 23 = .ok (.istore 4, 2) := by decide +kernel
theorem d_Message_nameFits_25 : decode b_Message_nameFits 25 = .ok (.iload 4, 2) := by decide +kernel
theorem d_Message_nameFits_27 : decode b_Message_nameFits 27 = .ok (.iload_n 2, 1) := by decide +kernel
theorem d_Message_nameFits_28 : decode b_Message_nameFits 28 = .ok (.if_icmp .ge 71, 3) := by decide +kernel
theorem d_Message_nameFits_31 : decode b_Message_nameFits 31 = .ok (.aload_n 0, 1) := by decide +kernel
theorem d_Message_nameFits_32 : decode b_Message_nameFits 32 = .ok (.aload_n 0, 1) := by decide +kernel
theorem d_Message_nameFits_33 : decode b_Message_nameFits 33 = .ok (.getfield 15, 3) := by decide +kernel
theorem d_Message_nameFits_36 : decode b_Message_nameFits 36 = .ok (.iload_n 1, 1) := by decide +kernel
theorem d_Message_nameFits_37 : decode b_Message_nameFits 37 = .ok (.iaload, 1) := by decide +kernel
theorem d_Message_nameFits_38 : decode b_Message_nameFits 38 = .ok (.iload 4, 2) := by decide +kernel
theorem d_Message_nameFits_40 : decode b_Message_nameFits 40 = .ok (.iadd, 1) := by decide +kernel
theorem d_Message_nameFits_41 : decode b_Message_nameFits 41 = .ok (.iconst 1, 1) := by decide +kernel
theorem d_Message_nameFits_42 : decode b_Message_nameFits 42 = .ok (.invokevirtual 53, 3) := by decide +kernel
theorem d_Message_nameFits_45 : decode b_Message_nameFits 45 = .ok (.lstore 5, 2) := by decide +kernel
theorem d_Message_nameFits_47 : decode b_Message_nameFits 47 = .ok (.lload 5, 2) := by decide +kernel
theorem d_Message_nameFits_49 : decode b_Message_nameFits 49 = .ok (.ldc2_w 107, 3) := by decide +kernel
theorem d_Message_nameFits_52 : decode b_Message_nameFits 52 = .ok (.lcmp, 1) := by decide +kernel
theorem d_Message_nameFits_53 : decode b_Message_nameFits 53 = .ok (.ifCond .lt 21, 3) := by decide +kernel
theorem d_Message_nameFits_56 : decode b_Message_nameFits 56 = .ok (.lload 5, 2) := by decide +kernel
theorem d_Message_nameFits_58 : decode b_Message_nameFits 58 = .ok (.ldc2_w 109, 3) := by decide +kernel
theorem d_Message_nameFits_61 : decode b_Message_nameFits 61 = .ok (.lcmp, 1) := by decide +kernel
theorem d_Message_nameFits_62 : decode b_Message_nameFits 62 = .ok (.ifCond .gt 12, 3) := by decide +kernel
theorem d_Message_nameFits_65 : decode b_Message_nameFits 65 = .ok (.lload 5, 2) := by decide +kernel
theorem d_Message_nameFits_67 : decode b_Message_nameFits 67 = .ok (.ldc2_w 111, 3) := by decide +kernel
theorem d_Message_nameFits_70 : decode b_Message_nameFits 70 = .ok (.lcmp, 1) := by decide +kernel
theorem d_Message_nameFits_71 : decode b_Message_nameFits 71 = .ok (.ifCond .ne 5, 3) := by decide +kernel
theorem d_Message_nameFits_74 : decode b_Message_nameFits 74 = .ok (.iconst 0, 1) := by decide +kernel
theorem d_Message_nameFits_75 : decode b_Message_nameFits 75 = .ok (.ireturn, 1) := by decide +kernel
theorem d_Message_nameFits_76 : decode b_Message_nameFits 76 = .ok (.iload_n 3, 1) := by decide +kernel
theorem d_Message_nameFits_77 : decode b_Message_nameFits 77 = .ok (.lload 5, 2) := by decide +kernel
theorem d_Message_nameFits_79 : decode b_Message_nameFits 79 = .ok (.ldc2_w 113, 3) := by decide +kernel
theorem d_Message_nameFits_82 : decode b_Message_nameFits 82 = .ok (.lcmp, 1) := by decide +kernel
theorem d_Message_nameFits_83 : decode b_Message_nameFits 83 = .ok (.ifCond .ne 7, 3) := by decide +kernel
theorem d_Message_nameFits_86 : decode b_Message_nameFits 86 = .ok (.iconst 1, 1) := by decide +kernel
theorem d_Message_nameFits_87 : decode b_Message_nameFits 87 = .ok (.goto 4, 3) := by decide +kernel
theorem d_Message_nameFits_90 : decode b_Message_nameFits 90 = .ok (.iconst 0, 1) := by decide +kernel
theorem d_Message_nameFits_91 : decode b_Message_nameFits 91 = .ok (.iadd, 1) := by decide +kernel
theorem d_Message_nameFits_92 : decode b_Message_nameFits 92 = .ok (.istore_n 3, 1) := by decide +kernel
theorem d_Message_nameFits_93 : decode b_Message_nameFits 93 = .ok (.iinc 4 1, 3) := by decide +kernel
theorem d_Message_nameFits_96 : decode b_Message_nameFits 96 = .ok (.goto (-71), 3) := by decide +kernel
theorem d_Message_nameFits_99 : decode b_Message_nameFits 99 = .ok (.iload_n 2, 1) := by decide +kernel
theorem d_Message_nameFits_100 : decode b_Message_nameFits 100 = .ok (.iconst 2, 1) := by decide +kernel
theorem d_Message_nameFits_101 : decode b_Message_nameFits 101 = .ok (.if_icmp .gt 8, 3) := by decide +kernel
theorem d_Message_nameFits_104 : decode b_Message_nameFits 104 = .ok (.iload_n 3, 1) := by decide +kernel
theorem d_Message_nameFits_105 : decode b_Message_nameFits 105 = .ok (.iload_n 2, 1) := by decide +kernel
theorem d_Message_nameFits_106 : decode b_Message_nameFits 106 = .ok (.if_icmp .ge 7, 3) := by decide +kernel
theorem d_Message_nameFits_109 : decode b_Message_nameFits 109 = .ok (.iconst 1, 1) := by decide +kernel
theorem d_Message_nameFits_110 : decode b_Message_nameFits 110 = .ok (.goto 4, 3) := by decide +kernel
theorem d_Message_nameFits_113 : decode b_Message_nameFits 113 = .ok (.iconst 0, 1) := by decide +kernel
theorem d_Message_nameFits_114 : decode b_Message_nameFits 114 = .ok (.ireturn, 1) := by decide +kernel
abbrev rm_Message_nameFits : Room := { frames := 1, cells := 0, slots := 0, locals := 26 }
set_option maxRecDepth 100000 in
set_option maxHeartbeats 4000000 in
theorem k_Message_nameFits_91 {p : Program} {l : Launch} {e : Env} {s : State} {m : MethodId} {args : Array Value} {below : List Frame} {meth : Method} {c : Code} {t : TY} {a0 : Nat} {G : GS} {K : Int32 → Prop} {r25 : Int32 → Int32 → Int32 → Int32 → Prop} (X : kX p s m args meth c b_Message_nameFits 7 "TreeServer$Message" t) (hret : meth.sig.returnType = some .boolean) (hr_25 : ∀ (l1 : Int32) (l2 : Int32) (l3 : Int32) (l4 : Int32), r25 l1 l2 l3 l4 → kW p l e rm_Message_nameFits s m args below meth c (MQ below (vp_Si (fun r => isB r ∧ K r)) args s 0 0 (fun _ => False)) 7 t true 25 [(0, va_rf (some a0)), (1, .int l1), (2, .int l2), (3, .int l3), (4, .int l4)] [] G) (l1 : Int32) (l2 : Int32) (l4 : Int32) (s0 : Int32) (s1 : Int32) (hwp : w_Message_nameFits_91 t G a0 K r25 l1 l2 l4 s0 s1) : kW p l e rm_Message_nameFits s m args below meth c (MQ below (vp_Si (fun r => isB r ∧ K r)) args s 0 0 (fun _ => False)) 7 t true 91 [(0, va_rf (some a0)), (1, .int l1), (2, .int l2), (4, .int l4)] [.int s1, .int s0] G := by
  unfold w_Message_nameFits_91 at hwp
  refine kw_iadd (pc := 91) X d_Message_nameFits_91 ?_
  obtain ⟨v1, e_v1⟩ : ∃ z, z = (s0 + s1) := ⟨_, rfl⟩
  have hwp := hwp v1 e_v1
  refine kW.st (st' := .int v1 :: _) (by rw [e_v1]) ?_
  refine kw_istore_n (i := 3) (lv' := [(3, .int v1), (0, va_rf (some a0)), (1, .int l1), (2, .int l2), (4, .int l4)]) (pc := 92) X d_Message_nameFits_92 rfl (by decide) rfl ?_
  obtain ⟨v2, e_v2⟩ : ∃ z, z = (l4 + (1 : Int32)) := ⟨_, rfl⟩
  have hwp := hwp v2 e_v2
  refine kw_iinc (v := v2) (lv' := [(4, .int v2), (3, .int v1), (0, va_rf (some a0)), (1, .int l1), (2, .int l2)]) (pc := 93) X d_Message_nameFits_93 4 rfl (by rw [e_v2]; rfl) (by decide) rfl ?_
  refine kw_goto (tgt := 25) (pc := 96) X d_Message_nameFits_96 (by decide) ?_
  exact kW.sub [2, 3, 4, 1, 0] rfl (hr_25 _ _ _ _ hwp)
set_option maxRecDepth 100000 in
set_option maxHeartbeats 4000000 in
theorem k_Message_nameFits_25 {p : Program} {l : Launch} {e : Env} {s : State} {m : MethodId} {args : Array Value} {below : List Frame} {meth : Method} {c : Code} {t : TY} {a0 : Nat} {G : GS} {K : Int32 → Prop} (X : kX p s m args meth c b_Message_nameFits 7 "TreeServer$Message" t) (hret : meth.sig.returnType = some .boolean) : ∀ (n : Nat) (l1 : Int32) (l2 : Int32) (l3 : Int32) (l4 : Int32), w_Message_nameFits_25 t G a0 K n l1 l2 l3 l4 → kW p l e rm_Message_nameFits s m args below meth c (MQ below (vp_Si (fun r => isB r ∧ K r)) args s 0 0 (fun _ => False)) 7 t true 25 [(0, va_rf (some a0)), (1, .int l1), (2, .int l2), (3, .int l3), (4, .int l4)] [] G := by
  intro n
  induction n with
  | zero => intro l1 l2 l3 l4 hwp; exact hwp.elim
  | succ n hr_25 =>
    intro l1 l2 l3 l4 hwp
    unfold w_Message_nameFits_25 at hwp
    dsimp only at hwp
    refine kw_iload (pc := 25) X d_Message_nameFits_25 4 rfl ?_
    refine kw_iload_n (pc := 27) X d_Message_nameFits_27 rfl 2 rfl ?_
    refine kw_icmp_ge (tgt := 99) (pc := 28) X d_Message_nameFits_28 (by decide) (fun h => ?_) (fun h => ?_)
    · have hwp := ite_t h hwp
      refine kw_iload_n (pc := 99) X d_Message_nameFits_99 rfl 2 rfl ?_
      refine kw_iconst (v := 2) (pc := 100) X d_Message_nameFits_100 (by decide) ?_
      refine kw_icmp_gt (tgt := 109) (pc := 101) X d_Message_nameFits_101 (by decide) (fun h => ?_) (fun h => ?_)
      · have hwp := ite_t h hwp
        refine kw_iconst (v := 1) (pc := 109) X d_Message_nameFits_109 (by decide) ?_
        refine kw_goto (tgt := 114) (pc := 110) X d_Message_nameFits_110 (by decide) ?_
        exact krp_z (pc := 114) X hret d_Message_nameFits_114 (Or.inr rfl) hwp
      · have hwp := ite_f h hwp
        refine kw_iload_n (pc := 104) X d_Message_nameFits_104 rfl 3 rfl ?_
        refine kw_iload_n (pc := 105) X d_Message_nameFits_105 rfl 2 rfl ?_
        refine kw_icmp_ge (tgt := 113) (pc := 106) X d_Message_nameFits_106 (by decide) (fun h => ?_) (fun h => ?_)
        · have hwp := ite_t h hwp
          refine kw_iconst (v := 0) (pc := 113) X d_Message_nameFits_113 (by decide) ?_
          exact krp_z (pc := 114) X hret d_Message_nameFits_114 (Or.inl rfl) hwp
        · have hwp := ite_f h hwp
          refine kw_iconst (v := 1) (pc := 109) X d_Message_nameFits_109 (by decide) ?_
          refine kw_goto (tgt := 114) (pc := 110) X d_Message_nameFits_110 (by decide) ?_
          exact krp_z (pc := 114) X hret d_Message_nameFits_114 (Or.inr rfl) hwp
    · have hwp := ite_f h hwp
      refine kw_aload_n (pc := 31) X d_Message_nameFits_31 rfl 0 rfl ?_
      refine kw_aload_n (pc := 32) X d_Message_nameFits_32 rfl 0 rfl ?_
      obtain ⟨f1, hwp⟩ := hwp
      refine kg_40 (a := a0) (pc := 33) X d_Message_nameFits_33 x_237 rfl f1 ?_
      refine kw_iload_n (pc := 36) X d_Message_nameFits_36 rfl 1 rfl ?_
      obtain ⟨a2, h_a2, hwp⟩ := hwp
      obtain ⟨f3, hwp⟩ := hwp
      obtain ⟨f4, hwp⟩ := hwp
      refine ka_iald (a := a2) (pc := 37) X d_Message_nameFits_37 h_a2 f3 f4 ?_
      refine kw_iload (pc := 38) X d_Message_nameFits_38 4 rfl ?_
      refine kw_iadd (pc := 40) X d_Message_nameFits_40 ?_
      refine kw_iconst (v := 1) (pc := 41) X d_Message_nameFits_41 (by decide) ?_
      refine kcVp_l (n := 2) (As := [.int ((ai G a2 l1.toNatClampNeg) + l4), .int (1 : Int32)]) (rest := []) (pc := 42) X (c_Message_number l t G a0 ((ai G a2 l1.toNatClampNeg) + l4) (1 : Int32) _) (cwV_of (C := "TreeServer$Message") X x_541 x_538 x_539 x_540 x_9 (by decide +kernel) ⟨rfl, rfl⟩ (by decide)) (rv_5 X f1) rfl rfl (by decide) d_Message_nameFits_42 hwp (fun v5 hwp => ?_)
      refine kw_lstore (i := 5) (lv' := [(5, .long v5), (0, va_rf (some a0)), (1, .int l1), (2, .int l2), (3, .int l3), (4, .int l4)]) (pc := 45) X d_Message_nameFits_45 (by decide) rfl ?_
      refine kw_lload (pc := 47) X d_Message_nameFits_47 0 rfl ?_
      refine kw_ldc2 (v := 33) (pc := 49) X d_Message_nameFits_49 x_775 ?_
      refine kw_lcmp_lt (tgt := 74) (pc := 52) X d_Message_nameFits_52 d_Message_nameFits_53 (by decide) (fun h => ?_) (fun h => ?_)
      · have hwp := ite_t h hwp
        refine kw_iconst (v := 0) (pc := 74) X d_Message_nameFits_74 (by decide) ?_
        exact krp_z (pc := 75) X hret d_Message_nameFits_75 (Or.inl rfl) hwp
      · have hwp := ite_f h hwp
        refine kw_lload (pc := 56) X d_Message_nameFits_56 0 rfl ?_
        refine kw_ldc2 (v := 126) (pc := 58) X d_Message_nameFits_58 x_776 ?_
        refine kw_lcmp_gt (tgt := 74) (pc := 61) X d_Message_nameFits_61 d_Message_nameFits_62 (by decide) (fun h => ?_) (fun h => ?_)
        · have hwp := ite_t h hwp
          refine kw_iconst (v := 0) (pc := 74) X d_Message_nameFits_74 (by decide) ?_
          exact krp_z (pc := 75) X hret d_Message_nameFits_75 (Or.inl rfl) hwp
        · have hwp := ite_f h hwp
          refine kw_lload (pc := 65) X d_Message_nameFits_65 0 rfl ?_
          refine kw_ldc2 (v := 47) (pc := 67) X d_Message_nameFits_67 x_777 ?_
          refine kw_lcmp_ne (tgt := 76) (pc := 70) X d_Message_nameFits_70 d_Message_nameFits_71 (by decide) (fun h => ?_) (fun h => ?_)
          · have hwp := ite_t h hwp
            refine kw_iload_n (pc := 76) X d_Message_nameFits_76 rfl 4 rfl ?_
            refine kw_lload (pc := 77) X d_Message_nameFits_77 0 rfl ?_
            refine kw_ldc2 (v := 46) (pc := 79) X d_Message_nameFits_79 x_778 ?_
            refine kw_lcmp_ne (tgt := 90) (pc := 82) X d_Message_nameFits_82 d_Message_nameFits_83 (by decide) (fun h => ?_) (fun h => ?_)
            · have hwp := ite_t h hwp
              refine kw_iconst (v := 0) (pc := 90) X d_Message_nameFits_90 (by decide) ?_
              exact kW.sub [1, 2, 3, 5] rfl (k_Message_nameFits_91 X hret hr_25 _ _ _ _ _ hwp)
            · have hwp := ite_f (not_not_intro h) hwp
              refine kw_iconst (v := 1) (pc := 86) X d_Message_nameFits_86 (by decide) ?_
              refine kw_goto (tgt := 91) (pc := 87) X d_Message_nameFits_87 (by decide) ?_
              exact kW.sub [1, 2, 3, 5] rfl (k_Message_nameFits_91 X hret hr_25 _ _ _ _ _ hwp)
          · have hwp := ite_f (not_not_intro h) hwp
            refine kw_iconst (v := 0) (pc := 74) X d_Message_nameFits_74 (by decide) ?_
            exact krp_z (pc := 75) X hret d_Message_nameFits_75 (Or.inl rfl) hwp
set_option maxRecDepth 100000 in
set_option maxHeartbeats 4000000 in
theorem k_Message_nameFits {p : Program} {l : Launch} {e : Env} {s : State} {m : MethodId} {args : Array Value} {below : List Frame} {meth : Method} {c : Code} {t : TY} {a0 : Nat} {G : GS} {K : Int32 → Prop} (X : kX p s m args meth c b_Message_nameFits 7 "TreeServer$Message" t) (hret : meth.sig.returnType = some .boolean) (p1 : Int32) (hwp : w_Message_nameFits t G a0 p1 K) : kW p l e rm_Message_nameFits s m args below meth c (MQ below (vp_Si (fun r => isB r ∧ K r)) args s 0 0 (fun _ => False)) 7 t true 0 [(0, va_rf (some a0)), (1, .int p1)] [] G := by
  unfold w_Message_nameFits at hwp
  refine kw_aload_n (pc := 0) X d_Message_nameFits_0 rfl 0 rfl ?_
  obtain ⟨f1, hwp⟩ := hwp
  refine kg_41 (a := a0) (pc := 1) X d_Message_nameFits_1 x_238 rfl f1 ?_
  refine kw_iload_n (pc := 4) X d_Message_nameFits_4 rfl 1 rfl ?_
  obtain ⟨a2, h_a2, hwp⟩ := hwp
  obtain ⟨f3, hwp⟩ := hwp
  obtain ⟨f4, hwp⟩ := hwp
  refine ka_iald (a := a2) (pc := 5) X d_Message_nameFits_5 h_a2 f3 f4 ?_
  obtain ⟨v5, e_v5⟩ : ∃ z, z = (ai G a2 p1.toNatClampNeg) := ⟨_, rfl⟩
  have hwp := hwp v5 e_v5
  refine kW.st (st' := .int v5 :: _) (by rw [e_v5]) ?_
  refine kw_istore_n (i := 2) (lv' := [(2, .int v5), (0, va_rf (some a0)), (1, .int p1)]) (pc := 6) X d_Message_nameFits_6 rfl (by decide) rfl ?_
  refine kw_iload_n (pc := 7) X d_Message_nameFits_7 rfl 0 rfl ?_
  refine kw_iconst (v := 1) (pc := 8) X d_Message_nameFits_8 (by decide) ?_
  refine kw_icmp_lt (tgt := 18) (pc := 9) X d_Message_nameFits_9 (by decide) (fun h => ?_) (fun h => ?_)
  · have hwp := ite_t h hwp
    refine kw_iconst (v := 0) (pc := 18) X d_Message_nameFits_18 (by decide) ?_
    exact krp_z (pc := 19) X hret d_Message_nameFits_19 (Or.inl rfl) hwp
  · have hwp := ite_f h hwp
    refine kw_iload_n (pc := 12) X d_Message_nameFits_12 rfl 0 rfl ?_
    refine kw_bipush (v := 8) (pc := 13) X d_Message_nameFits_13 (by decide) ?_
    refine kw_icmp_le (tgt := 20) (pc := 15) X d_Message_nameFits_15 (by decide) (fun h => ?_) (fun h => ?_)
    · have hwp := ite_t h hwp
      refine kw_iconst (v := 0) (pc := 20) X d_Message_nameFits_20 (by decide) ?_
      refine kw_istore_n (i := 3) (lv' := [(3, .int (0 : Int32)), (2, .int v5), (0, va_rf (some a0)), (1, .int p1)]) (pc := 21) X d_Message_nameFits_21 rfl (by decide) rfl ?_
      refine kw_iconst (v := 0) (pc := 22) X d_Message_nameFits_22 (by decide) ?_
      refine kw_istore (i := 4) (lv' := [(4, .int (0 : Int32)), (3, .int (0 : Int32)), (2, .int v5), (0, va_rf (some a0)), (1, .int p1)]) (pc := 23) X d_Message_nameFits_23 (by decide) rfl ?_
      obtain ⟨n, hwp⟩ := hwp
      exact kW.sub [3, 4, 2, 1, 0] rfl (k_Message_nameFits_25 X hret  n _ _ _ _ hwp)
    · have hwp := ite_f h hwp
      refine kw_iconst (v := 0) (pc := 18) X d_Message_nameFits_18 (by decide) ?_
      exact krp_z (pc := 19) X hret d_Message_nameFits_19 (Or.inl rfl) hwp
set_option maxRecDepth 100000 in
set_option maxHeartbeats 4000000 in
theorem c_Message_nameFits (l : Launch) (t : TY) (G : GS) (a0 : Nat) (p1 : Int32) (K : Int32 → Prop) : Met l y_Message_nameFits (Cond.code y_Message_nameFits b_Message_nameFits 7 (Option.some Jvm.ClassFile.FieldType.boolean) :: GW) rm_Message_nameFits (va_Pc [.ref a0, .int p1] (fun U => HB t G U.heap ∧ HK t U ∧ w_Message_nameFits t G a0 p1 K)) (vp_Si (fun r => isB r ∧ K r)) 0 0 (fun _ => False) := by
  refine Met.ofW (cc := b_Message_nameFits) (maxL := 7) (ret := some .boolean) (by decide) rfl ?_
  intro p e s m args below meth c s₁ B hml hv
  obtain ⟨rfl, hB, hK, hwp⟩ := hv
  have hts := atoms_spec (ws := Cond.code y_Message_nameFits b_Message_nameFits 7 (Option.some Jvm.ClassFile.FieldType.boolean) :: GW) B.pre
  have X : kX p s m _ meth c b_Message_nameFits 7 "TreeServer$Message" t := ⟨B.exec, B.bytes, hml, findClass_of_methodNamed B.named, fun w h => hts w (List.mem_cons_of_mem _ h), B.notSynchronized, hK⟩
  have hZ : kZ t true s G s.heap [] := ⟨hB, va_S.rf, fun _ => ⟨rfl, rfl⟩⟩
  rw [lg_entry_eq]
  have hl := lv_entry ([.ref a0, .int p1]) (n := 7) (by simp [lg_sl, rf_cat, cat_i, cat_l, cat_r])
  exact k_Message_nameFits X B.returns _ hwp s.heap [] _ hl hZ
abbrev b_Node_blocks : ByteArray := prog_9_method_6_code
def y_Node_blocks : MethodName := ⟨"TreeServer$Node", "blocks", "()I"⟩
theorem d_Node_blocks_0 : decode b_Node_blocks 0 = .ok (.aload_n 0, 1) := by decide +kernel
theorem d_Node_blocks_1 : decode b_Node_blocks 1 = .ok (.getfield 37, 3) := by decide +kernel
theorem d_Node_blocks_4 : decode b_Node_blocks 4 = .ok (.ldc 40, 2) := by decide +kernel
theorem d_Node_blocks_6 : decode b_Node_blocks 6 = .ok (.iand, 1) := by decide +kernel
theorem d_Node_blocks_7 : decode b_Node_blocks 7 = .ok (.ifCond .eq 14, 3) := by decide +kernel
theorem d_Node_blocks_10 : decode b_Node_blocks 10 = .ok (.aload_n 0, 1) := by decide +kernel
theorem d_Node_blocks_11 : decode b_Node_blocks 11 = .ok (.getfield 53, 3) := by decide +kernel
theorem d_Node_blocks_14 : decode b_Node_blocks 14 = .ok (.iconst 3, 1) := by decide +kernel
theorem d_Node_blocks_15 : decode b_Node_blocks 15 = .ok (.iadd, 1) := by decide +kernel
theorem d_Node_blocks_16 : decode b_Node_blocks 16 = .ok (.iconst 4, 1) := by decide +kernel
theorem d_Node_blocks_17 : decode b_Node_blocks 17 = .ok (.idiv, 1) := by decide +kernel
theorem d_Node_blocks_18 : decode b_Node_blocks 18 = .ok (.goto 13, 3) := by decide +kernel
theorem d_Node_blocks_21 : decode b_Node_blocks 21 = .ok (.aload_n 0, 1) := by decide +kernel
theorem d_Node_blocks_22 : decode b_Node_blocks 22 = .ok (.getfield 56, 3) := by decide +kernel
theorem d_Node_blocks_25 : decode b_Node_blocks 25 = .ok (.bipush 15, 2) := by decide +kernel
theorem d_Node_blocks_27 : decode b_Node_blocks 27 = .ok (.iadd, 1) := by decide +kernel
theorem d_Node_blocks_28 : decode b_Node_blocks 28 = .ok (.bipush 16, 2) := by decide +kernel
theorem d_Node_blocks_30 : decode b_Node_blocks 30 = .ok (.idiv, 1) := by decide +kernel
theorem d_Node_blocks_31 : decode b_Node_blocks 31 = .ok (.ireturn, 1) := by decide +kernel
abbrev rm_Node_blocks : Room := { frames := 0, cells := 0, slots := 0, locals := 0 }
set_option maxRecDepth 100000 in
set_option maxHeartbeats 4000000 in
theorem k_Node_blocks {p : Program} {l : Launch} {e : Env} {s : State} {m : MethodId} {args : Array Value} {below : List Frame} {meth : Method} {c : Code} {t : TY} {a0 : Nat} {G : GS} {K : Int32 → Prop} (X : kX p s m args meth c b_Node_blocks 1 "TreeServer$Node" t) (hret : meth.sig.returnType = some .int)  (hwp : w_Node_blocks t G a0 K) : kW p l e rm_Node_blocks s m args below meth c (MQ below (vp_Si K) args s 0 0 (fun _ => False)) 1 t true 0 [(0, va_rf (some a0))] [] G := by
  unfold w_Node_blocks at hwp
  refine kw_aload_n (pc := 0) X d_Node_blocks_0 rfl 0 rfl ?_
  obtain ⟨f1, hwp⟩ := hwp
  refine kg_2 (a := a0) (pc := 1) X d_Node_blocks_1 x_51 rfl f1 ?_
  refine kw_ldc (v := -2147483648) (pc := 4) X d_Node_blocks_4 x_698 ?_
  refine kw_iand (pc := 6) X d_Node_blocks_6 ?_
  refine kw_if_eq (tgt := 21) (pc := 7) X d_Node_blocks_7 (by decide) (fun h => ?_) (fun h => ?_)
  · have hwp := ite_t h hwp
    refine kw_aload_n (pc := 21) X d_Node_blocks_21 rfl 0 rfl ?_
    refine kg_12 (a := a0) (pc := 22) X d_Node_blocks_22 x_86 rfl f1 ?_
    refine kw_bipush (v := 15) (pc := 25) X d_Node_blocks_25 (by decide) ?_
    refine kw_iadd (pc := 27) X d_Node_blocks_27 ?_
    refine kw_bipush (v := 16) (pc := 28) X d_Node_blocks_28 (by decide) ?_
    refine kw_idiv (pc := 30) X d_Node_blocks_30 (by decide) ?_
    exact krp_i (pc := 31) X hret d_Node_blocks_31 hwp
  · have hwp := ite_f h hwp
    refine kw_aload_n (pc := 10) X d_Node_blocks_10 rfl 0 rfl ?_
    refine kg_8 (a := a0) (pc := 11) X d_Node_blocks_11 x_74 rfl f1 ?_
    refine kw_iconst (v := 3) (pc := 14) X d_Node_blocks_14 (by decide) ?_
    refine kw_iadd (pc := 15) X d_Node_blocks_15 ?_
    refine kw_iconst (v := 4) (pc := 16) X d_Node_blocks_16 (by decide) ?_
    refine kw_idiv (pc := 17) X d_Node_blocks_17 (by decide) ?_
    refine kw_goto (tgt := 31) (pc := 18) X d_Node_blocks_18 (by decide) ?_
    exact krp_i (pc := 31) X hret d_Node_blocks_31 hwp
set_option maxRecDepth 100000 in
set_option maxHeartbeats 4000000 in
theorem c_Node_blocks (l : Launch) (t : TY) (G : GS) (a0 : Nat) (K : Int32 → Prop) : Met l y_Node_blocks (Cond.code y_Node_blocks b_Node_blocks 1 (Option.some Jvm.ClassFile.FieldType.int) :: GW) rm_Node_blocks (va_Pc [.ref a0] (fun U => HB t G U.heap ∧ HK t U ∧ w_Node_blocks t G a0 K)) (vp_Si K) 0 0 (fun _ => False) := by
  refine Met.ofW (cc := b_Node_blocks) (maxL := 1) (ret := some .int) (by decide) rfl ?_
  intro p e s m args below meth c s₁ B hml hv
  obtain ⟨rfl, hB, hK, hwp⟩ := hv
  have hts := atoms_spec (ws := Cond.code y_Node_blocks b_Node_blocks 1 (Option.some Jvm.ClassFile.FieldType.int) :: GW) B.pre
  have X : kX p s m _ meth c b_Node_blocks 1 "TreeServer$Node" t := ⟨B.exec, B.bytes, hml, findClass_of_methodNamed B.named, fun w h => hts w (List.mem_cons_of_mem _ h), B.notSynchronized, hK⟩
  have hZ : kZ t true s G s.heap [] := ⟨hB, va_S.rf, fun _ => ⟨rfl, rfl⟩⟩
  rw [lg_entry_eq]
  have hl := lv_entry ([.ref a0]) (n := 1) (by simp [lg_sl, rf_cat, cat_i, cat_l, cat_r])
  exact k_Node_blocks X B.returns hwp s.heap [] _ hl hZ
abbrev b_Tree_spareBlocks : ByteArray := prog_10_method_2_code
def y_Tree_spareBlocks : MethodName := ⟨"TreeServer$Tree", "spareBlocks", "()I"⟩
theorem d_Tree_spareBlocks_0 : decode b_Tree_spareBlocks 0 = .ok (.bipush 24, 2) := by decide +kernel
theorem d_Tree_spareBlocks_2 : decode b_Tree_spareBlocks 2 = .ok (.aload_n 0, 1) := by decide +kernel
theorem d_Tree_spareBlocks_3 : decode b_Tree_spareBlocks 3 = .ok (.getfield 12, 3) := by decide +kernel
theorem d_Tree_spareBlocks_6 : decode b_Tree_spareBlocks 6 = .ok (.invokevirtual 40, 3) := by decide +kernel
theorem d_Tree_spareBlocks_9 : decode b_Tree_spareBlocks 9 = .ok (.isub, 1) := by decide +kernel
theorem d_Tree_spareBlocks_10 : decode b_Tree_spareBlocks 10 = .ok (.istore_n 1, 1) := by decide +kernel
theorem d_Tree_spareBlocks_11 : decode b_Tree_spareBlocks 11 = .ok (.iconst 0, 1) := by decide +kernel
theorem d_Tree_spareBlocks_12 : decode b_Tree_spareBlocks 12 = .ok (.istore_n 2, 1) := by decide +kernel
theorem d_Tree_spareBlocks_13 : decode b_Tree_spareBlocks 13 = .ok (.iload_n 2, 1) := by decide +kernel
theorem d_Tree_spareBlocks_14 : decode b_Tree_spareBlocks 14 = .ok (.aload_n 0, 1) := by decide +kernel
theorem d_Tree_spareBlocks_15 : decode b_Tree_spareBlocks 15 = .ok (.getfield 44, 3) := by decide +kernel
theorem d_Tree_spareBlocks_18 : decode b_Tree_spareBlocks 18 = .ok (.if_icmp .ge 21, 3) := by decide +kernel
theorem d_Tree_spareBlocks_21 : decode b_Tree_spareBlocks 21 = .ok (.iload_n 1, 1) := by decide +kernel
theorem d_Tree_spareBlocks_22 : decode b_Tree_spareBlocks 22 = .ok (.aload_n 0, 1) := by decide +kernel
theorem d_Tree_spareBlocks_23 : decode b_Tree_spareBlocks 23 = .ok (.getfield 18, 3) := by decide +kernel
theorem d_Tree_spareBlocks_26 : decode b_Tree_spareBlocks 26 = .ok (.iload_n 2, 1) := by decide +kernel
theorem d_Tree_spareBlocks_27 : decode b_Tree_spareBlocks 27 = .ok (.aaload, 1) := by decide +kernel
theorem d_Tree_spareBlocks_28 : decode b_Tree_spareBlocks 28 = .ok (.invokevirtual 40, 3) := by decide +kernel
theorem d_Tree_spareBlocks_31 : decode b_Tree_spareBlocks 31 = .ok (.isub, 1) := by decide +kernel
theorem d_Tree_spareBlocks_32 : decode b_Tree_spareBlocks 32 = .ok (.istore_n 1, 1) := by decide +kernel
theorem d_Tree_spareBlocks_33 : decode b_Tree_spareBlocks 33 = .ok (.iinc 2 1, 3) := by decide +kernel
theorem d_Tree_spareBlocks_36 : decode b_Tree_spareBlocks 36 = .ok (.goto (-23), 3) := by decide +kernel
theorem d_Tree_spareBlocks_39 : decode b_Tree_spareBlocks 39 = .ok (.iload_n 1, 1) := by decide +kernel
theorem d_Tree_spareBlocks_40 : decode b_Tree_spareBlocks 40 = .ok (.ireturn, 1) := by decide +kernel
abbrev rm_Tree_spareBlocks : Room := { frames := 1, cells := 0, slots := 0, locals := 20 }
set_option maxRecDepth 100000 in
set_option maxHeartbeats 4000000 in
theorem k_Tree_spareBlocks_13 {p : Program} {l : Launch} {e : Env} {s : State} {m : MethodId} {args : Array Value} {below : List Frame} {meth : Method} {c : Code} {t : TY} {a0 : Nat} {G : GS} {K : Int32 → Prop} (X : kX p s m args meth c b_Tree_spareBlocks 3 "TreeServer$Tree" t) (hret : meth.sig.returnType = some .int) : ∀ (n : Nat) (l1 : Int32) (l2 : Int32), w_Tree_spareBlocks_13 t G a0 K n l1 l2 → kW p l e rm_Tree_spareBlocks s m args below meth c (MQ below (vp_Si K) args s 0 0 (fun _ => False)) 3 t true 13 [(0, va_rf (some a0)), (1, .int l1), (2, .int l2)] [] G := by
  intro n
  induction n with
  | zero => intro l1 l2 hwp; exact hwp.elim
  | succ n hr_13 =>
    intro l1 l2 hwp
    unfold w_Tree_spareBlocks_13 at hwp
    dsimp only at hwp
    refine kw_iload_n (pc := 13) X d_Tree_spareBlocks_13 rfl 2 rfl ?_
    refine kw_aload_n (pc := 14) X d_Tree_spareBlocks_14 rfl 0 rfl ?_
    obtain ⟨f1, hwp⟩ := hwp
    refine kg_15 (a := a0) (pc := 15) X d_Tree_spareBlocks_15 x_123 rfl f1 ?_
    refine kw_icmp_ge (tgt := 39) (pc := 18) X d_Tree_spareBlocks_18 (by decide) (fun h => ?_) (fun h => ?_)
    · have hwp := ite_t h hwp
      refine kw_iload_n (pc := 39) X d_Tree_spareBlocks_39 rfl 1 rfl ?_
      exact krp_i (pc := 40) X hret d_Tree_spareBlocks_40 hwp
    · have hwp := ite_f h hwp
      refine kw_iload_n (pc := 21) X d_Tree_spareBlocks_21 rfl 1 rfl ?_
      refine kw_aload_n (pc := 22) X d_Tree_spareBlocks_22 rfl 0 rfl ?_
      refine kg_14 (a := a0) (pc := 23) X d_Tree_spareBlocks_23 x_121 rfl f1 ?_
      refine kw_iload_n (pc := 26) X d_Tree_spareBlocks_26 rfl 2 rfl ?_
      obtain ⟨a2, h_a2, hwp⟩ := hwp
      obtain ⟨f3, hwp⟩ := hwp
      obtain ⟨f4, hwp⟩ := hwp
      refine ka_aald54 (a := a2) (pc := 27) X d_Tree_spareBlocks_27 h_a2 f3 f4 ?_
      obtain ⟨a5, h_a5, hwp⟩ := hwp
      obtain ⟨f6, hwp⟩ := hwp
      refine kW.st (st' := [.ref a5, .int l1]) (by simp only [h_a5]; rfl) ?_
      refine kcVp_i (n := 0) (As := []) (rest := [.int l1]) (pc := 28) X (c_Node_blocks l t G a5 _) (cwV_of (C := "TreeServer$Node") X x_790 x_787 x_788 x_789 x_3 (by decide +kernel) ⟨rfl, rfl⟩ (by decide)) (rv_1 X f6) rfl rfl (by simp [rf_cat, cat_i, cat_l, cat_r]) d_Tree_spareBlocks_28 hwp (fun v7 hwp => ?_)
      refine kw_isub (pc := 31) X d_Tree_spareBlocks_31 ?_
      obtain ⟨v8, e_v8⟩ : ∃ z, z = (l1 - v7) := ⟨_, rfl⟩
      have hwp := hwp v8 e_v8
      refine kW.st (st' := .int v8 :: _) (by rw [e_v8]) ?_
      refine kw_istore_n (i := 1) (lv' := [(1, .int v8), (0, va_rf (some a0)), (2, .int l2)]) (pc := 32) X d_Tree_spareBlocks_32 rfl (by decide) rfl ?_
      obtain ⟨v9, e_v9⟩ : ∃ z, z = (l2 + (1 : Int32)) := ⟨_, rfl⟩
      have hwp := hwp v9 e_v9
      refine kw_iinc (v := v9) (lv' := [(2, .int v9), (1, .int v8), (0, va_rf (some a0))]) (pc := 33) X d_Tree_spareBlocks_33 2 rfl (by rw [e_v9]; rfl) (by decide) rfl ?_
      refine kw_goto (tgt := 13) (pc := 36) X d_Tree_spareBlocks_36 (by decide) ?_
      exact kW.sub [2, 1, 0] rfl (hr_13 _ _ hwp)
set_option maxRecDepth 100000 in
set_option maxHeartbeats 4000000 in
theorem k_Tree_spareBlocks {p : Program} {l : Launch} {e : Env} {s : State} {m : MethodId} {args : Array Value} {below : List Frame} {meth : Method} {c : Code} {t : TY} {a0 : Nat} {G : GS} {K : Int32 → Prop} (X : kX p s m args meth c b_Tree_spareBlocks 3 "TreeServer$Tree" t) (hret : meth.sig.returnType = some .int)  (hwp : w_Tree_spareBlocks t G a0 K) : kW p l e rm_Tree_spareBlocks s m args below meth c (MQ below (vp_Si K) args s 0 0 (fun _ => False)) 3 t true 0 [(0, va_rf (some a0))] [] G := by
  unfold w_Tree_spareBlocks at hwp
  refine kw_bipush (v := 24) (pc := 0) X d_Tree_spareBlocks_0 (by decide) ?_
  refine kw_aload_n (pc := 2) X d_Tree_spareBlocks_2 rfl 0 rfl ?_
  obtain ⟨f1, hwp⟩ := hwp
  refine kg_13 (a := a0) (pc := 3) X d_Tree_spareBlocks_3 x_119 rfl f1 ?_
  obtain ⟨a2, h_a2, hwp⟩ := hwp
  obtain ⟨f3, hwp⟩ := hwp
  refine kW.st (st' := [.ref a2, .int (24 : Int32)]) (by simp only [h_a2]; rfl) ?_
  refine kcVp_i (n := 0) (As := []) (rest := [.int (24 : Int32)]) (pc := 6) X (c_Node_blocks l t G a2 _) (cwV_of (C := "TreeServer$Node") X x_790 x_787 x_788 x_789 x_3 (by decide +kernel) ⟨rfl, rfl⟩ (by decide)) (rv_1 X f3) rfl rfl (by simp [rf_cat, cat_i, cat_l, cat_r]) d_Tree_spareBlocks_6 hwp (fun v4 hwp => ?_)
  refine kw_isub (pc := 9) X d_Tree_spareBlocks_9 ?_
  obtain ⟨v5, e_v5⟩ : ∃ z, z = ((24 : Int32) - v4) := ⟨_, rfl⟩
  have hwp := hwp v5 e_v5
  refine kW.st (st' := .int v5 :: _) (by rw [e_v5]) ?_
  refine kw_istore_n (i := 1) (lv' := [(1, .int v5), (0, va_rf (some a0))]) (pc := 10) X d_Tree_spareBlocks_10 rfl (by decide) rfl ?_
  refine kw_iconst (v := 0) (pc := 11) X d_Tree_spareBlocks_11 (by decide) ?_
  refine kw_istore_n (i := 2) (lv' := [(2, .int (0 : Int32)), (1, .int v5), (0, va_rf (some a0))]) (pc := 12) X d_Tree_spareBlocks_12 rfl (by decide) rfl ?_
  obtain ⟨n, hwp⟩ := hwp
  exact kW.sub [2, 1, 0] rfl (k_Tree_spareBlocks_13 X hret  n _ _ hwp)
set_option maxRecDepth 100000 in
set_option maxHeartbeats 4000000 in
theorem c_Tree_spareBlocks (l : Launch) (t : TY) (G : GS) (a0 : Nat) (K : Int32 → Prop) : Met l y_Tree_spareBlocks (Cond.code y_Tree_spareBlocks b_Tree_spareBlocks 3 (Option.some Jvm.ClassFile.FieldType.int) :: GW) rm_Tree_spareBlocks (va_Pc [.ref a0] (fun U => HB t G U.heap ∧ HK t U ∧ w_Tree_spareBlocks t G a0 K)) (vp_Si K) 0 0 (fun _ => False) := by
  refine Met.ofW (cc := b_Tree_spareBlocks) (maxL := 3) (ret := some .int) (by decide) rfl ?_
  intro p e s m args below meth c s₁ B hml hv
  obtain ⟨rfl, hB, hK, hwp⟩ := hv
  have hts := atoms_spec (ws := Cond.code y_Tree_spareBlocks b_Tree_spareBlocks 3 (Option.some Jvm.ClassFile.FieldType.int) :: GW) B.pre
  have X : kX p s m _ meth c b_Tree_spareBlocks 3 "TreeServer$Tree" t := ⟨B.exec, B.bytes, hml, findClass_of_methodNamed B.named, fun w h => hts w (List.mem_cons_of_mem _ h), B.notSynchronized, hK⟩
  have hZ : kZ t true s G s.heap [] := ⟨hB, va_S.rf, fun _ => ⟨rfl, rfl⟩⟩
  rw [lg_entry_eq]
  have hl := lv_entry ([.ref a0]) (n := 3) (by simp [lg_sl, rf_cat, cat_i, cat_l, cat_r])
  exact k_Tree_spareBlocks X B.returns hwp s.heap [] _ hl hZ
abbrev b_Tree_hasRoomForEntry : ByteArray := prog_10_method_3_code
def y_Tree_hasRoomForEntry : MethodName := ⟨"TreeServer$Tree", "hasRoomForEntry", "(LTreeServer$Node;)Z"⟩
theorem d_Tree_hasRoomForEntry_0 : decode b_Tree_hasRoomForEntry 0 = .ok (.aload_n 1, 1) := by decide +kernel
theorem d_Tree_hasRoomForEntry_1 : decode b_Tree_hasRoomForEntry 1 = .ok (.getfield 47, 3) := by decide +kernel
theorem d_Tree_hasRoomForEntry_4 : decode b_Tree_hasRoomForEntry 4 = .ok (.iconst 4, 1) := by decide +kernel
theorem d_Tree_hasRoomForEntry_5 : decode b_Tree_hasRoomForEntry 5 = .ok (.iadd, 1) := by decide +kernel
theorem d_Tree_hasRoomForEntry_6 : decode b_Tree_hasRoomForEntry 6 = .ok (.iconst 4, 1) := by decide +kernel
theorem d_Tree_hasRoomForEntry_7 : decode b_Tree_hasRoomForEntry 7 = .ok (.idiv, 1) := by decide +kernel
theorem d_Tree_hasRoomForEntry_8 : decode b_Tree_hasRoomForEntry 8 = .ok (.aload_n 1, 1) := by decide +kernel
theorem d_Tree_hasRoomForEntry_9 : decode b_Tree_hasRoomForEntry 9 = .ok (.invokevirtual 40, 3) := by decide +kernel
theorem d_Tree_hasRoomForEntry_12 : decode b_Tree_hasRoomForEntry 12 = .ok (.isub, 1) := by decide +kernel
theorem d_Tree_hasRoomForEntry_13 : decode b_Tree_hasRoomForEntry 13 = .ok (.istore_n 2, 1) := by decide +kernel
theorem d_Tree_hasRoomForEntry_14 : decode b_Tree_hasRoomForEntry 14 = .ok (.aload_n 0, 1) := by decide +kernel
theorem d_Tree_hasRoomForEntry_15 : decode b_Tree_hasRoomForEntry 15 = .ok (.getfield 44, 3) := by decide +kernel
theorem d_Tree_hasRoomForEntry_18 : decode b_Tree_hasRoomForEntry 18 = .ok (.bipush 20, 2) := by decide +kernel
theorem d_Tree_hasRoomForEntry_20 : decode b_Tree_hasRoomForEntry 20 = .ok (.if_icmp .ge 15, 3) := by decide +kernel
theorem d_Tree_hasRoomForEntry_23 : decode b_Tree_hasRoomForEntry 23 = .ok (.iload_n 2, 1) := by decide +kernel
theorem d_Tree_hasRoomForEntry_24 : decode b_Tree_hasRoomForEntry 24 = .ok (.aload_n 0, 1) := by decide +kernel
theorem d_Tree_hasRoomForEntry_25 : decode b_Tree_hasRoomForEntry 25 = .ok (.invokevirtual 50, 3) := by decide +kernel
theorem d_Tree_hasRoomForEntry_28 : decode b_Tree_hasRoomForEntry 28 = .ok (.if_icmp .gt 7, 3) := by decide +kernel
theorem d_Tree_hasRoomForEntry_31 : decode b_Tree_hasRoomForEntry 31 = .ok (.iconst 1, 1) := by decide +kernel
theorem d_Tree_hasRoomForEntry_32 : decode b_Tree_hasRoomForEntry 32 = .ok (.goto 4, 3) := by decide +kernel
theorem d_Tree_hasRoomForEntry_35 : decode b_Tree_hasRoomForEntry 35 = .ok (.iconst 0, 1) := by decide +kernel
theorem d_Tree_hasRoomForEntry_36 : decode b_Tree_hasRoomForEntry 36 = .ok (.ireturn, 1) := by decide +kernel
abbrev rm_Tree_hasRoomForEntry : Room := { frames := 2, cells := 0, slots := 0, locals := 42 }
set_option maxRecDepth 100000 in
set_option maxHeartbeats 4000000 in
theorem k_Tree_hasRoomForEntry {p : Program} {l : Launch} {e : Env} {s : State} {m : MethodId} {args : Array Value} {below : List Frame} {meth : Method} {c : Code} {t : TY} {a0 : Nat} {G : GS} {K : Int32 → Prop} (X : kX p s m args meth c b_Tree_hasRoomForEntry 3 "TreeServer$Tree" t) (hret : meth.sig.returnType = some .boolean) (p1 : Nat) (hwp : w_Tree_hasRoomForEntry t G a0 p1 K) : kW p l e rm_Tree_hasRoomForEntry s m args below meth c (MQ below (vp_Si (fun r => isB r ∧ K r)) args s 0 0 (fun _ => False)) 3 t true 0 [(0, va_rf (some a0)), (1, va_rf (some p1))] [] G := by
  unfold w_Tree_hasRoomForEntry at hwp
  refine kw_aload_n (pc := 0) X d_Tree_hasRoomForEntry_0 rfl 1 rfl ?_
  obtain ⟨f1, hwp⟩ := hwp
  refine kg_8 (a := p1) (pc := 1) X d_Tree_hasRoomForEntry_1 x_72 rfl f1 ?_
  refine kw_iconst (v := 4) (pc := 4) X d_Tree_hasRoomForEntry_4 (by decide) ?_
  refine kw_iadd (pc := 5) X d_Tree_hasRoomForEntry_5 ?_
  refine kw_iconst (v := 4) (pc := 6) X d_Tree_hasRoomForEntry_6 (by decide) ?_
  refine kw_idiv (pc := 7) X d_Tree_hasRoomForEntry_7 (by decide) ?_
  refine kw_aload_n (pc := 8) X d_Tree_hasRoomForEntry_8 rfl 1 rfl ?_
  refine kcVp_i (n := 0) (As := []) (rest := [.int (((gi G 8 p1) + (4 : Int32)) / (4 : Int32))]) (pc := 9) X (c_Node_blocks l t G p1 _) (cwV_of (C := "TreeServer$Node") X x_790 x_787 x_788 x_789 x_3 (by decide +kernel) ⟨rfl, rfl⟩ (by decide)) (rv_1 X f1) rfl rfl (by simp [rf_cat, cat_i, cat_l, cat_r]) d_Tree_hasRoomForEntry_9 hwp (fun v2 hwp => ?_)
  refine kw_isub (pc := 12) X d_Tree_hasRoomForEntry_12 ?_
  obtain ⟨v3, e_v3⟩ : ∃ z, z = ((((gi G 8 p1) + (4 : Int32)) / (4 : Int32)) - v2) := ⟨_, rfl⟩
  have hwp := hwp v3 e_v3
  refine kW.st (st' := .int v3 :: _) (by rw [e_v3]) ?_
  refine kw_istore_n (i := 2) (lv' := [(2, .int v3), (0, va_rf (some a0)), (1, va_rf (some p1))]) (pc := 13) X d_Tree_hasRoomForEntry_13 rfl (by decide) rfl ?_
  refine kw_aload_n (pc := 14) X d_Tree_hasRoomForEntry_14 rfl 1 rfl ?_
  obtain ⟨f4, hwp⟩ := hwp
  refine kg_15 (a := a0) (pc := 15) X d_Tree_hasRoomForEntry_15 x_123 rfl f4 ?_
  refine kw_bipush (v := 20) (pc := 18) X d_Tree_hasRoomForEntry_18 (by decide) ?_
  refine kw_icmp_ge (tgt := 35) (pc := 20) X d_Tree_hasRoomForEntry_20 (by decide) (fun h => ?_) (fun h => ?_)
  · have hwp := ite_t h hwp
    refine kw_iconst (v := 0) (pc := 35) X d_Tree_hasRoomForEntry_35 (by decide) ?_
    exact krp_z (pc := 36) X hret d_Tree_hasRoomForEntry_36 (Or.inl rfl) hwp
  · have hwp := ite_f h hwp
    refine kw_iload_n (pc := 23) X d_Tree_hasRoomForEntry_23 rfl 0 rfl ?_
    refine kw_aload_n (pc := 24) X d_Tree_hasRoomForEntry_24 rfl 1 rfl ?_
    refine kcVp_i (n := 0) (As := []) (rest := [.int v3]) (pc := 25) X (c_Tree_spareBlocks l t G a0 _) (cwV_of (C := "TreeServer$Tree") X x_794 x_791 x_792 x_793 x_2 (by decide +kernel) ⟨rfl, rfl⟩ (by decide)) (rv_2 X f4) rfl rfl (by simp [rf_cat, cat_i, cat_l, cat_r]) d_Tree_hasRoomForEntry_25 hwp (fun v5 hwp => ?_)
    refine kw_icmp_gt (tgt := 35) (pc := 28) X d_Tree_hasRoomForEntry_28 (by decide) (fun h => ?_) (fun h => ?_)
    · have hwp := ite_t h hwp
      refine kw_iconst (v := 0) (pc := 35) X d_Tree_hasRoomForEntry_35 (by decide) ?_
      exact krp_z (pc := 36) X hret d_Tree_hasRoomForEntry_36 (Or.inl rfl) hwp
    · have hwp := ite_f h hwp
      refine kw_iconst (v := 1) (pc := 31) X d_Tree_hasRoomForEntry_31 (by decide) ?_
      refine kw_goto (tgt := 36) (pc := 32) X d_Tree_hasRoomForEntry_32 (by decide) ?_
      exact krp_z (pc := 36) X hret d_Tree_hasRoomForEntry_36 (Or.inr rfl) hwp
set_option maxRecDepth 100000 in
set_option maxHeartbeats 4000000 in
theorem c_Tree_hasRoomForEntry (l : Launch) (t : TY) (G : GS) (a0 : Nat) (p1 : Nat) (K : Int32 → Prop) : Met l y_Tree_hasRoomForEntry (Cond.code y_Tree_hasRoomForEntry b_Tree_hasRoomForEntry 3 (Option.some Jvm.ClassFile.FieldType.boolean) :: GW) rm_Tree_hasRoomForEntry (va_Pc [.ref a0, .ref p1] (fun U => HB t G U.heap ∧ HK t U ∧ w_Tree_hasRoomForEntry t G a0 p1 K)) (vp_Si (fun r => isB r ∧ K r)) 0 0 (fun _ => False) := by
  refine Met.ofW (cc := b_Tree_hasRoomForEntry) (maxL := 3) (ret := some .boolean) (by decide) rfl ?_
  intro p e s m args below meth c s₁ B hml hv
  obtain ⟨rfl, hB, hK, hwp⟩ := hv
  have hts := atoms_spec (ws := Cond.code y_Tree_hasRoomForEntry b_Tree_hasRoomForEntry 3 (Option.some Jvm.ClassFile.FieldType.boolean) :: GW) B.pre
  have X : kX p s m _ meth c b_Tree_hasRoomForEntry 3 "TreeServer$Tree" t := ⟨B.exec, B.bytes, hml, findClass_of_methodNamed B.named, fun w h => hts w (List.mem_cons_of_mem _ h), B.notSynchronized, hK⟩
  have hZ : kZ t true s G s.heap [] := ⟨hB, va_S.rf, fun _ => ⟨rfl, rfl⟩⟩
  rw [lg_entry_eq]
  have hl := lv_entry ([.ref a0, .ref p1]) (n := 3) (by simp [lg_sl, rf_cat, cat_i, cat_l, cat_r])
  exact k_Tree_hasRoomForEntry X B.returns _ hwp s.heap [] _ hl hZ
abbrev b_Message_copyBytes : ByteArray := prog_8_method_14_code
def y_Message_copyBytes : MethodName := ⟨"TreeServer$Message", "copyBytes", "(II[B)I"⟩
theorem d_Message_copyBytes_0 : decode b_Message_copyBytes 0 = .ok (.iload_n 2, 1) := by decide +kernel
theorem d_Message_copyBytes_1 : decode b_Message_copyBytes 1 = .ok (.aload_n 3, 1) := by decide +kernel
theorem d_Message_copyBytes_2 : decode b_Message_copyBytes 2 = .ok (.arraylength, 1) := by decide +kernel
theorem d_Message_copyBytes_3 : decode b_Message_copyBytes 3 = .ok (.invokestatic 119, 3) := by decide +kernel
theorem d_Message_copyBytes_6 : decode b_Message_copyBytes 6 = .ok (.istore 4, 2) := by decide +kernel
theorem d_Message_copyBytes_8 : decode b_Message_copyBytes 8 = .ok (.iconst 0, 1) := by decide +kernel
theorem d_Message_copyBytes_9 : decode b_Message_copyBytes 9 = .ok (.istore 5, 2) := by decide +kernel
theorem d_Message_copyBytes_11 : decode b_Message_copyBytes 11 = .ok (.iload 5, 2) := by decide +kernel
theorem d_Message_copyBytes_13 : decode b_Message_copyBytes 13 = .ok (.iload 4, 2) := by decide +kernel
theorem d_Message_copyBytes_15 : decode b_Message_copyBytes 15 = .ok (.if_icmp .ge 24, 3) := by decide +kernel
theorem d_Message_copyBytes_18 : decode b_Message_copyBytes 18 = .ok (.aload_n 3, 1) := by decide +kernel
theorem d_Message_copyBytes_19 : decode b_Message_copyBytes 19 = .ok (.iload 5, 2) := by decide +kernel
theorem d_Message_copyBytes_21 : decode b_Message_copyBytes 21 = .ok (.aload_n 0, 1) := by decide +kernel
theorem d_Message_copyBytes_22 : decode b_Message_copyBytes 22 = .ok (.iload_n 1, 1) := by decide +kernel
theorem d_Message_copyBytes_23 : decode b_Message_copyBytes 23 = .ok (.iload 5, 2) := by decide +kernel
theorem d_Message_copyBytes_25 : decode b_Message_copyBytes 25 = .ok (.iadd, 1) := by decide +kernel
theorem d_Message_copyBytes_26 : decode b_Message_copyBytes 26 = .ok (.iconst 1, 1) := by decide +kernel
theorem d_Message_copyBytes_27 : decode b_Message_copyBytes 27 = .ok (.invokevirtual 53, 3) := by decide +kernel
theorem d_Message_copyBytes_30 : decode b_Message_copyBytes 30 = .ok (.l2i, 1) := by decide +kernel
theorem d_Message_copyBytes_31 : decode b_Message_copyBytes 31 = .ok (.i2b, 1) := by decide +kernel
theorem d_Message_copyBytes_32 : decode b_Message_copyBytes 32 = .ok (.bastore, 1) := by decide +kernel
theorem d_Message_copyBytes_33 : decode b_Message_copyBytes 33 = .ok (.iinc 5 1, 3) := by decide +kernel
theorem d_Message_copyBytes_36 : decode b_Message_copyBytes 36 = .ok (.goto (-25), 3) := by decide +kernel
theorem d_Message_copyBytes_39 : decode b_Message_copyBytes 39 = .ok (.iload 4, 2) := by decide +kernel
theorem d_Message_copyBytes_41 : decode b_Message_copyBytes 41 = .ok (.ireturn, 1) := by decide +kernel
abbrev rm_Message_copyBytes : Room := { frames := 1, cells := 0, slots := 0, locals := 26 }
set_option maxRecDepth 100000 in
set_option maxHeartbeats 4000000 in
theorem k_Message_copyBytes_11 {p : Program} {l : Launch} {e : Env} {s : State} {m : MethodId} {args : Array Value} {below : List Frame} {meth : Method} {c : Code} {t : TY} {a0 : Nat} {K : GS → Int32 → Prop} (X : kX p s m args meth c b_Message_copyBytes 6 "TreeServer$Message" t) (hret : meth.sig.returnType = some .int) : ∀ (n : Nat) (l1 : Int32) (p3 : Nat) (l4 : Int32) (l5 : Int32) (G : GS), w_Message_copyBytes_11 t a0 K n l1 p3 l4 l5 G → kW p l e rm_Message_copyBytes s m args below meth c (MQ below (va_Qi (fun r (u : GS) => K u r) (fun u T => HB t u T.heap) (tA t)) args s 0 0 (tA t)) 6 t false 11 [(0, va_rf (some a0)), (1, .int l1), (3, va_rf (some p3)), (4, .int l4), (5, .int l5)] [] G := by
  intro n
  induction n with
  | zero => intro l1 p3 l4 l5 G hwp; exact hwp.elim
  | succ n hr_11 =>
    intro l1 p3 l4 l5 G hwp
    unfold w_Message_copyBytes_11 at hwp
    dsimp only at hwp
    refine kw_iload (pc := 11) X d_Message_copyBytes_11 4 rfl ?_
    refine kw_iload (pc := 13) X d_Message_copyBytes_13 3 rfl ?_
    refine kw_icmp_ge (tgt := 39) (pc := 15) X d_Message_copyBytes_15 (by decide) (fun h => ?_) (fun h => ?_)
    · have hwp := ite_t h hwp
      refine kw_iload (pc := 39) X d_Message_copyBytes_39 3 rfl ?_
      exact kr_i (pc := 41) X hret d_Message_copyBytes_41 hwp
    · have hwp := ite_f h hwp
      refine kw_aload_n (pc := 18) X d_Message_copyBytes_18 rfl 2 rfl ?_
      refine kw_iload (pc := 19) X d_Message_copyBytes_19 4 rfl ?_
      refine kw_aload_n (pc := 21) X d_Message_copyBytes_21 rfl 0 rfl ?_
      refine kw_iload_n (pc := 22) X d_Message_copyBytes_22 rfl 1 rfl ?_
      refine kw_iload (pc := 23) X d_Message_copyBytes_23 4 rfl ?_
      refine kw_iadd (pc := 25) X d_Message_copyBytes_25 ?_
      refine kw_iconst (v := 1) (pc := 26) X d_Message_copyBytes_26 (by decide) ?_
      obtain ⟨f1, hwp⟩ := hwp
      refine kcVp_l (n := 2) (As := [.int (l1 + l5), .int (1 : Int32)]) (rest := [.int l5, va_rf (some p3)]) (pc := 27) X (c_Message_number l t G a0 (l1 + l5) (1 : Int32) _) (cwV_of (C := "TreeServer$Message") X x_541 x_538 x_539 x_540 x_9 (by decide +kernel) ⟨rfl, rfl⟩ (by decide)) (rv_5 X f1) rfl rfl (by simp [rf_cat, cat_i, cat_l, cat_r]) d_Message_copyBytes_27 hwp (fun v2 hwp => ?_)
      refine kw_l2i (pc := 30) X d_Message_copyBytes_30 ?_
      refine kw_i2b (pc := 31) X d_Message_copyBytes_31 ?_
      obtain ⟨f3, hwp⟩ := hwp
      obtain ⟨f4, hwp⟩ := hwp
      refine ka_bast (a := p3) (pc := 32) X rfl d_Message_copyBytes_32 rfl f3 f4 ?_
      obtain ⟨G5, e_G5⟩ : ∃ g, g = ais G p3 l5.toNatClampNeg (vp_nar .byte v2.toInt32.toInt8.toInt32) := ⟨_, rfl⟩
      have hwp := hwp G5 e_G5
      refine kW.g e_G5.symm ?_
      obtain ⟨v6, e_v6⟩ : ∃ z, z = (l5 + (1 : Int32)) := ⟨_, rfl⟩
      have hwp := hwp v6 e_v6
      refine kw_iinc (v := v6) (lv' := [(5, .int v6), (0, va_rf (some a0)), (1, .int l1), (3, va_rf (some p3)), (4, .int l4)]) (pc := 33) X d_Message_copyBytes_33 4 rfl (by rw [e_v6]; rfl) (by decide) rfl ?_
      refine kw_goto (tgt := 11) (pc := 36) X d_Message_copyBytes_36 (by decide) ?_
      exact kW.sub [1, 2, 3, 4, 0] rfl (hr_11 _ _ _ _ _ hwp)
set_option maxRecDepth 100000 in
set_option maxHeartbeats 4000000 in
theorem k_Message_copyBytes {p : Program} {l : Launch} {e : Env} {s : State} {m : MethodId} {args : Array Value} {below : List Frame} {meth : Method} {c : Code} {t : TY} {a0 : Nat} {K : GS → Int32 → Prop} (X : kX p s m args meth c b_Message_copyBytes 6 "TreeServer$Message" t) (hret : meth.sig.returnType = some .int) (G : GS) (p1 : Int32) (p2 : Int32) (p3 : Nat) (hwp : w_Message_copyBytes t G a0 p1 p2 p3 K) : kW p l e rm_Message_copyBytes s m args below meth c (MQ below (va_Qi (fun r (u : GS) => K u r) (fun u T => HB t u T.heap) (tA t)) args s 0 0 (tA t)) 6 t false 0 [(0, va_rf (some a0)), (1, .int p1), (2, .int p2), (3, va_rf (some p3))] [] G := by
  unfold w_Message_copyBytes at hwp
  refine kw_iload_n (pc := 0) X d_Message_copyBytes_0 rfl 2 rfl ?_
  refine kw_aload_n (pc := 1) X d_Message_copyBytes_1 rfl 3 rfl ?_
  obtain ⟨f1, hwp⟩ := hwp
  refine ka_len51 (a := p3) (pc := 2) X d_Message_copyBytes_2 rfl f1 ?_
  refine km_min (pc := 3) X d_Message_copyBytes_3 x_805 x_806 x_15 x_807 (by decide) (by decide) ?_
  obtain ⟨v2, e_v2⟩ : ∃ z, z = (imin p2 (nI (tn t p3))) := ⟨_, rfl⟩
  have hwp := hwp v2 e_v2
  refine kW.st (st' := .int v2 :: _) (by rw [e_v2]) ?_
  refine kw_istore (i := 4) (lv' := [(4, .int v2), (0, va_rf (some a0)), (1, .int p1), (2, .int p2), (3, va_rf (some p3))]) (pc := 6) X d_Message_copyBytes_6 (by decide) rfl ?_
  refine kw_iconst (v := 0) (pc := 8) X d_Message_copyBytes_8 (by decide) ?_
  refine kw_istore (i := 5) (lv' := [(5, .int (0 : Int32)), (4, .int v2), (0, va_rf (some a0)), (1, .int p1), (2, .int p2), (3, va_rf (some p3))]) (pc := 9) X d_Message_copyBytes_9 (by decide) rfl ?_
  obtain ⟨n, hwp⟩ := hwp
  exact kW.sub [2, 3, 5, 1, 0] rfl (k_Message_copyBytes_11 X hret  n _ _ _ _ _ hwp)
set_option maxRecDepth 100000 in
set_option maxHeartbeats 4000000 in
theorem c_Message_copyBytes (l : Launch) (t : TY) (G : GS) (a0 : Nat) (p1 : Int32) (p2 : Int32) (p3 : Nat) (K : GS → Int32 → Prop) : Met l y_Message_copyBytes (Cond.code y_Message_copyBytes b_Message_copyBytes 6 (Option.some Jvm.ClassFile.FieldType.int) :: GW) rm_Message_copyBytes (va_Pc [.ref a0, .int p1, .int p2, .ref p3] (fun U => HB t G U.heap ∧ HK t U ∧ w_Message_copyBytes t G a0 p1 p2 p3 K)) (va_Qi (fun r (u : GS) => K u r) (fun u T => HB t u T.heap) (tA t)) 0 0 (tA t) := by
  refine Met.ofW (cc := b_Message_copyBytes) (maxL := 6) (ret := some .int) (by decide) rfl ?_
  intro p e s m args below meth c s₁ B hml hv
  obtain ⟨rfl, hB, hK, hwp⟩ := hv
  have hts := atoms_spec (ws := Cond.code y_Message_copyBytes b_Message_copyBytes 6 (Option.some Jvm.ClassFile.FieldType.int) :: GW) B.pre
  have X : kX p s m _ meth c b_Message_copyBytes 6 "TreeServer$Message" t := ⟨B.exec, B.bytes, hml, findClass_of_methodNamed B.named, fun w h => hts w (List.mem_cons_of_mem _ h), B.notSynchronized, hK⟩
  have hZ : kZ t false s G s.heap [] := ⟨hB, va_S.rf, fun _ => ⟨rfl, rfl⟩⟩
  rw [lg_entry_eq]
  have hl := lv_entry ([.ref a0, .int p1, .int p2, .ref p3]) (n := 6) (by simp [lg_sl, rf_cat, cat_i, cat_l, cat_r])
  exact k_Message_copyBytes X B.returns _ _ _ _ hwp s.heap [] _ hl hZ
abbrev b_Message_copyText : ByteArray := prog_8_method_13_code
def y_Message_copyText : MethodName := ⟨"TreeServer$Message", "copyText", "(I[B)I"⟩
theorem d_Message_copyText_0 : decode b_Message_copyText 0 = .ok (.aload_n 0, 1) := by decide +kernel
theorem d_Message_copyText_1 : decode b_Message_copyText 1 = .ok (.aload_n 0, 1) := by decide +kernel
theorem d_Message_copyText_2 : decode b_Message_copyText 2 = .ok (.getfield 15, 3) := by decide +kernel
theorem d_Message_copyText_5 : decode b_Message_copyText 5 = .ok (.iload_n 1, 1) := by decide +kernel
theorem d_Message_copyText_6 : decode b_Message_copyText 6 = .ok (.iaload, 1) := by decide +kernel
theorem d_Message_copyText_7 : decode b_Message_copyText 7 = .ok (.aload_n 0, 1) := by decide +kernel
theorem d_Message_copyText_8 : decode b_Message_copyText 8 = .ok (.getfield 19, 3) := by decide +kernel
theorem d_Message_copyText_11 : decode b_Message_copyText 11 = .ok (.iload_n 1, 1) := by decide +kernel
theorem d_Message_copyText_12 : decode b_Message_copyText 12 = .ok (.iaload, 1) := by decide +kernel
theorem d_Message_copyText_13 : decode b_Message_copyText 13 = .ok (.aload_n 2, 1) := by decide +kernel
theorem d_Message_copyText_14 : decode b_Message_copyText 14 = .ok (.invokevirtual 115, 3) := by decide +kernel
theorem d_Message_copyText_17 : decode b_Message_copyText 17 = .ok (.ireturn, 1) := by decide +kernel
abbrev rm_Message_copyText : Room := { frames := 2, cells := 0, slots := 0, locals := 51 }
set_option maxRecDepth 100000 in
set_option maxHeartbeats 4000000 in
theorem k_Message_copyText {p : Program} {l : Launch} {e : Env} {s : State} {m : MethodId} {args : Array Value} {below : List Frame} {meth : Method} {c : Code} {t : TY} {a0 : Nat} {K : GS → Int32 → Prop} (X : kX p s m args meth c b_Message_copyText 3 "TreeServer$Message" t) (hret : meth.sig.returnType = some .int) (G : GS) (p1 : Int32) (p2 : Nat) (hwp : w_Message_copyText t G a0 p1 p2 K) : kW p l e rm_Message_copyText s m args below meth c (MQ below (va_Qi (fun r (u : GS) => K u r) (fun u T => HB t u T.heap) (tA t)) args s 0 0 (tA t)) 3 t false 0 [(0, va_rf (some a0)), (1, .int p1), (2, va_rf (some p2))] [] G := by
  unfold w_Message_copyText at hwp
  refine kw_aload_n (pc := 0) X d_Message_copyText_0 rfl 0 rfl ?_
  refine kw_aload_n (pc := 1) X d_Message_copyText_1 rfl 0 rfl ?_
  obtain ⟨f1, hwp⟩ := hwp
  refine kg_40 (a := a0) (pc := 2) X d_Message_copyText_2 x_237 rfl f1 ?_
  refine kw_iload_n (pc := 5) X d_Message_copyText_5 rfl 1 rfl ?_
  obtain ⟨a2, h_a2, hwp⟩ := hwp
  obtain ⟨f3, hwp⟩ := hwp
  obtain ⟨f4, hwp⟩ := hwp
  refine ka_iald (a := a2) (pc := 6) X d_Message_copyText_6 h_a2 f3 f4 ?_
  refine kw_aload_n (pc := 7) X d_Message_copyText_7 rfl 0 rfl ?_
  refine kg_41 (a := a0) (pc := 8) X d_Message_copyText_8 x_238 rfl f1 ?_
  refine kw_iload_n (pc := 11) X d_Message_copyText_11 rfl 1 rfl ?_
  obtain ⟨a5, h_a5, hwp⟩ := hwp
  obtain ⟨f6, hwp⟩ := hwp
  obtain ⟨f7, hwp⟩ := hwp
  refine ka_iald (a := a5) (pc := 12) X d_Message_copyText_12 h_a5 f6 f7 ?_
  refine kw_aload_n (pc := 13) X d_Message_copyText_13 rfl 2 rfl ?_
  refine kcV_i (n := 3) (As := [.int (ai G a2 p1.toNatClampNeg), .int (ai G a5 p1.toNatClampNeg), .ref p2]) (rest := []) (pc := 14) X rfl (c_Message_copyBytes l t G a0 (ai G a2 p1.toNatClampNeg) (ai G a5 p1.toNatClampNeg) p2 _) (cwV_of (C := "TreeServer$Message") X x_804 x_801 x_802 x_803 x_9 (by decide +kernel) ⟨rfl, rfl⟩ (by decide)) (rv_5 X f1) rfl rfl (by decide) d_Message_copyText_14 hwp (fun v9 G8 hwp => ?_)
  exact kr_i (pc := 17) X hret d_Message_copyText_17 hwp
set_option maxRecDepth 100000 in
set_option maxHeartbeats 4000000 in
theorem c_Message_copyText (l : Launch) (t : TY) (G : GS) (a0 : Nat) (p1 : Int32) (p2 : Nat) (K : GS → Int32 → Prop) : Met l y_Message_copyText (Cond.code y_Message_copyText b_Message_copyText 3 (Option.some Jvm.ClassFile.FieldType.int) :: GW) rm_Message_copyText (va_Pc [.ref a0, .int p1, .ref p2] (fun U => HB t G U.heap ∧ HK t U ∧ w_Message_copyText t G a0 p1 p2 K)) (va_Qi (fun r (u : GS) => K u r) (fun u T => HB t u T.heap) (tA t)) 0 0 (tA t) := by
  refine Met.ofW (cc := b_Message_copyText) (maxL := 3) (ret := some .int) (by decide) rfl ?_
  intro p e s m args below meth c s₁ B hml hv
  obtain ⟨rfl, hB, hK, hwp⟩ := hv
  have hts := atoms_spec (ws := Cond.code y_Message_copyText b_Message_copyText 3 (Option.some Jvm.ClassFile.FieldType.int) :: GW) B.pre
  have X : kX p s m _ meth c b_Message_copyText 3 "TreeServer$Message" t := ⟨B.exec, B.bytes, hml, findClass_of_methodNamed B.named, fun w h => hts w (List.mem_cons_of_mem _ h), B.notSynchronized, hK⟩
  have hZ : kZ t false s G s.heap [] := ⟨hB, va_S.rf, fun _ => ⟨rfl, rfl⟩⟩
  rw [lg_entry_eq]
  have hl := lv_entry ([.ref a0, .int p1, .ref p2]) (n := 3) (by simp [lg_sl, rf_cat, cat_i, cat_l, cat_r])
  exact k_Message_copyText X B.returns _ _ _ hwp s.heap [] _ hl hZ
abbrev b_Tree_newest : ByteArray := prog_10_method_6_code
def y_Tree_newest : MethodName := ⟨"TreeServer$Tree", "newest", "()LTreeServer$Node;"⟩
theorem d_Tree_newest_0 : decode b_Tree_newest 0 = .ok (.aload_n 0, 1) := by decide +kernel
theorem d_Tree_newest_1 : decode b_Tree_newest 1 = .ok (.getfield 44, 3) := by decide +kernel
theorem d_Tree_newest_4 : decode b_Tree_newest 4 = .ok (.ifCond .le 17, 3) := by decide +kernel
theorem d_Tree_newest_7 : decode b_Tree_newest 7 = .ok (.aload_n 0, 1) := by decide +kernel
theorem d_Tree_newest_8 : decode b_Tree_newest 8 = .ok (.getfield 18, 3) := by decide +kernel
theorem d_Tree_newest_11 : decode b_Tree_newest 11 = .ok (.aload_n 0, 1) := by decide +kernel
theorem d_Tree_newest_12 : decode b_Tree_newest 12 = .ok (.getfield 44, 3) := by decide +kernel
theorem d_Tree_newest_15 : decode b_Tree_newest 15 = .ok (.iconst 1, 1) := by decide +kernel
theorem d_Tree_newest_16 : decode b_Tree_newest 16 = .ok (.isub, 1) := by decide +kernel
theorem d_Tree_newest_17 : decode b_Tree_newest 17 = .ok (.aaload, 1) := by decide +kernel
theorem d_Tree_newest_18 : decode b_Tree_newest 18 = .ok (.goto 7, 3) := by decide +kernel
theorem d_Tree_newest_21 : decode b_Tree_newest 21 = .ok (.aload_n 0, 1) := by decide +kernel
theorem d_Tree_newest_22 : decode b_Tree_newest 22 = .ok (.getfield 12, 3) := by decide +kernel
theorem d_Tree_newest_25 : decode b_Tree_newest 25 = .ok (.areturn, 1) := by decide +kernel
abbrev rm_Tree_newest : Room := { frames := 0, cells := 0, slots := 0, locals := 0 }
set_option maxRecDepth 100000 in
set_option maxHeartbeats 4000000 in
theorem k_Tree_newest {p : Program} {l : Launch} {e : Env} {s : State} {m : MethodId} {args : Array Value} {below : List Frame} {meth : Method} {c : Code} {t : TY} {a0 : Nat} {G : GS} {K : Option Nat → Prop} (X : kX p s m args meth c b_Tree_newest 1 "TreeServer$Tree" t) (hret : meth.sig.returnType = some (.object "TreeServer$Node"))  (hwp : w_Tree_newest t G a0 K) : kW p l e rm_Tree_newest s m args below meth c (MQ below (va_Sq K) args s 0 0 (fun _ => False)) 1 t true 0 [(0, va_rf (some a0))] [] G := by
  unfold w_Tree_newest at hwp
  refine kw_aload_n (pc := 0) X d_Tree_newest_0 rfl 0 rfl ?_
  obtain ⟨f1, hwp⟩ := hwp
  refine kg_15 (a := a0) (pc := 1) X d_Tree_newest_1 x_123 rfl f1 ?_
  refine kw_if_le (tgt := 21) (pc := 4) X d_Tree_newest_4 (by decide) (fun h => ?_) (fun h => ?_)
  · have hwp := ite_t h hwp
    refine kw_aload_n (pc := 21) X d_Tree_newest_21 rfl 0 rfl ?_
    refine kg_13 (a := a0) (pc := 22) X d_Tree_newest_22 x_119 rfl f1 ?_
    exact krp_q (pc := 25) X hret d_Tree_newest_25 (Or.inl ⟨_, rfl⟩) hwp
  · have hwp := ite_f h hwp
    refine kw_aload_n (pc := 7) X d_Tree_newest_7 rfl 0 rfl ?_
    refine kg_14 (a := a0) (pc := 8) X d_Tree_newest_8 x_121 rfl f1 ?_
    refine kw_aload_n (pc := 11) X d_Tree_newest_11 rfl 0 rfl ?_
    refine kg_15 (a := a0) (pc := 12) X d_Tree_newest_12 x_123 rfl f1 ?_
    refine kw_iconst (v := 1) (pc := 15) X d_Tree_newest_15 (by decide) ?_
    refine kw_isub (pc := 16) X d_Tree_newest_16 ?_
    obtain ⟨a2, h_a2, hwp⟩ := hwp
    obtain ⟨f3, hwp⟩ := hwp
    obtain ⟨f4, hwp⟩ := hwp
    refine ka_aald54 (a := a2) (pc := 17) X d_Tree_newest_17 h_a2 f3 f4 ?_
    refine kw_goto (tgt := 25) (pc := 18) X d_Tree_newest_18 (by decide) ?_
    exact krp_q (pc := 25) X hret d_Tree_newest_25 (Or.inl ⟨_, rfl⟩) hwp
set_option maxRecDepth 100000 in
set_option maxHeartbeats 4000000 in
theorem c_Tree_newest (l : Launch) (t : TY) (G : GS) (a0 : Nat) (K : Option Nat → Prop) : Met l y_Tree_newest (Cond.code y_Tree_newest b_Tree_newest 1 (Option.some (Jvm.ClassFile.FieldType.object "TreeServer$Node")) :: GW) rm_Tree_newest (va_Pc [.ref a0] (fun U => HB t G U.heap ∧ HK t U ∧ w_Tree_newest t G a0 K)) (va_Sq K) 0 0 (fun _ => False) := by
  refine Met.ofW (cc := b_Tree_newest) (maxL := 1) (ret := some (.object "TreeServer$Node")) (by decide) rfl ?_
  intro p e s m args below meth c s₁ B hml hv
  obtain ⟨rfl, hB, hK, hwp⟩ := hv
  have hts := atoms_spec (ws := Cond.code y_Tree_newest b_Tree_newest 1 (Option.some (Jvm.ClassFile.FieldType.object "TreeServer$Node")) :: GW) B.pre
  have X : kX p s m _ meth c b_Tree_newest 1 "TreeServer$Tree" t := ⟨B.exec, B.bytes, hml, findClass_of_methodNamed B.named, fun w h => hts w (List.mem_cons_of_mem _ h), B.notSynchronized, hK⟩
  have hZ : kZ t true s G s.heap [] := ⟨hB, va_S.rf, fun _ => ⟨rfl, rfl⟩⟩
  rw [lg_entry_eq]
  have hl := lv_entry ([.ref a0]) (n := 1) (by simp [lg_sl, rf_cat, cat_i, cat_l, cat_r])
  exact k_Tree_newest X B.returns hwp s.heap [] _ hl hZ
abbrev b_S_answerCreated : ByteArray := prog_1_method_35_code
def y_S_answerCreated : MethodName := ⟨"TreeServer", "answerCreated", "(LTreeServer$Fid;I)V"⟩
theorem d_S_answerCreated_0 : decode b_S_answerCreated 0 = .ok (.aload_n 0, 1) := by decide +kernel
theorem d_S_answerCreated_1 : decode b_S_answerCreated 1 = .ok (.getfield 10, 3) := by decide +kernel
theorem d_S_answerCreated_4 : decode b_S_answerCreated 4 = .ok (.invokevirtual 456, 3) := by decide +kernel
theorem d_S_answerCreated_7 : decode b_S_answerCreated 7 = .ok (.astore_n 3, 1) := by decide +kernel
theorem d_S_answerCreated_8 : decode b_S_answerCreated 8 = .ok (.aload_n 1, 1) := by decide +kernel
theorem d_S_answerCreated_9 : decode b_S_answerCreated 9 = .ok (.aload_n 1, 1) := by decide +kernel
theorem d_S_answerCreated_10 : decode b_S_answerCreated 10 = .ok (.getfield 460, 3) := by decide +kernel
theorem d_S_answerCreated_13 : decode b_S_answerCreated 13 = .ok (.aload_n 3, 1) := by decide +kernel
theorem d_S_answerCreated_14 : decode b_S_answerCreated 14 = .ok (.aload_n 1, 1) := by decide +kernel
theorem d_S_answerCreated_15 : decode b_S_answerCreated 15 = .ok (.getfield 275, 3) := by decide +kernel
theorem d_S_answerCreated_18 : decode b_S_answerCreated 18 = .ok (.invokevirtual 332, 3) := by decide +kernel
theorem d_S_answerCreated_21 : decode b_S_answerCreated 21 = .ok (.aload_n 1, 1) := by decide +kernel
theorem d_S_answerCreated_22 : decode b_S_answerCreated 22 = .ok (.iload_n 2, 1) := by decide +kernel
theorem d_S_answerCreated_23 : decode b_S_answerCreated 23 = .ok (.invokevirtual 405, 3) := by decide +kernel
theorem d_S_answerCreated_26 : decode b_S_answerCreated 26 = .ok (.aload_n 0, 1) := by decide +kernel
theorem d_S_answerCreated_27 : decode b_S_answerCreated 27 = .ok (.getfield 40, 3) := by decide +kernel
theorem d_S_answerCreated_30 : decode b_S_answerCreated 30 = .ok (.aload_n 3, 1) := by decide +kernel
theorem d_S_answerCreated_31 : decode b_S_answerCreated 31 = .ok (.invokevirtual 336, 3) := by decide +kernel
theorem d_S_answerCreated_34 : decode b_S_answerCreated 34 = .ok (.aload_n 0, 1) := by decide +kernel
theorem d_S_answerCreated_35 : decode b_S_answerCreated 35 = .ok (.getfield 40, 3) := by decide +kernel
theorem d_S_answerCreated_38 : decode b_S_answerCreated 38 = .ok (.lconst 0, 1) := by decide +kernel
theorem d_S_answerCreated_39 : decode b_S_answerCreated 39 = .ok (.iconst 4, 1) := by decide +kernel
theorem d_S_answerCreated_40 : decode b_S_answerCreated 40 = .ok (.invokevirtual 306, 3) := by decide +kernel
theorem d_S_answerCreated_43 : decode b_S_answerCreated 43 = .ok (.return_, 1) := by decide +kernel
abbrev rm_S_answerCreated : Room := { frames := 2, cells := 0, slots := 0, locals := 45 }
set_option maxRecDepth 100000 in
set_option maxHeartbeats 4000000 in
theorem k_S_answerCreated {p : Program} {l : Launch} {e : Env} {s : State} {m : MethodId} {args : Array Value} {below : List Frame} {meth : Method} {c : Code} {t : TY} {a0 : Nat} {K : GS → Prop} (X : kX p s m args meth c b_S_answerCreated 4 "TreeServer" t) (hret : meth.sig.returnType = none) (G : GS) (p1 : Nat) (p2 : Int32) (hwp : w_S_answerCreated t G a0 p1 p2 K) : kW p l e rm_S_answerCreated s m args below meth c (MQ below (va_Qv (fun u : GS => K u) (fun u T => HB t u T.heap) (tA t)) args s 0 0 (tA t)) 4 t false 0 [(0, va_rf (some a0)), (1, va_rf (some p1)), (2, .int p2)] [] G := by
  unfold w_S_answerCreated at hwp
  refine kw_aload_n (pc := 0) X d_S_answerCreated_0 rfl 0 rfl ?_
  obtain ⟨f1, hwp⟩ := hwp
  refine kg_63 (a := a0) (pc := 1) X d_S_answerCreated_1 x_364 rfl f1 ?_
  obtain ⟨a2, h_a2, hwp⟩ := hwp
  obtain ⟨f3, hwp⟩ := hwp
  refine kW.st (st' := [.ref a2]) (by simp only [h_a2]; rfl) ?_
  refine kcVp_q (n := 0) (As := []) (rest := []) (pc := 4) X (c_Tree_newest l t G a2 _) (cwV_of (C := "TreeServer$Tree") X x_815 x_812 x_813 x_814 x_2 (by decide +kernel) ⟨rfl, rfl⟩ (by decide)) (rv_2 X f3) rfl rfl (by decide) d_S_answerCreated_4 hwp (fun x4 hwp => ?_)
  refine kw_astore_n (i := 3) (lv' := [(3, va_rf x4), (0, va_rf (some a0)), (1, va_rf (some p1)), (2, .int p2)]) (pc := 7) X d_S_answerCreated_7 rfl (by decide) rfl ?_
  refine kw_aload_n (pc := 8) X d_S_answerCreated_8 rfl 2 rfl ?_
  refine kw_aload_n (pc := 9) X d_S_answerCreated_9 rfl 2 rfl ?_
  obtain ⟨f5, hwp⟩ := hwp
  refine kg_47 (a := p1) (pc := 10) X d_S_answerCreated_10 x_297 rfl f5 ?_
  refine kw_aload_n (pc := 13) X d_S_answerCreated_13 rfl 0 rfl ?_
  refine kw_aload_n (pc := 14) X d_S_answerCreated_14 rfl 2 rfl ?_
  refine kg_50 (a := p1) (pc := 15) X d_S_answerCreated_15 x_303 rfl f5 ?_
  obtain ⟨a6, h_a6, hwp⟩ := hwp
  refine kW.st (st' := [va_rf (gr G 50 p1), .ref a6, .long (gl G 47 p1), .ref p1]) (by simp only [h_a6]; rfl) ?_
  refine kcV_v (n := 3) (As := [.long (gl G 47 p1), .ref a6, va_rf (gr G 50 p1)]) (rest := []) (pc := 18) X rfl (c_Fid_place l t G p1 (gl G 47 p1) a6 (gr G 50 p1) _) (cwV_of (C := "TreeServer$Fid") X x_675 x_672 x_673 x_674 x_12 (by decide +kernel) ⟨rfl, rfl⟩ (by decide)) (rv_7 X f5) rfl rfl (by decide) d_S_answerCreated_18 hwp (fun G7 hwp => ?_)
  refine kw_aload_n (pc := 21) X d_S_answerCreated_21 rfl 2 rfl ?_
  refine kw_iload_n (pc := 22) X d_S_answerCreated_22 rfl 3 rfl ?_
  refine kcV_v (n := 1) (As := [.int p2]) (rest := []) (pc := 23) X rfl (c_Fid_open l t G7 p1 p2 _) (cwV_of (C := "TreeServer$Fid") X x_764 x_761 x_762 x_763 x_12 (by decide +kernel) ⟨rfl, rfl⟩ (by decide)) (rv_7 X f5) rfl rfl (by decide) d_S_answerCreated_23 hwp (fun G8 hwp => ?_)
  refine kw_aload_n (pc := 26) X d_S_answerCreated_26 rfl 1 rfl ?_
  refine kg_67 (a := a0) (pc := 27) X d_S_answerCreated_27 x_368 rfl f1 ?_
  refine kw_aload_n (pc := 30) X d_S_answerCreated_30 rfl 0 rfl ?_
  obtain ⟨a9, h_a9, hwp⟩ := hwp
  obtain ⟨f10, hwp⟩ := hwp
  refine kW.st (st' := [.ref a6, .ref a9]) (by simp only [h_a6, h_a9]; rfl) ?_
  refine kcV_v (n := 1) (As := [.ref a6]) (rest := []) (pc := 31) X rfl (c_Answer_putQid l t G8 a9 a6 _) (cwV_of (C := "TreeServer$Answer") X x_679 x_676 x_677 x_678 x_10 (by decide +kernel) ⟨rfl, rfl⟩ (by decide)) (rv_6 X f10) rfl rfl (by decide) d_S_answerCreated_31 hwp (fun G11 hwp => ?_)
  refine kw_aload_n (pc := 34) X d_S_answerCreated_34 rfl 1 rfl ?_
  refine kg_67 (a := a0) (pc := 35) X d_S_answerCreated_35 x_368 rfl f1 ?_
  refine kw_lconst (v := 0) (pc := 38) X d_S_answerCreated_38 (by decide) ?_
  refine kw_iconst (v := 4) (pc := 39) X d_S_answerCreated_39 (by decide) ?_
  obtain ⟨a12, h_a12, hwp⟩ := hwp
  obtain ⟨f13, hwp⟩ := hwp
  refine kW.st (st' := [.int (4 : Int32), .long (0 : Int64), .ref a12]) (by simp only [h_a12]; rfl) ?_
  refine kcV_v (n := 2) (As := [.long (0 : Int64), .int (4 : Int32)]) (rest := []) (pc := 40) X rfl (c_Answer_put l t G11 a12 (0 : Int64) (4 : Int32) _) (cwV_of (C := "TreeServer$Answer") X x_549 x_640 x_547 x_548 x_10 (by decide +kernel) ⟨rfl, rfl⟩ (by decide)) (rv_6 X f13) rfl rfl (by decide) d_S_answerCreated_40 hwp (fun G14 hwp => ?_)
  exact kr_v (pc := 43) X hret d_S_answerCreated_43 hwp
set_option maxRecDepth 100000 in
set_option maxHeartbeats 4000000 in
theorem c_S_answerCreated (l : Launch) (t : TY) (G : GS) (a0 : Nat) (p1 : Nat) (p2 : Int32) (K : GS → Prop) : Met l y_S_answerCreated (Cond.code y_S_answerCreated b_S_answerCreated 4 (Option.none : Option Jvm.ClassFile.FieldType) :: GW) rm_S_answerCreated (va_Pc [.ref a0, .ref p1, .int p2] (fun U => HB t G U.heap ∧ HK t U ∧ w_S_answerCreated t G a0 p1 p2 K)) (va_Qv (fun u : GS => K u) (fun u T => HB t u T.heap) (tA t)) 0 0 (tA t) := by
  refine Met.ofW (cc := b_S_answerCreated) (maxL := 4) (ret := none) (by decide) rfl ?_
  intro p e s m args below meth c s₁ B hml hv
  obtain ⟨rfl, hB, hK, hwp⟩ := hv
  have hts := atoms_spec (ws := Cond.code y_S_answerCreated b_S_answerCreated 4 (Option.none : Option Jvm.ClassFile.FieldType) :: GW) B.pre
  have X : kX p s m _ meth c b_S_answerCreated 4 "TreeServer" t := ⟨B.exec, B.bytes, hml, findClass_of_methodNamed B.named, fun w h => hts w (List.mem_cons_of_mem _ h), B.notSynchronized, hK⟩
  have hZ : kZ t false s G s.heap [] := ⟨hB, va_S.rf, fun _ => ⟨rfl, rfl⟩⟩
  rw [lg_entry_eq]
  have hl := lv_entry ([.ref a0, .ref p1, .int p2]) (n := 4) (by simp [lg_sl, rf_cat, cat_i, cat_l, cat_r])
  exact k_S_answerCreated X B.returns _ _ _ hwp s.heap [] _ hl hZ
abbrev b_S_create : ByteArray := prog_1_method_34_code
def y_S_create : MethodName := ⟨"TreeServer", "create", "(LTreeServer$Fid;)Ljava/lang/String;"⟩
theorem d_S_create_0 : decode b_S_create 0 = .ok (.aload_n 1, 1) := by decide +kernel
theorem d_S_create_1 : decode b_S_create 1 = .ok (.getfield 232, 3) := by decide +kernel
theorem d_S_create_4 : decode b_S_create 4 = .ok (.astore_n 2, 1) := by decide +kernel
theorem d_S_create_5 : decode b_S_create 5 = .ok (.aload_n 0, 1) := by decide +kernel
theorem d_S_create_6 : decode b_S_create 6 = .ok (.getfield 33, 3) := by decide +kernel
theorem d_S_create_9 : decode b_S_create 9 = .ok (.aload_n 0, 1) := by decide +kernel
theorem d_S_create_10 : decode b_S_create 10 = .ok (.getfield 33, 3) := by decide +kernel
theorem d_S_create_13 : decode b_S_create 13 = .ok (.getfield 419, 3) := by decide +kernel
theorem d_S_create_16 : decode b_S_create 16 = .ok (.iconst 4, 1) := by decide +kernel
theorem d_S_create_17 : decode b_S_create 17 = .ok (.invokevirtual 178, 3) := by decide +kernel
theorem d_S_create_20 : decode b_S_create 20 = .ok (.l2i, 1) := by decide +kernel
theorem d_S_create_21 : decode b_S_create 21 = .ok (.istore_n 3, 1) := by decide +kernel
theorem d_S_create_22 : decode b_S_create 22 = .ok (.aload_n 0, 1) := by decide +kernel
theorem d_S_create_23 : decode b_S_create 23 = .ok (.getfield 33, 3) := by decide +kernel
theorem d_S_create_26 : decode b_S_create 26 = .ok (.aload_n 0, 1) := by decide +kernel
theorem d_S_create_27 : decode b_S_create 27 = .ok (.getfield 33, 3) := by decide +kernel
theorem d_S_create_30 : decode b_S_create 30 = .ok (.getfield 419, 3) := by decide +kernel
theorem d_S_create_33 : decode b_S_create 33 = .ok (.iconst 4, 1) := by decide +kernel
theorem d_S_create_34 : decode b_S_create 34 = .ok (.iadd, 1) := by decide +kernel
theorem d_S_create_35 : decode b_S_create 35 = .ok (.iconst 1, 1) := by decide +kernel
theorem d_S_create_36 : decode b_S_create 36 = .ok (.invokevirtual 178, 3) := by decide +kernel
theorem d_S_create_39 : decode b_S_create 39 = .ok (.l2i, 1) := by decide +kernel
theorem d_S_create_40 : decode b_S_create 40 = .ok (.istore 4, 2) := by decide +kernel
theorem d_S_create_42 : decode b_S_create 42 = .ok (.aload_n 1, 1) := by decide +kernel
theorem d_S_create_43 : decode b_S_create 43 = .ok (.getfield 340, 3) := by decide +kernel
theorem d_S_create_46 : decode b_S_create 46 = .ok (.iconst (-1), 1) := by decide +kernel
theorem d_S_create_47 : decode b_S_create 47 = .ok (.if_icmp .eq 7, 3) := by decide +kernel
theorem d_S_create_50 : decode b_S_create 50 = .ok (.ldc_w 343, 3) := by decide +kernel
theorem d_S_create_53 : decode b_S_create 53 = .ok (.areturn, 1) := by decide +kernel
theorem d_S_create_54 : decode b_S_create 54 = .ok (.aload_n 2, 1) := by decide +kernel
theorem d_S_create_55 : decode b_S_create 55 = .ok (.invokevirtual 365, 3) := by decide +kernel
theorem d_S_create_58 : decode b_S_create 58 = .ok (.ifCond .ne 7, 3) := by decide +kernel
theorem d_S_create_61 : decode b_S_create 61 = .ok (.ldc_w 368, 3) := by decide +kernel
theorem d_S_create_64 : decode b_S_create 64 = .ok (.areturn, 1) := by decide +kernel
theorem d_S_create_65 : decode b_S_create 65 = .ok (.aload_n 0, 1) := by decide +kernel
theorem d_S_create_66 : decode b_S_create 66 = .ok (.getfield 33, 3) := by decide +kernel
theorem d_S_create_69 : decode b_S_create 69 = .ok (.iconst 0, 1) := by decide +kernel
theorem d_S_create_70 : decode b_S_create 70 = .ok (.invokevirtual 422, 3) := by decide +kernel
theorem d_S_create_73 : decode b_S_create 73 = .ok (.ifCond .ne 7, 3) := by decide +kernel
theorem d_S_create_76 : decode b_S_create 76 = .ok (.ldc_w 425, 3) := by decide +kernel
theorem d_S_create_79 : decode b_S_create 79 = .ok (.areturn, 1) := by decide +kernel
theorem d_S_create_80 : decode b_S_create 80 = .ok (.iload_n 3, 1) := by decide +kernel
theorem d_S_create_81 : decode b_S_create 81 = .ok (.ldc_w 427, 3) := by decide +kernel
theorem d_S_create_84 : decode b_S_create 84 = .ok (.iand, 1) := by decide +kernel
theorem d_S_create_85 : decode b_S_create 85 = .ok (.ifCond .eq 7, 3) := by decide +kernel
theorem d_S_create_88 : decode b_S_create 88 = .ok (.iconst 1, 1) := by decide +kernel
theorem d_S_create_89 : decode b_S_create 89 = .ok (.goto 4, 3) := by decide +kernel
theorem d_S_create_92 : decode b_S_create 92 = .ok (.iconst 0, 1) := by decide +kernel
theorem d_S_create_93 : decode b_S_create 93 = .ok (.istore 5, 2) := by decide +kernel
theorem d_S_create_95 : decode b_S_create 95 = .ok (.iload_n 3, 1) := by decide +kernel
theorem d_S_create_96 : decode b_S_create 96 = .ok (.ldc_w 428, 3) := by decide +kernel
theorem d_S_create_99 : decode b_S_create 99 = .ok (.iand, 1) := by decide +kernel
theorem d_S_create_100 : decode b_S_create 100 = .ok (.ifCond .ne 21, 3) := by decide +kernel
theorem d_S_create_103 : decode b_S_create 103 = .ok (.iload 4, 2) := by decide +kernel
theorem d_S_create_105 : decode b_S_create 105 = .ok (.bipush (-84), 2) := by decide +kernel
theorem d_S_create_107 : decode b_S_create 107 = .ok (.iand, 1) := by decide +kernel
theorem d_S_create_108 : decode b_S_create 108 = .ok (.ifCond .ne 13, 3) := by decide +kernel
theorem d_S_create_111 : decode b_S_create 111 = .ok (.iload 4, 2) := by decide +kernel
theorem d_S_create_113 : decode b_S_create 113 = .ok (.ifCond .eq 12, 3) := by decide +kernel
theorem d_S_create_116 : decode b_S_create 116 = .ok (.iload 5, 2) := by decide +kernel
theorem d_S_create_118 : decode b_S_create 118 = .ok (.ifCond .eq 7, 3) := by decide +kernel
theorem d_S_create_121 : decode b_S_create 121 = .ok (.ldc_w 385, 3) := by decide +kernel
theorem d_S_create_124 : decode b_S_create 124 = .ok (.areturn, 1) := by decide +kernel
theorem d_S_create_125 : decode b_S_create 125 = .ok (.aload_n 2, 1) := by decide +kernel
theorem d_S_create_126 : decode b_S_create 126 = .ok (.aload_n 1, 1) := by decide +kernel
theorem d_S_create_127 : decode b_S_create 127 = .ok (.getfield 275, 3) := by decide +kernel
theorem d_S_create_130 : decode b_S_create 130 = .ok (.iconst 2, 1) := by decide +kernel
theorem d_S_create_131 : decode b_S_create 131 = .ok (.invokevirtual 279, 3) := by decide +kernel
theorem d_S_create_134 : decode b_S_create 134 = .ok (.ifCond .ne 7, 3) := by decide +kernel
theorem d_S_create_137 : decode b_S_create 137 = .ok (.ldc_w 370, 3) := by decide +kernel
theorem d_S_create_140 : decode b_S_create 140 = .ok (.areturn, 1) := by decide +kernel
theorem d_S_create_141 : decode b_S_create 141 = .ok (.aload_n 0, 1) := by decide +kernel
theorem d_S_create_142 : decode b_S_create 142 = .ok (.getfield 10, 3) := by decide +kernel
theorem d_S_create_145 : decode b_S_create 145 = .ok (.aload_n 2, 1) := by decide +kernel
theorem d_S_create_146 : decode b_S_create 146 = .ok (.aload_n 0, 1) := by decide +kernel
theorem d_S_create_147 : decode b_S_create 147 = .ok (.getfield 33, 3) := by decide +kernel
theorem d_S_create_150 : decode b_S_create 150 = .ok (.iconst 0, 1) := by decide +kernel
theorem d_S_create_151 : decode b_S_create 151 = .ok (.invokevirtual 381, 3) := by decide +kernel
theorem d_S_create_154 : decode b_S_create 154 = .ok (.ifnull 7, 3) := by decide +kernel
theorem d_S_create_157 : decode b_S_create 157 = .ok (.ldc_w 429, 3) := by decide +kernel
theorem d_S_create_160 : decode b_S_create 160 = .ok (.areturn, 1) := by decide +kernel
theorem d_S_create_161 : decode b_S_create 161 = .ok (.aload_n 0, 1) := by decide +kernel
theorem d_S_create_162 : decode b_S_create 162 = .ok (.getfield 10, 3) := by decide +kernel
theorem d_S_create_165 : decode b_S_create 165 = .ok (.aload_n 2, 1) := by decide +kernel
theorem d_S_create_166 : decode b_S_create 166 = .ok (.invokevirtual 431, 3) := by decide +kernel
theorem d_S_create_169 : decode b_S_create 169 = .ok (.ifCond .ne 7, 3) := by decide +kernel
theorem d_S_create_172 : decode b_S_create 172 = .ok (.ldc_w 434, 3) := by decide +kernel
theorem d_S_create_175 : decode b_S_create 175 = .ok (.areturn, 1) := by decide +kernel
theorem d_S_create_176 : decode b_S_create 176 = .ok (.aload_n 0, 1) := by decide +kernel
theorem d_S_create_177 : decode b_S_create 177 = .ok (.getfield 26, 3) := by decide +kernel
theorem d_S_create_180 : decode b_S_create 180 = .ok (.getstatic 436, 3) := by decide +kernel
theorem d_S_create_183 : decode b_S_create 183 = .ok (.aload_n 2, 1) := by decide +kernel
theorem d_S_create_184 : decode b_S_create 184 = .ok (.aload_n 1, 1) := by decide +kernel
theorem d_S_create_185 : decode b_S_create 185 = .ok (.getfield 275, 3) := by decide +kernel
theorem d_S_create_188 : decode b_S_create 188 = .ok (.aload_n 0, 1) := by decide +kernel
theorem d_S_create_189 : decode b_S_create 189 = .ok (.getfield 95, 3) := by decide +kernel
theorem d_S_create_192 : decode b_S_create 192 = .ok (.invokevirtual 289, 3) := by decide +kernel
theorem d_S_create_195 : decode b_S_create 195 = .ok (.aload_n 0, 1) := by decide +kernel
theorem d_S_create_196 : decode b_S_create 196 = .ok (.getfield 26, 3) := by decide +kernel
theorem d_S_create_199 : decode b_S_create 199 = .ok (.iload_n 3, 1) := by decide +kernel
theorem d_S_create_200 : decode b_S_create 200 = .ok (.iload 5, 2) := by decide +kernel
theorem d_S_create_202 : decode b_S_create 202 = .ok (.ifCond .eq 9, 3) := by decide +kernel
theorem d_S_create_205 : decode b_S_create 205 = .ok (.sipush (-512), 3) := by decide +kernel
theorem d_S_create_208 : decode b_S_create 208 = .ok (.goto 6, 3) := by decide +kernel
theorem d_S_create_211 : decode b_S_create 211 = .ok (.sipush (-439), 3) := by decide +kernel
theorem d_S_create_214 : decode b_S_create 214 = .ok (.aload_n 2, 1) := by decide +kernel
theorem d_S_create_215 : decode b_S_create 215 = .ok (.getfield 439, 3) := by decide +kernel
theorem d_S_create_218 : decode b_S_create 218 = .ok (.ior, 1) := by decide +kernel
theorem d_S_create_219 : decode b_S_create 219 = .ok (.iand, 1) := by decide +kernel
theorem d_S_create_220 : decode b_S_create 220 = .ok (.putfield 441, 3) := by decide +kernel
theorem d_S_create_223 : decode b_S_create 223 = .ok (.aload_n 0, 1) := by decide +kernel
theorem d_S_create_224 : decode b_S_create 224 = .ok (.getfield 26, 3) := by decide +kernel
theorem d_S_create_227 : decode b_S_create 227 = .ok (.aload_n 0, 1) := by decide +kernel
theorem d_S_create_228 : decode b_S_create 228 = .ok (.getfield 33, 3) := by decide +kernel
theorem d_S_create_231 : decode b_S_create 231 = .ok (.iconst 0, 1) := by decide +kernel
theorem d_S_create_232 : decode b_S_create 232 = .ok (.aload_n 0, 1) := by decide +kernel
theorem d_S_create_233 : decode b_S_create 233 = .ok (.getfield 26, 3) := by decide +kernel
theorem d_S_create_236 : decode b_S_create 236 = .ok (.getfield 442, 3) := by decide +kernel
theorem d_S_create_239 : decode b_S_create 239 = .ok (.invokevirtual 445, 3) := by decide +kernel
theorem d_S_create_242 : decode b_S_create 242 = .ok (.putfield 449, 3) := by decide +kernel
theorem d_S_create_245 : decode b_S_create 245 = .ok (.aload_n 0, 1) := by decide +kernel
theorem d_S_create_246 : decode b_S_create 246 = .ok (.aload_n 0, 1) := by decide +kernel
theorem d_S_create_247 : decode b_S_create 247 = .ok (.getfield 33, 3) := by decide +kernel
theorem d_S_create_250 : decode b_S_create 250 = .ok (.getfield 413, 3) := by decide +kernel
theorem d_S_create_253 : decode b_S_create 253 = .ok (.invokevirtual 257, 3) := by decide +kernel
theorem d_S_create_256 : decode b_S_create 256 = .ok (.aload_n 0, 1) := by decide +kernel
theorem d_S_create_257 : decode b_S_create 257 = .ok (.getfield 19, 3) := by decide +kernel
theorem d_S_create_260 : decode b_S_create 260 = .ok (.getfield 55, 3) := by decide +kernel
theorem d_S_create_263 : decode b_S_create 263 = .ok (.ifCond .eq 10, 3) := by decide +kernel
theorem d_S_create_266 : decode b_S_create 266 = .ok (.aload_n 0, 1) := by decide +kernel
theorem d_S_create_267 : decode b_S_create 267 = .ok (.aload_n 1, 1) := by decide +kernel
theorem d_S_create_268 : decode b_S_create 268 = .ok (.iload 4, 2) := by decide +kernel
theorem d_S_create_270 : decode b_S_create 270 = .ok (.invokevirtual 452, 3) := by decide +kernel
theorem d_S_create_273 : decode b_S_create 273 = .ok (.ldc 174, 2) := by decide +kernel
theorem d_S_create_275 : decode b_S_create 275 = .ok (.areturn, 1) := by decide +kernel
abbrev rm_S_create : Room := { frames := 4, cells := 0, slots := 0, locals := 92 }
set_option maxRecDepth 100000 in
set_option maxHeartbeats 4000000 in
theorem k_S_create_214 {p : Program} {l : Launch} {e : Env} {s : State} {m : MethodId} {args : Array Value} {below : List Frame} {meth : Method} {c : Code} {t : TY} {a0 : Nat} {K : GS → Option Nat → Prop} (X : kX p s m args meth c b_S_create 6 "TreeServer" t) (hret : meth.sig.returnType = some (.object "java/lang/String")) (p1 : Nat) (l2 : Option Nat) (l4 : Int32) (s0 : Option Nat) (s1 : Int32) (s2 : Int32) (G : GS) (hwp : w_S_create_214 t a0 K p1 l2 l4 s0 s1 s2 G) : kW p l e rm_S_create s m args below meth c (MQ below (va_Qq (fun r (u : GS) => K u r) (fun u T => HB t u T.heap) (tA t)) args s 0 0 (tA t)) 6 t false 214 [(0, va_rf (some a0)), (1, va_rf (some p1)), (2, va_rf l2), (4, .int l4)] [.int s2, .int s1, va_rf s0] G := by
  unfold w_S_create_214 at hwp
  refine kw_aload_n (pc := 214) X d_S_create_214 rfl 2 rfl ?_
  obtain ⟨a1, h_a1, hwp⟩ := hwp
  obtain ⟨f2, hwp⟩ := hwp
  refine kg_2 (a := a1) (pc := 215) X d_S_create_215 x_54 h_a1 f2 ?_
  refine kw_ior (pc := 218) X d_S_create_218 ?_
  refine kw_iand (pc := 219) X d_S_create_219 ?_
  obtain ⟨a3, h_a3, hwp⟩ := hwp
  obtain ⟨f4, hwp⟩ := hwp
  refine kp_27 (a := a3) (x := (s1 &&& (s2 ||| (gi G 2 a1)))) (pc := 220) X rfl d_S_create_220 x_176 h_a3 f4 ?_
  obtain ⟨G5, e_G5⟩ : ∃ g, g = si G 27 a3 (s1 &&& (s2 ||| (gi G 2 a1))) := ⟨_, rfl⟩
  have hwp := hwp G5 e_G5
  refine kW.g e_G5.symm ?_
  refine kw_aload_n (pc := 223) X d_S_create_223 rfl 0 rfl ?_
  obtain ⟨f6, hwp⟩ := hwp
  refine kg_65 (a := a0) (pc := 224) X d_S_create_224 x_366 rfl f6 ?_
  refine kw_aload_n (pc := 227) X d_S_create_227 rfl 0 rfl ?_
  refine kg_66 (a := a0) (pc := 228) X d_S_create_228 x_367 rfl f6 ?_
  refine kw_iconst (v := 0) (pc := 231) X d_S_create_231 (by decide) ?_
  refine kw_aload_n (pc := 232) X d_S_create_232 rfl 0 rfl ?_
  refine kg_65 (a := a0) (pc := 233) X d_S_create_233 x_366 rfl f6 ?_
  obtain ⟨a7, h_a7, hwp⟩ := hwp
  obtain ⟨f8, hwp⟩ := hwp
  refine kg_31 (a := a7) (pc := 236) X d_S_create_236 x_184 h_a7 f8 ?_
  obtain ⟨a9, h_a9, hwp⟩ := hwp
  obtain ⟨f10, hwp⟩ := hwp
  obtain ⟨a11, h_a11, hwp⟩ := hwp
  refine kW.st (st' := [.ref a11, .int (0 : Int32), .ref a9, va_rf (gr G5 65 a0)]) (by simp only [h_a11, h_a9]; rfl) ?_
  refine kcV_i (n := 2) (As := [.int (0 : Int32), .ref a11]) (rest := [va_rf (gr G5 65 a0)]) (pc := 239) X rfl (c_Message_copyText l t G5 a9 (0 : Int32) a11 _) (cwV_of (C := "TreeServer$Message") X x_800 x_797 x_798 x_799 x_9 (by decide +kernel) ⟨rfl, rfl⟩ (by decide)) (rv_5 X f10) rfl rfl (by simp [rf_cat, cat_i, cat_l, cat_r]) d_S_create_239 hwp (fun v13 G12 hwp => ?_)
  refine kp_32 (a := a7) (x := v13) (pc := 242) X rfl d_S_create_242 x_186 h_a7 f8 ?_
  obtain ⟨G14, e_G14⟩ : ∃ g, g = si G12 32 a7 v13 := ⟨_, rfl⟩
  have hwp := hwp G14 e_G14
  refine kW.g e_G14.symm ?_
  refine kw_aload_n (pc := 245) X d_S_create_245 rfl 0 rfl ?_
  refine kw_aload_n (pc := 246) X d_S_create_246 rfl 0 rfl ?_
  refine kg_66 (a := a0) (pc := 247) X d_S_create_247 x_367 rfl f6 ?_
  obtain ⟨a15, h_a15, hwp⟩ := hwp
  obtain ⟨f16, hwp⟩ := hwp
  refine kg_37 (a := a15) (pc := 250) X d_S_create_250 x_232 h_a15 f16 ?_
  refine kcV_v (n := 1) (As := [.int (gi G14 37 a15)]) (rest := []) (pc := 253) X rfl (c_S_carryOut l t G14 a0 (gi G14 37 a15) _) (cwV_of (C := "TreeServer") X x_456 x_453 x_455 xp_5 x_1 (by decide +kernel) ⟨rfl, rfl⟩ (by decide)) (rv_9 X f6) rfl rfl (by decide) d_S_create_253 hwp (fun G17 hwp => ?_)
  refine kw_aload_n (pc := 256) X d_S_create_256 rfl 0 rfl ?_
  refine kg_64 (a := a0) (pc := 257) X d_S_create_257 x_365 rfl f6 ?_
  obtain ⟨a18, h_a18, hwp⟩ := hwp
  obtain ⟨f19, hwp⟩ := hwp
  refine kg_19 (a := a18) (pc := 260) X d_S_create_260 x_146 h_a18 f19 ?_
  refine kw_if_eq (tgt := 273) (pc := 263) X d_S_create_263 (by decide) (fun h => ?_) (fun h => ?_)
  · have hwp := ite_t h hwp
    refine kw_ldcS (tx := "") (j := 2) (pc := 273) X d_S_create_273 (by decide) rfl ?_
    exact kr_q (pc := 275) X hret d_S_create_275 (Or.inl ⟨_, rfl⟩) hwp
  · have hwp := ite_f h hwp
    refine kw_aload_n (pc := 266) X d_S_create_266 rfl 0 rfl ?_
    refine kw_aload_n (pc := 267) X d_S_create_267 rfl 1 rfl ?_
    refine kw_iload (pc := 268) X d_S_create_268 3 rfl ?_
    refine kcV_v (n := 2) (As := [.ref p1, .int l4]) (rest := []) (pc := 270) X rfl (c_S_answerCreated l t G17 a0 p1 l4 _) (cwV_of (C := "TreeServer") X x_811 x_808 x_810 xp_23 x_1 (by decide +kernel) ⟨rfl, rfl⟩ (by decide)) (rv_9 X f6) rfl rfl (by decide) d_S_create_270 hwp (fun G20 hwp => ?_)
    refine kw_ldcS (tx := "") (j := 2) (pc := 273) X d_S_create_273 (by decide) rfl ?_
    exact kr_q (pc := 275) X hret d_S_create_275 (Or.inl ⟨_, rfl⟩) hwp
set_option maxRecDepth 100000 in
set_option maxHeartbeats 4000000 in
theorem k_S_create_125 {p : Program} {l : Launch} {e : Env} {s : State} {m : MethodId} {args : Array Value} {below : List Frame} {meth : Method} {c : Code} {t : TY} {a0 : Nat} {K : GS → Option Nat → Prop} (X : kX p s m args meth c b_S_create 6 "TreeServer" t) (hret : meth.sig.returnType = some (.object "java/lang/String")) (p1 : Nat) (l2 : Option Nat) (l3 : Int32) (l4 : Int32) (l5 : Int32) (G : GS) (hwp : w_S_create_125 t a0 K p1 l2 l3 l4 l5 G) : kW p l e rm_S_create s m args below meth c (MQ below (va_Qq (fun r (u : GS) => K u r) (fun u T => HB t u T.heap) (tA t)) args s 0 0 (tA t)) 6 t false 125 [(0, va_rf (some a0)), (1, va_rf (some p1)), (2, va_rf l2), (3, .int l3), (4, .int l4), (5, .int l5)] [] G := by
  unfold w_S_create_125 at hwp
  refine kw_aload_n (pc := 125) X d_S_create_125 rfl 2 rfl ?_
  refine kw_aload_n (pc := 126) X d_S_create_126 rfl 1 rfl ?_
  obtain ⟨f1, hwp⟩ := hwp
  refine kg_50 (a := p1) (pc := 127) X d_S_create_127 x_303 rfl f1 ?_
  refine kw_iconst (v := 2) (pc := 130) X d_S_create_130 (by decide) ?_
  obtain ⟨a2, h_a2, hwp⟩ := hwp
  obtain ⟨f3, hwp⟩ := hwp
  refine kW.st (st' := [.int (2 : Int32), va_rf (gr G 50 p1), .ref a2]) (by simp only [h_a2]; rfl) ?_
  refine kcVp_i (n := 2) (As := [va_rf (gr G 50 p1), .int (2 : Int32)]) (rest := []) (pc := 131) X (c_Node_lets l t G a2 (gr G 50 p1) (2 : Int32) _) (cwV_of (C := "TreeServer$Node") X x_439 x_436 x_437 x_438 x_3 (by decide +kernel) ⟨rfl, rfl⟩ (by decide)) (rv_1 X f3) rfl rfl (by decide) d_S_create_131 hwp (fun v4 hwp => ?_)
  obtain ⟨b_v4, hwp⟩ := hwp
  refine kw_if_ne (tgt := 141) (pc := 134) X d_S_create_134 (by decide) (fun h => ?_) (fun h => ?_)
  · have hwp := ite_t h hwp
    refine kw_aload_n (pc := 141) X d_S_create_141 rfl 0 rfl ?_
    obtain ⟨f5, hwp⟩ := hwp
    refine kg_63 (a := a0) (pc := 142) X d_S_create_142 x_364 rfl f5 ?_
    refine kw_aload_n (pc := 145) X d_S_create_145 rfl 2 rfl ?_
    refine kw_aload_n (pc := 146) X d_S_create_146 rfl 0 rfl ?_
    refine kg_66 (a := a0) (pc := 147) X d_S_create_147 x_367 rfl f5 ?_
    refine kw_iconst (v := 0) (pc := 150) X d_S_create_150 (by decide) ?_
    obtain ⟨a6, h_a6, hwp⟩ := hwp
    obtain ⟨f7, hwp⟩ := hwp
    obtain ⟨a8, h_a8, hwp⟩ := hwp
    refine kW.st (st' := [.int (0 : Int32), .ref a8, .ref a2, .ref a6]) (by simp only [h_a2, h_a8, h_a6]; rfl) ?_
    refine kcVp_q (n := 3) (As := [.ref a2, .ref a8, .int (0 : Int32)]) (rest := []) (pc := 151) X (c_Tree_entry l t G a6 a2 a8 (0 : Int32) _) (cwV_of (C := "TreeServer$Tree") X x_710 x_707 x_708 x_709 x_2 (by decide +kernel) ⟨rfl, rfl⟩ (by decide)) (rv_2 X f7) rfl rfl (by decide) d_S_create_151 hwp (fun x9 hwp => ?_)
    refine kw_ifnull (tgt := 161) (pc := 154) X d_S_create_154 (by decide) (fun h => ?_) (fun h => ?_)
    · have hwp := ite_t h hwp
      refine kw_aload_n (pc := 161) X d_S_create_161 rfl 0 rfl ?_
      refine kg_63 (a := a0) (pc := 162) X d_S_create_162 x_364 rfl f5 ?_
      refine kw_aload_n (pc := 165) X d_S_create_165 rfl 2 rfl ?_
      refine kW.st (st' := [.ref a2, .ref a6]) (by simp only [h_a2, h_a6]; rfl) ?_
      refine kcVp_i (n := 1) (As := [.ref a2]) (rest := []) (pc := 166) X (c_Tree_hasRoomForEntry l t G a6 a2 _) (cwV_of (C := "TreeServer$Tree") X x_786 x_783 x_784 x_785 x_2 (by decide +kernel) ⟨rfl, rfl⟩ (by decide)) (rv_2 X f7) rfl rfl (by decide) d_S_create_166 hwp (fun v10 hwp => ?_)
      obtain ⟨b_v10, hwp⟩ := hwp
      refine kw_if_ne (tgt := 176) (pc := 169) X d_S_create_169 (by decide) (fun h => ?_) (fun h => ?_)
      · have hwp := ite_t h hwp
        refine kw_aload_n (pc := 176) X d_S_create_176 rfl 0 rfl ?_
        refine kg_65 (a := a0) (pc := 177) X d_S_create_177 x_366 rfl f5 ?_
        refine ks_3 (pc := 180) X d_S_create_180 x_796 ?_
        refine kw_aload_n (pc := 183) X d_S_create_183 rfl 2 rfl ?_
        refine kw_aload_n (pc := 184) X d_S_create_184 rfl 1 rfl ?_
        refine kg_50 (a := p1) (pc := 185) X d_S_create_185 x_303 rfl f1 ?_
        refine kw_aload_n (pc := 188) X d_S_create_188 rfl 0 rfl ?_
        refine kg_69 (a := a0) (pc := 189) X d_S_create_189 x_370 rfl f5 ?_
        obtain ⟨a11, h_a11, hwp⟩ := hwp
        obtain ⟨f12, hwp⟩ := hwp
        refine kW.st (st' := [.int (gi G 69 a0), va_rf (gr G 50 p1), .ref a2, va_rf (some (tad t 3)), .ref a11]) (by simp only [h_a2, h_a11]; rfl) ?_
        refine kcV_v (n := 4) (As := [va_rf (some (tad t 3)), .ref a2, va_rf (gr G 50 p1), .int (gi G 69 a0)]) (rest := []) (pc := 192) X rfl (c_Change_begin l t G a11 (some (tad t 3)) a2 (gr G 50 p1) (gi G 69 a0) _) (cwV_of (C := "TreeServer$Change") X x_452 x_449 x_450 x_451 x_7 (by decide +kernel) ⟨rfl, rfl⟩ (by decide)) (rv_4 X f12) rfl rfl (by decide) d_S_create_192 hwp (fun G13 hwp => ?_)
        refine kw_aload_n (pc := 195) X d_S_create_195 rfl 0 rfl ?_
        refine kg_65 (a := a0) (pc := 196) X d_S_create_196 x_366 rfl f5 ?_
        refine kw_iload_n (pc := 199) X d_S_create_199 rfl 3 rfl ?_
        refine kw_iload (pc := 200) X d_S_create_200 5 rfl ?_
        refine kw_if_eq (tgt := 211) (pc := 202) X d_S_create_202 (by decide) (fun h => ?_) (fun h => ?_)
        · have hwp := ite_t h hwp
          refine kw_sipush (v := -439) (pc := 211) X d_S_create_211 (by decide) ?_
          exact kW.sub [0, 1, 2, 4] rfl (k_S_create_214 X hret  _ _ _ _ _ _ _ hwp)
        · have hwp := ite_f h hwp
          refine kw_sipush (v := -512) (pc := 205) X d_S_create_205 (by decide) ?_
          refine kw_goto (tgt := 214) (pc := 208) X d_S_create_208 (by decide) ?_
          exact kW.sub [0, 1, 2, 4] rfl (k_S_create_214 X hret  _ _ _ _ _ _ _ hwp)
      · have hwp := ite_f (not_not_intro h) hwp
        refine kw_ldcwS (j := 23) (pc := 172) X d_S_create_172 (by decide) rfl ?_
        exact kr_q (pc := 175) X hret d_S_create_175 (Or.inl ⟨_, rfl⟩) hwp
    · have hwp := ite_f h hwp
      refine kw_ldcwS (j := 22) (pc := 157) X d_S_create_157 (by decide) rfl ?_
      exact kr_q (pc := 160) X hret d_S_create_160 (Or.inl ⟨_, rfl⟩) hwp
  · have hwp := ite_f (not_not_intro h) hwp
    refine kw_ldcwS (j := 15) (pc := 137) X d_S_create_137 (by decide) rfl ?_
    exact kr_q (pc := 140) X hret d_S_create_140 (Or.inl ⟨_, rfl⟩) hwp
set_option maxRecDepth 100000 in
set_option maxHeartbeats 4000000 in
theorem k_S_create_93 {p : Program} {l : Launch} {e : Env} {s : State} {m : MethodId} {args : Array Value} {below : List Frame} {meth : Method} {c : Code} {t : TY} {a0 : Nat} {K : GS → Option Nat → Prop} (X : kX p s m args meth c b_S_create 6 "TreeServer" t) (hret : meth.sig.returnType = some (.object "java/lang/String")) (p1 : Nat) (l2 : Option Nat) (l3 : Int32) (l4 : Int32) (s0 : Int32) (G : GS) (hwp : w_S_create_93 t a0 K p1 l2 l3 l4 s0 G) : kW p l e rm_S_create s m args below meth c (MQ below (va_Qq (fun r (u : GS) => K u r) (fun u T => HB t u T.heap) (tA t)) args s 0 0 (tA t)) 6 t false 93 [(0, va_rf (some a0)), (1, va_rf (some p1)), (2, va_rf l2), (3, .int l3), (4, .int l4)] [.int s0] G := by
  unfold w_S_create_93 at hwp
  refine kw_istore (i := 5) (lv' := [(5, .int s0), (0, va_rf (some a0)), (1, va_rf (some p1)), (2, va_rf l2), (3, .int l3), (4, .int l4)]) (pc := 93) X d_S_create_93 (by decide) rfl ?_
  refine kw_iload_n (pc := 95) X d_S_create_95 rfl 4 rfl ?_
  refine kw_ldcw (v := 536870400) (pc := 96) X d_S_create_96 x_781 ?_
  refine kw_iand (pc := 99) X d_S_create_99 ?_
  refine kw_if_ne (tgt := 121) (pc := 100) X d_S_create_100 (by decide) (fun h => ?_) (fun h => ?_)
  · have hwp := ite_t h hwp
    refine kw_ldcwS (j := 19) (pc := 121) X d_S_create_121 (by decide) rfl ?_
    exact kr_q (pc := 124) X hret d_S_create_124 (Or.inl ⟨_, rfl⟩) hwp
  · have hwp := ite_f (not_not_intro h) hwp
    refine kw_iload (pc := 103) X d_S_create_103 5 rfl ?_
    refine kw_bipush (v := -84) (pc := 105) X d_S_create_105 (by decide) ?_
    refine kw_iand (pc := 107) X d_S_create_107 ?_
    refine kw_if_ne (tgt := 121) (pc := 108) X d_S_create_108 (by decide) (fun h => ?_) (fun h => ?_)
    · have hwp := ite_t h hwp
      refine kw_ldcwS (j := 19) (pc := 121) X d_S_create_121 (by decide) rfl ?_
      exact kr_q (pc := 124) X hret d_S_create_124 (Or.inl ⟨_, rfl⟩) hwp
    · have hwp := ite_f (not_not_intro h) hwp
      refine kw_iload (pc := 111) X d_S_create_111 5 rfl ?_
      refine kw_if_eq (tgt := 125) (pc := 113) X d_S_create_113 (by decide) (fun h => ?_) (fun h => ?_)
      · have hwp := ite_t h hwp
        exact kW.sub [1, 2, 3, 4, 5, 0] rfl (k_S_create_125 X hret  _ _ _ _ _ _ hwp)
      · have hwp := ite_f h hwp
        refine kw_iload (pc := 116) X d_S_create_116 0 rfl ?_
        refine kw_if_eq (tgt := 125) (pc := 118) X d_S_create_118 (by decide) (fun h => ?_) (fun h => ?_)
        · have hwp := ite_t h hwp
          exact kW.sub [1, 2, 3, 4, 5, 0] rfl (k_S_create_125 X hret  _ _ _ _ _ _ hwp)
        · have hwp := ite_f h hwp
          refine kw_ldcwS (j := 19) (pc := 121) X d_S_create_121 (by decide) rfl ?_
          exact kr_q (pc := 124) X hret d_S_create_124 (Or.inl ⟨_, rfl⟩) hwp
set_option maxRecDepth 100000 in
set_option maxHeartbeats 4000000 in
theorem k_S_create {p : Program} {l : Launch} {e : Env} {s : State} {m : MethodId} {args : Array Value} {below : List Frame} {meth : Method} {c : Code} {t : TY} {a0 : Nat} {K : GS → Option Nat → Prop} (X : kX p s m args meth c b_S_create 6 "TreeServer" t) (hret : meth.sig.returnType = some (.object "java/lang/String")) (G : GS) (p1 : Nat) (hwp : w_S_create t G a0 p1 K) : kW p l e rm_S_create s m args below meth c (MQ below (va_Qq (fun r (u : GS) => K u r) (fun u T => HB t u T.heap) (tA t)) args s 0 0 (tA t)) 6 t false 0 [(0, va_rf (some a0)), (1, va_rf (some p1))] [] G := by
  unfold w_S_create at hwp
  refine kw_aload_n (pc := 0) X d_S_create_0 rfl 1 rfl ?_
  obtain ⟨f1, hwp⟩ := hwp
  refine kg_48 (a := p1) (pc := 1) X d_S_create_1 x_300 rfl f1 ?_
  refine kw_astore_n (i := 2) (lv' := [(2, va_rf (gr G 48 p1)), (0, va_rf (some a0)), (1, va_rf (some p1))]) (pc := 4) X d_S_create_4 rfl (by decide) rfl ?_
  refine kw_aload_n (pc := 5) X d_S_create_5 rfl 1 rfl ?_
  obtain ⟨f2, hwp⟩ := hwp
  refine kg_66 (a := a0) (pc := 6) X d_S_create_6 x_367 rfl f2 ?_
  refine kw_aload_n (pc := 9) X d_S_create_9 rfl 1 rfl ?_
  refine kg_66 (a := a0) (pc := 10) X d_S_create_10 x_367 rfl f2 ?_
  obtain ⟨a3, h_a3, hwp⟩ := hwp
  obtain ⟨f4, hwp⟩ := hwp
  refine kg_43 (a := a3) (pc := 13) X d_S_create_13 x_243 h_a3 f4 ?_
  refine kw_iconst (v := 4) (pc := 16) X d_S_create_16 (by decide) ?_
  refine kW.st (st' := [.int (4 : Int32), .int (gi G 43 a3), .ref a3]) (by simp only [h_a3]; rfl) ?_
  refine kcVp_l (n := 2) (As := [.int (gi G 43 a3), .int (4 : Int32)]) (rest := []) (pc := 17) X (c_Message_number l t G a3 (gi G 43 a3) (4 : Int32) _) (cwV_of (C := "TreeServer$Message") X x_541 x_578 x_539 x_540 x_9 (by decide +kernel) ⟨rfl, rfl⟩ (by decide)) (rv_5 X f4) rfl rfl (by decide) d_S_create_17 hwp (fun v5 hwp => ?_)
  refine kw_l2i (pc := 20) X d_S_create_20 ?_
  obtain ⟨v6, e_v6⟩ : ∃ z, z = v5.toInt32 := ⟨_, rfl⟩
  have hwp := hwp v6 e_v6
  refine kW.st (st' := .int v6 :: _) (by rw [e_v6]) ?_
  refine kw_istore_n (i := 3) (lv' := [(3, .int v6), (2, va_rf (gr G 48 p1)), (0, va_rf (some a0)), (1, va_rf (some p1))]) (pc := 21) X d_S_create_21 rfl (by decide) (by simp [rf_cat, cat_i, cat_l, cat_r]) ?_
  refine kw_aload_n (pc := 22) X d_S_create_22 rfl 2 rfl ?_
  refine kg_66 (a := a0) (pc := 23) X d_S_create_23 x_367 rfl f2 ?_
  refine kw_aload_n (pc := 26) X d_S_create_26 rfl 2 rfl ?_
  refine kg_66 (a := a0) (pc := 27) X d_S_create_27 x_367 rfl f2 ?_
  refine kg_43 (a := a3) (pc := 30) X d_S_create_30 x_243 h_a3 f4 ?_
  refine kw_iconst (v := 4) (pc := 33) X d_S_create_33 (by decide) ?_
  refine kw_iadd (pc := 34) X d_S_create_34 ?_
  refine kw_iconst (v := 1) (pc := 35) X d_S_create_35 (by decide) ?_
  refine kW.st (st' := [.int (1 : Int32), .int ((gi G 43 a3) + (4 : Int32)), .ref a3]) (by simp only [h_a3]; rfl) ?_
  refine kcVp_l (n := 2) (As := [.int ((gi G 43 a3) + (4 : Int32)), .int (1 : Int32)]) (rest := []) (pc := 36) X (c_Message_number l t G a3 ((gi G 43 a3) + (4 : Int32)) (1 : Int32) _) (cwV_of (C := "TreeServer$Message") X x_541 x_578 x_539 x_540 x_9 (by decide +kernel) ⟨rfl, rfl⟩ (by decide)) (rv_5 X f4) rfl rfl (by decide) d_S_create_36 hwp (fun v7 hwp => ?_)
  refine kw_l2i (pc := 39) X d_S_create_39 ?_
  obtain ⟨v8, e_v8⟩ : ∃ z, z = v7.toInt32 := ⟨_, rfl⟩
  have hwp := hwp v8 e_v8
  refine kW.st (st' := .int v8 :: _) (by rw [e_v8]) ?_
  refine kw_istore (i := 4) (lv' := [(4, .int v8), (3, .int v6), (2, va_rf (gr G 48 p1)), (0, va_rf (some a0)), (1, va_rf (some p1))]) (pc := 40) X d_S_create_40 (by decide) rfl ?_
  refine kw_aload_n (pc := 42) X d_S_create_42 rfl 4 rfl ?_
  refine kg_51 (a := p1) (pc := 43) X d_S_create_43 x_306 rfl f1 ?_
  refine kw_iconst (v := -1) (pc := 46) X d_S_create_46 (by decide) ?_
  refine kw_icmp_eq (tgt := 54) (pc := 47) X d_S_create_47 (by decide) (fun h => ?_) (fun h => ?_)
  · have hwp := ite_t h hwp
    refine kw_aload_n (pc := 54) X d_S_create_54 rfl 2 rfl ?_
    obtain ⟨a9, h_a9, hwp⟩ := hwp
    obtain ⟨f10, hwp⟩ := hwp
    refine kW.st (st' := [.ref a9]) (by simp only [h_a9]; rfl) ?_
    refine kcVp_i (n := 0) (As := []) (rest := []) (pc := 55) X (c_Node_isDirectory l t G a9 _) (cwV_of (C := "TreeServer$Node") X x_697 x_694 x_695 x_696 x_3 (by decide +kernel) ⟨rfl, rfl⟩ (by decide)) (rv_1 X f10) rfl rfl (by decide) d_S_create_55 hwp (fun v11 hwp => ?_)
    obtain ⟨b_v11, hwp⟩ := hwp
    refine kw_if_ne (tgt := 65) (pc := 58) X d_S_create_58 (by decide) (fun h => ?_) (fun h => ?_)
    · have hwp := ite_t h hwp
      refine kw_aload_n (pc := 65) X d_S_create_65 rfl 3 rfl ?_
      refine kg_66 (a := a0) (pc := 66) X d_S_create_66 x_367 rfl f2 ?_
      refine kw_iconst (v := 0) (pc := 69) X d_S_create_69 (by decide) ?_
      refine kW.st (st' := [.int (0 : Int32), .ref a3]) (by simp only [h_a3]; rfl) ?_
      refine kcVp_i (n := 1) (As := [.int (0 : Int32)]) (rest := []) (pc := 70) X (c_Message_nameFits l t G a3 (0 : Int32) _) (cwV_of (C := "TreeServer$Message") X x_774 x_771 x_772 x_773 x_9 (by decide +kernel) ⟨rfl, rfl⟩ (by decide)) (rv_5 X f4) rfl rfl (by decide) d_S_create_70 hwp (fun v12 hwp => ?_)
      obtain ⟨b_v12, hwp⟩ := hwp
      refine kw_if_ne (tgt := 80) (pc := 73) X d_S_create_73 (by decide) (fun h => ?_) (fun h => ?_)
      · have hwp := ite_t h hwp
        refine kw_iload_n (pc := 80) X d_S_create_80 rfl 1 rfl ?_
        refine kw_ldcw (v := -2147483648) (pc := 81) X d_S_create_81 x_780 ?_
        refine kw_iand (pc := 84) X d_S_create_84 ?_
        refine kw_if_eq (tgt := 92) (pc := 85) X d_S_create_85 (by decide) (fun h => ?_) (fun h => ?_)
        · have hwp := ite_t h hwp
          refine kw_iconst (v := 0) (pc := 92) X d_S_create_92 (by decide) ?_
          exact kW.sub [3, 4, 2, 1, 0] rfl (k_S_create_93 X hret  _ _ _ _ _ _ hwp)
        · have hwp := ite_f h hwp
          refine kw_iconst (v := 1) (pc := 88) X d_S_create_88 (by decide) ?_
          refine kw_goto (tgt := 93) (pc := 89) X d_S_create_89 (by decide) ?_
          exact kW.sub [3, 4, 2, 1, 0] rfl (k_S_create_93 X hret  _ _ _ _ _ _ hwp)
      · have hwp := ite_f (not_not_intro h) hwp
        refine kw_ldcwS (j := 21) (pc := 76) X d_S_create_76 (by decide) rfl ?_
        exact kr_q (pc := 79) X hret d_S_create_79 (Or.inl ⟨_, rfl⟩) hwp
    · have hwp := ite_f (not_not_intro h) hwp
      refine kw_ldcwS (j := 14) (pc := 61) X d_S_create_61 (by decide) rfl ?_
      exact kr_q (pc := 64) X hret d_S_create_64 (Or.inl ⟨_, rfl⟩) hwp
  · have hwp := ite_f h hwp
    refine kw_ldcwS (j := 13) (pc := 50) X d_S_create_50 (by decide) rfl ?_
    exact kr_q (pc := 53) X hret d_S_create_53 (Or.inl ⟨_, rfl⟩) hwp
set_option maxRecDepth 100000 in
set_option maxHeartbeats 4000000 in
theorem c_S_create (l : Launch) (t : TY) (G : GS) (a0 : Nat) (p1 : Nat) (K : GS → Option Nat → Prop) : Met l y_S_create (Cond.code y_S_create b_S_create 6 (Option.some (Jvm.ClassFile.FieldType.object "java/lang/String")) :: GW) rm_S_create (va_Pc [.ref a0, .ref p1] (fun U => HB t G U.heap ∧ HK t U ∧ w_S_create t G a0 p1 K)) (va_Qq (fun r (u : GS) => K u r) (fun u T => HB t u T.heap) (tA t)) 0 0 (tA t) := by
  refine Met.ofW (cc := b_S_create) (maxL := 6) (ret := some (.object "java/lang/String")) (by decide) rfl ?_
  intro p e s m args below meth c s₁ B hml hv
  obtain ⟨rfl, hB, hK, hwp⟩ := hv
  have hts := atoms_spec (ws := Cond.code y_S_create b_S_create 6 (Option.some (Jvm.ClassFile.FieldType.object "java/lang/String")) :: GW) B.pre
  have X : kX p s m _ meth c b_S_create 6 "TreeServer" t := ⟨B.exec, B.bytes, hml, findClass_of_methodNamed B.named, fun w h => hts w (List.mem_cons_of_mem _ h), B.notSynchronized, hK⟩
  have hZ : kZ t false s G s.heap [] := ⟨hB, va_S.rf, fun _ => ⟨rfl, rfl⟩⟩
  rw [lg_entry_eq]
  have hl := lv_entry ([.ref a0, .ref p1]) (n := 6) (by simp [lg_sl, rf_cat, cat_i, cat_l, cat_r])
  exact k_S_create X B.returns _ _ hwp s.heap [] _ hl hZ
abbrev b_Node_statSize : ByteArray := prog_9_method_7_code
def y_Node_statSize : MethodName := ⟨"TreeServer$Node", "statSize", "()I"⟩
theorem d_Node_statSize_0 : decode b_Node_statSize 0 = .ok (.bipush 49, 2) := by decide +kernel
theorem d_Node_statSize_2 : decode b_Node_statSize 2 = .ok (.aload_n 0, 1) := by decide +kernel
theorem d_Node_statSize_3 : decode b_Node_statSize 3 = .ok (.getfield 59, 3) := by decide +kernel
theorem d_Node_statSize_6 : decode b_Node_statSize 6 = .ok (.iadd, 1) := by decide +kernel
theorem d_Node_statSize_7 : decode b_Node_statSize 7 = .ok (.aload_n 0, 1) := by decide +kernel
theorem d_Node_statSize_8 : decode b_Node_statSize 8 = .ok (.getfield 21, 3) := by decide +kernel
theorem d_Node_statSize_11 : decode b_Node_statSize 11 = .ok (.getfield 62, 3) := by decide +kernel
theorem d_Node_statSize_14 : decode b_Node_statSize 14 = .ok (.invokevirtual 66, 3) := by decide +kernel
theorem d_Node_statSize_17 : decode b_Node_statSize 17 = .ok (.iadd, 1) := by decide +kernel
theorem d_Node_statSize_18 : decode b_Node_statSize 18 = .ok (.aload_n 0, 1) := by decide +kernel
theorem d_Node_statSize_19 : decode b_Node_statSize 19 = .ok (.getfield 24, 3) := by decide +kernel
theorem d_Node_statSize_22 : decode b_Node_statSize 22 = .ok (.getfield 62, 3) := by decide +kernel
theorem d_Node_statSize_25 : decode b_Node_statSize 25 = .ok (.invokevirtual 66, 3) := by decide +kernel
theorem d_Node_statSize_28 : decode b_Node_statSize 28 = .ok (.iadd, 1) := by decide +kernel
theorem d_Node_statSize_29 : decode b_Node_statSize 29 = .ok (.aload_n 0, 1) := by decide +kernel
theorem d_Node_statSize_30 : decode b_Node_statSize 30 = .ok (.getfield 27, 3) := by decide +kernel
theorem d_Node_statSize_33 : decode b_Node_statSize 33 = .ok (.getfield 62, 3) := by decide +kernel
theorem d_Node_statSize_36 : decode b_Node_statSize 36 = .ok (.invokevirtual 66, 3) := by decide +kernel
theorem d_Node_statSize_39 : decode b_Node_statSize 39 = .ok (.iadd, 1) := by decide +kernel
theorem d_Node_statSize_40 : decode b_Node_statSize 40 = .ok (.ireturn, 1) := by decide +kernel
abbrev rm_Node_statSize : Room := { frames := 4, cells := 0, slots := 0, locals := 100 }
set_option maxRecDepth 100000 in
set_option maxHeartbeats 4000000 in
theorem k_Node_statSize {p : Program} {l : Launch} {e : Env} {s : State} {m : MethodId} {args : Array Value} {below : List Frame} {meth : Method} {c : Code} {t : TY} {a0 : Nat} {G : GS} {K : Int32 → Prop} (X : kX p s m args meth c b_Node_statSize 1 "TreeServer$Node" t) (hret : meth.sig.returnType = some .int)  (hwp : w_Node_statSize t G a0 K) : kW p l e rm_Node_statSize s m args below meth c (MQ below (vp_Si K) args s 0 0 (fun _ => False)) 1 t true 0 [(0, va_rf (some a0))] [] G := by
  unfold w_Node_statSize at hwp
  refine kw_bipush (v := 49) (pc := 0) X d_Node_statSize_0 (by decide) ?_
  refine kw_aload_n (pc := 2) X d_Node_statSize_2 rfl 0 rfl ?_
  obtain ⟨f1, hwp⟩ := hwp
  refine kg_10 (a := a0) (pc := 3) X d_Node_statSize_3 x_81 rfl f1 ?_
  refine kw_iadd (pc := 6) X d_Node_statSize_6 ?_
  refine kw_aload_n (pc := 7) X d_Node_statSize_7 rfl 0 rfl ?_
  refine kg_4 (a := a0) (pc := 8) X d_Node_statSize_8 x_58 rfl f1 ?_
  obtain ⟨u2, g_u2, h_u2, hwp⟩ := hwp
  refine kg_title (u := u2) (pc := 11) X d_Node_statSize_11 x_1425 g_u2 h_u2 ?_
  obtain ⟨j4, g_j4, h_j4, hwp⟩ := hwp
  refine kc_str_length (j := j4) (pc := 14) X d_Node_statSize_14 x_829 g_j4 h_j4 (by decide) (by simp [rf_cat, cat_i, cat_l, cat_r]) ?_
  obtain ⟨v3, e_v3⟩ : ∃ z, z = nI (slen j4) := ⟨_, rfl⟩
  rw [← e_v3] at hwp ⊢
  refine kw_iadd (pc := 17) X d_Node_statSize_17 ?_
  refine kw_aload_n (pc := 18) X d_Node_statSize_18 rfl 0 rfl ?_
  refine kg_5 (a := a0) (pc := 19) X d_Node_statSize_19 x_62 rfl f1 ?_
  obtain ⟨u5, g_u5, h_u5, hwp⟩ := hwp
  refine kg_title (u := u5) (pc := 22) X d_Node_statSize_22 x_1425 g_u5 h_u5 ?_
  obtain ⟨j7, g_j7, h_j7, hwp⟩ := hwp
  refine kc_str_length (j := j7) (pc := 25) X d_Node_statSize_25 x_829 g_j7 h_j7 (by decide) (by simp [rf_cat, cat_i, cat_l, cat_r]) ?_
  obtain ⟨v6, e_v6⟩ : ∃ z, z = nI (slen j7) := ⟨_, rfl⟩
  rw [← e_v6] at hwp ⊢
  refine kw_iadd (pc := 28) X d_Node_statSize_28 ?_
  refine kw_aload_n (pc := 29) X d_Node_statSize_29 rfl 0 rfl ?_
  refine kg_6 (a := a0) (pc := 30) X d_Node_statSize_30 x_65 rfl f1 ?_
  obtain ⟨u8, g_u8, h_u8, hwp⟩ := hwp
  refine kg_title (u := u8) (pc := 33) X d_Node_statSize_33 x_1425 g_u8 h_u8 ?_
  obtain ⟨j10, g_j10, h_j10, hwp⟩ := hwp
  refine kc_str_length (j := j10) (pc := 36) X d_Node_statSize_36 x_829 g_j10 h_j10 (by decide) (by simp [rf_cat, cat_i, cat_l, cat_r]) ?_
  obtain ⟨v9, e_v9⟩ : ∃ z, z = nI (slen j10) := ⟨_, rfl⟩
  rw [← e_v9] at hwp ⊢
  refine kw_iadd (pc := 39) X d_Node_statSize_39 ?_
  exact krp_i (pc := 40) X hret d_Node_statSize_40 hwp
set_option maxRecDepth 100000 in
set_option maxHeartbeats 4000000 in
theorem c_Node_statSize (l : Launch) (t : TY) (G : GS) (a0 : Nat) (K : Int32 → Prop) : Met l y_Node_statSize (Cond.code y_Node_statSize b_Node_statSize 1 (Option.some Jvm.ClassFile.FieldType.int) :: GW) rm_Node_statSize (va_Pc [.ref a0] (fun U => HB t G U.heap ∧ HK t U ∧ w_Node_statSize t G a0 K)) (vp_Si K) 0 0 (fun _ => False) := by
  refine Met.ofW (cc := b_Node_statSize) (maxL := 1) (ret := some .int) (by decide) rfl ?_
  intro p e s m args below meth c s₁ B hml hv
  obtain ⟨rfl, hB, hK, hwp⟩ := hv
  have hts := atoms_spec (ws := Cond.code y_Node_statSize b_Node_statSize 1 (Option.some Jvm.ClassFile.FieldType.int) :: GW) B.pre
  have X : kX p s m _ meth c b_Node_statSize 1 "TreeServer$Node" t := ⟨B.exec, B.bytes, hml, findClass_of_methodNamed B.named, fun w h => hts w (List.mem_cons_of_mem _ h), B.notSynchronized, hK⟩
  have hZ : kZ t true s G s.heap [] := ⟨hB, va_S.rf, fun _ => ⟨rfl, rfl⟩⟩
  rw [lg_entry_eq]
  have hl := lv_entry ([.ref a0]) (n := 1) (by simp [lg_sl, rf_cat, cat_i, cat_l, cat_r])
  exact k_Node_statSize X B.returns hwp s.heap [] _ hl hZ
abbrev b_Answer_putBytes : ByteArray := prog_2_method_7_code
def y_Answer_putBytes : MethodName := ⟨"TreeServer$Answer", "putBytes", "([BII)V"⟩
theorem d_Answer_putBytes_0 : decode b_Answer_putBytes 0 = .ok (.iconst 0, 1) := by decide +kernel
theorem d_Answer_putBytes_1 : decode b_Answer_putBytes 1 = .ok (.istore 4, 2) := by decide +kernel
theorem d_Answer_putBytes_3 : decode b_Answer_putBytes 3 = .ok (.iload 4, 2) := by decide +kernel
theorem d_Answer_putBytes_5 : decode b_Answer_putBytes 5 = .ok (.iload_n 3, 1) := by decide +kernel
theorem d_Answer_putBytes_6 : decode b_Answer_putBytes 6 = .ok (.if_icmp .ge 30, 3) := by decide +kernel
theorem d_Answer_putBytes_9 : decode b_Answer_putBytes 9 = .ok (.iload_n 2, 1) := by decide +kernel
theorem d_Answer_putBytes_10 : decode b_Answer_putBytes 10 = .ok (.iload 4, 2) := by decide +kernel
theorem d_Answer_putBytes_12 : decode b_Answer_putBytes 12 = .ok (.iadd, 1) := by decide +kernel
theorem d_Answer_putBytes_13 : decode b_Answer_putBytes 13 = .ok (.aload_n 1, 1) := by decide +kernel
theorem d_Answer_putBytes_14 : decode b_Answer_putBytes 14 = .ok (.arraylength, 1) := by decide +kernel
theorem d_Answer_putBytes_15 : decode b_Answer_putBytes 15 = .ok (.if_icmp .ge 21, 3) := by decide +kernel
theorem d_Answer_putBytes_18 : decode b_Answer_putBytes 18 = .ok (.aload_n 0, 1) := by decide +kernel
theorem d_Answer_putBytes_19 : decode b_Answer_putBytes 19 = .ok (.aload_n 1, 1) := by decide +kernel
theorem d_Answer_putBytes_20 : decode b_Answer_putBytes 20 = .ok (.iload_n 2, 1) := by decide +kernel
theorem d_Answer_putBytes_21 : decode b_Answer_putBytes 21 = .ok (.iload 4, 2) := by decide +kernel
theorem d_Answer_putBytes_23 : decode b_Answer_putBytes 23 = .ok (.iadd, 1) := by decide +kernel
theorem d_Answer_putBytes_24 : decode b_Answer_putBytes 24 = .ok (.baload, 1) := by decide +kernel
theorem d_Answer_putBytes_25 : decode b_Answer_putBytes 25 = .ok (.i2l, 1) := by decide +kernel
theorem d_Answer_putBytes_26 : decode b_Answer_putBytes 26 = .ok (.iconst 1, 1) := by decide +kernel
theorem d_Answer_putBytes_27 : decode b_Answer_putBytes 27 = .ok (.invokevirtual 19, 3) := by decide +kernel
theorem d_Answer_putBytes_30 : decode b_Answer_putBytes 30 = .ok (.iinc 4 1, 3) := by decide +kernel
theorem d_Answer_putBytes_33 : decode b_Answer_putBytes 33 = .ok (.goto (-30), 3) := by decide +kernel
theorem d_Answer_putBytes_36 : decode b_Answer_putBytes 36 = .ok (.return_, 1) := by decide +kernel
abbrev rm_Answer_putBytes : Room := { frames := 1, cells := 0, slots := 0, locals := 24 }
set_option maxRecDepth 100000 in
set_option maxHeartbeats 4000000 in
theorem k_Answer_putBytes_3 {p : Program} {l : Launch} {e : Env} {s : State} {m : MethodId} {args : Array Value} {below : List Frame} {meth : Method} {c : Code} {t : TY} {a0 : Nat} {K : GS → Prop} (X : kX p s m args meth c b_Answer_putBytes 5 "TreeServer$Answer" t) (hret : meth.sig.returnType = none) : ∀ (n : Nat) (p1 : Nat) (l2 : Int32) (l3 : Int32) (l4 : Int32) (G : GS), w_Answer_putBytes_3 t a0 K n p1 l2 l3 l4 G → kW p l e rm_Answer_putBytes s m args below meth c (MQ below (va_Qv (fun u : GS => K u) (fun u T => HB t u T.heap) (tA t)) args s 0 0 (tA t)) 5 t false 3 [(0, va_rf (some a0)), (1, va_rf (some p1)), (2, .int l2), (3, .int l3), (4, .int l4)] [] G := by
  intro n
  induction n with
  | zero => intro p1 l2 l3 l4 G hwp; exact hwp.elim
  | succ n hr_3 =>
    intro p1 l2 l3 l4 G hwp
    unfold w_Answer_putBytes_3 at hwp
    dsimp only at hwp
    refine kw_iload (pc := 3) X d_Answer_putBytes_3 4 rfl ?_
    refine kw_iload_n (pc := 5) X d_Answer_putBytes_5 rfl 3 rfl ?_
    refine kw_icmp_ge (tgt := 36) (pc := 6) X d_Answer_putBytes_6 (by decide) (fun h => ?_) (fun h => ?_)
    · have hwp := ite_t h hwp
      exact kr_v (pc := 36) X hret d_Answer_putBytes_36 hwp
    · have hwp := ite_f h hwp
      refine kw_iload_n (pc := 9) X d_Answer_putBytes_9 rfl 2 rfl ?_
      refine kw_iload (pc := 10) X d_Answer_putBytes_10 4 rfl ?_
      refine kw_iadd (pc := 12) X d_Answer_putBytes_12 ?_
      refine kw_aload_n (pc := 13) X d_Answer_putBytes_13 rfl 1 rfl ?_
      obtain ⟨f1, hwp⟩ := hwp
      refine ka_len51 (a := p1) (pc := 14) X d_Answer_putBytes_14 rfl f1 ?_
      refine kw_icmp_ge (tgt := 36) (pc := 15) X d_Answer_putBytes_15 (by decide) (fun h => ?_) (fun h => ?_)
      · have hwp := ite_t h hwp
        exact kr_v (pc := 36) X hret d_Answer_putBytes_36 hwp
      · have hwp := ite_f h hwp
        refine kw_aload_n (pc := 18) X d_Answer_putBytes_18 rfl 0 rfl ?_
        refine kw_aload_n (pc := 19) X d_Answer_putBytes_19 rfl 1 rfl ?_
        refine kw_iload_n (pc := 20) X d_Answer_putBytes_20 rfl 2 rfl ?_
        refine kw_iload (pc := 21) X d_Answer_putBytes_21 4 rfl ?_
        refine kw_iadd (pc := 23) X d_Answer_putBytes_23 ?_
        obtain ⟨f2, hwp⟩ := hwp
        refine ka_bald (a := p1) (pc := 24) X d_Answer_putBytes_24 rfl f1 f2 ?_
        refine kw_i2l (pc := 25) X d_Answer_putBytes_25 ?_
        refine kw_iconst (v := 1) (pc := 26) X d_Answer_putBytes_26 (by decide) ?_
        obtain ⟨f3, hwp⟩ := hwp
        refine kcV_v (n := 2) (As := [.long ((ai G p1 (l2 + l4).toNatClampNeg).toInt64), .int (1 : Int32)]) (rest := []) (pc := 27) X rfl (c_Answer_put l t G a0 ((ai G p1 (l2 + l4).toNatClampNeg).toInt64) (1 : Int32) _) (cwV_of (C := "TreeServer$Answer") X x_549 x_546 x_547 x_548 x_10 (by decide +kernel) ⟨rfl, rfl⟩ (by decide)) (rv_6 X f3) rfl rfl (by decide) d_Answer_putBytes_27 hwp (fun G4 hwp => ?_)
        obtain ⟨v5, e_v5⟩ : ∃ z, z = (l4 + (1 : Int32)) := ⟨_, rfl⟩
        have hwp := hwp v5 e_v5
        refine kw_iinc (v := v5) (lv' := [(4, .int v5), (0, va_rf (some a0)), (1, va_rf (some p1)), (2, .int l2), (3, .int l3)]) (pc := 30) X d_Answer_putBytes_30 4 rfl (by rw [e_v5]; rfl) (by decide) rfl ?_
        refine kw_goto (tgt := 3) (pc := 33) X d_Answer_putBytes_33 (by decide) ?_
        exact kW.sub [1, 2, 3, 4, 0] rfl (hr_3 _ _ _ _ _ hwp)
set_option maxRecDepth 100000 in
set_option maxHeartbeats 4000000 in
theorem k_Answer_putBytes {p : Program} {l : Launch} {e : Env} {s : State} {m : MethodId} {args : Array Value} {below : List Frame} {meth : Method} {c : Code} {t : TY} {a0 : Nat} {K : GS → Prop} (X : kX p s m args meth c b_Answer_putBytes 5 "TreeServer$Answer" t) (hret : meth.sig.returnType = none) (G : GS) (p1 : Nat) (p2 : Int32) (p3 : Int32) (hwp : w_Answer_putBytes t G a0 p1 p2 p3 K) : kW p l e rm_Answer_putBytes s m args below meth c (MQ below (va_Qv (fun u : GS => K u) (fun u T => HB t u T.heap) (tA t)) args s 0 0 (tA t)) 5 t false 0 [(0, va_rf (some a0)), (1, va_rf (some p1)), (2, .int p2), (3, .int p3)] [] G := by
  unfold w_Answer_putBytes at hwp
  refine kw_iconst (v := 0) (pc := 0) X d_Answer_putBytes_0 (by decide) ?_
  refine kw_istore (i := 4) (lv' := [(4, .int (0 : Int32)), (0, va_rf (some a0)), (1, va_rf (some p1)), (2, .int p2), (3, .int p3)]) (pc := 1) X d_Answer_putBytes_1 (by decide) rfl ?_
  obtain ⟨n, hwp⟩ := hwp
  exact kW.sub [1, 2, 3, 4, 0] rfl (k_Answer_putBytes_3 X hret  n _ _ _ _ _ hwp)
set_option maxRecDepth 100000 in
set_option maxHeartbeats 4000000 in
theorem c_Answer_putBytes (l : Launch) (t : TY) (G : GS) (a0 : Nat) (p1 : Nat) (p2 : Int32) (p3 : Int32) (K : GS → Prop) : Met l y_Answer_putBytes (Cond.code y_Answer_putBytes b_Answer_putBytes 5 (Option.none : Option Jvm.ClassFile.FieldType) :: GW) rm_Answer_putBytes (va_Pc [.ref a0, .ref p1, .int p2, .int p3] (fun U => HB t G U.heap ∧ HK t U ∧ w_Answer_putBytes t G a0 p1 p2 p3 K)) (va_Qv (fun u : GS => K u) (fun u T => HB t u T.heap) (tA t)) 0 0 (tA t) := by
  refine Met.ofW (cc := b_Answer_putBytes) (maxL := 5) (ret := none) (by decide) rfl ?_
  intro p e s m args below meth c s₁ B hml hv
  obtain ⟨rfl, hB, hK, hwp⟩ := hv
  have hts := atoms_spec (ws := Cond.code y_Answer_putBytes b_Answer_putBytes 5 (Option.none : Option Jvm.ClassFile.FieldType) :: GW) B.pre
  have X : kX p s m _ meth c b_Answer_putBytes 5 "TreeServer$Answer" t := ⟨B.exec, B.bytes, hml, findClass_of_methodNamed B.named, fun w h => hts w (List.mem_cons_of_mem _ h), B.notSynchronized, hK⟩
  have hZ : kZ t false s G s.heap [] := ⟨hB, va_S.rf, fun _ => ⟨rfl, rfl⟩⟩
  rw [lg_entry_eq]
  have hl := lv_entry ([.ref a0, .ref p1, .int p2, .int p3]) (n := 5) (by simp [lg_sl, rf_cat, cat_i, cat_l, cat_r])
  exact k_Answer_putBytes X B.returns _ _ _ _ hwp s.heap [] _ hl hZ
abbrev b_Answer_putStat : ByteArray := prog_2_method_9_code
def y_Answer_putStat : MethodName := ⟨"TreeServer$Answer", "putStat", "(LTreeServer$Node;)V"⟩
theorem d_Answer_putStat_0 : decode b_Answer_putStat 0 = .ok (.aload_n 0, 1) := by decide +kernel
theorem d_Answer_putStat_1 : decode b_Answer_putStat 1 = .ok (.aload_n 1, 1) := by decide +kernel
theorem d_Answer_putStat_2 : decode b_Answer_putStat 2 = .ok (.invokevirtual 71, 3) := by decide +kernel
theorem d_Answer_putStat_5 : decode b_Answer_putStat 5 = .ok (.iconst 2, 1) := by decide +kernel
theorem d_Answer_putStat_6 : decode b_Answer_putStat 6 = .ok (.isub, 1) := by decide +kernel
theorem d_Answer_putStat_7 : decode b_Answer_putStat 7 = .ok (.i2l, 1) := by decide +kernel
theorem d_Answer_putStat_8 : decode b_Answer_putStat 8 = .ok (.iconst 2, 1) := by decide +kernel
theorem d_Answer_putStat_9 : decode b_Answer_putStat 9 = .ok (.invokevirtual 19, 3) := by decide +kernel
theorem d_Answer_putStat_12 : decode b_Answer_putStat 12 = .ok (.aload_n 0, 1) := by decide +kernel
theorem d_Answer_putStat_13 : decode b_Answer_putStat 13 = .ok (.lconst 0, 1) := by decide +kernel
theorem d_Answer_putStat_14 : decode b_Answer_putStat 14 = .ok (.bipush 6, 2) := by decide +kernel
theorem d_Answer_putStat_16 : decode b_Answer_putStat 16 = .ok (.invokevirtual 19, 3) := by decide +kernel
theorem d_Answer_putStat_19 : decode b_Answer_putStat 19 = .ok (.aload_n 0, 1) := by decide +kernel
theorem d_Answer_putStat_20 : decode b_Answer_putStat 20 = .ok (.aload_n 1, 1) := by decide +kernel
theorem d_Answer_putStat_21 : decode b_Answer_putStat 21 = .ok (.invokevirtual 74, 3) := by decide +kernel
theorem d_Answer_putStat_24 : decode b_Answer_putStat 24 = .ok (.aload_n 0, 1) := by decide +kernel
theorem d_Answer_putStat_25 : decode b_Answer_putStat 25 = .ok (.aload_n 1, 1) := by decide +kernel
theorem d_Answer_putStat_26 : decode b_Answer_putStat 26 = .ok (.getfield 60, 3) := by decide +kernel
theorem d_Answer_putStat_29 : decode b_Answer_putStat 29 = .ok (.i2l, 1) := by decide +kernel
theorem d_Answer_putStat_30 : decode b_Answer_putStat 30 = .ok (.iconst 4, 1) := by decide +kernel
theorem d_Answer_putStat_31 : decode b_Answer_putStat 31 = .ok (.invokevirtual 19, 3) := by decide +kernel
theorem d_Answer_putStat_34 : decode b_Answer_putStat 34 = .ok (.aload_n 0, 1) := by decide +kernel
theorem d_Answer_putStat_35 : decode b_Answer_putStat 35 = .ok (.aload_n 1, 1) := by decide +kernel
theorem d_Answer_putStat_36 : decode b_Answer_putStat 36 = .ok (.getfield 78, 3) := by decide +kernel
theorem d_Answer_putStat_39 : decode b_Answer_putStat 39 = .ok (.i2l, 1) := by decide +kernel
theorem d_Answer_putStat_40 : decode b_Answer_putStat 40 = .ok (.iconst 4, 1) := by decide +kernel
theorem d_Answer_putStat_41 : decode b_Answer_putStat 41 = .ok (.invokevirtual 19, 3) := by decide +kernel
theorem d_Answer_putStat_44 : decode b_Answer_putStat 44 = .ok (.aload_n 0, 1) := by decide +kernel
theorem d_Answer_putStat_45 : decode b_Answer_putStat 45 = .ok (.aload_n 1, 1) := by decide +kernel
theorem d_Answer_putStat_46 : decode b_Answer_putStat 46 = .ok (.getfield 78, 3) := by decide +kernel
theorem d_Answer_putStat_49 : decode b_Answer_putStat 49 = .ok (.i2l, 1) := by decide +kernel
theorem d_Answer_putStat_50 : decode b_Answer_putStat 50 = .ok (.iconst 4, 1) := by decide +kernel
theorem d_Answer_putStat_51 : decode b_Answer_putStat 51 = .ok (.invokevirtual 19, 3) := by decide +kernel
theorem d_Answer_putStat_54 : decode b_Answer_putStat 54 = .ok (.aload_n 0, 1) := by decide +kernel
theorem d_Answer_putStat_55 : decode b_Answer_putStat 55 = .ok (.aload_n 1, 1) := by decide +kernel
theorem d_Answer_putStat_56 : decode b_Answer_putStat 56 = .ok (.invokevirtual 81, 3) := by decide +kernel
theorem d_Answer_putStat_59 : decode b_Answer_putStat 59 = .ok (.ifCond .eq 7, 3) := by decide +kernel
theorem d_Answer_putStat_62 : decode b_Answer_putStat 62 = .ok (.lconst 0, 1) := by decide +kernel
theorem d_Answer_putStat_63 : decode b_Answer_putStat 63 = .ok (.goto 8, 3) := by decide +kernel
theorem d_Answer_putStat_66 : decode b_Answer_putStat 66 = .ok (.aload_n 1, 1) := by decide +kernel
theorem d_Answer_putStat_67 : decode b_Answer_putStat 67 = .ok (.getfield 84, 3) := by decide +kernel
theorem d_Answer_putStat_70 : decode b_Answer_putStat 70 = .ok (.i2l, 1) := by decide +kernel
theorem d_Answer_putStat_71 : decode b_Answer_putStat 71 = .ok (.bipush 8, 2) := by decide +kernel
theorem d_Answer_putStat_73 : decode b_Answer_putStat 73 = .ok (.invokevirtual 19, 3) := by decide +kernel
theorem d_Answer_putStat_76 : decode b_Answer_putStat 76 = .ok (.aload_n 0, 1) := by decide +kernel
theorem d_Answer_putStat_77 : decode b_Answer_putStat 77 = .ok (.aload_n 1, 1) := by decide +kernel
theorem d_Answer_putStat_78 : decode b_Answer_putStat 78 = .ok (.getfield 85, 3) := by decide +kernel
theorem d_Answer_putStat_81 : decode b_Answer_putStat 81 = .ok (.i2l, 1) := by decide +kernel
theorem d_Answer_putStat_82 : decode b_Answer_putStat 82 = .ok (.iconst 2, 1) := by decide +kernel
theorem d_Answer_putStat_83 : decode b_Answer_putStat 83 = .ok (.invokevirtual 19, 3) := by decide +kernel
theorem d_Answer_putStat_86 : decode b_Answer_putStat 86 = .ok (.aload_n 0, 1) := by decide +kernel
theorem d_Answer_putStat_87 : decode b_Answer_putStat 87 = .ok (.aload_n 1, 1) := by decide +kernel
theorem d_Answer_putStat_88 : decode b_Answer_putStat 88 = .ok (.getfield 88, 3) := by decide +kernel
theorem d_Answer_putStat_91 : decode b_Answer_putStat 91 = .ok (.iconst 0, 1) := by decide +kernel
theorem d_Answer_putStat_92 : decode b_Answer_putStat 92 = .ok (.aload_n 1, 1) := by decide +kernel
theorem d_Answer_putStat_93 : decode b_Answer_putStat 93 = .ok (.getfield 85, 3) := by decide +kernel
theorem d_Answer_putStat_96 : decode b_Answer_putStat 96 = .ok (.invokevirtual 91, 3) := by decide +kernel
theorem d_Answer_putStat_99 : decode b_Answer_putStat 99 = .ok (.aload_n 0, 1) := by decide +kernel
theorem d_Answer_putStat_100 : decode b_Answer_putStat 100 = .ok (.aload_n 1, 1) := by decide +kernel
theorem d_Answer_putStat_101 : decode b_Answer_putStat 101 = .ok (.getfield 95, 3) := by decide +kernel
theorem d_Answer_putStat_104 : decode b_Answer_putStat 104 = .ok (.getfield 99, 3) := by decide +kernel
theorem d_Answer_putStat_107 : decode b_Answer_putStat 107 = .ok (.invokevirtual 35, 3) := by decide +kernel
theorem d_Answer_putStat_110 : decode b_Answer_putStat 110 = .ok (.aload_n 0, 1) := by decide +kernel
theorem d_Answer_putStat_111 : decode b_Answer_putStat 111 = .ok (.aload_n 1, 1) := by decide +kernel
theorem d_Answer_putStat_112 : decode b_Answer_putStat 112 = .ok (.getfield 105, 3) := by decide +kernel
theorem d_Answer_putStat_115 : decode b_Answer_putStat 115 = .ok (.getfield 99, 3) := by decide +kernel
theorem d_Answer_putStat_118 : decode b_Answer_putStat 118 = .ok (.invokevirtual 35, 3) := by decide +kernel
theorem d_Answer_putStat_121 : decode b_Answer_putStat 121 = .ok (.aload_n 0, 1) := by decide +kernel
theorem d_Answer_putStat_122 : decode b_Answer_putStat 122 = .ok (.aload_n 1, 1) := by decide +kernel
theorem d_Answer_putStat_123 : decode b_Answer_putStat 123 = .ok (.getfield 108, 3) := by decide +kernel
theorem d_Answer_putStat_126 : decode b_Answer_putStat 126 = .ok (.getfield 99, 3) := by decide +kernel
theorem d_Answer_putStat_129 : decode b_Answer_putStat 129 = .ok (.invokevirtual 35, 3) := by decide +kernel
theorem d_Answer_putStat_132 : decode b_Answer_putStat 132 = .ok (.return_, 1) := by decide +kernel
abbrev rm_Answer_putStat : Room := { frames := 5, cells := 0, slots := 0, locals := 122 }
set_option maxRecDepth 100000 in
set_option maxHeartbeats 4000000 in
theorem k_Answer_putStat_71 {p : Program} {l : Launch} {e : Env} {s : State} {m : MethodId} {args : Array Value} {below : List Frame} {meth : Method} {c : Code} {t : TY} {a0 : Nat} {K : GS → Prop} (X : kX p s m args meth c b_Answer_putStat 2 "TreeServer$Answer" t) (hret : meth.sig.returnType = none) (p1 : Nat) (s0 : Option Nat) (s1 : Int64) (G : GS) (hwp : w_Answer_putStat_71 t a0 K p1 s0 s1 G) : kW p l e rm_Answer_putStat s m args below meth c (MQ below (va_Qv (fun u : GS => K u) (fun u T => HB t u T.heap) (tA t)) args s 0 0 (tA t)) 2 t false 71 [(0, va_rf (some a0)), (1, va_rf (some p1))] [.long s1, va_rf s0] G := by
  unfold w_Answer_putStat_71 at hwp
  refine kw_bipush (v := 8) (pc := 71) X d_Answer_putStat_71 (by decide) ?_
  obtain ⟨a1, h_a1, hwp⟩ := hwp
  obtain ⟨f2, hwp⟩ := hwp
  refine kW.st (st' := [.int (8 : Int32), .long s1, .ref a1]) (by simp only [h_a1]; rfl) ?_
  refine kcV_v (n := 2) (As := [.long s1, .int (8 : Int32)]) (rest := []) (pc := 73) X rfl (c_Answer_put l t G a1 s1 (8 : Int32) _) (cwV_of (C := "TreeServer$Answer") X x_549 x_546 x_547 x_548 x_10 (by decide +kernel) ⟨rfl, rfl⟩ (by decide)) (rv_6 X f2) rfl rfl (by decide) d_Answer_putStat_73 hwp (fun G3 hwp => ?_)
  refine kw_aload_n (pc := 76) X d_Answer_putStat_76 rfl 0 rfl ?_
  refine kw_aload_n (pc := 77) X d_Answer_putStat_77 rfl 1 rfl ?_
  obtain ⟨f4, hwp⟩ := hwp
  refine kg_10 (a := p1) (pc := 78) X d_Answer_putStat_78 x_82 rfl f4 ?_
  refine kw_i2l (pc := 81) X d_Answer_putStat_81 ?_
  refine kw_iconst (v := 2) (pc := 82) X d_Answer_putStat_82 (by decide) ?_
  obtain ⟨f5, hwp⟩ := hwp
  refine kcV_v (n := 2) (As := [.long ((gi G3 10 p1).toInt64), .int (2 : Int32)]) (rest := []) (pc := 83) X rfl (c_Answer_put l t G3 a0 ((gi G3 10 p1).toInt64) (2 : Int32) _) (cwV_of (C := "TreeServer$Answer") X x_549 x_546 x_547 x_548 x_10 (by decide +kernel) ⟨rfl, rfl⟩ (by decide)) (rv_6 X f5) rfl rfl (by decide) d_Answer_putStat_83 hwp (fun G6 hwp => ?_)
  refine kw_aload_n (pc := 86) X d_Answer_putStat_86 rfl 0 rfl ?_
  refine kw_aload_n (pc := 87) X d_Answer_putStat_87 rfl 1 rfl ?_
  refine kg_9 (a := p1) (pc := 88) X d_Answer_putStat_88 x_78 rfl f4 ?_
  refine kw_iconst (v := 0) (pc := 91) X d_Answer_putStat_91 (by decide) ?_
  refine kw_aload_n (pc := 92) X d_Answer_putStat_92 rfl 1 rfl ?_
  refine kg_10 (a := p1) (pc := 93) X d_Answer_putStat_93 x_82 rfl f4 ?_
  obtain ⟨a7, h_a7, hwp⟩ := hwp
  refine kW.st (st' := [.int (gi G6 10 p1), .int (0 : Int32), .ref a7, .ref a0]) (by simp only [h_a7]; rfl) ?_
  refine kcV_v (n := 3) (As := [.ref a7, .int (0 : Int32), .int (gi G6 10 p1)]) (rest := []) (pc := 96) X rfl (c_Answer_putBytes l t G6 a0 a7 (0 : Int32) (gi G6 10 p1) _) (cwV_of (C := "TreeServer$Answer") X x_840 x_837 x_838 x_839 x_10 (by decide +kernel) ⟨rfl, rfl⟩ (by decide)) (rv_6 X f5) rfl rfl (by decide) d_Answer_putStat_96 hwp (fun G8 hwp => ?_)
  refine kw_aload_n (pc := 99) X d_Answer_putStat_99 rfl 0 rfl ?_
  refine kw_aload_n (pc := 100) X d_Answer_putStat_100 rfl 1 rfl ?_
  refine kg_4 (a := p1) (pc := 101) X d_Answer_putStat_101 x_60 rfl f4 ?_
  obtain ⟨u9, g_u9, h_u9, hwp⟩ := hwp
  refine kg_title (u := u9) (pc := 104) X d_Answer_putStat_104 x_1426 g_u9 h_u9 ?_
  refine kcV_v (n := 1) (As := [va_rf (some (tks t (ttl u9)))]) (rest := []) (pc := 107) X rfl (c_Answer_putText l t G8 a0 (some (tks t (ttl u9))) _) (cwV_of (C := "TreeServer$Answer") X x_645 x_841 x_643 x_644 x_10 (by decide +kernel) ⟨rfl, rfl⟩ (by decide)) (rv_6 X f5) rfl rfl (by decide) d_Answer_putStat_107 hwp (fun G10 hwp => ?_)
  refine kw_aload_n (pc := 110) X d_Answer_putStat_110 rfl 0 rfl ?_
  refine kw_aload_n (pc := 111) X d_Answer_putStat_111 rfl 1 rfl ?_
  refine kg_5 (a := p1) (pc := 112) X d_Answer_putStat_112 x_64 rfl f4 ?_
  obtain ⟨u11, g_u11, h_u11, hwp⟩ := hwp
  refine kg_title (u := u11) (pc := 115) X d_Answer_putStat_115 x_1426 g_u11 h_u11 ?_
  refine kcV_v (n := 1) (As := [va_rf (some (tks t (ttl u11)))]) (rest := []) (pc := 118) X rfl (c_Answer_putText l t G10 a0 (some (tks t (ttl u11))) _) (cwV_of (C := "TreeServer$Answer") X x_645 x_841 x_643 x_644 x_10 (by decide +kernel) ⟨rfl, rfl⟩ (by decide)) (rv_6 X f5) rfl rfl (by decide) d_Answer_putStat_118 hwp (fun G12 hwp => ?_)
  refine kw_aload_n (pc := 121) X d_Answer_putStat_121 rfl 0 rfl ?_
  refine kw_aload_n (pc := 122) X d_Answer_putStat_122 rfl 1 rfl ?_
  refine kg_6 (a := p1) (pc := 123) X d_Answer_putStat_123 x_67 rfl f4 ?_
  obtain ⟨u13, g_u13, h_u13, hwp⟩ := hwp
  refine kg_title (u := u13) (pc := 126) X d_Answer_putStat_126 x_1426 g_u13 h_u13 ?_
  refine kcV_v (n := 1) (As := [va_rf (some (tks t (ttl u13)))]) (rest := []) (pc := 129) X rfl (c_Answer_putText l t G12 a0 (some (tks t (ttl u13))) _) (cwV_of (C := "TreeServer$Answer") X x_645 x_841 x_643 x_644 x_10 (by decide +kernel) ⟨rfl, rfl⟩ (by decide)) (rv_6 X f5) rfl rfl (by decide) d_Answer_putStat_129 hwp (fun G14 hwp => ?_)
  exact kr_v (pc := 132) X hret d_Answer_putStat_132 hwp
set_option maxRecDepth 100000 in
set_option maxHeartbeats 4000000 in
theorem k_Answer_putStat {p : Program} {l : Launch} {e : Env} {s : State} {m : MethodId} {args : Array Value} {below : List Frame} {meth : Method} {c : Code} {t : TY} {a0 : Nat} {K : GS → Prop} (X : kX p s m args meth c b_Answer_putStat 2 "TreeServer$Answer" t) (hret : meth.sig.returnType = none) (G : GS) (p1 : Nat) (hwp : w_Answer_putStat t G a0 p1 K) : kW p l e rm_Answer_putStat s m args below meth c (MQ below (va_Qv (fun u : GS => K u) (fun u T => HB t u T.heap) (tA t)) args s 0 0 (tA t)) 2 t false 0 [(0, va_rf (some a0)), (1, va_rf (some p1))] [] G := by
  unfold w_Answer_putStat at hwp
  refine kw_aload_n (pc := 0) X d_Answer_putStat_0 rfl 0 rfl ?_
  refine kw_aload_n (pc := 1) X d_Answer_putStat_1 rfl 1 rfl ?_
  obtain ⟨f1, hwp⟩ := hwp
  refine kcVp_i (n := 0) (As := []) (rest := [va_rf (some a0)]) (pc := 2) X (c_Node_statSize l t G p1 _) (cwV_of (C := "TreeServer$Node") X x_828 x_834 x_826 x_827 x_3 (by decide +kernel) ⟨rfl, rfl⟩ (by decide)) (rv_1 X f1) rfl rfl (by simp [rf_cat, cat_i, cat_l, cat_r]) d_Answer_putStat_2 hwp (fun v2 hwp => ?_)
  refine kw_iconst (v := 2) (pc := 5) X d_Answer_putStat_5 (by decide) ?_
  refine kw_isub (pc := 6) X d_Answer_putStat_6 ?_
  refine kw_i2l (pc := 7) X d_Answer_putStat_7 ?_
  refine kw_iconst (v := 2) (pc := 8) X d_Answer_putStat_8 (by decide) ?_
  obtain ⟨f3, hwp⟩ := hwp
  refine kcV_v (n := 2) (As := [.long ((v2 - (2 : Int32)).toInt64), .int (2 : Int32)]) (rest := []) (pc := 9) X rfl (c_Answer_put l t G a0 ((v2 - (2 : Int32)).toInt64) (2 : Int32) _) (cwV_of (C := "TreeServer$Answer") X x_549 x_546 x_547 x_548 x_10 (by decide +kernel) ⟨rfl, rfl⟩ (by decide)) (rv_6 X f3) rfl rfl (by decide) d_Answer_putStat_9 hwp (fun G4 hwp => ?_)
  refine kw_aload_n (pc := 12) X d_Answer_putStat_12 rfl 0 rfl ?_
  refine kw_lconst (v := 0) (pc := 13) X d_Answer_putStat_13 (by decide) ?_
  refine kw_bipush (v := 6) (pc := 14) X d_Answer_putStat_14 (by decide) ?_
  refine kcV_v (n := 2) (As := [.long (0 : Int64), .int (6 : Int32)]) (rest := []) (pc := 16) X rfl (c_Answer_put l t G4 a0 (0 : Int64) (6 : Int32) _) (cwV_of (C := "TreeServer$Answer") X x_549 x_546 x_547 x_548 x_10 (by decide +kernel) ⟨rfl, rfl⟩ (by decide)) (rv_6 X f3) rfl rfl (by decide) d_Answer_putStat_16 hwp (fun G5 hwp => ?_)
  refine kw_aload_n (pc := 19) X d_Answer_putStat_19 rfl 0 rfl ?_
  refine kw_aload_n (pc := 20) X d_Answer_putStat_20 rfl 1 rfl ?_
  refine kcV_v (n := 1) (As := [.ref p1]) (rest := []) (pc := 21) X rfl (c_Answer_putQid l t G5 a0 p1 _) (cwV_of (C := "TreeServer$Answer") X x_679 x_835 x_677 x_678 x_10 (by decide +kernel) ⟨rfl, rfl⟩ (by decide)) (rv_6 X f3) rfl rfl (by decide) d_Answer_putStat_21 hwp (fun G6 hwp => ?_)
  refine kw_aload_n (pc := 24) X d_Answer_putStat_24 rfl 0 rfl ?_
  refine kw_aload_n (pc := 25) X d_Answer_putStat_25 rfl 1 rfl ?_
  refine kg_2 (a := p1) (pc := 26) X d_Answer_putStat_26 x_53 rfl f1 ?_
  refine kw_i2l (pc := 29) X d_Answer_putStat_29 ?_
  refine kw_iconst (v := 4) (pc := 30) X d_Answer_putStat_30 (by decide) ?_
  refine kcV_v (n := 2) (As := [.long ((gi G6 2 p1).toInt64), .int (4 : Int32)]) (rest := []) (pc := 31) X rfl (c_Answer_put l t G6 a0 ((gi G6 2 p1).toInt64) (4 : Int32) _) (cwV_of (C := "TreeServer$Answer") X x_549 x_546 x_547 x_548 x_10 (by decide +kernel) ⟨rfl, rfl⟩ (by decide)) (rv_6 X f3) rfl rfl (by decide) d_Answer_putStat_31 hwp (fun G7 hwp => ?_)
  refine kw_aload_n (pc := 34) X d_Answer_putStat_34 rfl 0 rfl ?_
  refine kw_aload_n (pc := 35) X d_Answer_putStat_35 rfl 1 rfl ?_
  refine kg_3 (a := p1) (pc := 36) X d_Answer_putStat_36 x_57 rfl f1 ?_
  refine kw_i2l (pc := 39) X d_Answer_putStat_39 ?_
  refine kw_iconst (v := 4) (pc := 40) X d_Answer_putStat_40 (by decide) ?_
  refine kcV_v (n := 2) (As := [.long ((gi G7 3 p1).toInt64), .int (4 : Int32)]) (rest := []) (pc := 41) X rfl (c_Answer_put l t G7 a0 ((gi G7 3 p1).toInt64) (4 : Int32) _) (cwV_of (C := "TreeServer$Answer") X x_549 x_546 x_547 x_548 x_10 (by decide +kernel) ⟨rfl, rfl⟩ (by decide)) (rv_6 X f3) rfl rfl (by decide) d_Answer_putStat_41 hwp (fun G8 hwp => ?_)
  refine kw_aload_n (pc := 44) X d_Answer_putStat_44 rfl 0 rfl ?_
  refine kw_aload_n (pc := 45) X d_Answer_putStat_45 rfl 1 rfl ?_
  refine kg_3 (a := p1) (pc := 46) X d_Answer_putStat_46 x_57 rfl f1 ?_
  refine kw_i2l (pc := 49) X d_Answer_putStat_49 ?_
  refine kw_iconst (v := 4) (pc := 50) X d_Answer_putStat_50 (by decide) ?_
  refine kcV_v (n := 2) (As := [.long ((gi G8 3 p1).toInt64), .int (4 : Int32)]) (rest := []) (pc := 51) X rfl (c_Answer_put l t G8 a0 ((gi G8 3 p1).toInt64) (4 : Int32) _) (cwV_of (C := "TreeServer$Answer") X x_549 x_546 x_547 x_548 x_10 (by decide +kernel) ⟨rfl, rfl⟩ (by decide)) (rv_6 X f3) rfl rfl (by decide) d_Answer_putStat_51 hwp (fun G9 hwp => ?_)
  refine kw_aload_n (pc := 54) X d_Answer_putStat_54 rfl 0 rfl ?_
  refine kw_aload_n (pc := 55) X d_Answer_putStat_55 rfl 1 rfl ?_
  refine kcVp_i (n := 0) (As := []) (rest := [va_rf (some a0)]) (pc := 56) X (c_Node_isDirectory l t G9 p1 _) (cwV_of (C := "TreeServer$Node") X x_697 x_836 x_695 x_696 x_3 (by decide +kernel) ⟨rfl, rfl⟩ (by decide)) (rv_1 X f1) rfl rfl (by simp [rf_cat, cat_i, cat_l, cat_r]) d_Answer_putStat_56 hwp (fun v10 hwp => ?_)
  obtain ⟨b_v10, hwp⟩ := hwp
  refine kw_if_eq (tgt := 66) (pc := 59) X d_Answer_putStat_59 (by decide) (fun h => ?_) (fun h => ?_)
  · have hwp := ite_t h hwp
    refine kw_aload_n (pc := 66) X d_Answer_putStat_66 rfl 1 rfl ?_
    refine kg_12 (a := p1) (pc := 67) X d_Answer_putStat_67 x_87 rfl f1 ?_
    refine kw_i2l (pc := 70) X d_Answer_putStat_70 ?_
    exact kW.sub [0, 1] rfl (k_Answer_putStat_71 X hret  _ _ _ _ hwp)
  · have hwp := ite_f h hwp
    refine kw_lconst (v := 0) (pc := 62) X d_Answer_putStat_62 (by decide) ?_
    refine kw_goto (tgt := 71) (pc := 63) X d_Answer_putStat_63 (by decide) ?_
    exact kW.sub [0, 1] rfl (k_Answer_putStat_71 X hret  _ _ _ _ hwp)
set_option maxRecDepth 100000 in
set_option maxHeartbeats 4000000 in
theorem c_Answer_putStat (l : Launch) (t : TY) (G : GS) (a0 : Nat) (p1 : Nat) (K : GS → Prop) : Met l y_Answer_putStat (Cond.code y_Answer_putStat b_Answer_putStat 2 (Option.none : Option Jvm.ClassFile.FieldType) :: GW) rm_Answer_putStat (va_Pc [.ref a0, .ref p1] (fun U => HB t G U.heap ∧ HK t U ∧ w_Answer_putStat t G a0 p1 K)) (va_Qv (fun u : GS => K u) (fun u T => HB t u T.heap) (tA t)) 0 0 (tA t) := by
  refine Met.ofW (cc := b_Answer_putStat) (maxL := 2) (ret := none) (by decide) rfl ?_
  intro p e s m args below meth c s₁ B hml hv
  obtain ⟨rfl, hB, hK, hwp⟩ := hv
  have hts := atoms_spec (ws := Cond.code y_Answer_putStat b_Answer_putStat 2 (Option.none : Option Jvm.ClassFile.FieldType) :: GW) B.pre
  have X : kX p s m _ meth c b_Answer_putStat 2 "TreeServer$Answer" t := ⟨B.exec, B.bytes, hml, findClass_of_methodNamed B.named, fun w h => hts w (List.mem_cons_of_mem _ h), B.notSynchronized, hK⟩
  have hZ : kZ t false s G s.heap [] := ⟨hB, va_S.rf, fun _ => ⟨rfl, rfl⟩⟩
  rw [lg_entry_eq]
  have hl := lv_entry ([.ref a0, .ref p1]) (n := 2) (by simp [lg_sl, rf_cat, cat_i, cat_l, cat_r])
  exact k_Answer_putStat X B.returns _ _ hwp s.heap [] _ hl hZ
abbrev b_S_readEntries : ByteArray := prog_1_method_38_code
def y_S_readEntries : MethodName := ⟨"TreeServer", "readEntries", "(LTreeServer$Fid;JI)Ljava/lang/String;"⟩
theorem d_S_readEntries_0 : decode b_S_readEntries 0 = .ok (.lload_n 2, 1) := by decide +kernel
theorem d_S_readEntries_1 : decode b_S_readEntries 1 = .ok (.lconst 0, 1) := by decide +kernel
theorem d_S_readEntries_2 : decode b_S_readEntries 2 = .ok (.lcmp, 1) := by decide +kernel
theorem d_S_readEntries_3 : decode b_S_readEntries 3 = .ok (.ifCond .eq 16, 3) := by decide +kernel
theorem d_S_readEntries_6 : decode b_S_readEntries 6 = .ok (.lload_n 2, 1) := by decide +kernel
theorem d_S_readEntries_7 : decode b_S_readEntries 7 = .ok (.aload_n 1, 1) := by decide +kernel
theorem d_S_readEntries_8 : decode b_S_readEntries 8 = .ok (.getfield 482, 3) := by decide +kernel
theorem d_S_readEntries_11 : decode b_S_readEntries 11 = .ok (.lcmp, 1) := by decide +kernel
theorem d_S_readEntries_12 : decode b_S_readEntries 12 = .ok (.ifCond .eq 7, 3) := by decide +kernel
theorem d_S_readEntries_15 : decode b_S_readEntries 15 = .ok (.ldc_w 485, 3) := by decide +kernel
theorem d_S_readEntries_18 : decode b_S_readEntries 18 = .ok (.areturn, 1) := by decide +kernel
theorem d_S_readEntries_19 : decode b_S_readEntries 19 = .ok (.lload_n 2, 1) := by decide +kernel
theorem d_S_readEntries_20 : decode b_S_readEntries 20 = .ok (.lconst 0, 1) := by decide +kernel
theorem d_S_readEntries_21 : decode b_S_readEntries 21 = .ok (.lcmp, 1) := by decide +kernel
theorem d_S_readEntries_22 : decode b_S_readEntries 22 = .ok (.ifCond .ne 8, 3) := by decide +kernel
theorem d_S_readEntries_25 : decode b_S_readEntries 25 = .ok (.aload_n 1, 1) := by decide +kernel
theorem d_S_readEntries_26 : decode b_S_readEntries 26 = .ok (.iconst 0, 1) := by decide +kernel
theorem d_S_readEntries_27 : decode b_S_readEntries 27 = .ok (.putfield 487, 3) := by decide +kernel
theorem d_S_readEntries_30 : decode b_S_readEntries 30 = .ok (.aload_n 0, 1) := by decide +kernel
theorem d_S_readEntries_31 : decode b_S_readEntries 31 = .ok (.getfield 40, 3) := by decide +kernel
theorem d_S_readEntries_34 : decode b_S_readEntries 34 = .ok (.lconst 0, 1) := by decide +kernel
theorem d_S_readEntries_35 : decode b_S_readEntries 35 = .ok (.iconst 4, 1) := by decide +kernel
theorem d_S_readEntries_36 : decode b_S_readEntries 36 = .ok (.invokevirtual 306, 3) := by decide +kernel
theorem d_S_readEntries_39 : decode b_S_readEntries 39 = .ok (.iconst 0, 1) := by decide +kernel
theorem d_S_readEntries_40 : decode b_S_readEntries 40 = .ok (.istore 5, 2) := by decide +kernel
theorem d_S_readEntries_42 : decode b_S_readEntries 42 = .ok (.iconst 0, 1) := by decide +kernel
theorem d_S_readEntries_43 : decode b_S_readEntries 43 = .ok (.istore 6, 2) := by decide +kernel
theorem d_S_readEntries_45 : decode b_S_readEntries 45 = .ok (.iload 6, 2) := by decide +kernel
theorem d_S_readEntries_47 : decode b_S_readEntries 47 = .ok (.aload_n 0, 1) := by decide +kernel
theorem d_S_readEntries_48 : decode b_S_readEntries 48 = .ok (.getfield 10, 3) := by decide +kernel
theorem d_S_readEntries_51 : decode b_S_readEntries 51 = .ok (.getfield 111, 3) := by decide +kernel
theorem d_S_readEntries_54 : decode b_S_readEntries 54 = .ok (.if_icmp .ge 90, 3) := by decide +kernel
theorem d_S_readEntries_57 : decode b_S_readEntries 57 = .ok (.aload_n 0, 1) := by decide +kernel
theorem d_S_readEntries_58 : decode b_S_readEntries 58 = .ok (.getfield 10, 3) := by decide +kernel
theorem d_S_readEntries_61 : decode b_S_readEntries 61 = .ok (.getfield 490, 3) := by decide +kernel
theorem d_S_readEntries_64 : decode b_S_readEntries 64 = .ok (.iload 6, 2) := by decide +kernel
theorem d_S_readEntries_66 : decode b_S_readEntries 66 = .ok (.aaload, 1) := by decide +kernel
theorem d_S_readEntries_67 : decode b_S_readEntries 67 = .ok (.astore 7, 2) := by decide +kernel
theorem d_S_readEntries_69 : decode b_S_readEntries 69 = .ok (.aload 7, 2) := by decide +kernel
theorem d_S_readEntries_71 : decode b_S_readEntries 71 = .ok (.getfield 267, 3) := by decide +kernel
theorem d_S_readEntries_74 : decode b_S_readEntries 74 = .ok (.aload_n 1, 1) := by decide +kernel
theorem d_S_readEntries_75 : decode b_S_readEntries 75 = .ok (.getfield 232, 3) := by decide +kernel
theorem d_S_readEntries_78 : decode b_S_readEntries 78 = .ok (.if_acmp .ne 60, 3) := by decide +kernel
theorem d_S_readEntries_81 : decode b_S_readEntries 81 = .ok (.aload 7, 2) := by decide +kernel
theorem d_S_readEntries_83 : decode b_S_readEntries 83 = .ok (.getfield 494, 3) := by decide +kernel
theorem d_S_readEntries_86 : decode b_S_readEntries 86 = .ok (.aload_n 1, 1) := by decide +kernel
theorem d_S_readEntries_87 : decode b_S_readEntries 87 = .ok (.getfield 487, 3) := by decide +kernel
theorem d_S_readEntries_90 : decode b_S_readEntries 90 = .ok (.if_icmp .le 48, 3) := by decide +kernel
theorem d_S_readEntries_93 : decode b_S_readEntries 93 = .ok (.aload 7, 2) := by decide +kernel
theorem d_S_readEntries_95 : decode b_S_readEntries 95 = .ok (.invokevirtual 497, 3) := by decide +kernel
theorem d_S_readEntries_98 : decode b_S_readEntries 98 = .ok (.istore 8, 2) := by decide +kernel
theorem d_S_readEntries_100 : decode b_S_readEntries 100 = .ok (.iload 5, 2) := by decide +kernel
theorem d_S_readEntries_102 : decode b_S_readEntries 102 = .ok (.iload 8, 2) := by decide +kernel
theorem d_S_readEntries_104 : decode b_S_readEntries 104 = .ok (.iadd, 1) := by decide +kernel
theorem d_S_readEntries_105 : decode b_S_readEntries 105 = .ok (.iload 4, 2) := by decide +kernel
theorem d_S_readEntries_107 : decode b_S_readEntries 107 = .ok (.if_icmp .le 6, 3) := by decide +kernel
theorem d_S_readEntries_110 : decode b_S_readEntries 110 = .ok (.goto 34, 3) := by decide +kernel
theorem d_S_readEntries_113 : decode b_S_readEntries 113 = .ok (.aload_n 0, 1) := by decide +kernel
theorem d_S_readEntries_114 : decode b_S_readEntries 114 = .ok (.getfield 40, 3) := by decide +kernel
theorem d_S_readEntries_117 : decode b_S_readEntries 117 = .ok (.aload 7, 2) := by decide +kernel
theorem d_S_readEntries_119 : decode b_S_readEntries 119 = .ok (.invokevirtual 500, 3) := by decide +kernel
theorem d_S_readEntries_122 : decode b_S_readEntries 122 = .ok (.iload 5, 2) := by decide +kernel
theorem d_S_readEntries_124 : decode b_S_readEntries 124 = .ok (.iload 8, 2) := by decide +kernel
theorem d_S_readEntries_126 : decode b_S_readEntries 126 = .ok (.iadd, 1) := by decide +kernel
theorem d_S_readEntries_127 : decode b_S_readEntries 127 = .ok (.istore 5, 2) := by decide +kernel
theorem d_S_readEntries_129 : decode b_S_readEntries 129 = .ok (.aload_n 1, 1) := by decide +kernel
theorem d_S_readEntries_130 : decode b_S_readEntries 130 = .ok (.aload 7, 2) := by decide +kernel
theorem d_S_readEntries_132 : decode b_S_readEntries 132 = .ok (.getfield 494, 3) := by decide +kernel
theorem d_S_readEntries_135 : decode b_S_readEntries 135 = .ok (.putfield 487, 3) := by decide +kernel
theorem d_S_readEntries_138 : decode b_S_readEntries 138 = .ok (.iinc 6 1, 3) := by decide +kernel
theorem d_S_readEntries_141 : decode b_S_readEntries 141 = .ok (.goto (-96), 3) := by decide +kernel
theorem d_S_readEntries_144 : decode b_S_readEntries 144 = .ok (.aload_n 0, 1) := by decide +kernel
theorem d_S_readEntries_145 : decode b_S_readEntries 145 = .ok (.getfield 40, 3) := by decide +kernel
theorem d_S_readEntries_148 : decode b_S_readEntries 148 = .ok (.bipush 7, 2) := by decide +kernel
theorem d_S_readEntries_150 : decode b_S_readEntries 150 = .ok (.iload 5, 2) := by decide +kernel
theorem d_S_readEntries_152 : decode b_S_readEntries 152 = .ok (.i2l, 1) := by decide +kernel
theorem d_S_readEntries_153 : decode b_S_readEntries 153 = .ok (.iconst 4, 1) := by decide +kernel
theorem d_S_readEntries_154 : decode b_S_readEntries 154 = .ok (.invokevirtual 361, 3) := by decide +kernel
theorem d_S_readEntries_157 : decode b_S_readEntries 157 = .ok (.aload_n 1, 1) := by decide +kernel
theorem d_S_readEntries_158 : decode b_S_readEntries 158 = .ok (.lload_n 2, 1) := by decide +kernel
theorem d_S_readEntries_159 : decode b_S_readEntries 159 = .ok (.iload 5, 2) := by decide +kernel
theorem d_S_readEntries_161 : decode b_S_readEntries 161 = .ok (.i2l, 1) := by decide +kernel
theorem d_S_readEntries_162 : decode b_S_readEntries 162 = .ok (.ladd, 1) := by decide +kernel
theorem d_S_readEntries_163 : decode b_S_readEntries 163 = .ok (.putfield 482, 3) := by decide +kernel
theorem d_S_readEntries_166 : decode b_S_readEntries 166 = .ok (.ldc 174, 2) := by decide +kernel
theorem d_S_readEntries_168 : decode b_S_readEntries 168 = .ok (.areturn, 1) := by decide +kernel
abbrev rm_S_readEntries : Room := { frames := 6, cells := 0, slots := 0, locals := 143 }
set_option maxRecDepth 100000 in
set_option maxHeartbeats 4000000 in
theorem k_S_readEntries_144 {p : Program} {l : Launch} {e : Env} {s : State} {m : MethodId} {args : Array Value} {below : List Frame} {meth : Method} {c : Code} {t : TY} {a0 : Nat} {K : GS → Option Nat → Prop} (X : kX p s m args meth c b_S_readEntries 9 "TreeServer" t) (hret : meth.sig.returnType = some (.object "java/lang/String")) (p1 : Nat) (l2 : Int64) (l5 : Int32) (G : GS) (hwp : w_S_readEntries_144 t a0 K p1 l2 l5 G) : kW p l e rm_S_readEntries s m args below meth c (MQ below (va_Qq (fun r (u : GS) => K u r) (fun u T => HB t u T.heap) (tA t)) args s 0 0 (tA t)) 9 t false 144 [(0, va_rf (some a0)), (1, va_rf (some p1)), (2, .long l2), (5, .int l5)] [] G := by
  unfold w_S_readEntries_144 at hwp
  refine kw_aload_n (pc := 144) X d_S_readEntries_144 rfl 0 rfl ?_
  obtain ⟨f1, hwp⟩ := hwp
  refine kg_67 (a := a0) (pc := 145) X d_S_readEntries_145 x_368 rfl f1 ?_
  refine kw_bipush (v := 7) (pc := 148) X d_S_readEntries_148 (by decide) ?_
  refine kw_iload (pc := 150) X d_S_readEntries_150 3 rfl ?_
  refine kw_i2l (pc := 152) X d_S_readEntries_152 ?_
  refine kw_iconst (v := 4) (pc := 153) X d_S_readEntries_153 (by decide) ?_
  obtain ⟨a2, h_a2, hwp⟩ := hwp
  obtain ⟨f3, hwp⟩ := hwp
  refine kW.st (st' := [.int (4 : Int32), .long l5.toInt64, .int (7 : Int32), .ref a2]) (by simp only [h_a2]; rfl) ?_
  refine kcV_v (n := 3) (As := [.int (7 : Int32), .long l5.toInt64, .int (4 : Int32)]) (rest := []) (pc := 154) X rfl (c_Answer_set l t G a2 (7 : Int32) l5.toInt64 (4 : Int32) _) (cwV_of (C := "TreeServer$Answer") X x_719 x_716 x_717 x_718 x_10 (by decide +kernel) ⟨rfl, rfl⟩ (by decide)) (rv_6 X f3) rfl rfl (by decide) d_S_readEntries_154 hwp (fun G4 hwp => ?_)
  refine kw_aload_n (pc := 157) X d_S_readEntries_157 rfl 1 rfl ?_
  refine kw_lload_n (pc := 158) X d_S_readEntries_158 rfl 2 rfl ?_
  refine kw_iload (pc := 159) X d_S_readEntries_159 3 rfl ?_
  refine kw_i2l (pc := 161) X d_S_readEntries_161 ?_
  refine kw_ladd (pc := 162) X d_S_readEntries_162 ?_
  obtain ⟨f5, hwp⟩ := hwp
  refine kp_53 (a := p1) (x := (l2 + l5.toInt64)) (pc := 163) X rfl d_S_readEntries_163 x_310 rfl f5 ?_
  obtain ⟨G6, e_G6⟩ : ∃ g, g = sl G4 53 p1 (l2 + l5.toInt64) := ⟨_, rfl⟩
  have hwp := hwp G6 e_G6
  refine kW.g e_G6.symm ?_
  refine kw_ldcS (tx := "") (j := 2) (pc := 166) X d_S_readEntries_166 (by decide) rfl ?_
  exact kr_q (pc := 168) X hret d_S_readEntries_168 (Or.inl ⟨_, rfl⟩) hwp
set_option maxRecDepth 100000 in
set_option maxHeartbeats 4000000 in
theorem k_S_readEntries_45 {p : Program} {l : Launch} {e : Env} {s : State} {m : MethodId} {args : Array Value} {below : List Frame} {meth : Method} {c : Code} {t : TY} {a0 : Nat} {K : GS → Option Nat → Prop} (X : kX p s m args meth c b_S_readEntries 9 "TreeServer" t) (hret : meth.sig.returnType = some (.object "java/lang/String")) : ∀ (n : Nat) (p1 : Nat) (l2 : Int64) (l4 : Int32) (l5 : Int32) (l6 : Int32) (G : GS), w_S_readEntries_45 t a0 K n p1 l2 l4 l5 l6 G → kW p l e rm_S_readEntries s m args below meth c (MQ below (va_Qq (fun r (u : GS) => K u r) (fun u T => HB t u T.heap) (tA t)) args s 0 0 (tA t)) 9 t false 45 [(0, va_rf (some a0)), (1, va_rf (some p1)), (2, .long l2), (4, .int l4), (5, .int l5), (6, .int l6)] [] G := by
  intro n
  induction n with
  | zero => intro p1 l2 l4 l5 l6 G hwp; exact hwp.elim
  | succ n hr_45 =>
    intro p1 l2 l4 l5 l6 G hwp
    unfold w_S_readEntries_45 at hwp
    dsimp only at hwp
    refine kw_iload (pc := 45) X d_S_readEntries_45 5 rfl ?_
    refine kw_aload_n (pc := 47) X d_S_readEntries_47 rfl 0 rfl ?_
    obtain ⟨f1, hwp⟩ := hwp
    refine kg_63 (a := a0) (pc := 48) X d_S_readEntries_48 x_364 rfl f1 ?_
    obtain ⟨a2, h_a2, hwp⟩ := hwp
    obtain ⟨f3, hwp⟩ := hwp
    refine kg_15 (a := a2) (pc := 51) X d_S_readEntries_51 x_124 h_a2 f3 ?_
    refine kw_icmp_ge (tgt := 144) (pc := 54) X d_S_readEntries_54 (by decide) (fun h => ?_) (fun h => ?_)
    · have hwp := ite_t h hwp
      exact kW.sub [0, 1, 2, 4] rfl (k_S_readEntries_144 X hret  _ _ _ _ hwp)
    · have hwp := ite_f h hwp
      refine kw_aload_n (pc := 57) X d_S_readEntries_57 rfl 0 rfl ?_
      refine kg_63 (a := a0) (pc := 58) X d_S_readEntries_58 x_364 rfl f1 ?_
      refine kg_14 (a := a2) (pc := 61) X d_S_readEntries_61 x_122 h_a2 f3 ?_
      refine kw_iload (pc := 64) X d_S_readEntries_64 5 rfl ?_
      obtain ⟨a4, h_a4, hwp⟩ := hwp
      obtain ⟨f5, hwp⟩ := hwp
      obtain ⟨f6, hwp⟩ := hwp
      refine ka_aald54 (a := a4) (pc := 66) X d_S_readEntries_66 h_a4 f5 f6 ?_
      refine kw_astore (i := 7) (lv' := [(7, va_rf (ar G a4 l6.toNatClampNeg)), (0, va_rf (some a0)), (1, va_rf (some p1)), (2, .long l2), (4, .int l4), (5, .int l5), (6, .int l6)]) (pc := 67) X d_S_readEntries_67 (by decide) rfl ?_
      refine kw_aload (pc := 69) X d_S_readEntries_69 0 rfl ?_
      obtain ⟨a7, h_a7, hwp⟩ := hwp
      obtain ⟨f8, hwp⟩ := hwp
      refine kg_7 (a := a7) (pc := 71) X d_S_readEntries_71 x_71 h_a7 f8 ?_
      refine kw_aload_n (pc := 74) X d_S_readEntries_74 rfl 2 rfl ?_
      obtain ⟨f9, hwp⟩ := hwp
      refine kg_48 (a := p1) (pc := 75) X d_S_readEntries_75 x_300 rfl f9 ?_
      refine kw_acmp_ne (tgt := 138) (pc := 78) X d_S_readEntries_78 (by decide) (fun h => ?_) (fun h => ?_)
      · have hwp := ite_t h hwp
        obtain ⟨v10, e_v10⟩ : ∃ z, z = (l6 + (1 : Int32)) := ⟨_, rfl⟩
        have hwp := hwp v10 e_v10
        refine kw_iinc (v := v10) (lv' := [(6, .int v10), (7, va_rf (ar G a4 l6.toNatClampNeg)), (0, va_rf (some a0)), (1, va_rf (some p1)), (2, .long l2), (4, .int l4), (5, .int l5)]) (pc := 138) X d_S_readEntries_138 6 rfl (by rw [e_v10]; rfl) (by decide) rfl ?_
        refine kw_goto (tgt := 45) (pc := 141) X d_S_readEntries_141 (by decide) ?_
        exact kW.sub [2, 3, 4, 5, 6, 0] rfl (hr_45 _ _ _ _ _ _ hwp)
      · have hwp := ite_f (not_not_intro h) hwp
        refine kw_aload (pc := 81) X d_S_readEntries_81 0 rfl ?_
        refine kg_0 (a := a7) (pc := 83) X d_S_readEntries_83 x_46 h_a7 f8 ?_
        refine kw_aload_n (pc := 86) X d_S_readEntries_86 rfl 2 rfl ?_
        refine kg_54 (a := p1) (pc := 87) X d_S_readEntries_87 x_312 rfl f9 ?_
        refine kw_icmp_le (tgt := 138) (pc := 90) X d_S_readEntries_90 (by decide) (fun h => ?_) (fun h => ?_)
        · have hwp := ite_t h hwp
          obtain ⟨v11, e_v11⟩ : ∃ z, z = (l6 + (1 : Int32)) := ⟨_, rfl⟩
          have hwp := hwp v11 e_v11
          refine kw_iinc (v := v11) (lv' := [(6, .int v11), (7, va_rf (ar G a4 l6.toNatClampNeg)), (0, va_rf (some a0)), (1, va_rf (some p1)), (2, .long l2), (4, .int l4), (5, .int l5)]) (pc := 138) X d_S_readEntries_138 6 rfl (by rw [e_v11]; rfl) (by decide) rfl ?_
          refine kw_goto (tgt := 45) (pc := 141) X d_S_readEntries_141 (by decide) ?_
          exact kW.sub [2, 3, 4, 5, 6, 0] rfl (hr_45 _ _ _ _ _ _ hwp)
        · have hwp := ite_f h hwp
          refine kw_aload (pc := 93) X d_S_readEntries_93 0 rfl ?_
          refine kW.st (st' := [.ref a7]) (by simp only [h_a7]; rfl) ?_
          refine kcVp_i (n := 0) (As := []) (rest := []) (pc := 95) X (c_Node_statSize l t G a7 _) (cwV_of (C := "TreeServer$Node") X x_828 x_825 x_826 x_827 x_3 (by decide +kernel) ⟨rfl, rfl⟩ (by decide)) (rv_1 X f8) rfl rfl (by decide) d_S_readEntries_95 hwp (fun v12 hwp => ?_)
          refine kw_istore (i := 8) (lv' := [(8, .int v12), (7, va_rf (ar G a4 l6.toNatClampNeg)), (0, va_rf (some a0)), (1, va_rf (some p1)), (2, .long l2), (4, .int l4), (5, .int l5), (6, .int l6)]) (pc := 98) X d_S_readEntries_98 (by decide) (by simp [rf_cat, cat_i, cat_l, cat_r]) ?_
          refine kw_iload (pc := 100) X d_S_readEntries_100 6 rfl ?_
          refine kw_iload (pc := 102) X d_S_readEntries_102 0 rfl ?_
          refine kw_iadd (pc := 104) X d_S_readEntries_104 ?_
          refine kw_iload (pc := 105) X d_S_readEntries_105 5 rfl ?_
          refine kw_icmp_le (tgt := 113) (pc := 107) X d_S_readEntries_107 (by decide) (fun h => ?_) (fun h => ?_)
          · have hwp := ite_t h hwp
            refine kw_aload_n (pc := 113) X d_S_readEntries_113 rfl 2 rfl ?_
            refine kg_67 (a := a0) (pc := 114) X d_S_readEntries_114 x_368 rfl f1 ?_
            refine kw_aload (pc := 117) X d_S_readEntries_117 1 rfl ?_
            obtain ⟨a13, h_a13, hwp⟩ := hwp
            obtain ⟨f14, hwp⟩ := hwp
            refine kW.st (st' := [.ref a7, .ref a13]) (by simp only [h_a7, h_a13]; rfl) ?_
            refine kcV_v (n := 1) (As := [.ref a7]) (rest := []) (pc := 119) X rfl (c_Answer_putStat l t G a13 a7 _) (cwV_of (C := "TreeServer$Answer") X x_833 x_830 x_831 x_832 x_10 (by decide +kernel) ⟨rfl, rfl⟩ (by decide)) (rv_6 X f14) rfl rfl (by decide) d_S_readEntries_119 hwp (fun G15 hwp => ?_)
            refine kw_iload (pc := 122) X d_S_readEntries_122 6 rfl ?_
            refine kw_iload (pc := 124) X d_S_readEntries_124 0 rfl ?_
            refine kw_iadd (pc := 126) X d_S_readEntries_126 ?_
            obtain ⟨v16, e_v16⟩ : ∃ z, z = (l5 + v12) := ⟨_, rfl⟩
            have hwp := hwp v16 e_v16
            refine kW.st (st' := .int v16 :: _) (by rw [e_v16]) ?_
            refine kw_istore (i := 5) (lv' := [(5, .int v16), (8, .int v12), (7, va_rf (ar G a4 l6.toNatClampNeg)), (0, va_rf (some a0)), (1, va_rf (some p1)), (2, .long l2), (4, .int l4), (6, .int l6)]) (pc := 127) X d_S_readEntries_127 (by decide) rfl ?_
            refine kw_aload_n (pc := 129) X d_S_readEntries_129 rfl 4 rfl ?_
            refine kw_aload (pc := 130) X d_S_readEntries_130 2 rfl ?_
            refine kg_0 (a := a7) (pc := 132) X d_S_readEntries_132 x_46 h_a7 f8 ?_
            refine kp_54 (a := p1) (x := (gi G15 0 a7)) (pc := 135) X rfl d_S_readEntries_135 x_312 rfl f9 ?_
            obtain ⟨G17, e_G17⟩ : ∃ g, g = si G15 54 p1 (gi G15 0 a7) := ⟨_, rfl⟩
            have hwp := hwp G17 e_G17
            refine kW.g e_G17.symm ?_
            obtain ⟨v18, e_v18⟩ : ∃ z, z = (l6 + (1 : Int32)) := ⟨_, rfl⟩
            have hwp := hwp v18 e_v18
            refine kw_iinc (v := v18) (lv' := [(6, .int v18), (5, .int v16), (8, .int v12), (7, va_rf (ar G a4 l6.toNatClampNeg)), (0, va_rf (some a0)), (1, va_rf (some p1)), (2, .long l2), (4, .int l4)]) (pc := 138) X d_S_readEntries_138 7 rfl (by rw [e_v18]; rfl) (by decide) rfl ?_
            refine kw_goto (tgt := 45) (pc := 141) X d_S_readEntries_141 (by decide) ?_
            exact kW.sub [4, 5, 6, 7, 1, 0] rfl (hr_45 _ _ _ _ _ _ hwp)
          · have hwp := ite_f h hwp
            refine kw_goto (tgt := 144) (pc := 110) X d_S_readEntries_110 (by decide) ?_
            exact kW.sub [2, 3, 4, 6] rfl (k_S_readEntries_144 X hret  _ _ _ _ hwp)
set_option maxRecDepth 100000 in
set_option maxHeartbeats 4000000 in
theorem k_S_readEntries_30 {p : Program} {l : Launch} {e : Env} {s : State} {m : MethodId} {args : Array Value} {below : List Frame} {meth : Method} {c : Code} {t : TY} {a0 : Nat} {K : GS → Option Nat → Prop} (X : kX p s m args meth c b_S_readEntries 9 "TreeServer" t) (hret : meth.sig.returnType = some (.object "java/lang/String")) (p1 : Nat) (l2 : Int64) (l4 : Int32) (G : GS) (hwp : w_S_readEntries_30 t a0 K p1 l2 l4 G) : kW p l e rm_S_readEntries s m args below meth c (MQ below (va_Qq (fun r (u : GS) => K u r) (fun u T => HB t u T.heap) (tA t)) args s 0 0 (tA t)) 9 t false 30 [(0, va_rf (some a0)), (1, va_rf (some p1)), (2, .long l2), (4, .int l4)] [] G := by
  unfold w_S_readEntries_30 at hwp
  refine kw_aload_n (pc := 30) X d_S_readEntries_30 rfl 0 rfl ?_
  obtain ⟨f1, hwp⟩ := hwp
  refine kg_67 (a := a0) (pc := 31) X d_S_readEntries_31 x_368 rfl f1 ?_
  refine kw_lconst (v := 0) (pc := 34) X d_S_readEntries_34 (by decide) ?_
  refine kw_iconst (v := 4) (pc := 35) X d_S_readEntries_35 (by decide) ?_
  obtain ⟨a2, h_a2, hwp⟩ := hwp
  obtain ⟨f3, hwp⟩ := hwp
  refine kW.st (st' := [.int (4 : Int32), .long (0 : Int64), .ref a2]) (by simp only [h_a2]; rfl) ?_
  refine kcV_v (n := 2) (As := [.long (0 : Int64), .int (4 : Int32)]) (rest := []) (pc := 36) X rfl (c_Answer_put l t G a2 (0 : Int64) (4 : Int32) _) (cwV_of (C := "TreeServer$Answer") X x_549 x_640 x_547 x_548 x_10 (by decide +kernel) ⟨rfl, rfl⟩ (by decide)) (rv_6 X f3) rfl rfl (by decide) d_S_readEntries_36 hwp (fun G4 hwp => ?_)
  refine kw_iconst (v := 0) (pc := 39) X d_S_readEntries_39 (by decide) ?_
  refine kw_istore (i := 5) (lv' := [(5, .int (0 : Int32)), (0, va_rf (some a0)), (1, va_rf (some p1)), (2, .long l2), (4, .int l4)]) (pc := 40) X d_S_readEntries_40 (by decide) rfl ?_
  refine kw_iconst (v := 0) (pc := 42) X d_S_readEntries_42 (by decide) ?_
  refine kw_istore (i := 6) (lv' := [(6, .int (0 : Int32)), (5, .int (0 : Int32)), (0, va_rf (some a0)), (1, va_rf (some p1)), (2, .long l2), (4, .int l4)]) (pc := 43) X d_S_readEntries_43 (by decide) rfl ?_
  obtain ⟨n, hwp⟩ := hwp
  exact kW.sub [2, 3, 4, 5, 1, 0] rfl (k_S_readEntries_45 X hret  n _ _ _ _ _ _ hwp)
set_option maxRecDepth 100000 in
set_option maxHeartbeats 4000000 in
theorem k_S_readEntries_19 {p : Program} {l : Launch} {e : Env} {s : State} {m : MethodId} {args : Array Value} {below : List Frame} {meth : Method} {c : Code} {t : TY} {a0 : Nat} {K : GS → Option Nat → Prop} (X : kX p s m args meth c b_S_readEntries 9 "TreeServer" t) (hret : meth.sig.returnType = some (.object "java/lang/String")) (p1 : Nat) (l2 : Int64) (l4 : Int32) (G : GS) (hwp : w_S_readEntries_19 t a0 K p1 l2 l4 G) : kW p l e rm_S_readEntries s m args below meth c (MQ below (va_Qq (fun r (u : GS) => K u r) (fun u T => HB t u T.heap) (tA t)) args s 0 0 (tA t)) 9 t false 19 [(0, va_rf (some a0)), (1, va_rf (some p1)), (2, .long l2), (4, .int l4)] [] G := by
  unfold w_S_readEntries_19 at hwp
  refine kw_lload_n (pc := 19) X d_S_readEntries_19 rfl 2 rfl ?_
  refine kw_lconst (v := 0) (pc := 20) X d_S_readEntries_20 (by decide) ?_
  refine kw_lcmp_ne (tgt := 30) (pc := 21) X d_S_readEntries_21 d_S_readEntries_22 (by decide) (fun h => ?_) (fun h => ?_)
  · have hwp := ite_t h hwp
    exact kW.sub [0, 1, 2, 3] rfl (k_S_readEntries_30 X hret  _ _ _ _ hwp)
  · have hwp := ite_f (not_not_intro h) hwp
    refine kw_aload_n (pc := 25) X d_S_readEntries_25 rfl 1 rfl ?_
    refine kw_iconst (v := 0) (pc := 26) X d_S_readEntries_26 (by decide) ?_
    obtain ⟨f1, hwp⟩ := hwp
    refine kp_54 (a := p1) (x := (0 : Int32)) (pc := 27) X rfl d_S_readEntries_27 x_312 rfl f1 ?_
    obtain ⟨G2, e_G2⟩ : ∃ g, g = si G 54 p1 (0 : Int32) := ⟨_, rfl⟩
    have hwp := hwp G2 e_G2
    refine kW.g e_G2.symm ?_
    exact kW.sub [0, 1, 2, 3] rfl (k_S_readEntries_30 X hret  _ _ _ _ hwp)
set_option maxRecDepth 100000 in
set_option maxHeartbeats 4000000 in
theorem k_S_readEntries {p : Program} {l : Launch} {e : Env} {s : State} {m : MethodId} {args : Array Value} {below : List Frame} {meth : Method} {c : Code} {t : TY} {a0 : Nat} {K : GS → Option Nat → Prop} (X : kX p s m args meth c b_S_readEntries 9 "TreeServer" t) (hret : meth.sig.returnType = some (.object "java/lang/String")) (G : GS) (p1 : Nat) (p2 : Int64) (p4 : Int32) (hwp : w_S_readEntries t G a0 p1 p2 p4 K) : kW p l e rm_S_readEntries s m args below meth c (MQ below (va_Qq (fun r (u : GS) => K u r) (fun u T => HB t u T.heap) (tA t)) args s 0 0 (tA t)) 9 t false 0 [(0, va_rf (some a0)), (1, va_rf (some p1)), (2, .long p2), (4, .int p4)] [] G := by
  unfold w_S_readEntries at hwp
  refine kw_lload_n (pc := 0) X d_S_readEntries_0 rfl 2 rfl ?_
  refine kw_lconst (v := 0) (pc := 1) X d_S_readEntries_1 (by decide) ?_
  refine kw_lcmp_eq (tgt := 19) (pc := 2) X d_S_readEntries_2 d_S_readEntries_3 (by decide) (fun h => ?_) (fun h => ?_)
  · have hwp := ite_t h hwp
    exact kW.sub [0, 1, 2, 3] rfl (k_S_readEntries_19 X hret  _ _ _ _ hwp)
  · have hwp := ite_f h hwp
    refine kw_lload_n (pc := 6) X d_S_readEntries_6 rfl 2 rfl ?_
    refine kw_aload_n (pc := 7) X d_S_readEntries_7 rfl 1 rfl ?_
    obtain ⟨f1, hwp⟩ := hwp
    refine kg_53 (a := p1) (pc := 8) X d_S_readEntries_8 x_310 rfl f1 ?_
    refine kw_lcmp_eq (tgt := 19) (pc := 11) X d_S_readEntries_11 d_S_readEntries_12 (by decide) (fun h => ?_) (fun h => ?_)
    · have hwp := ite_t h hwp
      exact kW.sub [0, 1, 2, 3] rfl (k_S_readEntries_19 X hret  _ _ _ _ hwp)
    · have hwp := ite_f h hwp
      refine kw_ldcwS (j := 24) (pc := 15) X d_S_readEntries_15 (by decide) rfl ?_
      exact kr_q (pc := 18) X hret d_S_readEntries_18 (Or.inl ⟨_, rfl⟩) hwp
set_option maxRecDepth 100000 in
set_option maxHeartbeats 4000000 in
theorem c_S_readEntries (l : Launch) (t : TY) (G : GS) (a0 : Nat) (p1 : Nat) (p2 : Int64) (p4 : Int32) (K : GS → Option Nat → Prop) : Met l y_S_readEntries (Cond.code y_S_readEntries b_S_readEntries 9 (Option.some (Jvm.ClassFile.FieldType.object "java/lang/String")) :: GW) rm_S_readEntries (va_Pc [.ref a0, .ref p1, .long p2, .int p4] (fun U => HB t G U.heap ∧ HK t U ∧ w_S_readEntries t G a0 p1 p2 p4 K)) (va_Qq (fun r (u : GS) => K u r) (fun u T => HB t u T.heap) (tA t)) 0 0 (tA t) := by
  refine Met.ofW (cc := b_S_readEntries) (maxL := 9) (ret := some (.object "java/lang/String")) (by decide) rfl ?_
  intro p e s m args below meth c s₁ B hml hv
  obtain ⟨rfl, hB, hK, hwp⟩ := hv
  have hts := atoms_spec (ws := Cond.code y_S_readEntries b_S_readEntries 9 (Option.some (Jvm.ClassFile.FieldType.object "java/lang/String")) :: GW) B.pre
  have X : kX p s m _ meth c b_S_readEntries 9 "TreeServer" t := ⟨B.exec, B.bytes, hml, findClass_of_methodNamed B.named, fun w h => hts w (List.mem_cons_of_mem _ h), B.notSynchronized, hK⟩
  have hZ : kZ t false s G s.heap [] := ⟨hB, va_S.rf, fun _ => ⟨rfl, rfl⟩⟩
  rw [lg_entry_eq]
  have hl := lv_entry ([.ref a0, .ref p1, .long p2, .int p4]) (n := 9) (by simp [lg_sl, rf_cat, cat_i, cat_l, cat_r])
  exact k_S_readEntries X B.returns _ _ _ _ hwp s.heap [] _ hl hZ
