abbrev b_Node_init : ByteArray := prog_9_method_1_code
def y_Node_init : MethodName := ⟨"TreeServer$Node", "<init>", "()V"⟩
theorem d_Node_init_0 : decode b_Node_init 0 = .ok (.aload_n 0, 1) := by decide +kernel
theorem d_Node_init_1 : decode b_Node_init 1 = .ok (.invokespecial 3, 3) := by decide +kernel
theorem d_Node_init_4 : decode b_Node_init 4 = .ok (.aload_n 0, 1) := by decide +kernel
theorem d_Node_init_5 : decode b_Node_init 5 = .ok (.iconst (-1), 1) := by decide +kernel
theorem d_Node_init_6 : decode b_Node_init 6 = .ok (.putfield 9, 3) := by decide +kernel
theorem d_Node_init_9 : decode b_Node_init 9 = .ok (.aload_n 0, 1) := by decide +kernel
theorem d_Node_init_10 : decode b_Node_init 10 = .ok (.getstatic 15, 3) := by decide +kernel
theorem d_Node_init_13 : decode b_Node_init 13 = .ok (.putfield 21, 3) := by decide +kernel
theorem d_Node_init_16 : decode b_Node_init 16 = .ok (.aload_n 0, 1) := by decide +kernel
theorem d_Node_init_17 : decode b_Node_init 17 = .ok (.getstatic 15, 3) := by decide +kernel
theorem d_Node_init_20 : decode b_Node_init 20 = .ok (.putfield 24, 3) := by decide +kernel
theorem d_Node_init_23 : decode b_Node_init 23 = .ok (.aload_n 0, 1) := by decide +kernel
theorem d_Node_init_24 : decode b_Node_init 24 = .ok (.getstatic 15, 3) := by decide +kernel
theorem d_Node_init_27 : decode b_Node_init 27 = .ok (.putfield 27, 3) := by decide +kernel
theorem d_Node_init_30 : decode b_Node_init 30 = .ok (.aload_n 0, 1) := by decide +kernel
theorem d_Node_init_31 : decode b_Node_init 31 = .ok (.bipush 8, 2) := by decide +kernel
theorem d_Node_init_33 : decode b_Node_init 33 = .ok (.newarray .byte, 2) := by decide +kernel
theorem d_Node_init_35 : decode b_Node_init 35 = .ok (.putfield 30, 3) := by decide +kernel
theorem d_Node_init_38 : decode b_Node_init 38 = .ok (.aload_n 0, 1) := by decide +kernel
theorem d_Node_init_39 : decode b_Node_init 39 = .ok (.bipush 64, 2) := by decide +kernel
theorem d_Node_init_41 : decode b_Node_init 41 = .ok (.newarray .byte, 2) := by decide +kernel
theorem d_Node_init_43 : decode b_Node_init 43 = .ok (.putfield 34, 3) := by decide +kernel
theorem d_Node_init_46 : decode b_Node_init 46 = .ok (.return_, 1) := by decide +kernel
abbrev rm_Node_init : Room := { frames := 1, cells := 2, slots := 72, locals := 12 }
set_option maxRecDepth 100000 in
set_option maxHeartbeats 4000000 in
theorem k_Node_init {p : Program} {l : Launch} {e : Env} {s : State} {m : MethodId} {args : Array Value} {below : List Frame} {meth : Method} {c : Code} {t : TY} {a0 : Nat} {K : TY → GS → Prop} (X : kX p s m args meth c b_Node_init 1 "TreeServer$Node" t) (hret : meth.sig.returnType = none) (hmn : meth.name = "<init>") (G : GS) (hwp : w_Node_init t G a0 K) : kV (0, 0) p l e rm_Node_init s m args below meth c (MQ below (va_Qv (fun u : TY × GS => te t u.1 ∧ K u.1 u.2) (fun u T => HB u.1 u.2 T.heap) (tA t)) args s 2 72 (tA t)) 1 t false 0 [(0, va_rf (some a0))] [] G := by
  unfold w_Node_init at hwp
  have E : te t t := te.rf X.h.2.1.1
  refine qw_aload_n (pc := 0) X d_Node_init_0 rfl 0 rfl ?_
  refine q_objInit (pc := 1) X d_Node_init_1 x_39 x_26 x_27 rfl (by decide) (by decide) ?_
  refine qw_aload_n (pc := 4) X d_Node_init_4 rfl 0 rfl ?_
  refine qw_iconst (v := -1) (pc := 5) X d_Node_init_5 (by decide) ?_
  obtain ⟨f1, hwp⟩ := hwp
  refine qp_0 (a := a0) (x := (-1 : Int32)) (pc := 6) X rfl d_Node_init_6 x_42 rfl f1 ?_
  obtain ⟨G3, e_G3⟩ : ∃ g, g = si G 0 a0 (-1 : Int32) := ⟨_, rfl⟩
  have hwp := hwp G3 e_G3
  rw [← e_G3]
  refine qw_aload_n (pc := 9) X d_Node_init_9 rfl 0 rfl ?_
  refine qs_0 (pc := 10) X d_Node_init_10 x_40 ?_
  refine qp_4 (a := a0) (x := some (tad t 0)) (pc := 13) X rfl d_Node_init_13 x_58 rfl f1 ?_
  obtain ⟨G5, e_G5⟩ : ∃ g, g = sr G3 4 a0 (some (tad t 0)) := ⟨_, rfl⟩
  have hwp := hwp G5 e_G5
  rw [← e_G5]
  refine qw_aload_n (pc := 16) X d_Node_init_16 rfl 0 rfl ?_
  refine qs_0 (pc := 17) X d_Node_init_17 x_40 ?_
  refine qp_5 (a := a0) (x := some (tad t 0)) (pc := 20) X rfl d_Node_init_20 x_62 rfl f1 ?_
  obtain ⟨G7, e_G7⟩ : ∃ g, g = sr G5 5 a0 (some (tad t 0)) := ⟨_, rfl⟩
  have hwp := hwp G7 e_G7
  rw [← e_G7]
  refine qw_aload_n (pc := 23) X d_Node_init_23 rfl 0 rfl ?_
  refine qs_0 (pc := 24) X d_Node_init_24 x_40 ?_
  refine qp_6 (a := a0) (x := some (tad t 0)) (pc := 27) X rfl d_Node_init_27 x_65 rfl f1 ?_
  obtain ⟨G9, e_G9⟩ : ∃ g, g = sr G7 6 a0 (some (tad t 0)) := ⟨_, rfl⟩
  have hwp := hwp G9 e_G9
  rw [← e_G9]
  refine qw_aload_n (pc := 30) X d_Node_init_30 rfl 0 rfl ?_
  refine qw_bipush (v := 8) (pc := 31) X d_Node_init_31 (by decide) ?_
  refine qn_51 8 (a0, 1) (pc := 33) X rfl d_Node_init_33 x_116 (by decide) (by decide) (fun a10 n11 => ?_)
  obtain ⟨t12, e_t12⟩ : ∃ z, z = adT t a10 51 8 (a0, 1) := ⟨_, rfl⟩
  obtain ⟨G13, e_G13⟩ : ∃ z, z = zG G9 a10 := ⟨_, rfl⟩
  have hwp := hwp a10 n11 t12 e_t12 G13 e_G13
  have e14 : te t t12 := by rw [e_t12]; exact te.ad X.h.2.1.1 n11 51 8 (a0, 1)
  have X15 := X.te e14
  rw [← e_t12, ← e_G13]
  refine kV.ce (cs' := (1, 8)) rfl ?_
  have f16 := e14.k f1 X.h.2.1.1 (by decide)
  have e17 := E.trans e14
  have f18 : tk t12 a10 = 51 := by rw [e_t12]; exact tk_ad
  refine qf_9 (a := a0) (pc := 35) X15 rfl hmn d_Node_init_35 x_76 rfl f16 ?_
  obtain ⟨G20, e_G20⟩ : ∃ g, g = sr G13 9 a0 (some a10) := ⟨_, rfl⟩
  have hwp := hwp G20 e_G20
  rw [← e_G20]
  refine qw_aload_n (pc := 38) X15 d_Node_init_38 rfl 0 rfl ?_
  refine qw_bipush (v := 64) (pc := 39) X15 d_Node_init_39 (by decide) ?_
  refine qn_51 64 (a0, 2) (pc := 41) X15 rfl d_Node_init_41 x_116 (by decide) (by decide) (fun a21 n22 => ?_)
  obtain ⟨t23, e_t23⟩ : ∃ z, z = adT t12 a21 51 64 (a0, 2) := ⟨_, rfl⟩
  obtain ⟨G24, e_G24⟩ : ∃ z, z = zG G20 a21 := ⟨_, rfl⟩
  have hwp := hwp a21 n22 t23 e_t23 G24 e_G24
  have e25 : te t12 t23 := by rw [e_t23]; exact te.ad X15.h.2.1.1 n22 51 64 (a0, 2)
  have X26 := X15.te e25
  rw [← e_t23, ← e_G24]
  refine kV.ce (cs' := (2, 72)) rfl ?_
  have f27 := e25.k f16 X15.h.2.1.1 (by decide)
  have f28 := e25.k f18 X15.h.2.1.1 (by decide)
  have e29 := e17.trans e25
  have f30 : tk t23 a21 = 51 := by rw [e_t23]; exact tk_ad
  refine qf_11 (a := a0) (pc := 43) X26 rfl hmn d_Node_init_43 x_84 rfl f27 ?_
  obtain ⟨G32, e_G32⟩ : ∃ g, g = sr G24 11 a0 (some a21) := ⟨_, rfl⟩
  have hwp := hwp G32 e_G32
  rw [← e_G32]
  exact qr_init (t0 := t) X26 hret d_Node_init_46 e29 hwp
set_option maxRecDepth 100000 in
set_option maxHeartbeats 4000000 in
theorem c_Node_init (l : Launch) (t : TY) (G : GS) (a0 : Nat) (K : TY → GS → Prop) : Met l y_Node_init (Cond.code y_Node_init b_Node_init 1 (Option.none : Option Jvm.ClassFile.FieldType) :: GW) rm_Node_init (va_Pc [.ref a0] (fun U => HB t G U.heap ∧ HK t U ∧ w_Node_init t G a0 K)) (va_Qv (fun u : TY × GS => te t u.1 ∧ K u.1 u.2) (fun u T => HB u.1 u.2 T.heap) (tA t)) 2 72 (tA t) := by
  refine Met.ofW (cc := b_Node_init) (maxL := 1) (ret := none) (by decide) rfl ?_
  intro p e s m args below meth c s₁ B hml hv
  obtain ⟨rfl, hB, hK, hwp⟩ := hv
  have hts := atoms_spec (ws := Cond.code y_Node_init b_Node_init 1 (Option.none : Option Jvm.ClassFile.FieldType) :: GW) B.pre
  have hmn : meth.name = "<init>" := (name_of_methodNamed B.named B.method).1
  have X : kX p s m _ meth c b_Node_init 1 "TreeServer$Node" t := ⟨B.exec, B.bytes, hml, findClass_of_methodNamed B.named, fun w h => hts w (List.mem_cons_of_mem _ h), B.notSynchronized, hK⟩
  have hZ : kZ t false s G s.heap [] := ⟨hB, va_S.rf, fun h => by cases h⟩
  rw [lg_entry_eq]
  have hl := lv_entry ([.ref a0]) (n := 1) (by simp [lg_sl, rf_cat, cat_i, cat_l, cat_r])
  exact k_Node_init X B.returns hmn G hwp s.heap [] _ hl hZ
abbrev b_Tree_init : ByteArray := prog_10_method_1_code
def y_Tree_init : MethodName := ⟨"TreeServer$Tree", "<init>", "()V"⟩
theorem d_Tree_init_0 : decode b_Tree_init 0 = .ok (.aload_n 0, 1) := by decide +kernel
theorem d_Tree_init_1 : decode b_Tree_init 1 = .ok (.invokespecial 3, 3) := by decide +kernel
theorem d_Tree_init_4 : decode b_Tree_init 4 = .ok (.aload_n 0, 1) := by decide +kernel
theorem d_Tree_init_5 : decode b_Tree_init 5 = .ok (.new 9, 3) := by decide +kernel
theorem d_Tree_init_8 : decode b_Tree_init 8 = .ok (.dup, 1) := by decide +kernel
theorem d_Tree_init_9 : decode b_Tree_init 9 = .ok (.invokespecial 11, 3) := by decide +kernel
theorem d_Tree_init_12 : decode b_Tree_init 12 = .ok (.putfield 12, 3) := by decide +kernel
theorem d_Tree_init_15 : decode b_Tree_init 15 = .ok (.aload_n 0, 1) := by decide +kernel
theorem d_Tree_init_16 : decode b_Tree_init 16 = .ok (.bipush 20, 2) := by decide +kernel
theorem d_Tree_init_18 : decode b_Tree_init 18 = .ok (.anewarray 9, 3) := by decide +kernel
theorem d_Tree_init_21 : decode b_Tree_init 21 = .ok (.putfield 18, 3) := by decide +kernel
theorem d_Tree_init_24 : decode b_Tree_init 24 = .ok (.aload_n 0, 1) := by decide +kernel
theorem d_Tree_init_25 : decode b_Tree_init 25 = .ok (.iconst 1, 1) := by decide +kernel
theorem d_Tree_init_26 : decode b_Tree_init 26 = .ok (.putfield 22, 3) := by decide +kernel
theorem d_Tree_init_29 : decode b_Tree_init 29 = .ok (.aload_n 0, 1) := by decide +kernel
theorem d_Tree_init_30 : decode b_Tree_init 30 = .ok (.getfield 12, 3) := by decide +kernel
theorem d_Tree_init_33 : decode b_Tree_init 33 = .ok (.iconst 0, 1) := by decide +kernel
theorem d_Tree_init_34 : decode b_Tree_init 34 = .ok (.putfield 26, 3) := by decide +kernel
theorem d_Tree_init_37 : decode b_Tree_init 37 = .ok (.aload_n 0, 1) := by decide +kernel
theorem d_Tree_init_38 : decode b_Tree_init 38 = .ok (.getfield 12, 3) := by decide +kernel
theorem d_Tree_init_41 : decode b_Tree_init 41 = .ok (.ldc 29, 2) := by decide +kernel
theorem d_Tree_init_43 : decode b_Tree_init 43 = .ok (.putfield 30, 3) := by decide +kernel
theorem d_Tree_init_46 : decode b_Tree_init 46 = .ok (.aload_n 0, 1) := by decide +kernel
theorem d_Tree_init_47 : decode b_Tree_init 47 = .ok (.getfield 12, 3) := by decide +kernel
theorem d_Tree_init_50 : decode b_Tree_init 50 = .ok (.getfield 33, 3) := by decide +kernel
theorem d_Tree_init_53 : decode b_Tree_init 53 = .ok (.iconst 0, 1) := by decide +kernel
theorem d_Tree_init_54 : decode b_Tree_init 54 = .ok (.bipush 47, 2) := by decide +kernel
theorem d_Tree_init_56 : decode b_Tree_init 56 = .ok (.bastore, 1) := by decide +kernel
theorem d_Tree_init_57 : decode b_Tree_init 57 = .ok (.aload_n 0, 1) := by decide +kernel
theorem d_Tree_init_58 : decode b_Tree_init 58 = .ok (.getfield 12, 3) := by decide +kernel
theorem d_Tree_init_61 : decode b_Tree_init 61 = .ok (.iconst 1, 1) := by decide +kernel
theorem d_Tree_init_62 : decode b_Tree_init 62 = .ok (.putfield 37, 3) := by decide +kernel
theorem d_Tree_init_65 : decode b_Tree_init 65 = .ok (.iconst 0, 1) := by decide +kernel
theorem d_Tree_init_66 : decode b_Tree_init 66 = .ok (.istore_n 1, 1) := by decide +kernel
theorem d_Tree_init_67 : decode b_Tree_init 67 = .ok (.iload_n 1, 1) := by decide +kernel
theorem d_Tree_init_68 : decode b_Tree_init 68 = .ok (.bipush 20, 2) := by decide +kernel
theorem d_Tree_init_70 : decode b_Tree_init 70 = .ok (.if_icmp .ge 22, 3) := by decide +kernel
theorem d_Tree_init_73 : decode b_Tree_init 73 = .ok (.aload_n 0, 1) := by decide +kernel
theorem d_Tree_init_74 : decode b_Tree_init 74 = .ok (.getfield 18, 3) := by decide +kernel
theorem d_Tree_init_77 : decode b_Tree_init 77 = .ok (.iload_n 1, 1) := by decide +kernel
theorem d_Tree_init_78 : decode b_Tree_init 78 = .ok (.new 9, 3) := by decide +kernel
theorem d_Tree_init_81 : decode b_Tree_init 81 = .ok (.dup, 1) := by decide +kernel
theorem d_Tree_init_82 : decode b_Tree_init 82 = .ok (.invokespecial 11, 3) := by decide +kernel
theorem d_Tree_init_85 : decode b_Tree_init 85 = .ok (.aastore, 1) := by decide +kernel
theorem d_Tree_init_86 : decode b_Tree_init 86 = .ok (.iinc 1 1, 3) := by decide +kernel
theorem d_Tree_init_89 : decode b_Tree_init 89 = .ok (.goto (-22), 3) := by decide +kernel
theorem d_Tree_init_92 : decode b_Tree_init 92 = .ok (.return_, 1) := by decide +kernel
abbrev rm_Tree_init : Room := { frames := 2, cells := 64, slots := 1805, locals := 32 }
set_option maxRecDepth 100000 in
set_option maxHeartbeats 4000000 in
theorem k_Tree_init_67 {p : Program} {l : Launch} {e : Env} {s : State} {m : MethodId} {args : Array Value} {below : List Frame} {meth : Method} {c : Code} {t : TY} {a0 : Nat} {K : TY → GS → Prop} (hret : meth.sig.returnType = none) (hmn : meth.name = "<init>") : ∀ (n i : Nat) (t1 : TY) (G : GS), i + n = 20 → kX p s m args meth c b_Tree_init 2 "TreeServer$Tree" t1 → te t t1 → w_Tree_init_67 a0 K n i t1 G → kV (4 + i * 3, 105 + i * 85) p l e rm_Tree_init s m args below meth c (MQ below (va_Qv (fun u : TY × GS => te t u.1 ∧ K u.1 u.2) (fun u T => HB u.1 u.2 T.heap) (tA t)) args s 64 1805 (tA t)) 2 t1 false 67 [(0, va_rf (some a0)), (1, .int (nI i))] [] G := by
  intro n
  induction n with
  | zero =>
    intro i t1 G hi X E hwp
    have hi : i = 20 := by omega
    subst hi
    refine qw_iload_n (pc := 67) X d_Tree_init_67 rfl 1 rfl ?_
    refine qw_bipush (v := 20) (pc := 68) X d_Tree_init_68 (by decide) ?_
    refine qw_icmp_ge (tgt := 92) (pc := 70) X d_Tree_init_70 (by decide) (fun h => ?_) (fun h => absurd (show (20 : Int32) ≤ nI 20 by decide) h)
    refine kV.ce (cs' := (64, 1805)) rfl ?_
    exact qr_init (t0 := t) X hret d_Tree_init_92 E hwp
  | succ n ih =>
    intro i t1 G hi X E hwp
    unfold w_Tree_init_67 at hwp
    try dsimp only at hwp
    refine qw_iload_n (pc := 67) X d_Tree_init_67 rfl 1 rfl ?_
    refine qw_bipush (v := 20) (pc := 68) X d_Tree_init_68 (by decide) ?_
    refine qw_icmp_ge (tgt := 92) (pc := 70) X d_Tree_init_70 (by decide) (fun h => absurd h (by rw [show (20 : Int32) = nI 20 from rfl]; exact nI_ge (by omega) (by decide))) (fun h => ?_)
    refine qw_aload_n (pc := 73) X d_Tree_init_73 rfl 0 rfl ?_
    obtain ⟨f1, hwp⟩ := hwp
    refine qg_14 (a := a0) (pc := 74) X d_Tree_init_74 x_121 rfl f1 ?_
    refine qw_iload_n (pc := 77) X d_Tree_init_77 rfl 1 rfl ?_
    refine qn_1 (a0, 100 + i) (pc := 78) X rfl d_Tree_init_78 x_34 x_35 x_3 ⟨by show _ ≤ (64 : Nat); dsimp only; omega, by show _ ≤ (1805 : Nat); dsimp only; omega⟩ (fun a2 n3 => ?_)
    obtain ⟨t4, e_t4⟩ : ∃ z, z = adT t1 a2 1 0 (a0, 100 + i) := ⟨_, rfl⟩
    obtain ⟨G5, e_G5⟩ : ∃ z, z = zG G a2 := ⟨_, rfl⟩
    have hwp := hwp a2 n3 t4 e_t4 G5 e_G5
    have e6 : te t1 t4 := by rw [e_t4]; exact te.ad X.h.2.1.1 n3 1 0 (a0, 100 + i)
    have X7 := X.te e6
    rw [← e_t4, ← e_G5]
    refine kV.ce (cs' := (4 + i * 3 + 1, 105 + i * 85 + 13)) (by refine Prod.ext ?_ ?_ <;> dsimp only <;> omega) ?_
    have f8 := e6.k f1 X.h.2.1.1 (by decide)
    have e9 := E.trans e6
    have f10 : tk t4 a2 = 1 := by rw [e_t4]; exact tk_ad
    refine qw_dup (pc := 81) X7 d_Tree_init_81 rfl ?_
    refine kV.st (st' := [.ref a2, va_rf (some a2), .int (nI i), va_rf (gr G 14 a0)]) rfl ?_
    refine qcN (n := 0) (As := []) (rest := [va_rf (some a2), .int (nI i), va_rf (gr G 14 a0)]) (pc := 82) X7 rfl (c_Node_init l t4 G5 a2  _) (cwN_of X7 x_38 (by decide +kernel) x_37 x_3 rfl (by decide +kernel) (by decide)) rfl rfl (by simp [rf_cat, cat_i, cat_l, cat_r]) d_Tree_init_82 ⟨by show _ ≤ (64 : Nat); dsimp only; omega, by show _ ≤ (1805 : Nat); dsimp only; omega⟩ hwp (fun t11 G12 e13 hwp => ?_)
    have X14 := X7.te e13
    refine kV.ce (cs' := (4 + i * 3 + 3, 105 + i * 85 + 85)) (by refine Prod.ext ?_ ?_ <;> dsimp only <;> omega) ?_
    have f15 := e13.k f8 X7.h.2.1.1 (by decide)
    have f16 := e13.k f10 X7.h.2.1.1 (by decide)
    have e17 := e9.trans e13
    obtain ⟨a18, h_a18, hwp⟩ := hwp
    obtain ⟨f19, hwp⟩ := hwp
    obtain ⟨f20, hwp⟩ := hwp
    refine qa_aast54 (a := a18) (pc := 85) X14 rfl d_Tree_init_85 h_a18 f19 f20 rfl f16 ?_
    obtain ⟨G21, e_G21⟩ : ∃ g, g = ars G12 a18 (nI i).toNatClampNeg (some a2) := ⟨_, rfl⟩
    have hwp := hwp G21 e_G21
    rw [← e_G21]
    refine qw_iinc (v := nI (i + 1)) (lv' := [(1, .int (nI (i + 1))), (0, va_rf (some a0))]) (pc := 86) X14 d_Tree_init_86 1 rfl (nI_succ i).symm (by decide) (by simp [rf_cat, cat_i, cat_l, cat_r]) ?_
    refine qw_goto (tgt := 67) (pc := 89) X14 d_Tree_init_89 (by decide) ?_
    refine kV.ce (cs' := (4 + (i + 1) * 3, 105 + (i + 1) * 85)) (by refine Prod.ext ?_ ?_ <;> dsimp only <;> omega) ?_
    exact kV.sub [1, 0] rfl (ih (i + 1) t11 G21 (by omega) X14 e17 hwp)
set_option maxRecDepth 100000 in
set_option maxHeartbeats 4000000 in
theorem k_Tree_init {p : Program} {l : Launch} {e : Env} {s : State} {m : MethodId} {args : Array Value} {below : List Frame} {meth : Method} {c : Code} {t : TY} {a0 : Nat} {K : TY → GS → Prop} (X : kX p s m args meth c b_Tree_init 2 "TreeServer$Tree" t) (hret : meth.sig.returnType = none) (hmn : meth.name = "<init>") (G : GS) (hwp : w_Tree_init t G a0 K) : kV (0, 0) p l e rm_Tree_init s m args below meth c (MQ below (va_Qv (fun u : TY × GS => te t u.1 ∧ K u.1 u.2) (fun u T => HB u.1 u.2 T.heap) (tA t)) args s 64 1805 (tA t)) 2 t false 0 [(0, va_rf (some a0))] [] G := by
  unfold w_Tree_init at hwp
  have E : te t t := te.rf X.h.2.1.1
  refine qw_aload_n (pc := 0) X d_Tree_init_0 rfl 0 rfl ?_
  refine q_objInit (pc := 1) X d_Tree_init_1 x_33 x_26 x_27 rfl (by decide) (by decide) ?_
  refine qw_aload_n (pc := 4) X d_Tree_init_4 rfl 0 rfl ?_
  refine qn_1 (a0, 1) (pc := 5) X rfl d_Tree_init_5 x_34 x_35 x_3 (by decide) (fun a1 n2 => ?_)
  obtain ⟨t3, e_t3⟩ : ∃ z, z = adT t a1 1 0 (a0, 1) := ⟨_, rfl⟩
  obtain ⟨G4, e_G4⟩ : ∃ z, z = zG G a1 := ⟨_, rfl⟩
  have hwp := hwp a1 n2 t3 e_t3 G4 e_G4
  have e5 : te t t3 := by rw [e_t3]; exact te.ad X.h.2.1.1 n2 1 0 (a0, 1)
  have X6 := X.te e5
  rw [← e_t3, ← e_G4]
  refine kV.ce (cs' := (1, 13)) rfl ?_
  have e7 := E.trans e5
  have f8 : tk t3 a1 = 1 := by rw [e_t3]; exact tk_ad
  refine qw_dup (pc := 8) X6 d_Tree_init_8 rfl ?_
  refine kV.st (st' := [.ref a1, va_rf (some a1), va_rf (some a0)]) rfl ?_
  refine qcN (n := 0) (As := []) (rest := [va_rf (some a1), va_rf (some a0)]) (pc := 9) X6 rfl (c_Node_init l t3 G4 a1  _) (cwN_of X6 x_38 (by decide +kernel) x_37 x_3 rfl (by decide +kernel) (by decide)) rfl rfl (by simp [rf_cat, cat_i, cat_l, cat_r]) d_Tree_init_9 (by decide) hwp (fun t9 G10 e11 hwp => ?_)
  have X12 := X6.te e11
  refine kV.ce (cs' := (3, 85)) rfl ?_
  have f13 := e11.k f8 X6.h.2.1.1 (by decide)
  have e14 := e7.trans e11
  obtain ⟨f15, hwp⟩ := hwp
  refine qf_13 (a := a0) (pc := 12) X12 rfl hmn d_Tree_init_12 x_119 rfl f15 ?_
  obtain ⟨G17, e_G17⟩ : ∃ g, g = sr G10 13 a0 (some a1) := ⟨_, rfl⟩
  have hwp := hwp G17 e_G17
  rw [← e_G17]
  refine qw_aload_n (pc := 15) X12 d_Tree_init_15 rfl 0 rfl ?_
  refine qw_bipush (v := 20) (pc := 16) X12 d_Tree_init_16 (by decide) ?_
  refine qn_54 20 (a0, 2) (pc := 18) X12 rfl d_Tree_init_18 x_34 (by decide) (by decide) (fun a18 n19 => ?_)
  obtain ⟨t20, e_t20⟩ : ∃ z, z = adT t9 a18 54 20 (a0, 2) := ⟨_, rfl⟩
  obtain ⟨G21, e_G21⟩ : ∃ z, z = zG G17 a18 := ⟨_, rfl⟩
  have hwp := hwp a18 n19 t20 e_t20 G21 e_G21
  have e22 : te t9 t20 := by rw [e_t20]; exact te.ad X12.h.2.1.1 n19 54 20 (a0, 2)
  have X23 := X12.te e22
  rw [← e_t20, ← e_G21]
  refine kV.ce (cs' := (4, 105)) rfl ?_
  have f24 := e22.k f13 X12.h.2.1.1 (by decide)
  have f25 := e22.k f15 X12.h.2.1.1 (by decide)
  have e26 := e14.trans e22
  have f27 : tk t20 a18 = 54 := by rw [e_t20]; exact tk_ad
  refine qf_14 (a := a0) (pc := 21) X23 rfl hmn d_Tree_init_21 x_121 rfl f25 ?_
  obtain ⟨G29, e_G29⟩ : ∃ g, g = sr G21 14 a0 (some a18) := ⟨_, rfl⟩
  have hwp := hwp G29 e_G29
  rw [← e_G29]
  refine qw_aload_n (pc := 24) X23 d_Tree_init_24 rfl 0 rfl ?_
  refine qw_iconst (v := 1) (pc := 25) X23 d_Tree_init_25 (by decide) ?_
  refine qp_16 (a := a0) (x := (1 : Int32)) (pc := 26) X23 rfl d_Tree_init_26 x_125 rfl f25 ?_
  obtain ⟨G31, e_G31⟩ : ∃ g, g = si G29 16 a0 (1 : Int32) := ⟨_, rfl⟩
  have hwp := hwp G31 e_G31
  rw [← e_G31]
  refine qw_aload_n (pc := 29) X23 d_Tree_init_29 rfl 0 rfl ?_
  refine qg_13 (a := a0) (pc := 30) X23 d_Tree_init_30 x_119 rfl f25 ?_
  refine qw_iconst (v := 0) (pc := 33) X23 d_Tree_init_33 (by decide) ?_
  obtain ⟨a32, h_a32, hwp⟩ := hwp
  obtain ⟨f33, hwp⟩ := hwp
  refine qp_0 (a := a32) (x := (0 : Int32)) (pc := 34) X23 rfl d_Tree_init_34 x_43 h_a32 f33 ?_
  obtain ⟨G35, e_G35⟩ : ∃ g, g = si G31 0 a32 (0 : Int32) := ⟨_, rfl⟩
  have hwp := hwp G35 e_G35
  rw [← e_G35]
  refine qw_aload_n (pc := 37) X23 d_Tree_init_37 rfl 0 rfl ?_
  refine qg_13 (a := a0) (pc := 38) X23 d_Tree_init_38 x_119 rfl f25 ?_
  refine qw_ldc (v := -2147483139) (pc := 41) X23 d_Tree_init_41 x_118 ?_
  obtain ⟨a36, h_a36, hwp⟩ := hwp
  obtain ⟨f37, hwp⟩ := hwp
  refine qp_2 (a := a36) (x := (-2147483139 : Int32)) (pc := 43) X23 rfl d_Tree_init_43 x_50 h_a36 f37 ?_
  obtain ⟨G39, e_G39⟩ : ∃ g, g = si G35 2 a36 (-2147483139 : Int32) := ⟨_, rfl⟩
  have hwp := hwp G39 e_G39
  rw [← e_G39]
  refine qw_aload_n (pc := 46) X23 d_Tree_init_46 rfl 0 rfl ?_
  refine qg_13 (a := a0) (pc := 47) X23 d_Tree_init_47 x_119 rfl f25 ?_
  obtain ⟨a40, h_a40, hwp⟩ := hwp
  obtain ⟨f41, hwp⟩ := hwp
  refine qg_9 (a := a40) (pc := 50) X23 d_Tree_init_50 x_77 h_a40 f41 ?_
  refine qw_iconst (v := 0) (pc := 53) X23 d_Tree_init_53 (by decide) ?_
  refine qw_bipush (v := 47) (pc := 54) X23 d_Tree_init_54 (by decide) ?_
  obtain ⟨a42, h_a42, hwp⟩ := hwp
  obtain ⟨f43, hwp⟩ := hwp
  obtain ⟨f44, hwp⟩ := hwp
  refine qa_bast (a := a42) (pc := 56) X23 rfl d_Tree_init_56 h_a42 f43 f44 ?_
  obtain ⟨G45, e_G45⟩ : ∃ g, g = ais G39 a42 (0 : Int32).toNatClampNeg (vp_nar .byte (47 : Int32)) := ⟨_, rfl⟩
  have hwp := hwp G45 e_G45
  rw [← e_G45]
  refine qw_aload_n (pc := 57) X23 d_Tree_init_57 rfl 0 rfl ?_
  refine qg_13 (a := a0) (pc := 58) X23 d_Tree_init_58 x_119 rfl f25 ?_
  refine qw_iconst (v := 1) (pc := 61) X23 d_Tree_init_61 (by decide) ?_
  obtain ⟨a46, h_a46, hwp⟩ := hwp
  obtain ⟨f47, hwp⟩ := hwp
  refine qp_10 (a := a46) (x := (1 : Int32)) (pc := 62) X23 rfl d_Tree_init_62 x_80 h_a46 f47 ?_
  obtain ⟨G49, e_G49⟩ : ∃ g, g = si G45 10 a46 (1 : Int32) := ⟨_, rfl⟩
  have hwp := hwp G49 e_G49
  rw [← e_G49]
  refine qw_iconst (v := 0) (pc := 65) X23 d_Tree_init_65 (by decide) ?_
  refine qw_istore_n (i := 1) (lv' := [(1, .int (0 : Int32)), (0, va_rf (some a0))]) (pc := 66) X23 d_Tree_init_66 rfl (by decide) (by simp [rf_cat, cat_i, cat_l, cat_r]) ?_
  refine kV.ce (cs' := (4 + 0 * 3, 105 + 0 * 85)) rfl ?_
  exact kV.sub [1, 0] rfl (k_Tree_init_67 hret hmn 20 0 t20 G49 rfl X23 e26 hwp)
set_option maxRecDepth 100000 in
set_option maxHeartbeats 4000000 in
theorem c_Tree_init (l : Launch) (t : TY) (G : GS) (a0 : Nat) (K : TY → GS → Prop) : Met l y_Tree_init (Cond.code y_Tree_init b_Tree_init 2 (Option.none : Option Jvm.ClassFile.FieldType) :: GW) rm_Tree_init (va_Pc [.ref a0] (fun U => HB t G U.heap ∧ HK t U ∧ w_Tree_init t G a0 K)) (va_Qv (fun u : TY × GS => te t u.1 ∧ K u.1 u.2) (fun u T => HB u.1 u.2 T.heap) (tA t)) 64 1805 (tA t) := by
  refine Met.ofW (cc := b_Tree_init) (maxL := 2) (ret := none) (by decide) rfl ?_
  intro p e s m args below meth c s₁ B hml hv
  obtain ⟨rfl, hB, hK, hwp⟩ := hv
  have hts := atoms_spec (ws := Cond.code y_Tree_init b_Tree_init 2 (Option.none : Option Jvm.ClassFile.FieldType) :: GW) B.pre
  have hmn : meth.name = "<init>" := (name_of_methodNamed B.named B.method).1
  have X : kX p s m _ meth c b_Tree_init 2 "TreeServer$Tree" t := ⟨B.exec, B.bytes, hml, findClass_of_methodNamed B.named, fun w h => hts w (List.mem_cons_of_mem _ h), B.notSynchronized, hK⟩
  have hZ : kZ t false s G s.heap [] := ⟨hB, va_S.rf, fun h => by cases h⟩
  rw [lg_entry_eq]
  have hl := lv_entry ([.ref a0]) (n := 2) (by simp [lg_sl, rf_cat, cat_i, cat_l, cat_r])
  exact k_Tree_init X B.returns hmn G hwp s.heap [] _ hl hZ
abbrev b_Log_init : ByteArray := prog_7_method_1_code
def y_Log_init : MethodName := ⟨"TreeServer$Log", "<init>", "()V"⟩
theorem d_Log_init_0 : decode b_Log_init 0 = .ok (.aload_n 0, 1) := by decide +kernel
theorem d_Log_init_1 : decode b_Log_init 1 = .ok (.invokespecial 1, 3) := by decide +kernel
theorem d_Log_init_4 : decode b_Log_init 4 = .ok (.aload_n 0, 1) := by decide +kernel
theorem d_Log_init_5 : decode b_Log_init 5 = .ok (.iconst (-1), 1) := by decide +kernel
theorem d_Log_init_6 : decode b_Log_init 6 = .ok (.putfield 7, 3) := by decide +kernel
theorem d_Log_init_9 : decode b_Log_init 9 = .ok (.aload_n 0, 1) := by decide +kernel
theorem d_Log_init_10 : decode b_Log_init 10 = .ok (.iconst 1, 1) := by decide +kernel
theorem d_Log_init_11 : decode b_Log_init 11 = .ok (.putfield 13, 3) := by decide +kernel
theorem d_Log_init_14 : decode b_Log_init 14 = .ok (.return_, 1) := by decide +kernel
abbrev rm_Log_init : Room := { frames := 1, cells := 0, slots := 0, locals := 12 }
set_option maxRecDepth 100000 in
set_option maxHeartbeats 4000000 in
theorem k_Log_init {p : Program} {l : Launch} {e : Env} {s : State} {m : MethodId} {args : Array Value} {below : List Frame} {meth : Method} {c : Code} {t : TY} {a0 : Nat} {K : TY → GS → Prop} (X : kX p s m args meth c b_Log_init 1 "TreeServer$Log" t) (hret : meth.sig.returnType = none) (hmn : meth.name = "<init>") (G : GS) (hwp : w_Log_init t G a0 K) : kV (0, 0) p l e rm_Log_init s m args below meth c (MQ below (va_Qv (fun u : TY × GS => te t u.1 ∧ K u.1 u.2) (fun u T => HB u.1 u.2 T.heap) (tA t)) args s 0 0 (tA t)) 1 t false 0 [(0, va_rf (some a0))] [] G := by
  unfold w_Log_init at hwp
  have E : te t t := te.rf X.h.2.1.1
  refine qw_aload_n (pc := 0) X d_Log_init_0 rfl 0 rfl ?_
  refine q_objInit (pc := 1) X d_Log_init_1 x_140 x_26 x_27 rfl (by decide) (by decide) ?_
  refine qw_aload_n (pc := 4) X d_Log_init_4 rfl 0 rfl ?_
  refine qw_iconst (v := -1) (pc := 5) X d_Log_init_5 (by decide) ?_
  obtain ⟨f1, hwp⟩ := hwp
  refine qp_18 (a := a0) (x := (-1 : Int32)) (pc := 6) X rfl d_Log_init_6 x_143 rfl f1 ?_
  obtain ⟨G3, e_G3⟩ : ∃ g, g = si G 18 a0 (-1 : Int32) := ⟨_, rfl⟩
  have hwp := hwp G3 e_G3
  rw [← e_G3]
  refine qw_aload_n (pc := 9) X d_Log_init_9 rfl 0 rfl ?_
  refine qw_iconst (v := 1) (pc := 10) X d_Log_init_10 (by decide) ?_
  refine qp_19 (a := a0) (x := (1 : Int32)) (pc := 11) X rfl d_Log_init_11 x_145 rfl f1 (Or.inr rfl) ?_
  obtain ⟨G5, e_G5⟩ : ∃ g, g = si G3 19 a0 (1 : Int32) := ⟨_, rfl⟩
  have hwp := hwp G5 e_G5
  rw [← e_G5]
  exact qr_init (t0 := t) X hret d_Log_init_14 E hwp
set_option maxRecDepth 100000 in
set_option maxHeartbeats 4000000 in
theorem c_Log_init (l : Launch) (t : TY) (G : GS) (a0 : Nat) (K : TY → GS → Prop) : Met l y_Log_init (Cond.code y_Log_init b_Log_init 1 (Option.none : Option Jvm.ClassFile.FieldType) :: GW) rm_Log_init (va_Pc [.ref a0] (fun U => HB t G U.heap ∧ HK t U ∧ w_Log_init t G a0 K)) (va_Qv (fun u : TY × GS => te t u.1 ∧ K u.1 u.2) (fun u T => HB u.1 u.2 T.heap) (tA t)) 0 0 (tA t) := by
  refine Met.ofW (cc := b_Log_init) (maxL := 1) (ret := none) (by decide) rfl ?_
  intro p e s m args below meth c s₁ B hml hv
  obtain ⟨rfl, hB, hK, hwp⟩ := hv
  have hts := atoms_spec (ws := Cond.code y_Log_init b_Log_init 1 (Option.none : Option Jvm.ClassFile.FieldType) :: GW) B.pre
  have hmn : meth.name = "<init>" := (name_of_methodNamed B.named B.method).1
  have X : kX p s m _ meth c b_Log_init 1 "TreeServer$Log" t := ⟨B.exec, B.bytes, hml, findClass_of_methodNamed B.named, fun w h => hts w (List.mem_cons_of_mem _ h), B.notSynchronized, hK⟩
  have hZ : kZ t false s G s.heap [] := ⟨hB, va_S.rf, fun h => by cases h⟩
  rw [lg_entry_eq]
  have hl := lv_entry ([.ref a0]) (n := 1) (by simp [lg_sl, rf_cat, cat_i, cat_l, cat_r])
  exact k_Log_init X B.returns hmn G hwp s.heap [] _ hl hZ
abbrev b_Change_init : ByteArray := prog_3_method_1_code
def y_Change_init : MethodName := ⟨"TreeServer$Change", "<init>", "()V"⟩
theorem d_Change_init_0 : decode b_Change_init 0 = .ok (.aload_n 0, 1) := by decide +kernel
theorem d_Change_init_1 : decode b_Change_init 1 = .ok (.invokespecial 3, 3) := by decide +kernel
theorem d_Change_init_4 : decode b_Change_init 4 = .ok (.aload_n 0, 1) := by decide +kernel
theorem d_Change_init_5 : decode b_Change_init 5 = .ok (.getstatic 9, 3) := by decide +kernel
theorem d_Change_init_8 : decode b_Change_init 8 = .ok (.putfield 15, 3) := by decide +kernel
theorem d_Change_init_11 : decode b_Change_init 11 = .ok (.aload_n 0, 1) := by decide +kernel
theorem d_Change_init_12 : decode b_Change_init 12 = .ok (.getstatic 20, 3) := by decide +kernel
theorem d_Change_init_15 : decode b_Change_init 15 = .ok (.putfield 26, 3) := by decide +kernel
theorem d_Change_init_18 : decode b_Change_init 18 = .ok (.aload_n 0, 1) := by decide +kernel
theorem d_Change_init_19 : decode b_Change_init 19 = .ok (.bipush 8, 2) := by decide +kernel
theorem d_Change_init_21 : decode b_Change_init 21 = .ok (.newarray .byte, 2) := by decide +kernel
theorem d_Change_init_23 : decode b_Change_init 23 = .ok (.putfield 29, 3) := by decide +kernel
theorem d_Change_init_26 : decode b_Change_init 26 = .ok (.aload_n 0, 1) := by decide +kernel
theorem d_Change_init_27 : decode b_Change_init 27 = .ok (.bipush 64, 2) := by decide +kernel
theorem d_Change_init_29 : decode b_Change_init 29 = .ok (.newarray .byte, 2) := by decide +kernel
theorem d_Change_init_31 : decode b_Change_init 31 = .ok (.putfield 33, 3) := by decide +kernel
theorem d_Change_init_34 : decode b_Change_init 34 = .ok (.return_, 1) := by decide +kernel
abbrev rm_Change_init : Room := { frames := 1, cells := 2, slots := 72, locals := 12 }
set_option maxRecDepth 100000 in
set_option maxHeartbeats 4000000 in
theorem k_Change_init {p : Program} {l : Launch} {e : Env} {s : State} {m : MethodId} {args : Array Value} {below : List Frame} {meth : Method} {c : Code} {t : TY} {a0 : Nat} {K : TY → GS → Prop} (X : kX p s m args meth c b_Change_init 1 "TreeServer$Change" t) (hret : meth.sig.returnType = none) (hmn : meth.name = "<init>") (G : GS) (hwp : w_Change_init t G a0 K) : kV (0, 0) p l e rm_Change_init s m args below meth c (MQ below (va_Qv (fun u : TY × GS => te t u.1 ∧ K u.1 u.2) (fun u T => HB u.1 u.2 T.heap) (tA t)) args s 2 72 (tA t)) 1 t false 0 [(0, va_rf (some a0))] [] G := by
  unfold w_Change_init at hwp
  have E : te t t := te.rf X.h.2.1.1
  refine qw_aload_n (pc := 0) X d_Change_init_0 rfl 0 rfl ?_
  refine q_objInit (pc := 1) X d_Change_init_1 x_163 x_26 x_27 rfl (by decide) (by decide) ?_
  refine qw_aload_n (pc := 4) X d_Change_init_4 rfl 0 rfl ?_
  refine qs_6 (pc := 5) X d_Change_init_5 x_164 ?_
  obtain ⟨f1, hwp⟩ := hwp
  refine qp_21 (a := a0) (x := some (tad t 6)) (pc := 8) X rfl d_Change_init_8 x_167 rfl f1 ?_
  obtain ⟨G3, e_G3⟩ : ∃ g, g = sr G 21 a0 (some (tad t 6)) := ⟨_, rfl⟩
  have hwp := hwp G3 e_G3
  rw [← e_G3]
  refine qw_aload_n (pc := 11) X d_Change_init_11 rfl 0 rfl ?_
  refine qs_0 (pc := 12) X d_Change_init_12 x_166 ?_
  refine qp_23 (a := a0) (x := some (tad t 0)) (pc := 15) X rfl d_Change_init_15 x_169 rfl f1 ?_
  obtain ⟨G5, e_G5⟩ : ∃ g, g = sr G3 23 a0 (some (tad t 0)) := ⟨_, rfl⟩
  have hwp := hwp G5 e_G5
  rw [← e_G5]
  refine qw_aload_n (pc := 18) X d_Change_init_18 rfl 0 rfl ?_
  refine qw_bipush (v := 8) (pc := 19) X d_Change_init_19 (by decide) ?_
  refine qn_51 8 (a0, 1) (pc := 21) X rfl d_Change_init_21 x_116 (by decide) (by decide) (fun a6 n7 => ?_)
  obtain ⟨t8, e_t8⟩ : ∃ z, z = adT t a6 51 8 (a0, 1) := ⟨_, rfl⟩
  obtain ⟨G9, e_G9⟩ : ∃ z, z = zG G5 a6 := ⟨_, rfl⟩
  have hwp := hwp a6 n7 t8 e_t8 G9 e_G9
  have e10 : te t t8 := by rw [e_t8]; exact te.ad X.h.2.1.1 n7 51 8 (a0, 1)
  have X11 := X.te e10
  rw [← e_t8, ← e_G9]
  refine kV.ce (cs' := (1, 8)) rfl ?_
  have f12 := e10.k f1 X.h.2.1.1 (by decide)
  have e13 := E.trans e10
  have f14 : tk t8 a6 = 51 := by rw [e_t8]; exact tk_ad
  refine qf_31 (a := a0) (pc := 23) X11 rfl hmn d_Change_init_23 x_183 rfl f12 ?_
  obtain ⟨G16, e_G16⟩ : ∃ g, g = sr G9 31 a0 (some a6) := ⟨_, rfl⟩
  have hwp := hwp G16 e_G16
  rw [← e_G16]
  refine qw_aload_n (pc := 26) X11 d_Change_init_26 rfl 0 rfl ?_
  refine qw_bipush (v := 64) (pc := 27) X11 d_Change_init_27 (by decide) ?_
  refine qn_51 64 (a0, 2) (pc := 29) X11 rfl d_Change_init_29 x_116 (by decide) (by decide) (fun a17 n18 => ?_)
  obtain ⟨t19, e_t19⟩ : ∃ z, z = adT t8 a17 51 64 (a0, 2) := ⟨_, rfl⟩
  obtain ⟨G20, e_G20⟩ : ∃ z, z = zG G16 a17 := ⟨_, rfl⟩
  have hwp := hwp a17 n18 t19 e_t19 G20 e_G20
  have e21 : te t8 t19 := by rw [e_t19]; exact te.ad X11.h.2.1.1 n18 51 64 (a0, 2)
  have X22 := X11.te e21
  rw [← e_t19, ← e_G20]
  refine kV.ce (cs' := (2, 72)) rfl ?_
  have f23 := e21.k f12 X11.h.2.1.1 (by decide)
  have f24 := e21.k f14 X11.h.2.1.1 (by decide)
  have e25 := e13.trans e21
  have f26 : tk t19 a17 = 51 := by rw [e_t19]; exact tk_ad
  refine qf_33 (a := a0) (pc := 31) X22 rfl hmn d_Change_init_31 x_187 rfl f23 ?_
  obtain ⟨G28, e_G28⟩ : ∃ g, g = sr G20 33 a0 (some a17) := ⟨_, rfl⟩
  have hwp := hwp G28 e_G28
  rw [← e_G28]
  exact qr_init (t0 := t) X22 hret d_Change_init_34 e25 hwp
set_option maxRecDepth 100000 in
set_option maxHeartbeats 4000000 in
theorem c_Change_init (l : Launch) (t : TY) (G : GS) (a0 : Nat) (K : TY → GS → Prop) : Met l y_Change_init (Cond.code y_Change_init b_Change_init 1 (Option.none : Option Jvm.ClassFile.FieldType) :: GW) rm_Change_init (va_Pc [.ref a0] (fun U => HB t G U.heap ∧ HK t U ∧ w_Change_init t G a0 K)) (va_Qv (fun u : TY × GS => te t u.1 ∧ K u.1 u.2) (fun u T => HB u.1 u.2 T.heap) (tA t)) 2 72 (tA t) := by
  refine Met.ofW (cc := b_Change_init) (maxL := 1) (ret := none) (by decide) rfl ?_
  intro p e s m args below meth c s₁ B hml hv
  obtain ⟨rfl, hB, hK, hwp⟩ := hv
  have hts := atoms_spec (ws := Cond.code y_Change_init b_Change_init 1 (Option.none : Option Jvm.ClassFile.FieldType) :: GW) B.pre
  have hmn : meth.name = "<init>" := (name_of_methodNamed B.named B.method).1
  have X : kX p s m _ meth c b_Change_init 1 "TreeServer$Change" t := ⟨B.exec, B.bytes, hml, findClass_of_methodNamed B.named, fun w h => hts w (List.mem_cons_of_mem _ h), B.notSynchronized, hK⟩
  have hZ : kZ t false s G s.heap [] := ⟨hB, va_S.rf, fun h => by cases h⟩
  rw [lg_entry_eq]
  have hl := lv_entry ([.ref a0]) (n := 1) (by simp [lg_sl, rf_cat, cat_i, cat_l, cat_r])
  exact k_Change_init X B.returns hmn G hwp s.heap [] _ hl hZ
abbrev b_Message_init : ByteArray := prog_8_method_1_code
def y_Message_init : MethodName := ⟨"TreeServer$Message", "<init>", "()V"⟩
theorem d_Message_init_0 : decode b_Message_init 0 = .ok (.aload_n 0, 1) := by decide +kernel
theorem d_Message_init_1 : decode b_Message_init 1 = .ok (.invokespecial 3, 3) := by decide +kernel
theorem d_Message_init_4 : decode b_Message_init 4 = .ok (.aload_n 0, 1) := by decide +kernel
theorem d_Message_init_5 : decode b_Message_init 5 = .ok (.sipush 128, 3) := by decide +kernel
theorem d_Message_init_8 : decode b_Message_init 8 = .ok (.newarray .byte, 2) := by decide +kernel
theorem d_Message_init_10 : decode b_Message_init 10 = .ok (.putfield 9, 3) := by decide +kernel
theorem d_Message_init_13 : decode b_Message_init 13 = .ok (.aload_n 0, 1) := by decide +kernel
theorem d_Message_init_14 : decode b_Message_init 14 = .ok (.iconst 4, 1) := by decide +kernel
theorem d_Message_init_15 : decode b_Message_init 15 = .ok (.newarray .int, 2) := by decide +kernel
theorem d_Message_init_17 : decode b_Message_init 17 = .ok (.putfield 15, 3) := by decide +kernel
theorem d_Message_init_20 : decode b_Message_init 20 = .ok (.aload_n 0, 1) := by decide +kernel
theorem d_Message_init_21 : decode b_Message_init 21 = .ok (.iconst 4, 1) := by decide +kernel
theorem d_Message_init_22 : decode b_Message_init 22 = .ok (.newarray .int, 2) := by decide +kernel
theorem d_Message_init_24 : decode b_Message_init 24 = .ok (.putfield 19, 3) := by decide +kernel
theorem d_Message_init_27 : decode b_Message_init 27 = .ok (.return_, 1) := by decide +kernel
abbrev rm_Message_init : Room := { frames := 1, cells := 3, slots := 136, locals := 12 }
set_option maxRecDepth 100000 in
set_option maxHeartbeats 4000000 in
theorem k_Message_init {p : Program} {l : Launch} {e : Env} {s : State} {m : MethodId} {args : Array Value} {below : List Frame} {meth : Method} {c : Code} {t : TY} {a0 : Nat} {K : TY → GS → Prop} (X : kX p s m args meth c b_Message_init 1 "TreeServer$Message" t) (hret : meth.sig.returnType = none) (hmn : meth.name = "<init>") (G : GS) (hwp : w_Message_init t G a0 K) : kV (0, 0) p l e rm_Message_init s m args below meth c (MQ below (va_Qv (fun u : TY × GS => te t u.1 ∧ K u.1 u.2) (fun u T => HB u.1 u.2 T.heap) (tA t)) args s 3 136 (tA t)) 1 t false 0 [(0, va_rf (some a0))] [] G := by
  unfold w_Message_init at hwp
  have E : te t t := te.rf X.h.2.1.1
  refine qw_aload_n (pc := 0) X d_Message_init_0 rfl 0 rfl ?_
  refine q_objInit (pc := 1) X d_Message_init_1 x_229 x_26 x_27 rfl (by decide) (by decide) ?_
  refine qw_aload_n (pc := 4) X d_Message_init_4 rfl 0 rfl ?_
  refine qw_sipush (v := 128) (pc := 5) X d_Message_init_5 (by decide) ?_
  refine qn_51 128 (a0, 1) (pc := 8) X rfl d_Message_init_8 x_116 (by decide) (by decide) (fun a1 n2 => ?_)
  obtain ⟨t3, e_t3⟩ : ∃ z, z = adT t a1 51 128 (a0, 1) := ⟨_, rfl⟩
  obtain ⟨G4, e_G4⟩ : ∃ z, z = zG G a1 := ⟨_, rfl⟩
  have hwp := hwp a1 n2 t3 e_t3 G4 e_G4
  have e5 : te t t3 := by rw [e_t3]; exact te.ad X.h.2.1.1 n2 51 128 (a0, 1)
  have X6 := X.te e5
  rw [← e_t3, ← e_G4]
  refine kV.ce (cs' := (1, 128)) rfl ?_
  have e7 := E.trans e5
  have f8 : tk t3 a1 = 51 := by rw [e_t3]; exact tk_ad
  obtain ⟨f9, hwp⟩ := hwp
  refine qf_36 (a := a0) (pc := 10) X6 rfl hmn d_Message_init_10 x_230 rfl f9 ?_
  obtain ⟨G11, e_G11⟩ : ∃ g, g = sr G4 36 a0 (some a1) := ⟨_, rfl⟩
  have hwp := hwp G11 e_G11
  rw [← e_G11]
  refine qw_aload_n (pc := 13) X6 d_Message_init_13 rfl 0 rfl ?_
  refine qw_iconst (v := 4) (pc := 14) X6 d_Message_init_14 (by decide) ?_
  refine qn_50 4 (a0, 2) (pc := 15) X6 rfl d_Message_init_15 x_261 (by decide) (by decide) (fun a12 n13 => ?_)
  obtain ⟨t14, e_t14⟩ : ∃ z, z = adT t3 a12 50 4 (a0, 2) := ⟨_, rfl⟩
  obtain ⟨G15, e_G15⟩ : ∃ z, z = zG G11 a12 := ⟨_, rfl⟩
  have hwp := hwp a12 n13 t14 e_t14 G15 e_G15
  have e16 : te t3 t14 := by rw [e_t14]; exact te.ad X6.h.2.1.1 n13 50 4 (a0, 2)
  have X17 := X6.te e16
  rw [← e_t14, ← e_G15]
  refine kV.ce (cs' := (2, 132)) rfl ?_
  have f18 := e16.k f8 X6.h.2.1.1 (by decide)
  have f19 := e16.k f9 X6.h.2.1.1 (by decide)
  have e20 := e7.trans e16
  have f21 : tk t14 a12 = 50 := by rw [e_t14]; exact tk_ad
  refine qf_40 (a := a0) (pc := 17) X17 rfl hmn d_Message_init_17 x_237 rfl f19 ?_
  obtain ⟨G23, e_G23⟩ : ∃ g, g = sr G15 40 a0 (some a12) := ⟨_, rfl⟩
  have hwp := hwp G23 e_G23
  rw [← e_G23]
  refine qw_aload_n (pc := 20) X17 d_Message_init_20 rfl 0 rfl ?_
  refine qw_iconst (v := 4) (pc := 21) X17 d_Message_init_21 (by decide) ?_
  refine qn_50 4 (a0, 3) (pc := 22) X17 rfl d_Message_init_22 x_261 (by decide) (by decide) (fun a24 n25 => ?_)
  obtain ⟨t26, e_t26⟩ : ∃ z, z = adT t14 a24 50 4 (a0, 3) := ⟨_, rfl⟩
  obtain ⟨G27, e_G27⟩ : ∃ z, z = zG G23 a24 := ⟨_, rfl⟩
  have hwp := hwp a24 n25 t26 e_t26 G27 e_G27
  have e28 : te t14 t26 := by rw [e_t26]; exact te.ad X17.h.2.1.1 n25 50 4 (a0, 3)
  have X29 := X17.te e28
  rw [← e_t26, ← e_G27]
  refine kV.ce (cs' := (3, 136)) rfl ?_
  have f30 := e28.k f18 X17.h.2.1.1 (by decide)
  have f31 := e28.k f19 X17.h.2.1.1 (by decide)
  have f32 := e28.k f21 X17.h.2.1.1 (by decide)
  have e33 := e20.trans e28
  have f34 : tk t26 a24 = 50 := by rw [e_t26]; exact tk_ad
  refine qf_41 (a := a0) (pc := 24) X29 rfl hmn d_Message_init_24 x_238 rfl f31 ?_
  obtain ⟨G36, e_G36⟩ : ∃ g, g = sr G27 41 a0 (some a24) := ⟨_, rfl⟩
  have hwp := hwp G36 e_G36
  rw [← e_G36]
  exact qr_init (t0 := t) X29 hret d_Message_init_27 e33 hwp
set_option maxRecDepth 100000 in
set_option maxHeartbeats 4000000 in
theorem c_Message_init (l : Launch) (t : TY) (G : GS) (a0 : Nat) (K : TY → GS → Prop) : Met l y_Message_init (Cond.code y_Message_init b_Message_init 1 (Option.none : Option Jvm.ClassFile.FieldType) :: GW) rm_Message_init (va_Pc [.ref a0] (fun U => HB t G U.heap ∧ HK t U ∧ w_Message_init t G a0 K)) (va_Qv (fun u : TY × GS => te t u.1 ∧ K u.1 u.2) (fun u T => HB u.1 u.2 T.heap) (tA t)) 3 136 (tA t) := by
  refine Met.ofW (cc := b_Message_init) (maxL := 1) (ret := none) (by decide) rfl ?_
  intro p e s m args below meth c s₁ B hml hv
  obtain ⟨rfl, hB, hK, hwp⟩ := hv
  have hts := atoms_spec (ws := Cond.code y_Message_init b_Message_init 1 (Option.none : Option Jvm.ClassFile.FieldType) :: GW) B.pre
  have hmn : meth.name = "<init>" := (name_of_methodNamed B.named B.method).1
  have X : kX p s m _ meth c b_Message_init 1 "TreeServer$Message" t := ⟨B.exec, B.bytes, hml, findClass_of_methodNamed B.named, fun w h => hts w (List.mem_cons_of_mem _ h), B.notSynchronized, hK⟩
  have hZ : kZ t false s G s.heap [] := ⟨hB, va_S.rf, fun h => by cases h⟩
  rw [lg_entry_eq]
  have hl := lv_entry ([.ref a0]) (n := 1) (by simp [lg_sl, rf_cat, cat_i, cat_l, cat_r])
  exact k_Message_init X B.returns hmn G hwp s.heap [] _ hl hZ
abbrev b_Answer_init : ByteArray := prog_2_method_1_code
def y_Answer_init : MethodName := ⟨"TreeServer$Answer", "<init>", "()V"⟩
theorem d_Answer_init_0 : decode b_Answer_init 0 = .ok (.aload_n 0, 1) := by decide +kernel
theorem d_Answer_init_1 : decode b_Answer_init 1 = .ok (.invokespecial 3, 3) := by decide +kernel
theorem d_Answer_init_4 : decode b_Answer_init 4 = .ok (.aload_n 0, 1) := by decide +kernel
theorem d_Answer_init_5 : decode b_Answer_init 5 = .ok (.sipush 128, 3) := by decide +kernel
theorem d_Answer_init_8 : decode b_Answer_init 8 = .ok (.newarray .byte, 2) := by decide +kernel
theorem d_Answer_init_10 : decode b_Answer_init 10 = .ok (.putfield 9, 3) := by decide +kernel
theorem d_Answer_init_13 : decode b_Answer_init 13 = .ok (.return_, 1) := by decide +kernel
abbrev rm_Answer_init : Room := { frames := 1, cells := 1, slots := 128, locals := 12 }
set_option maxRecDepth 100000 in
set_option maxHeartbeats 4000000 in
theorem k_Answer_init {p : Program} {l : Launch} {e : Env} {s : State} {m : MethodId} {args : Array Value} {below : List Frame} {meth : Method} {c : Code} {t : TY} {a0 : Nat} {K : TY → GS → Prop} (X : kX p s m args meth c b_Answer_init 1 "TreeServer$Answer" t) (hret : meth.sig.returnType = none) (hmn : meth.name = "<init>") (G : GS) (hwp : w_Answer_init t G a0 K) : kV (0, 0) p l e rm_Answer_init s m args below meth c (MQ below (va_Qv (fun u : TY × GS => te t u.1 ∧ K u.1 u.2) (fun u T => HB u.1 u.2 T.heap) (tA t)) args s 1 128 (tA t)) 1 t false 0 [(0, va_rf (some a0))] [] G := by
  unfold w_Answer_init at hwp
  have E : te t t := te.rf X.h.2.1.1
  refine qw_aload_n (pc := 0) X d_Answer_init_0 rfl 0 rfl ?_
  refine q_objInit (pc := 1) X d_Answer_init_1 x_267 x_26 x_27 rfl (by decide) (by decide) ?_
  refine qw_aload_n (pc := 4) X d_Answer_init_4 rfl 0 rfl ?_
  refine qw_sipush (v := 128) (pc := 5) X d_Answer_init_5 (by decide) ?_
  refine qn_51 128 (a0, 1) (pc := 8) X rfl d_Answer_init_8 x_116 (by decide) (by decide) (fun a1 n2 => ?_)
  obtain ⟨t3, e_t3⟩ : ∃ z, z = adT t a1 51 128 (a0, 1) := ⟨_, rfl⟩
  obtain ⟨G4, e_G4⟩ : ∃ z, z = zG G a1 := ⟨_, rfl⟩
  have hwp := hwp a1 n2 t3 e_t3 G4 e_G4
  have e5 : te t t3 := by rw [e_t3]; exact te.ad X.h.2.1.1 n2 51 128 (a0, 1)
  have X6 := X.te e5
  rw [← e_t3, ← e_G4]
  refine kV.ce (cs' := (1, 128)) rfl ?_
  have e7 := E.trans e5
  have f8 : tk t3 a1 = 51 := by rw [e_t3]; exact tk_ad
  obtain ⟨f9, hwp⟩ := hwp
  refine qf_44 (a := a0) (pc := 10) X6 rfl hmn d_Answer_init_10 x_268 rfl f9 ?_
  obtain ⟨G11, e_G11⟩ : ∃ g, g = sr G4 44 a0 (some a1) := ⟨_, rfl⟩
  have hwp := hwp G11 e_G11
  rw [← e_G11]
  exact qr_init (t0 := t) X6 hret d_Answer_init_13 e7 hwp
set_option maxRecDepth 100000 in
set_option maxHeartbeats 4000000 in
theorem c_Answer_init (l : Launch) (t : TY) (G : GS) (a0 : Nat) (K : TY → GS → Prop) : Met l y_Answer_init (Cond.code y_Answer_init b_Answer_init 1 (Option.none : Option Jvm.ClassFile.FieldType) :: GW) rm_Answer_init (va_Pc [.ref a0] (fun U => HB t G U.heap ∧ HK t U ∧ w_Answer_init t G a0 K)) (va_Qv (fun u : TY × GS => te t u.1 ∧ K u.1 u.2) (fun u T => HB u.1 u.2 T.heap) (tA t)) 1 128 (tA t) := by
  refine Met.ofW (cc := b_Answer_init) (maxL := 1) (ret := none) (by decide) rfl ?_
  intro p e s m args below meth c s₁ B hml hv
  obtain ⟨rfl, hB, hK, hwp⟩ := hv
  have hts := atoms_spec (ws := Cond.code y_Answer_init b_Answer_init 1 (Option.none : Option Jvm.ClassFile.FieldType) :: GW) B.pre
  have hmn : meth.name = "<init>" := (name_of_methodNamed B.named B.method).1
  have X : kX p s m _ meth c b_Answer_init 1 "TreeServer$Answer" t := ⟨B.exec, B.bytes, hml, findClass_of_methodNamed B.named, fun w h => hts w (List.mem_cons_of_mem _ h), B.notSynchronized, hK⟩
  have hZ : kZ t false s G s.heap [] := ⟨hB, va_S.rf, fun h => by cases h⟩
  rw [lg_entry_eq]
  have hl := lv_entry ([.ref a0]) (n := 1) (by simp [lg_sl, rf_cat, cat_i, cat_l, cat_r])
  exact k_Answer_init X B.returns hmn G hwp s.heap [] _ hl hZ
abbrev b_Fid_init : ByteArray := prog_4_method_1_code
def y_Fid_init : MethodName := ⟨"TreeServer$Fid", "<init>", "(LTreeServer$Node;)V"⟩
theorem d_Fid_init_0 : decode b_Fid_init 0 = .ok (.aload_n 0, 1) := by decide +kernel
theorem d_Fid_init_1 : decode b_Fid_init 1 = .ok (.invokespecial 3, 3) := by decide +kernel
theorem d_Fid_init_4 : decode b_Fid_init 4 = .ok (.aload_n 0, 1) := by decide +kernel
theorem d_Fid_init_5 : decode b_Fid_init 5 = .ok (.getstatic 9, 3) := by decide +kernel
theorem d_Fid_init_8 : decode b_Fid_init 8 = .ok (.putfield 15, 3) := by decide +kernel
theorem d_Fid_init_11 : decode b_Fid_init 11 = .ok (.aload_n 0, 1) := by decide +kernel
theorem d_Fid_init_12 : decode b_Fid_init 12 = .ok (.iconst (-1), 1) := by decide +kernel
theorem d_Fid_init_13 : decode b_Fid_init 13 = .ok (.putfield 20, 3) := by decide +kernel
theorem d_Fid_init_16 : decode b_Fid_init 16 = .ok (.aload_n 0, 1) := by decide +kernel
theorem d_Fid_init_17 : decode b_Fid_init 17 = .ok (.aload_n 1, 1) := by decide +kernel
theorem d_Fid_init_18 : decode b_Fid_init 18 = .ok (.putfield 24, 3) := by decide +kernel
theorem d_Fid_init_21 : decode b_Fid_init 21 = .ok (.return_, 1) := by decide +kernel
abbrev rm_Fid_init : Room := { frames := 1, cells := 0, slots := 0, locals := 12 }
set_option maxRecDepth 100000 in
set_option maxHeartbeats 4000000 in
theorem k_Fid_init {p : Program} {l : Launch} {e : Env} {s : State} {m : MethodId} {args : Array Value} {below : List Frame} {meth : Method} {c : Code} {t : TY} {a0 : Nat} {K : TY → GS → Prop} (X : kX p s m args meth c b_Fid_init 2 "TreeServer$Fid" t) (hret : meth.sig.returnType = none) (hmn : meth.name = "<init>") (G : GS) (p1 : Nat) (hwp : w_Fid_init t G a0 p1 K) : kV (0, 0) p l e rm_Fid_init s m args below meth c (MQ below (va_Qv (fun u : TY × GS => te t u.1 ∧ K u.1 u.2) (fun u T => HB u.1 u.2 T.heap) (tA t)) args s 0 0 (tA t)) 2 t false 0 [(0, va_rf (some a0)), (1, va_rf (some p1))] [] G := by
  unfold w_Fid_init at hwp
  have E : te t t := te.rf X.h.2.1.1
  refine qw_aload_n (pc := 0) X d_Fid_init_0 rfl 0 rfl ?_
  refine q_objInit (pc := 1) X d_Fid_init_1 x_290 x_26 x_27 rfl (by decide) (by decide) ?_
  refine qw_aload_n (pc := 4) X d_Fid_init_4 rfl 0 rfl ?_
  refine qs_0 (pc := 5) X d_Fid_init_5 x_291 ?_
  obtain ⟨f1, hwp⟩ := hwp
  refine qp_50 (a := a0) (x := some (tad t 0)) (pc := 8) X rfl d_Fid_init_8 x_302 rfl f1 ?_
  obtain ⟨G3, e_G3⟩ : ∃ g, g = sr G 50 a0 (some (tad t 0)) := ⟨_, rfl⟩
  have hwp := hwp G3 e_G3
  rw [← e_G3]
  refine qw_aload_n (pc := 11) X d_Fid_init_11 rfl 0 rfl ?_
  refine qw_iconst (v := -1) (pc := 12) X d_Fid_init_12 (by decide) ?_
  refine qp_51 (a := a0) (x := (-1 : Int32)) (pc := 13) X rfl d_Fid_init_13 x_304 rfl f1 ?_
  obtain ⟨G5, e_G5⟩ : ∃ g, g = si G3 51 a0 (-1 : Int32) := ⟨_, rfl⟩
  have hwp := hwp G5 e_G5
  rw [← e_G5]
  refine qw_aload_n (pc := 16) X d_Fid_init_16 rfl 0 rfl ?_
  refine qw_aload_n (pc := 17) X d_Fid_init_17 rfl 1 rfl ?_
  refine qp_48 (a := a0) (x := some p1) (pc := 18) X rfl d_Fid_init_18 x_298 rfl f1 ?_
  obtain ⟨G7, e_G7⟩ : ∃ g, g = sr G5 48 a0 (some p1) := ⟨_, rfl⟩
  have hwp := hwp G7 e_G7
  rw [← e_G7]
  exact qr_init (t0 := t) X hret d_Fid_init_21 E hwp
set_option maxRecDepth 100000 in
set_option maxHeartbeats 4000000 in
theorem c_Fid_init (l : Launch) (t : TY) (G : GS) (a0 : Nat) (p1 : Nat) (K : TY → GS → Prop) : Met l y_Fid_init (Cond.code y_Fid_init b_Fid_init 2 (Option.none : Option Jvm.ClassFile.FieldType) :: GW) rm_Fid_init (va_Pc [.ref a0, .ref p1] (fun U => HB t G U.heap ∧ HK t U ∧ w_Fid_init t G a0 p1 K)) (va_Qv (fun u : TY × GS => te t u.1 ∧ K u.1 u.2) (fun u T => HB u.1 u.2 T.heap) (tA t)) 0 0 (tA t) := by
  refine Met.ofW (cc := b_Fid_init) (maxL := 2) (ret := none) (by decide) rfl ?_
  intro p e s m args below meth c s₁ B hml hv
  obtain ⟨rfl, hB, hK, hwp⟩ := hv
  have hts := atoms_spec (ws := Cond.code y_Fid_init b_Fid_init 2 (Option.none : Option Jvm.ClassFile.FieldType) :: GW) B.pre
  have hmn : meth.name = "<init>" := (name_of_methodNamed B.named B.method).1
  have X : kX p s m _ meth c b_Fid_init 2 "TreeServer$Fid" t := ⟨B.exec, B.bytes, hml, findClass_of_methodNamed B.named, fun w h => hts w (List.mem_cons_of_mem _ h), B.notSynchronized, hK⟩
  have hZ : kZ t false s G s.heap [] := ⟨hB, va_S.rf, fun h => by cases h⟩
  rw [lg_entry_eq]
  have hl := lv_entry ([.ref a0, .ref p1]) (n := 2) (by simp [lg_sl, rf_cat, cat_i, cat_l, cat_r])
  exact k_Fid_init X B.returns hmn G _ hwp s.heap [] _ hl hZ
abbrev b_Link_init : ByteArray := prog_6_method_1_code
def y_Link_init : MethodName := ⟨"TreeServer$Link", "<init>", "()V"⟩
theorem d_Link_init_0 : decode b_Link_init 0 = .ok (.aload_n 0, 1) := by decide +kernel
theorem d_Link_init_1 : decode b_Link_init 1 = .ok (.invokespecial 3, 3) := by decide +kernel
theorem d_Link_init_4 : decode b_Link_init 4 = .ok (.aload_n 0, 1) := by decide +kernel
theorem d_Link_init_5 : decode b_Link_init 5 = .ok (.sipush 160, 3) := by decide +kernel
theorem d_Link_init_8 : decode b_Link_init 8 = .ok (.newarray .byte, 2) := by decide +kernel
theorem d_Link_init_10 : decode b_Link_init 10 = .ok (.putfield 9, 3) := by decide +kernel
theorem d_Link_init_13 : decode b_Link_init 13 = .ok (.aload_n 0, 1) := by decide +kernel
theorem d_Link_init_14 : decode b_Link_init 14 = .ok (.sipush 256, 3) := by decide +kernel
theorem d_Link_init_17 : decode b_Link_init 17 = .ok (.newarray .byte, 2) := by decide +kernel
theorem d_Link_init_19 : decode b_Link_init 19 = .ok (.putfield 15, 3) := by decide +kernel
theorem d_Link_init_22 : decode b_Link_init 22 = .ok (.aload_n 0, 1) := by decide +kernel
theorem d_Link_init_23 : decode b_Link_init 23 = .ok (.sipush 128, 3) := by decide +kernel
theorem d_Link_init_26 : decode b_Link_init 26 = .ok (.putfield 18, 3) := by decide +kernel
theorem d_Link_init_29 : decode b_Link_init 29 = .ok (.aload_n 0, 1) := by decide +kernel
theorem d_Link_init_30 : decode b_Link_init 30 = .ok (.bipush 6, 2) := by decide +kernel
theorem d_Link_init_32 : decode b_Link_init 32 = .ok (.anewarray 22, 3) := by decide +kernel
theorem d_Link_init_35 : decode b_Link_init 35 = .ok (.putfield 24, 3) := by decide +kernel
theorem d_Link_init_38 : decode b_Link_init 38 = .ok (.new 28, 3) := by decide +kernel
theorem d_Link_init_41 : decode b_Link_init 41 = .ok (.dup, 1) := by decide +kernel
theorem d_Link_init_42 : decode b_Link_init 42 = .ok (.invokespecial 30, 3) := by decide +kernel
theorem d_Link_init_45 : decode b_Link_init 45 = .ok (.astore_n 1, 1) := by decide +kernel
theorem d_Link_init_46 : decode b_Link_init 46 = .ok (.iconst 0, 1) := by decide +kernel
theorem d_Link_init_47 : decode b_Link_init 47 = .ok (.istore_n 2, 1) := by decide +kernel
theorem d_Link_init_48 : decode b_Link_init 48 = .ok (.iload_n 2, 1) := by decide +kernel
theorem d_Link_init_49 : decode b_Link_init 49 = .ok (.bipush 6, 2) := by decide +kernel
theorem d_Link_init_51 : decode b_Link_init 51 = .ok (.if_icmp .ge 23, 3) := by decide +kernel
theorem d_Link_init_54 : decode b_Link_init 54 = .ok (.aload_n 0, 1) := by decide +kernel
theorem d_Link_init_55 : decode b_Link_init 55 = .ok (.getfield 24, 3) := by decide +kernel
theorem d_Link_init_58 : decode b_Link_init 58 = .ok (.iload_n 2, 1) := by decide +kernel
theorem d_Link_init_59 : decode b_Link_init 59 = .ok (.new 22, 3) := by decide +kernel
theorem d_Link_init_62 : decode b_Link_init 62 = .ok (.dup, 1) := by decide +kernel
theorem d_Link_init_63 : decode b_Link_init 63 = .ok (.aload_n 1, 1) := by decide +kernel
theorem d_Link_init_64 : decode b_Link_init 64 = .ok (.invokespecial 31, 3) := by decide +kernel
theorem d_Link_init_67 : decode b_Link_init 67 = .ok (.aastore, 1) := by decide +kernel
theorem d_Link_init_68 : decode b_Link_init 68 = .ok (.iinc 2 1, 3) := by decide +kernel
theorem d_Link_init_71 : decode b_Link_init 71 = .ok (.goto (-23), 3) := by decide +kernel
theorem d_Link_init_74 : decode b_Link_init 74 = .ok (.return_, 1) := by decide +kernel
abbrev rm_Link_init : Room := { frames := 2, cells := 12, slots := 561, locals := 33 }
set_option maxRecDepth 100000 in
set_option maxHeartbeats 4000000 in
theorem k_Link_init_48 {p : Program} {l : Launch} {e : Env} {s : State} {m : MethodId} {args : Array Value} {below : List Frame} {meth : Method} {c : Code} {t : TY} {a0 : Nat} {K : TY → GS → Prop} (hret : meth.sig.returnType = none) (hmn : meth.name = "<init>") (b1 : Nat) : ∀ (n i : Nat) (t1 : TY) (G : GS), i + n = 6 → kX p s m args meth c b_Link_init 3 "TreeServer$Link" t1 → te t t1 → w_Link_init_48 a0 b1 K n i t1 G → kV (6 + i * 1, 507 + i * 9) p l e rm_Link_init s m args below meth c (MQ below (va_Qv (fun u : TY × GS => te t u.1 ∧ K u.1 u.2) (fun u T => HB u.1 u.2 T.heap) (tA t)) args s 12 561 (tA t)) 3 t1 false 48 [(0, va_rf (some a0)), (2, .int (nI i)), (1, va_rf (some b1))] [] G := by
  intro n
  induction n with
  | zero =>
    intro i t1 G hi X E hwp
    have hi : i = 6 := by omega
    subst hi
    refine qw_iload_n (pc := 48) X d_Link_init_48 rfl 1 rfl ?_
    refine qw_bipush (v := 6) (pc := 49) X d_Link_init_49 (by decide) ?_
    refine qw_icmp_ge (tgt := 74) (pc := 51) X d_Link_init_51 (by decide) (fun h => ?_) (fun h => absurd (show (6 : Int32) ≤ nI 6 by decide) h)
    refine kV.ce (cs' := (12, 561)) rfl ?_
    exact qr_init (t0 := t) X hret d_Link_init_74 E hwp
  | succ n ih =>
    intro i t1 G hi X E hwp
    unfold w_Link_init_48 at hwp
    try dsimp only at hwp
    refine qw_iload_n (pc := 48) X d_Link_init_48 rfl 1 rfl ?_
    refine qw_bipush (v := 6) (pc := 49) X d_Link_init_49 (by decide) ?_
    refine qw_icmp_ge (tgt := 74) (pc := 51) X d_Link_init_51 (by decide) (fun h => absurd h (by rw [show (6 : Int32) = nI 6 from rfl]; exact nI_ge (by omega) (by decide))) (fun h => ?_)
    refine qw_aload_n (pc := 54) X d_Link_init_54 rfl 0 rfl ?_
    obtain ⟨f1, hwp⟩ := hwp
    refine qg_62 (a := a0) (pc := 55) X d_Link_init_55 x_346 rfl f1 ?_
    refine qw_iload_n (pc := 58) X d_Link_init_58 rfl 1 rfl ?_
    refine qn_7 (a0, 100 + i) (pc := 59) X rfl d_Link_init_59 x_282 x_286 x_12 ⟨by show _ ≤ (12 : Nat); dsimp only; omega, by show _ ≤ (561 : Nat); dsimp only; omega⟩ (fun a2 n3 => ?_)
    obtain ⟨t4, e_t4⟩ : ∃ z, z = adT t1 a2 7 0 (a0, 100 + i) := ⟨_, rfl⟩
    obtain ⟨G5, e_G5⟩ : ∃ z, z = zG G a2 := ⟨_, rfl⟩
    have hwp := hwp a2 n3 t4 e_t4 G5 e_G5
    have e6 : te t1 t4 := by rw [e_t4]; exact te.ad X.h.2.1.1 n3 7 0 (a0, 100 + i)
    have X7 := X.te e6
    rw [← e_t4, ← e_G5]
    refine kV.ce (cs' := (6 + i * 1 + 1, 507 + i * 9 + 9)) (by refine Prod.ext ?_ ?_ <;> dsimp only <;> omega) ?_
    have f8 := e6.k f1 X.h.2.1.1 (by decide)
    have e9 := E.trans e6
    have f10 : tk t4 a2 = 7 := by rw [e_t4]; exact tk_ad
    refine qw_dup (pc := 62) X7 d_Link_init_62 rfl ?_
    refine qw_aload_n (pc := 63) X7 d_Link_init_63 rfl 2 rfl ?_
    refine kV.st (st' := [.ref b1, .ref a2, va_rf (some a2), .int (nI i), va_rf (gr G 62 a0)]) rfl ?_
    refine qcI (n := 1) (As := [.ref b1]) (rest := [va_rf (some a2), .int (nI i), va_rf (gr G 62 a0)]) (pc := 64) X7 rfl (c_Fid_init l t4 G5 a2 b1 _) (cwI_of X7 x_289 x_287 x_288 x_12 rfl (by decide +kernel) (by decide)) rfl rfl (by simp [rf_cat, cat_i, cat_l, cat_r]) d_Link_init_64 ⟨by show _ ≤ (12 : Nat); dsimp only; omega, by show _ ≤ (561 : Nat); dsimp only; omega⟩ hwp (fun t11 G12 e13 hwp => ?_)
    have X14 := X7.te e13
    refine kV.ce (cs' := (6 + i * 1 + 1, 507 + i * 9 + 9)) (by refine Prod.ext ?_ ?_ <;> dsimp only <;> omega) ?_
    have f15 := e13.k f8 X7.h.2.1.1 (by decide)
    have f16 := e13.k f10 X7.h.2.1.1 (by decide)
    have e17 := e9.trans e13
    obtain ⟨a18, h_a18, hwp⟩ := hwp
    obtain ⟨f19, hwp⟩ := hwp
    obtain ⟨f20, hwp⟩ := hwp
    refine qa_aast56 (a := a18) (pc := 67) X14 rfl d_Link_init_67 h_a18 f19 f20 rfl f16 ?_
    obtain ⟨G21, e_G21⟩ : ∃ g, g = ars G12 a18 (nI i).toNatClampNeg (some a2) := ⟨_, rfl⟩
    have hwp := hwp G21 e_G21
    rw [← e_G21]
    refine qw_iinc (v := nI (i + 1)) (lv' := [(2, .int (nI (i + 1))), (0, va_rf (some a0)), (1, va_rf (some b1))]) (pc := 68) X14 d_Link_init_68 1 rfl (nI_succ i).symm (by decide) (by simp [rf_cat, cat_i, cat_l, cat_r]) ?_
    refine qw_goto (tgt := 48) (pc := 71) X14 d_Link_init_71 (by decide) ?_
    refine kV.ce (cs' := (6 + (i + 1) * 1, 507 + (i + 1) * 9)) (by refine Prod.ext ?_ ?_ <;> dsimp only <;> omega) ?_
    exact kV.sub [1, 0, 2] rfl (ih (i + 1) t11 G21 (by omega) X14 e17 hwp)
set_option maxRecDepth 100000 in
set_option maxHeartbeats 4000000 in
theorem k_Link_init {p : Program} {l : Launch} {e : Env} {s : State} {m : MethodId} {args : Array Value} {below : List Frame} {meth : Method} {c : Code} {t : TY} {a0 : Nat} {K : TY → GS → Prop} (X : kX p s m args meth c b_Link_init 3 "TreeServer$Link" t) (hret : meth.sig.returnType = none) (hmn : meth.name = "<init>") (G : GS) (hwp : w_Link_init t G a0 K) : kV (0, 0) p l e rm_Link_init s m args below meth c (MQ below (va_Qv (fun u : TY × GS => te t u.1 ∧ K u.1 u.2) (fun u T => HB u.1 u.2 T.heap) (tA t)) args s 12 561 (tA t)) 3 t false 0 [(0, va_rf (some a0))] [] G := by
  unfold w_Link_init at hwp
  have E : te t t := te.rf X.h.2.1.1
  refine qw_aload_n (pc := 0) X d_Link_init_0 rfl 0 rfl ?_
  refine q_objInit (pc := 1) X d_Link_init_1 x_281 x_26 x_27 rfl (by decide) (by decide) ?_
  refine qw_aload_n (pc := 4) X d_Link_init_4 rfl 0 rfl ?_
  refine qw_sipush (v := 160) (pc := 5) X d_Link_init_5 (by decide) ?_
  refine qn_51 160 (a0, 1) (pc := 8) X rfl d_Link_init_8 x_116 (by decide) (by decide) (fun a1 n2 => ?_)
  obtain ⟨t3, e_t3⟩ : ∃ z, z = adT t a1 51 160 (a0, 1) := ⟨_, rfl⟩
  obtain ⟨G4, e_G4⟩ : ∃ z, z = zG G a1 := ⟨_, rfl⟩
  have hwp := hwp a1 n2 t3 e_t3 G4 e_G4
  have e5 : te t t3 := by rw [e_t3]; exact te.ad X.h.2.1.1 n2 51 160 (a0, 1)
  have X6 := X.te e5
  rw [← e_t3, ← e_G4]
  refine kV.ce (cs' := (1, 160)) rfl ?_
  have e7 := E.trans e5
  have f8 : tk t3 a1 = 51 := by rw [e_t3]; exact tk_ad
  obtain ⟨f9, hwp⟩ := hwp
  refine qf_55 (a := a0) (pc := 10) X6 rfl hmn d_Link_init_10 x_332 rfl f9 ?_
  obtain ⟨G11, e_G11⟩ : ∃ g, g = sr G4 55 a0 (some a1) := ⟨_, rfl⟩
  have hwp := hwp G11 e_G11
  rw [← e_G11]
  refine qw_aload_n (pc := 13) X6 d_Link_init_13 rfl 0 rfl ?_
  refine qw_sipush (v := 256) (pc := 14) X6 d_Link_init_14 (by decide) ?_
  refine qn_51 256 (a0, 2) (pc := 17) X6 rfl d_Link_init_17 x_116 (by decide) (by decide) (fun a12 n13 => ?_)
  obtain ⟨t14, e_t14⟩ : ∃ z, z = adT t3 a12 51 256 (a0, 2) := ⟨_, rfl⟩
  obtain ⟨G15, e_G15⟩ : ∃ z, z = zG G11 a12 := ⟨_, rfl⟩
  have hwp := hwp a12 n13 t14 e_t14 G15 e_G15
  have e16 : te t3 t14 := by rw [e_t14]; exact te.ad X6.h.2.1.1 n13 51 256 (a0, 2)
  have X17 := X6.te e16
  rw [← e_t14, ← e_G15]
  refine kV.ce (cs' := (2, 416)) rfl ?_
  have f18 := e16.k f8 X6.h.2.1.1 (by decide)
  have f19 := e16.k f9 X6.h.2.1.1 (by decide)
  have e20 := e7.trans e16
  have f21 : tk t14 a12 = 51 := by rw [e_t14]; exact tk_ad
  refine qf_57 (a := a0) (pc := 19) X17 rfl hmn d_Link_init_19 x_335 rfl f19 ?_
  obtain ⟨G23, e_G23⟩ : ∃ g, g = sr G15 57 a0 (some a12) := ⟨_, rfl⟩
  have hwp := hwp G23 e_G23
  rw [← e_G23]
  refine qw_aload_n (pc := 22) X17 d_Link_init_22 rfl 0 rfl ?_
  refine qw_sipush (v := 128) (pc := 23) X17 d_Link_init_23 (by decide) ?_
  refine qp_59 (a := a0) (x := (128 : Int32)) (pc := 26) X17 rfl d_Link_init_26 x_340 rfl f19 ?_
  obtain ⟨G25, e_G25⟩ : ∃ g, g = si G23 59 a0 (128 : Int32) := ⟨_, rfl⟩
  have hwp := hwp G25 e_G25
  rw [← e_G25]
  refine qw_aload_n (pc := 29) X17 d_Link_init_29 rfl 0 rfl ?_
  refine qw_bipush (v := 6) (pc := 30) X17 d_Link_init_30 (by decide) ?_
  refine qn_56 6 (a0, 3) (pc := 32) X17 rfl d_Link_init_32 x_282 (by decide) (by decide) (fun a26 n27 => ?_)
  obtain ⟨t28, e_t28⟩ : ∃ z, z = adT t14 a26 56 6 (a0, 3) := ⟨_, rfl⟩
  obtain ⟨G29, e_G29⟩ : ∃ z, z = zG G25 a26 := ⟨_, rfl⟩
  have hwp := hwp a26 n27 t28 e_t28 G29 e_G29
  have e30 : te t14 t28 := by rw [e_t28]; exact te.ad X17.h.2.1.1 n27 56 6 (a0, 3)
  have X31 := X17.te e30
  rw [← e_t28, ← e_G29]
  refine kV.ce (cs' := (3, 422)) rfl ?_
  have f32 := e30.k f18 X17.h.2.1.1 (by decide)
  have f33 := e30.k f19 X17.h.2.1.1 (by decide)
  have f34 := e30.k f21 X17.h.2.1.1 (by decide)
  have e35 := e20.trans e30
  have f36 : tk t28 a26 = 56 := by rw [e_t28]; exact tk_ad
  refine qf_62 (a := a0) (pc := 35) X31 rfl hmn d_Link_init_35 x_346 rfl f33 ?_
  obtain ⟨G38, e_G38⟩ : ∃ g, g = sr G29 62 a0 (some a26) := ⟨_, rfl⟩
  have hwp := hwp G38 e_G38
  rw [← e_G38]
  refine qn_1 (a0, 4) (pc := 38) X31 rfl d_Link_init_38 x_284 x_35 x_3 (by decide) (fun a39 n40 => ?_)
  obtain ⟨t41, e_t41⟩ : ∃ z, z = adT t28 a39 1 0 (a0, 4) := ⟨_, rfl⟩
  obtain ⟨G42, e_G42⟩ : ∃ z, z = zG G38 a39 := ⟨_, rfl⟩
  have hwp := hwp a39 n40 t41 e_t41 G42 e_G42
  have e43 : te t28 t41 := by rw [e_t41]; exact te.ad X31.h.2.1.1 n40 1 0 (a0, 4)
  have X44 := X31.te e43
  rw [← e_t41, ← e_G42]
  refine kV.ce (cs' := (4, 435)) rfl ?_
  have f45 := e43.k f32 X31.h.2.1.1 (by decide)
  have f46 := e43.k f33 X31.h.2.1.1 (by decide)
  have f47 := e43.k f34 X31.h.2.1.1 (by decide)
  have f48 := e43.k f36 X31.h.2.1.1 (by decide)
  have e49 := e35.trans e43
  have f50 : tk t41 a39 = 1 := by rw [e_t41]; exact tk_ad
  refine qw_dup (pc := 41) X44 d_Link_init_41 rfl ?_
  refine kV.st (st' := [.ref a39, va_rf (some a39)]) rfl ?_
  refine qcN (n := 0) (As := []) (rest := [va_rf (some a39)]) (pc := 42) X44 rfl (c_Node_init l t41 G42 a39  _) (cwN_of X44 x_38 (by decide +kernel) x_37 x_3 rfl (by decide +kernel) (by decide)) rfl rfl (by simp [rf_cat, cat_i, cat_l, cat_r]) d_Link_init_42 (by decide) hwp (fun t51 G52 e53 hwp => ?_)
  have X54 := X44.te e53
  refine kV.ce (cs' := (6, 507)) rfl ?_
  have f55 := e53.k f45 X44.h.2.1.1 (by decide)
  have f56 := e53.k f46 X44.h.2.1.1 (by decide)
  have f57 := e53.k f47 X44.h.2.1.1 (by decide)
  have f58 := e53.k f48 X44.h.2.1.1 (by decide)
  have f59 := e53.k f50 X44.h.2.1.1 (by decide)
  have e60 := e49.trans e53
  refine qw_astore_n (i := 1) (lv' := [(1, va_rf (some a39)), (0, va_rf (some a0))]) (pc := 45) X54 d_Link_init_45 rfl (by decide) (by simp [rf_cat, cat_i, cat_l, cat_r]) ?_
  refine qw_iconst (v := 0) (pc := 46) X54 d_Link_init_46 (by decide) ?_
  refine qw_istore_n (i := 2) (lv' := [(2, .int (0 : Int32)), (1, va_rf (some a39)), (0, va_rf (some a0))]) (pc := 47) X54 d_Link_init_47 rfl (by decide) (by simp [rf_cat, cat_i, cat_l, cat_r]) ?_
  refine kV.ce (cs' := (6 + 0 * 1, 507 + 0 * 9)) rfl ?_
  exact kV.sub [2, 0, 1] rfl (k_Link_init_48 hret hmn a39 6 0 t51 G52 rfl X54 e60 hwp)
set_option maxRecDepth 100000 in
set_option maxHeartbeats 4000000 in
theorem c_Link_init (l : Launch) (t : TY) (G : GS) (a0 : Nat) (K : TY → GS → Prop) : Met l y_Link_init (Cond.code y_Link_init b_Link_init 3 (Option.none : Option Jvm.ClassFile.FieldType) :: GW) rm_Link_init (va_Pc [.ref a0] (fun U => HB t G U.heap ∧ HK t U ∧ w_Link_init t G a0 K)) (va_Qv (fun u : TY × GS => te t u.1 ∧ K u.1 u.2) (fun u T => HB u.1 u.2 T.heap) (tA t)) 12 561 (tA t) := by
  refine Met.ofW (cc := b_Link_init) (maxL := 3) (ret := none) (by decide) rfl ?_
  intro p e s m args below meth c s₁ B hml hv
  obtain ⟨rfl, hB, hK, hwp⟩ := hv
  have hts := atoms_spec (ws := Cond.code y_Link_init b_Link_init 3 (Option.none : Option Jvm.ClassFile.FieldType) :: GW) B.pre
  have hmn : meth.name = "<init>" := (name_of_methodNamed B.named B.method).1
  have X : kX p s m _ meth c b_Link_init 3 "TreeServer$Link" t := ⟨B.exec, B.bytes, hml, findClass_of_methodNamed B.named, fun w h => hts w (List.mem_cons_of_mem _ h), B.notSynchronized, hK⟩
  have hZ : kZ t false s G s.heap [] := ⟨hB, va_S.rf, fun h => by cases h⟩
  rw [lg_entry_eq]
  have hl := lv_entry ([.ref a0]) (n := 3) (by simp [lg_sl, rf_cat, cat_i, cat_l, cat_r])
  exact k_Link_init X B.returns hmn G hwp s.heap [] _ hl hZ
abbrev b_S_init : ByteArray := prog_1_method_1_code
def y_S_init : MethodName := ⟨"TreeServer", "<init>", "()V"⟩
theorem d_S_init_0 : decode b_S_init 0 = .ok (.aload_n 0, 1) := by decide +kernel
theorem d_S_init_1 : decode b_S_init 1 = .ok (.invokespecial 1, 3) := by decide +kernel
theorem d_S_init_4 : decode b_S_init 4 = .ok (.aload_n 0, 1) := by decide +kernel
theorem d_S_init_5 : decode b_S_init 5 = .ok (.new 7, 3) := by decide +kernel
theorem d_S_init_8 : decode b_S_init 8 = .ok (.dup, 1) := by decide +kernel
theorem d_S_init_9 : decode b_S_init 9 = .ok (.invokespecial 9, 3) := by decide +kernel
theorem d_S_init_12 : decode b_S_init 12 = .ok (.putfield 10, 3) := by decide +kernel
theorem d_S_init_15 : decode b_S_init 15 = .ok (.aload_n 0, 1) := by decide +kernel
theorem d_S_init_16 : decode b_S_init 16 = .ok (.new 16, 3) := by decide +kernel
theorem d_S_init_19 : decode b_S_init 19 = .ok (.dup, 1) := by decide +kernel
theorem d_S_init_20 : decode b_S_init 20 = .ok (.invokespecial 18, 3) := by decide +kernel
theorem d_S_init_23 : decode b_S_init 23 = .ok (.putfield 19, 3) := by decide +kernel
theorem d_S_init_26 : decode b_S_init 26 = .ok (.aload_n 0, 1) := by decide +kernel
theorem d_S_init_27 : decode b_S_init 27 = .ok (.new 23, 3) := by decide +kernel
theorem d_S_init_30 : decode b_S_init 30 = .ok (.dup, 1) := by decide +kernel
theorem d_S_init_31 : decode b_S_init 31 = .ok (.invokespecial 25, 3) := by decide +kernel
theorem d_S_init_34 : decode b_S_init 34 = .ok (.putfield 26, 3) := by decide +kernel
theorem d_S_init_37 : decode b_S_init 37 = .ok (.aload_n 0, 1) := by decide +kernel
theorem d_S_init_38 : decode b_S_init 38 = .ok (.new 30, 3) := by decide +kernel
theorem d_S_init_41 : decode b_S_init 41 = .ok (.dup, 1) := by decide +kernel
theorem d_S_init_42 : decode b_S_init 42 = .ok (.invokespecial 32, 3) := by decide +kernel
theorem d_S_init_45 : decode b_S_init 45 = .ok (.putfield 33, 3) := by decide +kernel
theorem d_S_init_48 : decode b_S_init 48 = .ok (.aload_n 0, 1) := by decide +kernel
theorem d_S_init_49 : decode b_S_init 49 = .ok (.new 37, 3) := by decide +kernel
theorem d_S_init_52 : decode b_S_init 52 = .ok (.dup, 1) := by decide +kernel
theorem d_S_init_53 : decode b_S_init 53 = .ok (.invokespecial 39, 3) := by decide +kernel
theorem d_S_init_56 : decode b_S_init 56 = .ok (.putfield 40, 3) := by decide +kernel
theorem d_S_init_59 : decode b_S_init 59 = .ok (.aload_n 0, 1) := by decide +kernel
theorem d_S_init_60 : decode b_S_init 60 = .ok (.iconst 2, 1) := by decide +kernel
theorem d_S_init_61 : decode b_S_init 61 = .ok (.anewarray 44, 3) := by decide +kernel
theorem d_S_init_64 : decode b_S_init 64 = .ok (.putfield 46, 3) := by decide +kernel
theorem d_S_init_67 : decode b_S_init 67 = .ok (.iconst 0, 1) := by decide +kernel
theorem d_S_init_68 : decode b_S_init 68 = .ok (.istore_n 1, 1) := by decide +kernel
theorem d_S_init_69 : decode b_S_init 69 = .ok (.iload_n 1, 1) := by decide +kernel
theorem d_S_init_70 : decode b_S_init 70 = .ok (.iconst 2, 1) := by decide +kernel
theorem d_S_init_71 : decode b_S_init 71 = .ok (.if_icmp .ge 22, 3) := by decide +kernel
theorem d_S_init_74 : decode b_S_init 74 = .ok (.aload_n 0, 1) := by decide +kernel
theorem d_S_init_75 : decode b_S_init 75 = .ok (.getfield 46, 3) := by decide +kernel
theorem d_S_init_78 : decode b_S_init 78 = .ok (.iload_n 1, 1) := by decide +kernel
theorem d_S_init_79 : decode b_S_init 79 = .ok (.new 44, 3) := by decide +kernel
theorem d_S_init_82 : decode b_S_init 82 = .ok (.dup, 1) := by decide +kernel
theorem d_S_init_83 : decode b_S_init 83 = .ok (.invokespecial 50, 3) := by decide +kernel
theorem d_S_init_86 : decode b_S_init 86 = .ok (.aastore, 1) := by decide +kernel
theorem d_S_init_87 : decode b_S_init 87 = .ok (.iinc 1 1, 3) := by decide +kernel
theorem d_S_init_90 : decode b_S_init 90 = .ok (.goto (-21), 3) := by decide +kernel
theorem d_S_init_93 : decode b_S_init 93 = .ok (.return_, 1) := by decide +kernel
abbrev rm_S_init : Room := { frames := 3, cells := 102, slots := 3314, locals := 55 }
set_option maxRecDepth 100000 in
set_option maxHeartbeats 4000000 in
theorem k_S_init_69 {p : Program} {l : Launch} {e : Env} {s : State} {m : MethodId} {args : Array Value} {below : List Frame} {meth : Method} {c : Code} {t : TY} {a0 : Nat} {K : TY → GS → Prop} (hret : meth.sig.returnType = none) (hmn : meth.name = "<init>") : ∀ (n i : Nat) (t1 : TY) (G : GS), i + n = 2 → kX p s m args meth c b_S_init 2 "TreeServer" t1 → te t t1 → w_S_init_69 a0 K n i t1 G → kV (76 + i * 13, 2176 + i * 569) p l e rm_S_init s m args below meth c (MQ below (va_Qv (fun u : TY × GS => te t u.1 ∧ K u.1 u.2) (fun u T => HB u.1 u.2 T.heap) (tA t)) args s 102 3314 (tA t)) 2 t1 false 69 [(0, va_rf (some a0)), (1, .int (nI i))] [] G := by
  intro n
  induction n with
  | zero =>
    intro i t1 G hi X E hwp
    have hi : i = 2 := by omega
    subst hi
    refine qw_iload_n (pc := 69) X d_S_init_69 rfl 1 rfl ?_
    refine qw_iconst (v := 2) (pc := 70) X d_S_init_70 (by decide) ?_
    refine qw_icmp_ge (tgt := 93) (pc := 71) X d_S_init_71 (by decide) (fun h => ?_) (fun h => absurd (show (2 : Int32) ≤ nI 2 by decide) h)
    refine kV.ce (cs' := (102, 3314)) rfl ?_
    exact qr_init (t0 := t) X hret d_S_init_93 E hwp
  | succ n ih =>
    intro i t1 G hi X E hwp
    unfold w_S_init_69 at hwp
    try dsimp only at hwp
    refine qw_iload_n (pc := 69) X d_S_init_69 rfl 1 rfl ?_
    refine qw_iconst (v := 2) (pc := 70) X d_S_init_70 (by decide) ?_
    refine qw_icmp_ge (tgt := 93) (pc := 71) X d_S_init_71 (by decide) (fun h => absurd h (by rw [show (2 : Int32) = nI 2 from rfl]; exact nI_ge (by omega) (by decide))) (fun h => ?_)
    refine qw_aload_n (pc := 74) X d_S_init_74 rfl 0 rfl ?_
    obtain ⟨f1, hwp⟩ := hwp
    refine qg_68 (a := a0) (pc := 75) X d_S_init_75 x_369 rfl f1 ?_
    refine qw_iload_n (pc := 78) X d_S_init_78 rfl 1 rfl ?_
    refine qn_8 (a0, 100 + i) (pc := 79) X rfl d_S_init_79 x_275 x_277 x_11 ⟨by show _ ≤ (102 : Nat); dsimp only; omega, by show _ ≤ (3314 : Nat); dsimp only; omega⟩ (fun a2 n3 => ?_)
    obtain ⟨t4, e_t4⟩ : ∃ z, z = adT t1 a2 8 0 (a0, 100 + i) := ⟨_, rfl⟩
    obtain ⟨G5, e_G5⟩ : ∃ z, z = zG G a2 := ⟨_, rfl⟩
    have hwp := hwp a2 n3 t4 e_t4 G5 e_G5
    have e6 : te t1 t4 := by rw [e_t4]; exact te.ad X.h.2.1.1 n3 8 0 (a0, 100 + i)
    have X7 := X.te e6
    rw [← e_t4, ← e_G5]
    refine kV.ce (cs' := (76 + i * 13 + 1, 2176 + i * 569 + 8)) (by refine Prod.ext ?_ ?_ <;> dsimp only <;> omega) ?_
    have f8 := e6.k f1 X.h.2.1.1 (by decide)
    have e9 := E.trans e6
    have f10 : tk t4 a2 = 8 := by rw [e_t4]; exact tk_ad
    refine qw_dup (pc := 82) X7 d_S_init_82 rfl ?_
    refine kV.st (st' := [.ref a2, va_rf (some a2), .int (nI i), va_rf (gr G 68 a0)]) rfl ?_
    refine qcI (n := 0) (As := []) (rest := [va_rf (some a2), .int (nI i), va_rf (gr G 68 a0)]) (pc := 83) X7 rfl (c_Link_init l t4 G5 a2  _) (cwI_of X7 x_280 x_278 x_279 x_11 rfl (by decide +kernel) (by decide)) rfl rfl (by simp [rf_cat, cat_i, cat_l, cat_r]) d_S_init_83 ⟨by show _ ≤ (102 : Nat); dsimp only; omega, by show _ ≤ (3314 : Nat); dsimp only; omega⟩ hwp (fun t11 G12 e13 hwp => ?_)
    have X14 := X7.te e13
    refine kV.ce (cs' := (76 + i * 13 + 13, 2176 + i * 569 + 569)) (by refine Prod.ext ?_ ?_ <;> dsimp only <;> omega) ?_
    have f15 := e13.k f8 X7.h.2.1.1 (by decide)
    have f16 := e13.k f10 X7.h.2.1.1 (by decide)
    have e17 := e9.trans e13
    obtain ⟨a18, h_a18, hwp⟩ := hwp
    obtain ⟨f19, hwp⟩ := hwp
    obtain ⟨f20, hwp⟩ := hwp
    refine qa_aast55 (a := a18) (pc := 86) X14 rfl d_S_init_86 h_a18 f19 f20 rfl f16 ?_
    obtain ⟨G21, e_G21⟩ : ∃ g, g = ars G12 a18 (nI i).toNatClampNeg (some a2) := ⟨_, rfl⟩
    have hwp := hwp G21 e_G21
    rw [← e_G21]
    refine qw_iinc (v := nI (i + 1)) (lv' := [(1, .int (nI (i + 1))), (0, va_rf (some a0))]) (pc := 87) X14 d_S_init_87 1 rfl (nI_succ i).symm (by decide) (by simp [rf_cat, cat_i, cat_l, cat_r]) ?_
    refine qw_goto (tgt := 69) (pc := 90) X14 d_S_init_90 (by decide) ?_
    refine kV.ce (cs' := (76 + (i + 1) * 13, 2176 + (i + 1) * 569)) (by refine Prod.ext ?_ ?_ <;> dsimp only <;> omega) ?_
    exact kV.sub [1, 0] rfl (ih (i + 1) t11 G21 (by omega) X14 e17 hwp)
set_option maxRecDepth 100000 in
set_option maxHeartbeats 4000000 in
theorem k_S_init {p : Program} {l : Launch} {e : Env} {s : State} {m : MethodId} {args : Array Value} {below : List Frame} {meth : Method} {c : Code} {t : TY} {a0 : Nat} {K : TY → GS → Prop} (X : kX p s m args meth c b_S_init 2 "TreeServer" t) (hret : meth.sig.returnType = none) (hmn : meth.name = "<init>") (G : GS) (hwp : w_S_init t G a0 K) : kV (0, 0) p l e rm_S_init s m args below meth c (MQ below (va_Qv (fun u : TY × GS => te t u.1 ∧ K u.1 u.2) (fun u T => HB u.1 u.2 T.heap) (tA t)) args s 102 3314 (tA t)) 2 t false 0 [(0, va_rf (some a0))] [] G := by
  unfold w_S_init at hwp
  have E : te t t := te.rf X.h.2.1.1
  refine qw_aload_n (pc := 0) X d_S_init_0 rfl 0 rfl ?_
  refine q_objInit (pc := 1) X d_S_init_1 x_25 x_26 x_27 rfl (by decide) (by decide) ?_
  refine qw_aload_n (pc := 4) X d_S_init_4 rfl 0 rfl ?_
  refine qn_2 (a0, 1) (pc := 5) X rfl d_S_init_5 x_28 x_29 x_2 (by decide) (fun a1 n2 => ?_)
  obtain ⟨t3, e_t3⟩ : ∃ z, z = adT t a1 2 0 (a0, 1) := ⟨_, rfl⟩
  obtain ⟨G4, e_G4⟩ : ∃ z, z = zG G a1 := ⟨_, rfl⟩
  have hwp := hwp a1 n2 t3 e_t3 G4 e_G4
  have e5 : te t t3 := by rw [e_t3]; exact te.ad X.h.2.1.1 n2 2 0 (a0, 1)
  have X6 := X.te e5
  rw [← e_t3, ← e_G4]
  refine kV.ce (cs' := (1, 4)) rfl ?_
  have e7 := E.trans e5
  have f8 : tk t3 a1 = 2 := by rw [e_t3]; exact tk_ad
  refine qw_dup (pc := 8) X6 d_S_init_8 rfl ?_
  refine kV.st (st' := [.ref a1, va_rf (some a1), va_rf (some a0)]) rfl ?_
  refine qcI (n := 0) (As := []) (rest := [va_rf (some a1), va_rf (some a0)]) (pc := 9) X6 rfl (c_Tree_init l t3 G4 a1  _) (cwI_of X6 x_32 x_30 x_31 x_2 rfl (by decide +kernel) (by decide)) rfl rfl (by simp [rf_cat, cat_i, cat_l, cat_r]) d_S_init_9 (by decide) hwp (fun t9 G10 e11 hwp => ?_)
  have X12 := X6.te e11
  refine kV.ce (cs' := (65, 1809)) rfl ?_
  have f13 := e11.k f8 X6.h.2.1.1 (by decide)
  have e14 := e7.trans e11
  obtain ⟨f15, hwp⟩ := hwp
  refine qf_63 (a := a0) (pc := 12) X12 rfl hmn d_S_init_12 x_364 rfl f15 ?_
  obtain ⟨G17, e_G17⟩ : ∃ g, g = sr G10 63 a0 (some a1) := ⟨_, rfl⟩
  have hwp := hwp G17 e_G17
  rw [← e_G17]
  refine qw_aload_n (pc := 15) X12 d_S_init_15 rfl 0 rfl ?_
  refine qn_3 (a0, 2) (pc := 16) X12 rfl d_S_init_16 x_135 x_136 x_6 (by decide) (fun a18 n19 => ?_)
  obtain ⟨t20, e_t20⟩ : ∃ z, z = adT t9 a18 3 0 (a0, 2) := ⟨_, rfl⟩
  obtain ⟨G21, e_G21⟩ : ∃ z, z = zG G17 a18 := ⟨_, rfl⟩
  have hwp := hwp a18 n19 t20 e_t20 G21 e_G21
  have e22 : te t9 t20 := by rw [e_t20]; exact te.ad X12.h.2.1.1 n19 3 0 (a0, 2)
  have X23 := X12.te e22
  rw [← e_t20, ← e_G21]
  refine kV.ce (cs' := (66, 1813)) rfl ?_
  have f24 := e22.k f13 X12.h.2.1.1 (by decide)
  have f25 := e22.k f15 X12.h.2.1.1 (by decide)
  have e26 := e14.trans e22
  have f27 : tk t20 a18 = 3 := by rw [e_t20]; exact tk_ad
  refine qw_dup (pc := 19) X23 d_S_init_19 rfl ?_
  refine kV.st (st' := [.ref a18, va_rf (some a18), va_rf (some a0)]) rfl ?_
  refine qcN (n := 0) (As := []) (rest := [va_rf (some a18), va_rf (some a0)]) (pc := 20) X23 rfl (c_Log_init l t20 G21 a18  _) (cwN_of X23 x_139 (by decide +kernel) x_138 x_6 rfl (by decide +kernel) (by decide)) rfl rfl (by simp [rf_cat, cat_i, cat_l, cat_r]) d_S_init_20 (by decide) hwp (fun t28 G29 e30 hwp => ?_)
  have X31 := X23.te e30
  refine kV.ce (cs' := (66, 1813)) rfl ?_
  have f32 := e30.k f24 X23.h.2.1.1 (by decide)
  have f33 := e30.k f25 X23.h.2.1.1 (by decide)
  have f34 := e30.k f27 X23.h.2.1.1 (by decide)
  have e35 := e26.trans e30
  refine qf_64 (a := a0) (pc := 23) X31 rfl hmn d_S_init_23 x_365 rfl f33 ?_
  obtain ⟨G37, e_G37⟩ : ∃ g, g = sr G29 64 a0 (some a18) := ⟨_, rfl⟩
  have hwp := hwp G37 e_G37
  rw [← e_G37]
  refine qw_aload_n (pc := 26) X31 d_S_init_26 rfl 0 rfl ?_
  refine qn_4 (a0, 3) (pc := 27) X31 rfl d_S_init_27 x_158 x_159 x_7 (by decide) (fun a38 n39 => ?_)
  obtain ⟨t40, e_t40⟩ : ∃ z, z = adT t28 a38 4 0 (a0, 3) := ⟨_, rfl⟩
  obtain ⟨G41, e_G41⟩ : ∃ z, z = zG G37 a38 := ⟨_, rfl⟩
  have hwp := hwp a38 n39 t40 e_t40 G41 e_G41
  have e42 : te t28 t40 := by rw [e_t40]; exact te.ad X31.h.2.1.1 n39 4 0 (a0, 3)
  have X43 := X31.te e42
  rw [← e_t40, ← e_G41]
  refine kV.ce (cs' := (67, 1828)) rfl ?_
  have f44 := e42.k f32 X31.h.2.1.1 (by decide)
  have f45 := e42.k f33 X31.h.2.1.1 (by decide)
  have f46 := e42.k f34 X31.h.2.1.1 (by decide)
  have e47 := e35.trans e42
  have f48 : tk t40 a38 = 4 := by rw [e_t40]; exact tk_ad
  refine qw_dup (pc := 30) X43 d_S_init_30 rfl ?_
  refine kV.st (st' := [.ref a38, va_rf (some a38), va_rf (some a0)]) rfl ?_
  refine qcN (n := 0) (As := []) (rest := [va_rf (some a38), va_rf (some a0)]) (pc := 31) X43 rfl (c_Change_init l t40 G41 a38  _) (cwN_of X43 x_162 (by decide +kernel) x_161 x_7 rfl (by decide +kernel) (by decide)) rfl rfl (by simp [rf_cat, cat_i, cat_l, cat_r]) d_S_init_31 (by decide) hwp (fun t49 G50 e51 hwp => ?_)
  have X52 := X43.te e51
  refine kV.ce (cs' := (69, 1900)) rfl ?_
  have f53 := e51.k f44 X43.h.2.1.1 (by decide)
  have f54 := e51.k f45 X43.h.2.1.1 (by decide)
  have f55 := e51.k f46 X43.h.2.1.1 (by decide)
  have f56 := e51.k f48 X43.h.2.1.1 (by decide)
  have e57 := e47.trans e51
  refine qf_65 (a := a0) (pc := 34) X52 rfl hmn d_S_init_34 x_366 rfl f54 ?_
  obtain ⟨G59, e_G59⟩ : ∃ g, g = sr G50 65 a0 (some a38) := ⟨_, rfl⟩
  have hwp := hwp G59 e_G59
  rw [← e_G59]
  refine qw_aload_n (pc := 37) X52 d_S_init_37 rfl 0 rfl ?_
  refine qn_5 (a0, 4) (pc := 38) X52 rfl d_S_init_38 x_224 x_225 x_9 (by decide) (fun a60 n61 => ?_)
  obtain ⟨t62, e_t62⟩ : ∃ z, z = adT t49 a60 5 0 (a0, 4) := ⟨_, rfl⟩
  obtain ⟨G63, e_G63⟩ : ∃ z, z = zG G59 a60 := ⟨_, rfl⟩
  have hwp := hwp a60 n61 t62 e_t62 G63 e_G63
  have e64 : te t49 t62 := by rw [e_t62]; exact te.ad X52.h.2.1.1 n61 5 0 (a0, 4)
  have X65 := X52.te e64
  rw [← e_t62, ← e_G63]
  refine kV.ce (cs' := (70, 1908)) rfl ?_
  have f66 := e64.k f53 X52.h.2.1.1 (by decide)
  have f67 := e64.k f54 X52.h.2.1.1 (by decide)
  have f68 := e64.k f55 X52.h.2.1.1 (by decide)
  have f69 := e64.k f56 X52.h.2.1.1 (by decide)
  have e70 := e57.trans e64
  have f71 : tk t62 a60 = 5 := by rw [e_t62]; exact tk_ad
  refine qw_dup (pc := 41) X65 d_S_init_41 rfl ?_
  refine kV.st (st' := [.ref a60, va_rf (some a60), va_rf (some a0)]) rfl ?_
  refine qcN (n := 0) (As := []) (rest := [va_rf (some a60), va_rf (some a0)]) (pc := 42) X65 rfl (c_Message_init l t62 G63 a60  _) (cwN_of X65 x_228 (by decide +kernel) x_227 x_9 rfl (by decide +kernel) (by decide)) rfl rfl (by simp [rf_cat, cat_i, cat_l, cat_r]) d_S_init_42 (by decide) hwp (fun t72 G73 e74 hwp => ?_)
  have X75 := X65.te e74
  refine kV.ce (cs' := (73, 2044)) rfl ?_
  have f76 := e74.k f66 X65.h.2.1.1 (by decide)
  have f77 := e74.k f67 X65.h.2.1.1 (by decide)
  have f78 := e74.k f68 X65.h.2.1.1 (by decide)
  have f79 := e74.k f69 X65.h.2.1.1 (by decide)
  have f80 := e74.k f71 X65.h.2.1.1 (by decide)
  have e81 := e70.trans e74
  refine qf_66 (a := a0) (pc := 45) X75 rfl hmn d_S_init_45 x_367 rfl f77 ?_
  obtain ⟨G83, e_G83⟩ : ∃ g, g = sr G73 66 a0 (some a60) := ⟨_, rfl⟩
  have hwp := hwp G83 e_G83
  rw [← e_G83]
  refine qw_aload_n (pc := 48) X75 d_S_init_48 rfl 0 rfl ?_
  refine qn_6 (a0, 5) (pc := 49) X75 rfl d_S_init_49 x_262 x_263 x_10 (by decide) (fun a84 n85 => ?_)
  obtain ⟨t86, e_t86⟩ : ∃ z, z = adT t72 a84 6 0 (a0, 5) := ⟨_, rfl⟩
  obtain ⟨G87, e_G87⟩ : ∃ z, z = zG G83 a84 := ⟨_, rfl⟩
  have hwp := hwp a84 n85 t86 e_t86 G87 e_G87
  have e88 : te t72 t86 := by rw [e_t86]; exact te.ad X75.h.2.1.1 n85 6 0 (a0, 5)
  have X89 := X75.te e88
  rw [← e_t86, ← e_G87]
  refine kV.ce (cs' := (74, 2046)) rfl ?_
  have f90 := e88.k f76 X75.h.2.1.1 (by decide)
  have f91 := e88.k f77 X75.h.2.1.1 (by decide)
  have f92 := e88.k f78 X75.h.2.1.1 (by decide)
  have f93 := e88.k f79 X75.h.2.1.1 (by decide)
  have f94 := e88.k f80 X75.h.2.1.1 (by decide)
  have e95 := e81.trans e88
  have f96 : tk t86 a84 = 6 := by rw [e_t86]; exact tk_ad
  refine qw_dup (pc := 52) X89 d_S_init_52 rfl ?_
  refine kV.st (st' := [.ref a84, va_rf (some a84), va_rf (some a0)]) rfl ?_
  refine qcN (n := 0) (As := []) (rest := [va_rf (some a84), va_rf (some a0)]) (pc := 53) X89 rfl (c_Answer_init l t86 G87 a84  _) (cwN_of X89 x_266 (by decide +kernel) x_265 x_10 rfl (by decide +kernel) (by decide)) rfl rfl (by simp [rf_cat, cat_i, cat_l, cat_r]) d_S_init_53 (by decide) hwp (fun t97 G98 e99 hwp => ?_)
  have X100 := X89.te e99
  refine kV.ce (cs' := (75, 2174)) rfl ?_
  have f101 := e99.k f90 X89.h.2.1.1 (by decide)
  have f102 := e99.k f91 X89.h.2.1.1 (by decide)
  have f103 := e99.k f92 X89.h.2.1.1 (by decide)
  have f104 := e99.k f93 X89.h.2.1.1 (by decide)
  have f105 := e99.k f94 X89.h.2.1.1 (by decide)
  have f106 := e99.k f96 X89.h.2.1.1 (by decide)
  have e107 := e95.trans e99
  refine qf_67 (a := a0) (pc := 56) X100 rfl hmn d_S_init_56 x_368 rfl f102 ?_
  obtain ⟨G109, e_G109⟩ : ∃ g, g = sr G98 67 a0 (some a84) := ⟨_, rfl⟩
  have hwp := hwp G109 e_G109
  rw [← e_G109]
  refine qw_aload_n (pc := 59) X100 d_S_init_59 rfl 0 rfl ?_
  refine qw_iconst (v := 2) (pc := 60) X100 d_S_init_60 (by decide) ?_
  refine qn_55 2 (a0, 6) (pc := 61) X100 rfl d_S_init_61 x_275 (by decide) (by decide) (fun a110 n111 => ?_)
  obtain ⟨t112, e_t112⟩ : ∃ z, z = adT t97 a110 55 2 (a0, 6) := ⟨_, rfl⟩
  obtain ⟨G113, e_G113⟩ : ∃ z, z = zG G109 a110 := ⟨_, rfl⟩
  have hwp := hwp a110 n111 t112 e_t112 G113 e_G113
  have e114 : te t97 t112 := by rw [e_t112]; exact te.ad X100.h.2.1.1 n111 55 2 (a0, 6)
  have X115 := X100.te e114
  rw [← e_t112, ← e_G113]
  refine kV.ce (cs' := (76, 2176)) rfl ?_
  have f116 := e114.k f101 X100.h.2.1.1 (by decide)
  have f117 := e114.k f102 X100.h.2.1.1 (by decide)
  have f118 := e114.k f103 X100.h.2.1.1 (by decide)
  have f119 := e114.k f104 X100.h.2.1.1 (by decide)
  have f120 := e114.k f105 X100.h.2.1.1 (by decide)
  have f121 := e114.k f106 X100.h.2.1.1 (by decide)
  have e122 := e107.trans e114
  have f123 : tk t112 a110 = 55 := by rw [e_t112]; exact tk_ad
  refine qf_68 (a := a0) (pc := 64) X115 rfl hmn d_S_init_64 x_369 rfl f117 ?_
  obtain ⟨G125, e_G125⟩ : ∃ g, g = sr G113 68 a0 (some a110) := ⟨_, rfl⟩
  have hwp := hwp G125 e_G125
  rw [← e_G125]
  refine qw_iconst (v := 0) (pc := 67) X115 d_S_init_67 (by decide) ?_
  refine qw_istore_n (i := 1) (lv' := [(1, .int (0 : Int32)), (0, va_rf (some a0))]) (pc := 68) X115 d_S_init_68 rfl (by decide) (by simp [rf_cat, cat_i, cat_l, cat_r]) ?_
  refine kV.ce (cs' := (76 + 0 * 13, 2176 + 0 * 569)) rfl ?_
  exact kV.sub [1, 0] rfl (k_S_init_69 hret hmn 2 0 t112 G125 rfl X115 e122 hwp)
set_option maxRecDepth 100000 in
set_option maxHeartbeats 4000000 in
theorem c_S_init (l : Launch) (t : TY) (G : GS) (a0 : Nat) (K : TY → GS → Prop) : Met l y_S_init (Cond.code y_S_init b_S_init 2 (Option.none : Option Jvm.ClassFile.FieldType) :: GW) rm_S_init (va_Pc [.ref a0] (fun U => HB t G U.heap ∧ HK t U ∧ w_S_init t G a0 K)) (va_Qv (fun u : TY × GS => te t u.1 ∧ K u.1 u.2) (fun u T => HB u.1 u.2 T.heap) (tA t)) 102 3314 (tA t) := by
  refine Met.ofW (cc := b_S_init) (maxL := 2) (ret := none) (by decide) rfl ?_
  intro p e s m args below meth c s₁ B hml hv
  obtain ⟨rfl, hB, hK, hwp⟩ := hv
  have hts := atoms_spec (ws := Cond.code y_S_init b_S_init 2 (Option.none : Option Jvm.ClassFile.FieldType) :: GW) B.pre
  have hmn : meth.name = "<init>" := (name_of_methodNamed B.named B.method).1
  have X : kX p s m _ meth c b_S_init 2 "TreeServer" t := ⟨B.exec, B.bytes, hml, findClass_of_methodNamed B.named, fun w h => hts w (List.mem_cons_of_mem _ h), B.notSynchronized, hK⟩
  have hZ : kZ t false s G s.heap [] := ⟨hB, va_S.rf, fun h => by cases h⟩
  rw [lg_entry_eq]
  have hl := lv_entry ([.ref a0]) (n := 2) (by simp [lg_sl, rf_cat, cat_i, cat_l, cat_r])
  exact k_S_init X B.returns hmn G hwp s.heap [] _ hl hZ
abbrev b_M_init : ByteArray := prog_13_method_1_code
def y_M_init : MethodName := ⟨"TreeServerModel", "<init>", "()V"⟩
theorem d_M_init_0 : decode b_M_init 0 = .ok (.aload_n 0, 1) := by decide +kernel
theorem d_M_init_1 : decode b_M_init 1 = .ok (.invokespecial 1, 3) := by decide +kernel
theorem d_M_init_4 : decode b_M_init 4 = .ok (.aload_n 0, 1) := by decide +kernel
theorem d_M_init_5 : decode b_M_init 5 = .ok (.sipush 1743, 3) := by decide +kernel
theorem d_M_init_8 : decode b_M_init 8 = .ok (.newarray .int, 2) := by decide +kernel
theorem d_M_init_10 : decode b_M_init 10 = .ok (.putfield 7, 3) := by decide +kernel
theorem d_M_init_13 : decode b_M_init 13 = .ok (.aload_n 0, 1) := by decide +kernel
theorem d_M_init_14 : decode b_M_init 14 = .ok (.sipush 1743, 3) := by decide +kernel
theorem d_M_init_17 : decode b_M_init 17 = .ok (.newarray .int, 2) := by decide +kernel
theorem d_M_init_19 : decode b_M_init 19 = .ok (.putfield 13, 3) := by decide +kernel
theorem d_M_init_22 : decode b_M_init 22 = .ok (.aload_n 0, 1) := by decide +kernel
theorem d_M_init_23 : decode b_M_init 23 = .ok (.sipush 1743, 3) := by decide +kernel
theorem d_M_init_26 : decode b_M_init 26 = .ok (.newarray .int, 2) := by decide +kernel
theorem d_M_init_28 : decode b_M_init 28 = .ok (.putfield 16, 3) := by decide +kernel
theorem d_M_init_31 : decode b_M_init 31 = .ok (.aload_n 0, 1) := by decide +kernel
theorem d_M_init_32 : decode b_M_init 32 = .ok (.iconst (-1), 1) := by decide +kernel
theorem d_M_init_33 : decode b_M_init 33 = .ok (.putfield 19, 3) := by decide +kernel
theorem d_M_init_36 : decode b_M_init 36 = .ok (.aload_n 0, 1) := by decide +kernel
theorem d_M_init_37 : decode b_M_init 37 = .ok (.sipush 320, 3) := by decide +kernel
theorem d_M_init_40 : decode b_M_init 40 = .ok (.newarray .int, 2) := by decide +kernel
theorem d_M_init_42 : decode b_M_init 42 = .ok (.putfield 23, 3) := by decide +kernel
theorem d_M_init_45 : decode b_M_init 45 = .ok (.aload_n 0, 1) := by decide +kernel
theorem d_M_init_46 : decode b_M_init 46 = .ok (.iconst 2, 1) := by decide +kernel
theorem d_M_init_47 : decode b_M_init 47 = .ok (.newarray .int, 2) := by decide +kernel
theorem d_M_init_49 : decode b_M_init 49 = .ok (.putfield 26, 3) := by decide +kernel
theorem d_M_init_52 : decode b_M_init 52 = .ok (.aload_n 0, 1) := by decide +kernel
theorem d_M_init_53 : decode b_M_init 53 = .ok (.sipush 512, 3) := by decide +kernel
theorem d_M_init_56 : decode b_M_init 56 = .ok (.newarray .int, 2) := by decide +kernel
theorem d_M_init_58 : decode b_M_init 58 = .ok (.putfield 29, 3) := by decide +kernel
theorem d_M_init_61 : decode b_M_init 61 = .ok (.aload_n 0, 1) := by decide +kernel
theorem d_M_init_62 : decode b_M_init 62 = .ok (.iconst 2, 1) := by decide +kernel
theorem d_M_init_63 : decode b_M_init 63 = .ok (.newarray .int, 2) := by decide +kernel
theorem d_M_init_65 : decode b_M_init 65 = .ok (.putfield 32, 3) := by decide +kernel
theorem d_M_init_68 : decode b_M_init 68 = .ok (.aload_n 0, 1) := by decide +kernel
theorem d_M_init_69 : decode b_M_init 69 = .ok (.iconst 2, 1) := by decide +kernel
theorem d_M_init_70 : decode b_M_init 70 = .ok (.newarray .int, 2) := by decide +kernel
theorem d_M_init_72 : decode b_M_init 72 = .ok (.putfield 35, 3) := by decide +kernel
theorem d_M_init_75 : decode b_M_init 75 = .ok (.aload_n 0, 1) := by decide +kernel
theorem d_M_init_76 : decode b_M_init 76 = .ok (.iconst 2, 1) := by decide +kernel
theorem d_M_init_77 : decode b_M_init 77 = .ok (.newarray .boolean, 2) := by decide +kernel
theorem d_M_init_79 : decode b_M_init 79 = .ok (.putfield 38, 3) := by decide +kernel
theorem d_M_init_82 : decode b_M_init 82 = .ok (.aload_n 0, 1) := by decide +kernel
theorem d_M_init_83 : decode b_M_init 83 = .ok (.iconst 2, 1) := by decide +kernel
theorem d_M_init_84 : decode b_M_init 84 = .ok (.newarray .boolean, 2) := by decide +kernel
theorem d_M_init_86 : decode b_M_init 86 = .ok (.putfield 42, 3) := by decide +kernel
theorem d_M_init_89 : decode b_M_init 89 = .ok (.aload_n 0, 1) := by decide +kernel
theorem d_M_init_90 : decode b_M_init 90 = .ok (.bipush 12, 2) := by decide +kernel
theorem d_M_init_92 : decode b_M_init 92 = .ok (.newarray .boolean, 2) := by decide +kernel
theorem d_M_init_94 : decode b_M_init 94 = .ok (.putfield 45, 3) := by decide +kernel
theorem d_M_init_97 : decode b_M_init 97 = .ok (.aload_n 0, 1) := by decide +kernel
theorem d_M_init_98 : decode b_M_init 98 = .ok (.bipush 12, 2) := by decide +kernel
theorem d_M_init_100 : decode b_M_init 100 = .ok (.newarray .long, 2) := by decide +kernel
theorem d_M_init_102 : decode b_M_init 102 = .ok (.putfield 48, 3) := by decide +kernel
theorem d_M_init_105 : decode b_M_init 105 = .ok (.aload_n 0, 1) := by decide +kernel
theorem d_M_init_106 : decode b_M_init 106 = .ok (.bipush 12, 2) := by decide +kernel
theorem d_M_init_108 : decode b_M_init 108 = .ok (.newarray .int, 2) := by decide +kernel
theorem d_M_init_110 : decode b_M_init 110 = .ok (.putfield 52, 3) := by decide +kernel
theorem d_M_init_113 : decode b_M_init 113 = .ok (.aload_n 0, 1) := by decide +kernel
theorem d_M_init_114 : decode b_M_init 114 = .ok (.bipush 12, 2) := by decide +kernel
theorem d_M_init_116 : decode b_M_init 116 = .ok (.newarray .int, 2) := by decide +kernel
theorem d_M_init_118 : decode b_M_init 118 = .ok (.putfield 55, 3) := by decide +kernel
theorem d_M_init_121 : decode b_M_init 121 = .ok (.aload_n 0, 1) := by decide +kernel
theorem d_M_init_122 : decode b_M_init 122 = .ok (.bipush 12, 2) := by decide +kernel
theorem d_M_init_124 : decode b_M_init 124 = .ok (.newarray .int, 2) := by decide +kernel
theorem d_M_init_126 : decode b_M_init 126 = .ok (.putfield 58, 3) := by decide +kernel
theorem d_M_init_129 : decode b_M_init 129 = .ok (.aload_n 0, 1) := by decide +kernel
theorem d_M_init_130 : decode b_M_init 130 = .ok (.bipush 12, 2) := by decide +kernel
theorem d_M_init_132 : decode b_M_init 132 = .ok (.newarray .boolean, 2) := by decide +kernel
theorem d_M_init_134 : decode b_M_init 134 = .ok (.putfield 61, 3) := by decide +kernel
theorem d_M_init_137 : decode b_M_init 137 = .ok (.aload_n 0, 1) := by decide +kernel
theorem d_M_init_138 : decode b_M_init 138 = .ok (.bipush 12, 2) := by decide +kernel
theorem d_M_init_140 : decode b_M_init 140 = .ok (.newarray .long, 2) := by decide +kernel
theorem d_M_init_142 : decode b_M_init 142 = .ok (.putfield 64, 3) := by decide +kernel
theorem d_M_init_145 : decode b_M_init 145 = .ok (.aload_n 0, 1) := by decide +kernel
theorem d_M_init_146 : decode b_M_init 146 = .ok (.bipush 12, 2) := by decide +kernel
theorem d_M_init_148 : decode b_M_init 148 = .ok (.newarray .int, 2) := by decide +kernel
theorem d_M_init_150 : decode b_M_init 150 = .ok (.putfield 67, 3) := by decide +kernel
theorem d_M_init_153 : decode b_M_init 153 = .ok (.aload_n 0, 1) := by decide +kernel
theorem d_M_init_154 : decode b_M_init 154 = .ok (.sipush 128, 3) := by decide +kernel
theorem d_M_init_157 : decode b_M_init 157 = .ok (.newarray .int, 2) := by decide +kernel
theorem d_M_init_159 : decode b_M_init 159 = .ok (.putfield 70, 3) := by decide +kernel
theorem d_M_init_162 : decode b_M_init 162 = .ok (.aload_n 0, 1) := by decide +kernel
theorem d_M_init_163 : decode b_M_init 163 = .ok (.sipush 160, 3) := by decide +kernel
theorem d_M_init_166 : decode b_M_init 166 = .ok (.newarray .int, 2) := by decide +kernel
theorem d_M_init_168 : decode b_M_init 168 = .ok (.putfield 73, 3) := by decide +kernel
theorem d_M_init_171 : decode b_M_init 171 = .ok (.aload_n 0, 1) := by decide +kernel
theorem d_M_init_172 : decode b_M_init 172 = .ok (.getfield 7, 3) := by decide +kernel
theorem d_M_init_175 : decode b_M_init 175 = .ok (.iconst 0, 1) := by decide +kernel
theorem d_M_init_176 : decode b_M_init 176 = .ok (.iconst 1, 1) := by decide +kernel
theorem d_M_init_177 : decode b_M_init 177 = .ok (.iastore, 1) := by decide +kernel
theorem d_M_init_178 : decode b_M_init 178 = .ok (.aload_n 0, 1) := by decide +kernel
theorem d_M_init_179 : decode b_M_init 179 = .ok (.getfield 7, 3) := by decide +kernel
theorem d_M_init_182 : decode b_M_init 182 = .ok (.iconst 3, 1) := by decide +kernel
theorem d_M_init_183 : decode b_M_init 183 = .ok (.ldc 76, 2) := by decide +kernel
theorem d_M_init_185 : decode b_M_init 185 = .ok (.iastore, 1) := by decide +kernel
theorem d_M_init_186 : decode b_M_init 186 = .ok (.aload_n 0, 1) := by decide +kernel
theorem d_M_init_187 : decode b_M_init 187 = .ok (.getfield 7, 3) := by decide +kernel
theorem d_M_init_190 : decode b_M_init 190 = .ok (.bipush 8, 2) := by decide +kernel
theorem d_M_init_192 : decode b_M_init 192 = .ok (.iconst (-1), 1) := by decide +kernel
theorem d_M_init_193 : decode b_M_init 193 = .ok (.iastore, 1) := by decide +kernel
theorem d_M_init_194 : decode b_M_init 194 = .ok (.aload_n 0, 1) := by decide +kernel
theorem d_M_init_195 : decode b_M_init 195 = .ok (.getfield 7, 3) := by decide +kernel
theorem d_M_init_198 : decode b_M_init 198 = .ok (.bipush 9, 2) := by decide +kernel
theorem d_M_init_200 : decode b_M_init 200 = .ok (.iconst 1, 1) := by decide +kernel
theorem d_M_init_201 : decode b_M_init 201 = .ok (.iastore, 1) := by decide +kernel
theorem d_M_init_202 : decode b_M_init 202 = .ok (.aload_n 0, 1) := by decide +kernel
theorem d_M_init_203 : decode b_M_init 203 = .ok (.getfield 7, 3) := by decide +kernel
theorem d_M_init_206 : decode b_M_init 206 = .ok (.bipush 10, 2) := by decide +kernel
theorem d_M_init_208 : decode b_M_init 208 = .ok (.bipush 47, 2) := by decide +kernel
theorem d_M_init_210 : decode b_M_init 210 = .ok (.iastore, 1) := by decide +kernel
theorem d_M_init_211 : decode b_M_init 211 = .ok (.aload_n 0, 1) := by decide +kernel
theorem d_M_init_212 : decode b_M_init 212 = .ok (.iconst 0, 1) := by decide +kernel
theorem d_M_init_213 : decode b_M_init 213 = .ok (.invokevirtual 77, 3) := by decide +kernel
theorem d_M_init_216 : decode b_M_init 216 = .ok (.aload_n 0, 1) := by decide +kernel
theorem d_M_init_217 : decode b_M_init 217 = .ok (.iconst 1, 1) := by decide +kernel
theorem d_M_init_218 : decode b_M_init 218 = .ok (.invokevirtual 77, 3) := by decide +kernel
theorem d_M_init_221 : decode b_M_init 221 = .ok (.return_, 1) := by decide +kernel
abbrev rm_M_init : Room := { frames := 1, cells := 20, slots := 6455, locals := 22 }
set_option maxRecDepth 100000 in
set_option maxHeartbeats 4000000 in
theorem k_M_init {p : Program} {l : Launch} {e : Env} {s : State} {m : MethodId} {args : Array Value} {below : List Frame} {meth : Method} {c : Code} {t : TY} {a0 : Nat} {K : TY → GS → Prop} (X : kX p s m args meth c b_M_init 1 "TreeServerModel" t) (hret : meth.sig.returnType = none) (hmn : meth.name = "<init>") (G : GS) (hwp : w_M_init t G a0 K) : kV (0, 0) p l e rm_M_init s m args below meth c (MQ below (va_Qv (fun u : TY × GS => te t u.1 ∧ K u.1 u.2) (fun u T => HB u.1 u.2 T.heap) (tA t)) args s 20 6455 (tA t)) 1 t false 0 [(0, va_rf (some a0))] [] G := by
  unfold w_M_init at hwp
  have E : te t t := te.rf X.h.2.1.1
  refine qw_aload_n (pc := 0) X d_M_init_0 rfl 0 rfl ?_
  refine q_objInit (pc := 1) X d_M_init_1 x_984 x_26 x_27 rfl (by decide) (by decide) ?_
  refine qw_aload_n (pc := 4) X d_M_init_4 rfl 0 rfl ?_
  refine qw_sipush (v := 1743) (pc := 5) X d_M_init_5 (by decide) ?_
  refine qn_50 1743 (a0, 1) (pc := 8) X rfl d_M_init_8 x_261 (by decide) (by decide) (fun a1 n2 => ?_)
  obtain ⟨t3, e_t3⟩ : ∃ z, z = adT t a1 50 1743 (a0, 1) := ⟨_, rfl⟩
  obtain ⟨G4, e_G4⟩ : ∃ z, z = zG G a1 := ⟨_, rfl⟩
  have hwp := hwp a1 n2 t3 e_t3 G4 e_G4
  have e5 : te t t3 := by rw [e_t3]; exact te.ad X.h.2.1.1 n2 50 1743 (a0, 1)
  have X6 := X.te e5
  rw [← e_t3, ← e_G4]
  refine kV.ce (cs' := (1, 1743)) rfl ?_
  have e7 := E.trans e5
  have f8 : tk t3 a1 = 50 := by rw [e_t3]; exact tk_ad
  obtain ⟨f9, hwp⟩ := hwp
  refine qf_70 (a := a0) (pc := 10) X6 rfl hmn d_M_init_10 x_990 rfl f9 ?_
  obtain ⟨G11, e_G11⟩ : ∃ g, g = sr G4 70 a0 (some a1) := ⟨_, rfl⟩
  have hwp := hwp G11 e_G11
  rw [← e_G11]
  refine qw_aload_n (pc := 13) X6 d_M_init_13 rfl 0 rfl ?_
  refine qw_sipush (v := 1743) (pc := 14) X6 d_M_init_14 (by decide) ?_
  refine qn_50 1743 (a0, 2) (pc := 17) X6 rfl d_M_init_17 x_261 (by decide) (by decide) (fun a12 n13 => ?_)
  obtain ⟨t14, e_t14⟩ : ∃ z, z = adT t3 a12 50 1743 (a0, 2) := ⟨_, rfl⟩
  obtain ⟨G15, e_G15⟩ : ∃ z, z = zG G11 a12 := ⟨_, rfl⟩
  have hwp := hwp a12 n13 t14 e_t14 G15 e_G15
  have e16 : te t3 t14 := by rw [e_t14]; exact te.ad X6.h.2.1.1 n13 50 1743 (a0, 2)
  have X17 := X6.te e16
  rw [← e_t14, ← e_G15]
  refine kV.ce (cs' := (2, 3486)) rfl ?_
  have f18 := e16.k f8 X6.h.2.1.1 (by decide)
  have f19 := e16.k f9 X6.h.2.1.1 (by decide)
  have e20 := e7.trans e16
  have f21 : tk t14 a12 = 50 := by rw [e_t14]; exact tk_ad
  refine qf_71 (a := a0) (pc := 19) X17 rfl hmn d_M_init_19 x_991 rfl f19 ?_
  obtain ⟨G23, e_G23⟩ : ∃ g, g = sr G15 71 a0 (some a12) := ⟨_, rfl⟩
  have hwp := hwp G23 e_G23
  rw [← e_G23]
  refine qw_aload_n (pc := 22) X17 d_M_init_22 rfl 0 rfl ?_
  refine qw_sipush (v := 1743) (pc := 23) X17 d_M_init_23 (by decide) ?_
  refine qn_50 1743 (a0, 3) (pc := 26) X17 rfl d_M_init_26 x_261 (by decide) (by decide) (fun a24 n25 => ?_)
  obtain ⟨t26, e_t26⟩ : ∃ z, z = adT t14 a24 50 1743 (a0, 3) := ⟨_, rfl⟩
  obtain ⟨G27, e_G27⟩ : ∃ z, z = zG G23 a24 := ⟨_, rfl⟩
  have hwp := hwp a24 n25 t26 e_t26 G27 e_G27
  have e28 : te t14 t26 := by rw [e_t26]; exact te.ad X17.h.2.1.1 n25 50 1743 (a0, 3)
  have X29 := X17.te e28
  rw [← e_t26, ← e_G27]
  refine kV.ce (cs' := (3, 5229)) rfl ?_
  have f30 := e28.k f18 X17.h.2.1.1 (by decide)
  have f31 := e28.k f19 X17.h.2.1.1 (by decide)
  have f32 := e28.k f21 X17.h.2.1.1 (by decide)
  have e33 := e20.trans e28
  have f34 : tk t26 a24 = 50 := by rw [e_t26]; exact tk_ad
  refine qf_72 (a := a0) (pc := 28) X29 rfl hmn d_M_init_28 x_992 rfl f31 ?_
  obtain ⟨G36, e_G36⟩ : ∃ g, g = sr G27 72 a0 (some a24) := ⟨_, rfl⟩
  have hwp := hwp G36 e_G36
  rw [← e_G36]
  refine qw_aload_n (pc := 31) X29 d_M_init_31 rfl 0 rfl ?_
  refine qw_iconst (v := -1) (pc := 32) X29 d_M_init_32 (by decide) ?_
  refine qp_76 (a := a0) (x := (-1 : Int32)) (pc := 33) X29 rfl d_M_init_33 x_996 rfl f31 ?_
  obtain ⟨G38, e_G38⟩ : ∃ g, g = si G36 76 a0 (-1 : Int32) := ⟨_, rfl⟩
  have hwp := hwp G38 e_G38
  rw [← e_G38]
  refine qw_aload_n (pc := 36) X29 d_M_init_36 rfl 0 rfl ?_
  refine qw_sipush (v := 320) (pc := 37) X29 d_M_init_37 (by decide) ?_
  refine qn_50 320 (a0, 4) (pc := 40) X29 rfl d_M_init_40 x_261 (by decide) (by decide) (fun a39 n40 => ?_)
  obtain ⟨t41, e_t41⟩ : ∃ z, z = adT t26 a39 50 320 (a0, 4) := ⟨_, rfl⟩
  obtain ⟨G42, e_G42⟩ : ∃ z, z = zG G38 a39 := ⟨_, rfl⟩
  have hwp := hwp a39 n40 t41 e_t41 G42 e_G42
  have e43 : te t26 t41 := by rw [e_t41]; exact te.ad X29.h.2.1.1 n40 50 320 (a0, 4)
  have X44 := X29.te e43
  rw [← e_t41, ← e_G42]
  refine kV.ce (cs' := (4, 5549)) rfl ?_
  have f45 := e43.k f30 X29.h.2.1.1 (by decide)
  have f46 := e43.k f31 X29.h.2.1.1 (by decide)
  have f47 := e43.k f32 X29.h.2.1.1 (by decide)
  have f48 := e43.k f34 X29.h.2.1.1 (by decide)
  have e49 := e33.trans e43
  have f50 : tk t41 a39 = 50 := by rw [e_t41]; exact tk_ad
  refine qf_79 (a := a0) (pc := 42) X44 rfl hmn d_M_init_42 x_999 rfl f46 ?_
  obtain ⟨G52, e_G52⟩ : ∃ g, g = sr G42 79 a0 (some a39) := ⟨_, rfl⟩
  have hwp := hwp G52 e_G52
  rw [← e_G52]
  refine qw_aload_n (pc := 45) X44 d_M_init_45 rfl 0 rfl ?_
  refine qw_iconst (v := 2) (pc := 46) X44 d_M_init_46 (by decide) ?_
  refine qn_50 2 (a0, 5) (pc := 47) X44 rfl d_M_init_47 x_261 (by decide) (by decide) (fun a53 n54 => ?_)
  obtain ⟨t55, e_t55⟩ : ∃ z, z = adT t41 a53 50 2 (a0, 5) := ⟨_, rfl⟩
  obtain ⟨G56, e_G56⟩ : ∃ z, z = zG G52 a53 := ⟨_, rfl⟩
  have hwp := hwp a53 n54 t55 e_t55 G56 e_G56
  have e57 : te t41 t55 := by rw [e_t55]; exact te.ad X44.h.2.1.1 n54 50 2 (a0, 5)
  have X58 := X44.te e57
  rw [← e_t55, ← e_G56]
  refine kV.ce (cs' := (5, 5551)) rfl ?_
  have f59 := e57.k f45 X44.h.2.1.1 (by decide)
  have f60 := e57.k f46 X44.h.2.1.1 (by decide)
  have f61 := e57.k f47 X44.h.2.1.1 (by decide)
  have f62 := e57.k f48 X44.h.2.1.1 (by decide)
  have f63 := e57.k f50 X44.h.2.1.1 (by decide)
  have e64 := e49.trans e57
  have f65 : tk t55 a53 = 50 := by rw [e_t55]; exact tk_ad
  refine qf_80 (a := a0) (pc := 49) X58 rfl hmn d_M_init_49 x_1000 rfl f60 ?_
  obtain ⟨G67, e_G67⟩ : ∃ g, g = sr G56 80 a0 (some a53) := ⟨_, rfl⟩
  have hwp := hwp G67 e_G67
  rw [← e_G67]
  refine qw_aload_n (pc := 52) X58 d_M_init_52 rfl 0 rfl ?_
  refine qw_sipush (v := 512) (pc := 53) X58 d_M_init_53 (by decide) ?_
  refine qn_50 512 (a0, 6) (pc := 56) X58 rfl d_M_init_56 x_261 (by decide) (by decide) (fun a68 n69 => ?_)
  obtain ⟨t70, e_t70⟩ : ∃ z, z = adT t55 a68 50 512 (a0, 6) := ⟨_, rfl⟩
  obtain ⟨G71, e_G71⟩ : ∃ z, z = zG G67 a68 := ⟨_, rfl⟩
  have hwp := hwp a68 n69 t70 e_t70 G71 e_G71
  have e72 : te t55 t70 := by rw [e_t70]; exact te.ad X58.h.2.1.1 n69 50 512 (a0, 6)
  have X73 := X58.te e72
  rw [← e_t70, ← e_G71]
  refine kV.ce (cs' := (6, 6063)) rfl ?_
  have f74 := e72.k f59 X58.h.2.1.1 (by decide)
  have f75 := e72.k f60 X58.h.2.1.1 (by decide)
  have f76 := e72.k f61 X58.h.2.1.1 (by decide)
  have f77 := e72.k f62 X58.h.2.1.1 (by decide)
  have f78 := e72.k f63 X58.h.2.1.1 (by decide)
  have f79 := e72.k f65 X58.h.2.1.1 (by decide)
  have e80 := e64.trans e72
  have f81 : tk t70 a68 = 50 := by rw [e_t70]; exact tk_ad
  refine qf_81 (a := a0) (pc := 58) X73 rfl hmn d_M_init_58 x_1001 rfl f75 ?_
  obtain ⟨G83, e_G83⟩ : ∃ g, g = sr G71 81 a0 (some a68) := ⟨_, rfl⟩
  have hwp := hwp G83 e_G83
  rw [← e_G83]
  refine qw_aload_n (pc := 61) X73 d_M_init_61 rfl 0 rfl ?_
  refine qw_iconst (v := 2) (pc := 62) X73 d_M_init_62 (by decide) ?_
  refine qn_50 2 (a0, 7) (pc := 63) X73 rfl d_M_init_63 x_261 (by decide) (by decide) (fun a84 n85 => ?_)
  obtain ⟨t86, e_t86⟩ : ∃ z, z = adT t70 a84 50 2 (a0, 7) := ⟨_, rfl⟩
  obtain ⟨G87, e_G87⟩ : ∃ z, z = zG G83 a84 := ⟨_, rfl⟩
  have hwp := hwp a84 n85 t86 e_t86 G87 e_G87
  have e88 : te t70 t86 := by rw [e_t86]; exact te.ad X73.h.2.1.1 n85 50 2 (a0, 7)
  have X89 := X73.te e88
  rw [← e_t86, ← e_G87]
  refine kV.ce (cs' := (7, 6065)) rfl ?_
  have f90 := e88.k f74 X73.h.2.1.1 (by decide)
  have f91 := e88.k f75 X73.h.2.1.1 (by decide)
  have f92 := e88.k f76 X73.h.2.1.1 (by decide)
  have f93 := e88.k f77 X73.h.2.1.1 (by decide)
  have f94 := e88.k f78 X73.h.2.1.1 (by decide)
  have f95 := e88.k f79 X73.h.2.1.1 (by decide)
  have f96 := e88.k f81 X73.h.2.1.1 (by decide)
  have e97 := e80.trans e88
  have f98 : tk t86 a84 = 50 := by rw [e_t86]; exact tk_ad
  refine qf_82 (a := a0) (pc := 65) X89 rfl hmn d_M_init_65 x_1002 rfl f91 ?_
  obtain ⟨G100, e_G100⟩ : ∃ g, g = sr G87 82 a0 (some a84) := ⟨_, rfl⟩
  have hwp := hwp G100 e_G100
  rw [← e_G100]
  refine qw_aload_n (pc := 68) X89 d_M_init_68 rfl 0 rfl ?_
  refine qw_iconst (v := 2) (pc := 69) X89 d_M_init_69 (by decide) ?_
  refine qn_50 2 (a0, 8) (pc := 70) X89 rfl d_M_init_70 x_261 (by decide) (by decide) (fun a101 n102 => ?_)
  obtain ⟨t103, e_t103⟩ : ∃ z, z = adT t86 a101 50 2 (a0, 8) := ⟨_, rfl⟩
  obtain ⟨G104, e_G104⟩ : ∃ z, z = zG G100 a101 := ⟨_, rfl⟩
  have hwp := hwp a101 n102 t103 e_t103 G104 e_G104
  have e105 : te t86 t103 := by rw [e_t103]; exact te.ad X89.h.2.1.1 n102 50 2 (a0, 8)
  have X106 := X89.te e105
  rw [← e_t103, ← e_G104]
  refine kV.ce (cs' := (8, 6067)) rfl ?_
  have f107 := e105.k f90 X89.h.2.1.1 (by decide)
  have f108 := e105.k f91 X89.h.2.1.1 (by decide)
  have f109 := e105.k f92 X89.h.2.1.1 (by decide)
  have f110 := e105.k f93 X89.h.2.1.1 (by decide)
  have f111 := e105.k f94 X89.h.2.1.1 (by decide)
  have f112 := e105.k f95 X89.h.2.1.1 (by decide)
  have f113 := e105.k f96 X89.h.2.1.1 (by decide)
  have f114 := e105.k f98 X89.h.2.1.1 (by decide)
  have e115 := e97.trans e105
  have f116 : tk t103 a101 = 50 := by rw [e_t103]; exact tk_ad
  refine qf_83 (a := a0) (pc := 72) X106 rfl hmn d_M_init_72 x_1003 rfl f108 ?_
  obtain ⟨G118, e_G118⟩ : ∃ g, g = sr G104 83 a0 (some a101) := ⟨_, rfl⟩
  have hwp := hwp G118 e_G118
  rw [← e_G118]
  refine qw_aload_n (pc := 75) X106 d_M_init_75 rfl 0 rfl ?_
  refine qw_iconst (v := 2) (pc := 76) X106 d_M_init_76 (by decide) ?_
  refine qn_52 2 (a0, 9) (pc := 77) X106 rfl d_M_init_77 x_1081 (by decide) (by decide) (fun a119 n120 => ?_)
  obtain ⟨t121, e_t121⟩ : ∃ z, z = adT t103 a119 52 2 (a0, 9) := ⟨_, rfl⟩
  obtain ⟨G122, e_G122⟩ : ∃ z, z = zG G118 a119 := ⟨_, rfl⟩
  have hwp := hwp a119 n120 t121 e_t121 G122 e_G122
  have e123 : te t103 t121 := by rw [e_t121]; exact te.ad X106.h.2.1.1 n120 52 2 (a0, 9)
  have X124 := X106.te e123
  rw [← e_t121, ← e_G122]
  refine kV.ce (cs' := (9, 6069)) rfl ?_
  have f125 := e123.k f107 X106.h.2.1.1 (by decide)
  have f126 := e123.k f108 X106.h.2.1.1 (by decide)
  have f127 := e123.k f109 X106.h.2.1.1 (by decide)
  have f128 := e123.k f110 X106.h.2.1.1 (by decide)
  have f129 := e123.k f111 X106.h.2.1.1 (by decide)
  have f130 := e123.k f112 X106.h.2.1.1 (by decide)
  have f131 := e123.k f113 X106.h.2.1.1 (by decide)
  have f132 := e123.k f114 X106.h.2.1.1 (by decide)
  have f133 := e123.k f116 X106.h.2.1.1 (by decide)
  have e134 := e115.trans e123
  have f135 : tk t121 a119 = 52 := by rw [e_t121]; exact tk_ad
  refine qf_84 (a := a0) (pc := 79) X124 rfl hmn d_M_init_79 x_1004 rfl f126 ?_
  obtain ⟨G137, e_G137⟩ : ∃ g, g = sr G122 84 a0 (some a119) := ⟨_, rfl⟩
  have hwp := hwp G137 e_G137
  rw [← e_G137]
  refine qw_aload_n (pc := 82) X124 d_M_init_82 rfl 0 rfl ?_
  refine qw_iconst (v := 2) (pc := 83) X124 d_M_init_83 (by decide) ?_
  refine qn_52 2 (a0, 10) (pc := 84) X124 rfl d_M_init_84 x_1081 (by decide) (by decide) (fun a138 n139 => ?_)
  obtain ⟨t140, e_t140⟩ : ∃ z, z = adT t121 a138 52 2 (a0, 10) := ⟨_, rfl⟩
  obtain ⟨G141, e_G141⟩ : ∃ z, z = zG G137 a138 := ⟨_, rfl⟩
  have hwp := hwp a138 n139 t140 e_t140 G141 e_G141
  have e142 : te t121 t140 := by rw [e_t140]; exact te.ad X124.h.2.1.1 n139 52 2 (a0, 10)
  have X143 := X124.te e142
  rw [← e_t140, ← e_G141]
  refine kV.ce (cs' := (10, 6071)) rfl ?_
  have f144 := e142.k f125 X124.h.2.1.1 (by decide)
  have f145 := e142.k f126 X124.h.2.1.1 (by decide)
  have f146 := e142.k f127 X124.h.2.1.1 (by decide)
  have f147 := e142.k f128 X124.h.2.1.1 (by decide)
  have f148 := e142.k f129 X124.h.2.1.1 (by decide)
  have f149 := e142.k f130 X124.h.2.1.1 (by decide)
  have f150 := e142.k f131 X124.h.2.1.1 (by decide)
  have f151 := e142.k f132 X124.h.2.1.1 (by decide)
  have f152 := e142.k f133 X124.h.2.1.1 (by decide)
  have f153 := e142.k f135 X124.h.2.1.1 (by decide)
  have e154 := e134.trans e142
  have f155 : tk t140 a138 = 52 := by rw [e_t140]; exact tk_ad
  refine qf_85 (a := a0) (pc := 86) X143 rfl hmn d_M_init_86 x_1005 rfl f145 ?_
  obtain ⟨G157, e_G157⟩ : ∃ g, g = sr G141 85 a0 (some a138) := ⟨_, rfl⟩
  have hwp := hwp G157 e_G157
  rw [← e_G157]
  refine qw_aload_n (pc := 89) X143 d_M_init_89 rfl 0 rfl ?_
  refine qw_bipush (v := 12) (pc := 90) X143 d_M_init_90 (by decide) ?_
  refine qn_52 12 (a0, 11) (pc := 92) X143 rfl d_M_init_92 x_1081 (by decide) (by decide) (fun a158 n159 => ?_)
  obtain ⟨t160, e_t160⟩ : ∃ z, z = adT t140 a158 52 12 (a0, 11) := ⟨_, rfl⟩
  obtain ⟨G161, e_G161⟩ : ∃ z, z = zG G157 a158 := ⟨_, rfl⟩
  have hwp := hwp a158 n159 t160 e_t160 G161 e_G161
  have e162 : te t140 t160 := by rw [e_t160]; exact te.ad X143.h.2.1.1 n159 52 12 (a0, 11)
  have X163 := X143.te e162
  rw [← e_t160, ← e_G161]
  refine kV.ce (cs' := (11, 6083)) rfl ?_
  have f164 := e162.k f144 X143.h.2.1.1 (by decide)
  have f165 := e162.k f145 X143.h.2.1.1 (by decide)
  have f166 := e162.k f146 X143.h.2.1.1 (by decide)
  have f167 := e162.k f147 X143.h.2.1.1 (by decide)
  have f168 := e162.k f148 X143.h.2.1.1 (by decide)
  have f169 := e162.k f149 X143.h.2.1.1 (by decide)
  have f170 := e162.k f150 X143.h.2.1.1 (by decide)
  have f171 := e162.k f151 X143.h.2.1.1 (by decide)
  have f172 := e162.k f152 X143.h.2.1.1 (by decide)
  have f173 := e162.k f153 X143.h.2.1.1 (by decide)
  have f174 := e162.k f155 X143.h.2.1.1 (by decide)
  have e175 := e154.trans e162
  have f176 : tk t160 a158 = 52 := by rw [e_t160]; exact tk_ad
  refine qf_86 (a := a0) (pc := 94) X163 rfl hmn d_M_init_94 x_1006 rfl f165 ?_
  obtain ⟨G178, e_G178⟩ : ∃ g, g = sr G161 86 a0 (some a158) := ⟨_, rfl⟩
  have hwp := hwp G178 e_G178
  rw [← e_G178]
  refine qw_aload_n (pc := 97) X163 d_M_init_97 rfl 0 rfl ?_
  refine qw_bipush (v := 12) (pc := 98) X163 d_M_init_98 (by decide) ?_
  refine qn_53 12 (a0, 12) (pc := 100) X163 rfl d_M_init_100 x_1082 (by decide) (by decide) (fun a179 n180 => ?_)
  obtain ⟨t181, e_t181⟩ : ∃ z, z = adT t160 a179 53 12 (a0, 12) := ⟨_, rfl⟩
  obtain ⟨G182, e_G182⟩ : ∃ z, z = zG G178 a179 := ⟨_, rfl⟩
  have hwp := hwp a179 n180 t181 e_t181 G182 e_G182
  have e183 : te t160 t181 := by rw [e_t181]; exact te.ad X163.h.2.1.1 n180 53 12 (a0, 12)
  have X184 := X163.te e183
  rw [← e_t181, ← e_G182]
  refine kV.ce (cs' := (12, 6095)) rfl ?_
  have f185 := e183.k f164 X163.h.2.1.1 (by decide)
  have f186 := e183.k f165 X163.h.2.1.1 (by decide)
  have f187 := e183.k f166 X163.h.2.1.1 (by decide)
  have f188 := e183.k f167 X163.h.2.1.1 (by decide)
  have f189 := e183.k f168 X163.h.2.1.1 (by decide)
  have f190 := e183.k f169 X163.h.2.1.1 (by decide)
  have f191 := e183.k f170 X163.h.2.1.1 (by decide)
  have f192 := e183.k f171 X163.h.2.1.1 (by decide)
  have f193 := e183.k f172 X163.h.2.1.1 (by decide)
  have f194 := e183.k f173 X163.h.2.1.1 (by decide)
  have f195 := e183.k f174 X163.h.2.1.1 (by decide)
  have f196 := e183.k f176 X163.h.2.1.1 (by decide)
  have e197 := e175.trans e183
  have f198 : tk t181 a179 = 53 := by rw [e_t181]; exact tk_ad
  refine qf_87 (a := a0) (pc := 102) X184 rfl hmn d_M_init_102 x_1007 rfl f186 ?_
  obtain ⟨G200, e_G200⟩ : ∃ g, g = sr G182 87 a0 (some a179) := ⟨_, rfl⟩
  have hwp := hwp G200 e_G200
  rw [← e_G200]
  refine qw_aload_n (pc := 105) X184 d_M_init_105 rfl 0 rfl ?_
  refine qw_bipush (v := 12) (pc := 106) X184 d_M_init_106 (by decide) ?_
  refine qn_50 12 (a0, 13) (pc := 108) X184 rfl d_M_init_108 x_261 (by decide) (by decide) (fun a201 n202 => ?_)
  obtain ⟨t203, e_t203⟩ : ∃ z, z = adT t181 a201 50 12 (a0, 13) := ⟨_, rfl⟩
  obtain ⟨G204, e_G204⟩ : ∃ z, z = zG G200 a201 := ⟨_, rfl⟩
  have hwp := hwp a201 n202 t203 e_t203 G204 e_G204
  have e205 : te t181 t203 := by rw [e_t203]; exact te.ad X184.h.2.1.1 n202 50 12 (a0, 13)
  have X206 := X184.te e205
  rw [← e_t203, ← e_G204]
  refine kV.ce (cs' := (13, 6107)) rfl ?_
  have f207 := e205.k f185 X184.h.2.1.1 (by decide)
  have f208 := e205.k f186 X184.h.2.1.1 (by decide)
  have f209 := e205.k f187 X184.h.2.1.1 (by decide)
  have f210 := e205.k f188 X184.h.2.1.1 (by decide)
  have f211 := e205.k f189 X184.h.2.1.1 (by decide)
  have f212 := e205.k f190 X184.h.2.1.1 (by decide)
  have f213 := e205.k f191 X184.h.2.1.1 (by decide)
  have f214 := e205.k f192 X184.h.2.1.1 (by decide)
  have f215 := e205.k f193 X184.h.2.1.1 (by decide)
  have f216 := e205.k f194 X184.h.2.1.1 (by decide)
  have f217 := e205.k f195 X184.h.2.1.1 (by decide)
  have f218 := e205.k f196 X184.h.2.1.1 (by decide)
  have f219 := e205.k f198 X184.h.2.1.1 (by decide)
  have e220 := e197.trans e205
  have f221 : tk t203 a201 = 50 := by rw [e_t203]; exact tk_ad
  refine qf_88 (a := a0) (pc := 110) X206 rfl hmn d_M_init_110 x_1008 rfl f208 ?_
  obtain ⟨G223, e_G223⟩ : ∃ g, g = sr G204 88 a0 (some a201) := ⟨_, rfl⟩
  have hwp := hwp G223 e_G223
  rw [← e_G223]
  refine qw_aload_n (pc := 113) X206 d_M_init_113 rfl 0 rfl ?_
  refine qw_bipush (v := 12) (pc := 114) X206 d_M_init_114 (by decide) ?_
  refine qn_50 12 (a0, 14) (pc := 116) X206 rfl d_M_init_116 x_261 (by decide) (by decide) (fun a224 n225 => ?_)
  obtain ⟨t226, e_t226⟩ : ∃ z, z = adT t203 a224 50 12 (a0, 14) := ⟨_, rfl⟩
  obtain ⟨G227, e_G227⟩ : ∃ z, z = zG G223 a224 := ⟨_, rfl⟩
  have hwp := hwp a224 n225 t226 e_t226 G227 e_G227
  have e228 : te t203 t226 := by rw [e_t226]; exact te.ad X206.h.2.1.1 n225 50 12 (a0, 14)
  have X229 := X206.te e228
  rw [← e_t226, ← e_G227]
  refine kV.ce (cs' := (14, 6119)) rfl ?_
  have f230 := e228.k f207 X206.h.2.1.1 (by decide)
  have f231 := e228.k f208 X206.h.2.1.1 (by decide)
  have f232 := e228.k f209 X206.h.2.1.1 (by decide)
  have f233 := e228.k f210 X206.h.2.1.1 (by decide)
  have f234 := e228.k f211 X206.h.2.1.1 (by decide)
  have f235 := e228.k f212 X206.h.2.1.1 (by decide)
  have f236 := e228.k f213 X206.h.2.1.1 (by decide)
  have f237 := e228.k f214 X206.h.2.1.1 (by decide)
  have f238 := e228.k f215 X206.h.2.1.1 (by decide)
  have f239 := e228.k f216 X206.h.2.1.1 (by decide)
  have f240 := e228.k f217 X206.h.2.1.1 (by decide)
  have f241 := e228.k f218 X206.h.2.1.1 (by decide)
  have f242 := e228.k f219 X206.h.2.1.1 (by decide)
  have f243 := e228.k f221 X206.h.2.1.1 (by decide)
  have e244 := e220.trans e228
  have f245 : tk t226 a224 = 50 := by rw [e_t226]; exact tk_ad
  refine qf_89 (a := a0) (pc := 118) X229 rfl hmn d_M_init_118 x_1009 rfl f231 ?_
  obtain ⟨G247, e_G247⟩ : ∃ g, g = sr G227 89 a0 (some a224) := ⟨_, rfl⟩
  have hwp := hwp G247 e_G247
  rw [← e_G247]
  refine qw_aload_n (pc := 121) X229 d_M_init_121 rfl 0 rfl ?_
  refine qw_bipush (v := 12) (pc := 122) X229 d_M_init_122 (by decide) ?_
  refine qn_50 12 (a0, 15) (pc := 124) X229 rfl d_M_init_124 x_261 (by decide) (by decide) (fun a248 n249 => ?_)
  obtain ⟨t250, e_t250⟩ : ∃ z, z = adT t226 a248 50 12 (a0, 15) := ⟨_, rfl⟩
  obtain ⟨G251, e_G251⟩ : ∃ z, z = zG G247 a248 := ⟨_, rfl⟩
  have hwp := hwp a248 n249 t250 e_t250 G251 e_G251
  have e252 : te t226 t250 := by rw [e_t250]; exact te.ad X229.h.2.1.1 n249 50 12 (a0, 15)
  have X253 := X229.te e252
  rw [← e_t250, ← e_G251]
  refine kV.ce (cs' := (15, 6131)) rfl ?_
  have f254 := e252.k f230 X229.h.2.1.1 (by decide)
  have f255 := e252.k f231 X229.h.2.1.1 (by decide)
  have f256 := e252.k f232 X229.h.2.1.1 (by decide)
  have f257 := e252.k f233 X229.h.2.1.1 (by decide)
  have f258 := e252.k f234 X229.h.2.1.1 (by decide)
  have f259 := e252.k f235 X229.h.2.1.1 (by decide)
  have f260 := e252.k f236 X229.h.2.1.1 (by decide)
  have f261 := e252.k f237 X229.h.2.1.1 (by decide)
  have f262 := e252.k f238 X229.h.2.1.1 (by decide)
  have f263 := e252.k f239 X229.h.2.1.1 (by decide)
  have f264 := e252.k f240 X229.h.2.1.1 (by decide)
  have f265 := e252.k f241 X229.h.2.1.1 (by decide)
  have f266 := e252.k f242 X229.h.2.1.1 (by decide)
  have f267 := e252.k f243 X229.h.2.1.1 (by decide)
  have f268 := e252.k f245 X229.h.2.1.1 (by decide)
  have e269 := e244.trans e252
  have f270 : tk t250 a248 = 50 := by rw [e_t250]; exact tk_ad
  refine qf_90 (a := a0) (pc := 126) X253 rfl hmn d_M_init_126 x_1010 rfl f255 ?_
  obtain ⟨G272, e_G272⟩ : ∃ g, g = sr G251 90 a0 (some a248) := ⟨_, rfl⟩
  have hwp := hwp G272 e_G272
  rw [← e_G272]
  refine qw_aload_n (pc := 129) X253 d_M_init_129 rfl 0 rfl ?_
  refine qw_bipush (v := 12) (pc := 130) X253 d_M_init_130 (by decide) ?_
  refine qn_52 12 (a0, 16) (pc := 132) X253 rfl d_M_init_132 x_1081 (by decide) (by decide) (fun a273 n274 => ?_)
  obtain ⟨t275, e_t275⟩ : ∃ z, z = adT t250 a273 52 12 (a0, 16) := ⟨_, rfl⟩
  obtain ⟨G276, e_G276⟩ : ∃ z, z = zG G272 a273 := ⟨_, rfl⟩
  have hwp := hwp a273 n274 t275 e_t275 G276 e_G276
  have e277 : te t250 t275 := by rw [e_t275]; exact te.ad X253.h.2.1.1 n274 52 12 (a0, 16)
  have X278 := X253.te e277
  rw [← e_t275, ← e_G276]
  refine kV.ce (cs' := (16, 6143)) rfl ?_
  have f279 := e277.k f254 X253.h.2.1.1 (by decide)
  have f280 := e277.k f255 X253.h.2.1.1 (by decide)
  have f281 := e277.k f256 X253.h.2.1.1 (by decide)
  have f282 := e277.k f257 X253.h.2.1.1 (by decide)
  have f283 := e277.k f258 X253.h.2.1.1 (by decide)
  have f284 := e277.k f259 X253.h.2.1.1 (by decide)
  have f285 := e277.k f260 X253.h.2.1.1 (by decide)
  have f286 := e277.k f261 X253.h.2.1.1 (by decide)
  have f287 := e277.k f262 X253.h.2.1.1 (by decide)
  have f288 := e277.k f263 X253.h.2.1.1 (by decide)
  have f289 := e277.k f264 X253.h.2.1.1 (by decide)
  have f290 := e277.k f265 X253.h.2.1.1 (by decide)
  have f291 := e277.k f266 X253.h.2.1.1 (by decide)
  have f292 := e277.k f267 X253.h.2.1.1 (by decide)
  have f293 := e277.k f268 X253.h.2.1.1 (by decide)
  have f294 := e277.k f270 X253.h.2.1.1 (by decide)
  have e295 := e269.trans e277
  have f296 : tk t275 a273 = 52 := by rw [e_t275]; exact tk_ad
  refine qf_91 (a := a0) (pc := 134) X278 rfl hmn d_M_init_134 x_1011 rfl f280 ?_
  obtain ⟨G298, e_G298⟩ : ∃ g, g = sr G276 91 a0 (some a273) := ⟨_, rfl⟩
  have hwp := hwp G298 e_G298
  rw [← e_G298]
  refine qw_aload_n (pc := 137) X278 d_M_init_137 rfl 0 rfl ?_
  refine qw_bipush (v := 12) (pc := 138) X278 d_M_init_138 (by decide) ?_
  refine qn_53 12 (a0, 17) (pc := 140) X278 rfl d_M_init_140 x_1082 (by decide) (by decide) (fun a299 n300 => ?_)
  obtain ⟨t301, e_t301⟩ : ∃ z, z = adT t275 a299 53 12 (a0, 17) := ⟨_, rfl⟩
  obtain ⟨G302, e_G302⟩ : ∃ z, z = zG G298 a299 := ⟨_, rfl⟩
  have hwp := hwp a299 n300 t301 e_t301 G302 e_G302
  have e303 : te t275 t301 := by rw [e_t301]; exact te.ad X278.h.2.1.1 n300 53 12 (a0, 17)
  have X304 := X278.te e303
  rw [← e_t301, ← e_G302]
  refine kV.ce (cs' := (17, 6155)) rfl ?_
  have f305 := e303.k f279 X278.h.2.1.1 (by decide)
  have f306 := e303.k f280 X278.h.2.1.1 (by decide)
  have f307 := e303.k f281 X278.h.2.1.1 (by decide)
  have f308 := e303.k f282 X278.h.2.1.1 (by decide)
  have f309 := e303.k f283 X278.h.2.1.1 (by decide)
  have f310 := e303.k f284 X278.h.2.1.1 (by decide)
  have f311 := e303.k f285 X278.h.2.1.1 (by decide)
  have f312 := e303.k f286 X278.h.2.1.1 (by decide)
  have f313 := e303.k f287 X278.h.2.1.1 (by decide)
  have f314 := e303.k f288 X278.h.2.1.1 (by decide)
  have f315 := e303.k f289 X278.h.2.1.1 (by decide)
  have f316 := e303.k f290 X278.h.2.1.1 (by decide)
  have f317 := e303.k f291 X278.h.2.1.1 (by decide)
  have f318 := e303.k f292 X278.h.2.1.1 (by decide)
  have f319 := e303.k f293 X278.h.2.1.1 (by decide)
  have f320 := e303.k f294 X278.h.2.1.1 (by decide)
  have f321 := e303.k f296 X278.h.2.1.1 (by decide)
  have e322 := e295.trans e303
  have f323 : tk t301 a299 = 53 := by rw [e_t301]; exact tk_ad
  refine qf_92 (a := a0) (pc := 142) X304 rfl hmn d_M_init_142 x_1012 rfl f306 ?_
  obtain ⟨G325, e_G325⟩ : ∃ g, g = sr G302 92 a0 (some a299) := ⟨_, rfl⟩
  have hwp := hwp G325 e_G325
  rw [← e_G325]
  refine qw_aload_n (pc := 145) X304 d_M_init_145 rfl 0 rfl ?_
  refine qw_bipush (v := 12) (pc := 146) X304 d_M_init_146 (by decide) ?_
  refine qn_50 12 (a0, 18) (pc := 148) X304 rfl d_M_init_148 x_261 (by decide) (by decide) (fun a326 n327 => ?_)
  obtain ⟨t328, e_t328⟩ : ∃ z, z = adT t301 a326 50 12 (a0, 18) := ⟨_, rfl⟩
  obtain ⟨G329, e_G329⟩ : ∃ z, z = zG G325 a326 := ⟨_, rfl⟩
  have hwp := hwp a326 n327 t328 e_t328 G329 e_G329
  have e330 : te t301 t328 := by rw [e_t328]; exact te.ad X304.h.2.1.1 n327 50 12 (a0, 18)
  have X331 := X304.te e330
  rw [← e_t328, ← e_G329]
  refine kV.ce (cs' := (18, 6167)) rfl ?_
  have f332 := e330.k f305 X304.h.2.1.1 (by decide)
  have f333 := e330.k f306 X304.h.2.1.1 (by decide)
  have f334 := e330.k f307 X304.h.2.1.1 (by decide)
  have f335 := e330.k f308 X304.h.2.1.1 (by decide)
  have f336 := e330.k f309 X304.h.2.1.1 (by decide)
  have f337 := e330.k f310 X304.h.2.1.1 (by decide)
  have f338 := e330.k f311 X304.h.2.1.1 (by decide)
  have f339 := e330.k f312 X304.h.2.1.1 (by decide)
  have f340 := e330.k f313 X304.h.2.1.1 (by decide)
  have f341 := e330.k f314 X304.h.2.1.1 (by decide)
  have f342 := e330.k f315 X304.h.2.1.1 (by decide)
  have f343 := e330.k f316 X304.h.2.1.1 (by decide)
  have f344 := e330.k f317 X304.h.2.1.1 (by decide)
  have f345 := e330.k f318 X304.h.2.1.1 (by decide)
  have f346 := e330.k f319 X304.h.2.1.1 (by decide)
  have f347 := e330.k f320 X304.h.2.1.1 (by decide)
  have f348 := e330.k f321 X304.h.2.1.1 (by decide)
  have f349 := e330.k f323 X304.h.2.1.1 (by decide)
  have e350 := e322.trans e330
  have f351 : tk t328 a326 = 50 := by rw [e_t328]; exact tk_ad
  refine qf_93 (a := a0) (pc := 150) X331 rfl hmn d_M_init_150 x_1013 rfl f333 ?_
  obtain ⟨G353, e_G353⟩ : ∃ g, g = sr G329 93 a0 (some a326) := ⟨_, rfl⟩
  have hwp := hwp G353 e_G353
  rw [← e_G353]
  refine qw_aload_n (pc := 153) X331 d_M_init_153 rfl 0 rfl ?_
  refine qw_sipush (v := 128) (pc := 154) X331 d_M_init_154 (by decide) ?_
  refine qn_50 128 (a0, 19) (pc := 157) X331 rfl d_M_init_157 x_261 (by decide) (by decide) (fun a354 n355 => ?_)
  obtain ⟨t356, e_t356⟩ : ∃ z, z = adT t328 a354 50 128 (a0, 19) := ⟨_, rfl⟩
  obtain ⟨G357, e_G357⟩ : ∃ z, z = zG G353 a354 := ⟨_, rfl⟩
  have hwp := hwp a354 n355 t356 e_t356 G357 e_G357
  have e358 : te t328 t356 := by rw [e_t356]; exact te.ad X331.h.2.1.1 n355 50 128 (a0, 19)
  have X359 := X331.te e358
  rw [← e_t356, ← e_G357]
  refine kV.ce (cs' := (19, 6295)) rfl ?_
  have f360 := e358.k f332 X331.h.2.1.1 (by decide)
  have f361 := e358.k f333 X331.h.2.1.1 (by decide)
  have f362 := e358.k f334 X331.h.2.1.1 (by decide)
  have f363 := e358.k f335 X331.h.2.1.1 (by decide)
  have f364 := e358.k f336 X331.h.2.1.1 (by decide)
  have f365 := e358.k f337 X331.h.2.1.1 (by decide)
  have f366 := e358.k f338 X331.h.2.1.1 (by decide)
  have f367 := e358.k f339 X331.h.2.1.1 (by decide)
  have f368 := e358.k f340 X331.h.2.1.1 (by decide)
  have f369 := e358.k f341 X331.h.2.1.1 (by decide)
  have f370 := e358.k f342 X331.h.2.1.1 (by decide)
  have f371 := e358.k f343 X331.h.2.1.1 (by decide)
  have f372 := e358.k f344 X331.h.2.1.1 (by decide)
  have f373 := e358.k f345 X331.h.2.1.1 (by decide)
  have f374 := e358.k f346 X331.h.2.1.1 (by decide)
  have f375 := e358.k f347 X331.h.2.1.1 (by decide)
  have f376 := e358.k f348 X331.h.2.1.1 (by decide)
  have f377 := e358.k f349 X331.h.2.1.1 (by decide)
  have f378 := e358.k f351 X331.h.2.1.1 (by decide)
  have e379 := e350.trans e358
  have f380 : tk t356 a354 = 50 := by rw [e_t356]; exact tk_ad
  refine qf_94 (a := a0) (pc := 159) X359 rfl hmn d_M_init_159 x_1014 rfl f361 ?_
  obtain ⟨G382, e_G382⟩ : ∃ g, g = sr G357 94 a0 (some a354) := ⟨_, rfl⟩
  have hwp := hwp G382 e_G382
  rw [← e_G382]
  refine qw_aload_n (pc := 162) X359 d_M_init_162 rfl 0 rfl ?_
  refine qw_sipush (v := 160) (pc := 163) X359 d_M_init_163 (by decide) ?_
  refine qn_50 160 (a0, 20) (pc := 166) X359 rfl d_M_init_166 x_261 (by decide) (by decide) (fun a383 n384 => ?_)
  obtain ⟨t385, e_t385⟩ : ∃ z, z = adT t356 a383 50 160 (a0, 20) := ⟨_, rfl⟩
  obtain ⟨G386, e_G386⟩ : ∃ z, z = zG G382 a383 := ⟨_, rfl⟩
  have hwp := hwp a383 n384 t385 e_t385 G386 e_G386
  have e387 : te t356 t385 := by rw [e_t385]; exact te.ad X359.h.2.1.1 n384 50 160 (a0, 20)
  have X388 := X359.te e387
  rw [← e_t385, ← e_G386]
  refine kV.ce (cs' := (20, 6455)) rfl ?_
  have f389 := e387.k f360 X359.h.2.1.1 (by decide)
  have f390 := e387.k f361 X359.h.2.1.1 (by decide)
  have f391 := e387.k f362 X359.h.2.1.1 (by decide)
  have f392 := e387.k f363 X359.h.2.1.1 (by decide)
  have f393 := e387.k f364 X359.h.2.1.1 (by decide)
  have f394 := e387.k f365 X359.h.2.1.1 (by decide)
  have f395 := e387.k f366 X359.h.2.1.1 (by decide)
  have f396 := e387.k f367 X359.h.2.1.1 (by decide)
  have f397 := e387.k f368 X359.h.2.1.1 (by decide)
  have f398 := e387.k f369 X359.h.2.1.1 (by decide)
  have f399 := e387.k f370 X359.h.2.1.1 (by decide)
  have f400 := e387.k f371 X359.h.2.1.1 (by decide)
  have f401 := e387.k f372 X359.h.2.1.1 (by decide)
  have f402 := e387.k f373 X359.h.2.1.1 (by decide)
  have f403 := e387.k f374 X359.h.2.1.1 (by decide)
  have f404 := e387.k f375 X359.h.2.1.1 (by decide)
  have f405 := e387.k f376 X359.h.2.1.1 (by decide)
  have f406 := e387.k f377 X359.h.2.1.1 (by decide)
  have f407 := e387.k f378 X359.h.2.1.1 (by decide)
  have f408 := e387.k f380 X359.h.2.1.1 (by decide)
  have e409 := e379.trans e387
  have f410 : tk t385 a383 = 50 := by rw [e_t385]; exact tk_ad
  refine qf_96 (a := a0) (pc := 168) X388 rfl hmn d_M_init_168 x_1016 rfl f390 ?_
  obtain ⟨G412, e_G412⟩ : ∃ g, g = sr G386 96 a0 (some a383) := ⟨_, rfl⟩
  have hwp := hwp G412 e_G412
  rw [← e_G412]
  refine qw_aload_n (pc := 171) X388 d_M_init_171 rfl 0 rfl ?_
  refine qg_70 (a := a0) (pc := 172) X388 d_M_init_172 x_990 rfl f390 ?_
  refine qw_iconst (v := 0) (pc := 175) X388 d_M_init_175 (by decide) ?_
  refine qw_iconst (v := 1) (pc := 176) X388 d_M_init_176 (by decide) ?_
  obtain ⟨a413, h_a413, hwp⟩ := hwp
  obtain ⟨f414, hwp⟩ := hwp
  obtain ⟨f415, hwp⟩ := hwp
  refine qa_iast (a := a413) (pc := 177) X388 rfl d_M_init_177 h_a413 f414 f415 ?_
  obtain ⟨G416, e_G416⟩ : ∃ g, g = ais G412 a413 (0 : Int32).toNatClampNeg (1 : Int32) := ⟨_, rfl⟩
  have hwp := hwp G416 e_G416
  rw [← e_G416]
  refine qw_aload_n (pc := 178) X388 d_M_init_178 rfl 0 rfl ?_
  refine qg_70 (a := a0) (pc := 179) X388 d_M_init_179 x_990 rfl f390 ?_
  refine qw_iconst (v := 3) (pc := 182) X388 d_M_init_182 (by decide) ?_
  refine qw_ldc (v := -2147483139) (pc := 183) X388 d_M_init_183 x_985 ?_
  obtain ⟨a417, h_a417, hwp⟩ := hwp
  obtain ⟨f418, hwp⟩ := hwp
  obtain ⟨f419, hwp⟩ := hwp
  refine qa_iast (a := a417) (pc := 185) X388 rfl d_M_init_185 h_a417 f418 f419 ?_
  obtain ⟨G420, e_G420⟩ : ∃ g, g = ais G416 a417 (3 : Int32).toNatClampNeg (-2147483139 : Int32) := ⟨_, rfl⟩
  have hwp := hwp G420 e_G420
  rw [← e_G420]
  refine qw_aload_n (pc := 186) X388 d_M_init_186 rfl 0 rfl ?_
  refine qg_70 (a := a0) (pc := 187) X388 d_M_init_187 x_990 rfl f390 ?_
  refine qw_bipush (v := 8) (pc := 190) X388 d_M_init_190 (by decide) ?_
  refine qw_iconst (v := -1) (pc := 192) X388 d_M_init_192 (by decide) ?_
  obtain ⟨a421, h_a421, hwp⟩ := hwp
  obtain ⟨f422, hwp⟩ := hwp
  obtain ⟨f423, hwp⟩ := hwp
  refine qa_iast (a := a421) (pc := 193) X388 rfl d_M_init_193 h_a421 f422 f423 ?_
  obtain ⟨G424, e_G424⟩ : ∃ g, g = ais G420 a421 (8 : Int32).toNatClampNeg (-1 : Int32) := ⟨_, rfl⟩
  have hwp := hwp G424 e_G424
  rw [← e_G424]
  refine qw_aload_n (pc := 194) X388 d_M_init_194 rfl 0 rfl ?_
  refine qg_70 (a := a0) (pc := 195) X388 d_M_init_195 x_990 rfl f390 ?_
  refine qw_bipush (v := 9) (pc := 198) X388 d_M_init_198 (by decide) ?_
  refine qw_iconst (v := 1) (pc := 200) X388 d_M_init_200 (by decide) ?_
  obtain ⟨a425, h_a425, hwp⟩ := hwp
  obtain ⟨f426, hwp⟩ := hwp
  obtain ⟨f427, hwp⟩ := hwp
  refine qa_iast (a := a425) (pc := 201) X388 rfl d_M_init_201 h_a425 f426 f427 ?_
  obtain ⟨G428, e_G428⟩ : ∃ g, g = ais G424 a425 (9 : Int32).toNatClampNeg (1 : Int32) := ⟨_, rfl⟩
  have hwp := hwp G428 e_G428
  rw [← e_G428]
  refine qw_aload_n (pc := 202) X388 d_M_init_202 rfl 0 rfl ?_
  refine qg_70 (a := a0) (pc := 203) X388 d_M_init_203 x_990 rfl f390 ?_
  refine qw_bipush (v := 10) (pc := 206) X388 d_M_init_206 (by decide) ?_
  refine qw_bipush (v := 47) (pc := 208) X388 d_M_init_208 (by decide) ?_
  obtain ⟨a429, h_a429, hwp⟩ := hwp
  obtain ⟨f430, hwp⟩ := hwp
  obtain ⟨f431, hwp⟩ := hwp
  refine qa_iast (a := a429) (pc := 210) X388 rfl d_M_init_210 h_a429 f430 f431 ?_
  obtain ⟨G432, e_G432⟩ : ∃ g, g = ais G428 a429 (10 : Int32).toNatClampNeg (47 : Int32) := ⟨_, rfl⟩
  have hwp := hwp G432 e_G432
  rw [← e_G432]
  refine qw_aload_n (pc := 211) X388 d_M_init_211 rfl 0 rfl ?_
  refine qw_iconst (v := 0) (pc := 212) X388 d_M_init_212 (by decide) ?_
  refine kV.st (st' := [.int (0 : Int32), .ref a0]) rfl ?_
  refine qcV_v (n := 1) (As := [.int (0 : Int32)]) (rest := []) (pc := 213) X388 (by decide) rfl (c_M_fresh l t385 G432 a0 (0 : Int32) _) (cwV_of (C := "TreeServerModel") X388 x_989 x_986 x_988 xp_36 x_13 (by decide +kernel) ⟨rfl, rfl⟩ (by decide)) (rv_10 X388 f390) rfl rfl (by decide) d_M_init_213 hwp (fun G433 hwp => ?_)
  refine qw_aload_n (pc := 216) X388 d_M_init_216 rfl 0 rfl ?_
  refine qw_iconst (v := 1) (pc := 217) X388 d_M_init_217 (by decide) ?_
  refine kV.st (st' := [.int (1 : Int32), .ref a0]) rfl ?_
  refine qcV_v (n := 1) (As := [.int (1 : Int32)]) (rest := []) (pc := 218) X388 (by decide) rfl (c_M_fresh l t385 G433 a0 (1 : Int32) _) (cwV_of (C := "TreeServerModel") X388 x_989 x_986 x_988 xp_36 x_13 (by decide +kernel) ⟨rfl, rfl⟩ (by decide)) (rv_10 X388 f390) rfl rfl (by decide) d_M_init_218 hwp (fun G434 hwp => ?_)
  exact qr_init (t0 := t) X388 hret d_M_init_221 e409 hwp
set_option maxRecDepth 100000 in
set_option maxHeartbeats 4000000 in
theorem c_M_init (l : Launch) (t : TY) (G : GS) (a0 : Nat) (K : TY → GS → Prop) : Met l y_M_init (Cond.code y_M_init b_M_init 1 (Option.none : Option Jvm.ClassFile.FieldType) :: GW) rm_M_init (va_Pc [.ref a0] (fun U => HB t G U.heap ∧ HK t U ∧ w_M_init t G a0 K)) (va_Qv (fun u : TY × GS => te t u.1 ∧ K u.1 u.2) (fun u T => HB u.1 u.2 T.heap) (tA t)) 20 6455 (tA t) := by
  refine Met.ofW (cc := b_M_init) (maxL := 1) (ret := none) (by decide) rfl ?_
  intro p e s m args below meth c s₁ B hml hv
  obtain ⟨rfl, hB, hK, hwp⟩ := hv
  have hts := atoms_spec (ws := Cond.code y_M_init b_M_init 1 (Option.none : Option Jvm.ClassFile.FieldType) :: GW) B.pre
  have hmn : meth.name = "<init>" := (name_of_methodNamed B.named B.method).1
  have X : kX p s m _ meth c b_M_init 1 "TreeServerModel" t := ⟨B.exec, B.bytes, hml, findClass_of_methodNamed B.named, fun w h => hts w (List.mem_cons_of_mem _ h), B.notSynchronized, hK⟩
  have hZ : kZ t false s G s.heap [] := ⟨hB, va_S.rf, fun h => by cases h⟩
  rw [lg_entry_eq]
  have hl := lv_entry ([.ref a0]) (n := 1) (by simp [lg_sl, rf_cat, cat_i, cat_l, cat_r])
  exact k_M_init X B.returns hmn G hwp s.heap [] _ hl hZ
