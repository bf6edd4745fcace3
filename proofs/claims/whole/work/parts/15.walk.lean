abbrev b_S_serve : ByteArray := prog_1_method_16_code
def y_S_serve : MethodName := ⟨"TreeServer", "serve", "(LTreeServer$Link;)V"⟩
theorem d_S_serve_0 : decode b_S_serve 0 = .ok (.aload_n 0, 1) := by decide +kernel
theorem d_S_serve_1 : decode b_S_serve 1 = .ok (.aload_n 1, 1) := by decide +kernel
theorem d_S_serve_2 : decode b_S_serve 2 = .ok (.invokevirtual 120, 3) := by decide +kernel
theorem d_S_serve_5 : decode b_S_serve 5 = .ok (.iconst 0, 1) := by decide +kernel
theorem d_S_serve_6 : decode b_S_serve 6 = .ok (.istore_n 2, 1) := by decide +kernel
theorem d_S_serve_7 : decode b_S_serve 7 = .ok (.iload_n 2, 1) := by decide +kernel
theorem d_S_serve_8 : decode b_S_serve 8 = .ok (.sipush 160, 3) := by decide +kernel
theorem d_S_serve_11 : decode b_S_serve 11 = .ok (.if_icmp .ge 110, 3) := by decide +kernel
theorem d_S_serve_14 : decode b_S_serve 14 = .ok (.aload_n 1, 1) := by decide +kernel
theorem d_S_serve_15 : decode b_S_serve 15 = .ok (.invokevirtual 123, 3) := by decide +kernel
theorem d_S_serve_18 : decode b_S_serve 18 = .ok (.ifCond .eq 103, 3) := by decide +kernel
theorem d_S_serve_21 : decode b_S_serve 21 = .ok (.aload_n 0, 1) := by decide +kernel
theorem d_S_serve_22 : decode b_S_serve 22 = .ok (.getfield 33, 3) := by decide +kernel
theorem d_S_serve_25 : decode b_S_serve 25 = .ok (.aload_n 1, 1) := by decide +kernel
theorem d_S_serve_26 : decode b_S_serve 26 = .ok (.invokevirtual 127, 3) := by decide +kernel
theorem d_S_serve_29 : decode b_S_serve 29 = .ok (.aload_n 0, 1) := by decide +kernel
theorem d_S_serve_30 : decode b_S_serve 30 = .ok (.getfield 40, 3) := by decide +kernel
theorem d_S_serve_33 : decode b_S_serve 33 = .ok (.aload_n 0, 1) := by decide +kernel
theorem d_S_serve_34 : decode b_S_serve 34 = .ok (.getfield 33, 3) := by decide +kernel
theorem d_S_serve_37 : decode b_S_serve 37 = .ok (.getfield 130, 3) := by decide +kernel
theorem d_S_serve_40 : decode b_S_serve 40 = .ok (.iconst 1, 1) := by decide +kernel
theorem d_S_serve_41 : decode b_S_serve 41 = .ok (.iadd, 1) := by decide +kernel
theorem d_S_serve_42 : decode b_S_serve 42 = .ok (.aload_n 0, 1) := by decide +kernel
theorem d_S_serve_43 : decode b_S_serve 43 = .ok (.getfield 33, 3) := by decide +kernel
theorem d_S_serve_46 : decode b_S_serve 46 = .ok (.getfield 133, 3) := by decide +kernel
theorem d_S_serve_49 : decode b_S_serve 49 = .ok (.invokevirtual 136, 3) := by decide +kernel
theorem d_S_serve_52 : decode b_S_serve 52 = .ok (.aload_n 0, 1) := by decide +kernel
theorem d_S_serve_53 : decode b_S_serve 53 = .ok (.aload_n 1, 1) := by decide +kernel
theorem d_S_serve_54 : decode b_S_serve 54 = .ok (.invokevirtual 140, 3) := by decide +kernel
theorem d_S_serve_57 : decode b_S_serve 57 = .ok (.astore_n 3, 1) := by decide +kernel
theorem d_S_serve_58 : decode b_S_serve 58 = .ok (.aload_n 3, 1) := by decide +kernel
theorem d_S_serve_59 : decode b_S_serve 59 = .ok (.invokevirtual 144, 3) := by decide +kernel
theorem d_S_serve_62 : decode b_S_serve 62 = .ok (.ifCond .eq 29, 3) := by decide +kernel
theorem d_S_serve_65 : decode b_S_serve 65 = .ok (.aload_n 0, 1) := by decide +kernel
theorem d_S_serve_66 : decode b_S_serve 66 = .ok (.getfield 33, 3) := by decide +kernel
theorem d_S_serve_69 : decode b_S_serve 69 = .ok (.getfield 130, 3) := by decide +kernel
theorem d_S_serve_72 : decode b_S_serve 72 = .ok (.bipush 112, 2) := by decide +kernel
theorem d_S_serve_74 : decode b_S_serve 74 = .ok (.if_icmp .ge 11, 3) := by decide +kernel
theorem d_S_serve_77 : decode b_S_serve 77 = .ok (.aload_n 0, 1) := by decide +kernel
theorem d_S_serve_78 : decode b_S_serve 78 = .ok (.aload_n 1, 1) := by decide +kernel
theorem d_S_serve_79 : decode b_S_serve 79 = .ok (.invokevirtual 149, 3) := by decide +kernel
theorem d_S_serve_82 : decode b_S_serve 82 = .ok (.goto 8, 3) := by decide +kernel
theorem d_S_serve_85 : decode b_S_serve 85 = .ok (.aload_n 0, 1) := by decide +kernel
theorem d_S_serve_86 : decode b_S_serve 86 = .ok (.aload_n 1, 1) := by decide +kernel
theorem d_S_serve_87 : decode b_S_serve 87 = .ok (.invokevirtual 152, 3) := by decide +kernel
theorem d_S_serve_90 : decode b_S_serve 90 = .ok (.astore_n 3, 1) := by decide +kernel
theorem d_S_serve_91 : decode b_S_serve 91 = .ok (.aload_n 0, 1) := by decide +kernel
theorem d_S_serve_92 : decode b_S_serve 92 = .ok (.getfield 19, 3) := by decide +kernel
theorem d_S_serve_95 : decode b_S_serve 95 = .ok (.getfield 55, 3) := by decide +kernel
theorem d_S_serve_98 : decode b_S_serve 98 = .ok (.ifCond .eq 12, 3) := by decide +kernel
theorem d_S_serve_101 : decode b_S_serve 101 = .ok (.aload_n 0, 1) := by decide +kernel
theorem d_S_serve_102 : decode b_S_serve 102 = .ok (.getfield 40, 3) := by decide +kernel
theorem d_S_serve_105 : decode b_S_serve 105 = .ok (.aload_n 3, 1) := by decide +kernel
theorem d_S_serve_106 : decode b_S_serve 106 = .ok (.aload_n 1, 1) := by decide +kernel
theorem d_S_serve_107 : decode b_S_serve 107 = .ok (.invokevirtual 155, 3) := by decide +kernel
theorem d_S_serve_110 : decode b_S_serve 110 = .ok (.aload_n 0, 1) := by decide +kernel
theorem d_S_serve_111 : decode b_S_serve 111 = .ok (.aload_n 1, 1) := by decide +kernel
theorem d_S_serve_112 : decode b_S_serve 112 = .ok (.invokevirtual 120, 3) := by decide +kernel
theorem d_S_serve_115 : decode b_S_serve 115 = .ok (.iinc 2 1, 3) := by decide +kernel
theorem d_S_serve_118 : decode b_S_serve 118 = .ok (.goto (-111), 3) := by decide +kernel
theorem d_S_serve_121 : decode b_S_serve 121 = .ok (.return_, 1) := by decide +kernel
abbrev rm_S_serve : Room := { frames := 9, cells := 0, slots := 0, locals := 223 }
set_option maxRecDepth 100000 in
set_option maxHeartbeats 4000000 in
theorem k_S_serve_110 {p : Program} {l : Launch} {e : Env} {s : State} {m : MethodId} {args : Array Value} {below : List Frame} {meth : Method} {c : Code} {t : TY} {a0 : Nat} {K : GS → Prop} {r7 : Nat → Int32 → GS → Prop} (X : kX p s m args meth c b_S_serve 4 "TreeServer" t) (hret : meth.sig.returnType = none) (hr_7 : ∀ (l1 : Nat) (l2 : Int32) (G : GS), r7 l1 l2 G → kW p l e rm_S_serve s m args below meth c (MQ below (va_Qv (fun u : GS => K u) (fun u T => HB t u T.heap) (tA t)) args s 0 0 (tA t)) 4 t false 7 [(0, va_rf (some a0)), (1, va_rf (some l1)), (2, .int l2)] [] G) (p1 : Nat) (l2 : Int32) (G : GS) (hwp : w_S_serve_110 t a0 K r7 p1 l2 G) : kW p l e rm_S_serve s m args below meth c (MQ below (va_Qv (fun u : GS => K u) (fun u T => HB t u T.heap) (tA t)) args s 0 0 (tA t)) 4 t false 110 [(0, va_rf (some a0)), (1, va_rf (some p1)), (2, .int l2)] [] G := by
  unfold w_S_serve_110 at hwp
  refine kw_aload_n (pc := 110) X d_S_serve_110 rfl 0 rfl ?_
  refine kw_aload_n (pc := 111) X d_S_serve_111 rfl 1 rfl ?_
  obtain ⟨f1, hwp⟩ := hwp
  refine kcV_v (n := 1) (As := [.ref p1]) (rest := []) (pc := 112) X rfl (c_S_breakIfMissized l t G a0 p1 _) (cwV_of (C := "TreeServer") X x_409 x_406 x_408 xp_2 x_1 (by decide +kernel) ⟨rfl, rfl⟩ (by decide)) (rv_9 X f1) rfl rfl (by decide) d_S_serve_112 hwp (fun G2 hwp => ?_)
  obtain ⟨v3, e_v3⟩ : ∃ z, z = (l2 + (1 : Int32)) := ⟨_, rfl⟩
  have hwp := hwp v3 e_v3
  refine kw_iinc (v := v3) (lv' := [(2, .int v3), (0, va_rf (some a0)), (1, va_rf (some p1))]) (pc := 115) X d_S_serve_115 2 rfl (by rw [e_v3]; rfl) (by decide) rfl ?_
  refine kw_goto (tgt := 7) (pc := 118) X d_S_serve_118 (by decide) ?_
  exact kW.sub [1, 2, 0] rfl (hr_7 _ _ _ hwp)
set_option maxRecDepth 100000 in
set_option maxHeartbeats 4000000 in
theorem k_S_serve_91 {p : Program} {l : Launch} {e : Env} {s : State} {m : MethodId} {args : Array Value} {below : List Frame} {meth : Method} {c : Code} {t : TY} {a0 : Nat} {K : GS → Prop} {r7 : Nat → Int32 → GS → Prop} (X : kX p s m args meth c b_S_serve 4 "TreeServer" t) (hret : meth.sig.returnType = none) (hr_7 : ∀ (l1 : Nat) (l2 : Int32) (G : GS), r7 l1 l2 G → kW p l e rm_S_serve s m args below meth c (MQ below (va_Qv (fun u : GS => K u) (fun u T => HB t u T.heap) (tA t)) args s 0 0 (tA t)) 4 t false 7 [(0, va_rf (some a0)), (1, va_rf (some l1)), (2, .int l2)] [] G) (p1 : Nat) (l2 : Int32) (l3 : Option Nat) (G : GS) (hwp : w_S_serve_91 t a0 K r7 p1 l2 l3 G) : kW p l e rm_S_serve s m args below meth c (MQ below (va_Qv (fun u : GS => K u) (fun u T => HB t u T.heap) (tA t)) args s 0 0 (tA t)) 4 t false 91 [(0, va_rf (some a0)), (1, va_rf (some p1)), (2, .int l2), (3, va_rf l3)] [] G := by
  unfold w_S_serve_91 at hwp
  refine kw_aload_n (pc := 91) X d_S_serve_91 rfl 0 rfl ?_
  obtain ⟨f1, hwp⟩ := hwp
  refine kg_64 (a := a0) (pc := 92) X d_S_serve_92 x_365 rfl f1 ?_
  obtain ⟨a2, h_a2, hwp⟩ := hwp
  obtain ⟨f3, hwp⟩ := hwp
  refine kg_19 (a := a2) (pc := 95) X d_S_serve_95 x_146 h_a2 f3 ?_
  refine kw_if_eq (tgt := 110) (pc := 98) X d_S_serve_98 (by decide) (fun h => ?_) (fun h => ?_)
  · have hwp := ite_t h hwp
    exact kW.sub [0, 1, 2] rfl (k_S_serve_110 X hret hr_7 _ _ _ hwp)
  · have hwp := ite_f h hwp
    refine kw_aload_n (pc := 101) X d_S_serve_101 rfl 0 rfl ?_
    refine kg_67 (a := a0) (pc := 102) X d_S_serve_102 x_368 rfl f1 ?_
    refine kw_aload_n (pc := 105) X d_S_serve_105 rfl 3 rfl ?_
    refine kw_aload_n (pc := 106) X d_S_serve_106 rfl 1 rfl ?_
    obtain ⟨a4, h_a4, hwp⟩ := hwp
    obtain ⟨f5, hwp⟩ := hwp
    refine kW.st (st' := [.ref p1, va_rf l3, .ref a4]) (by simp only [h_a4]; rfl) ?_
    refine kcV_v (n := 2) (As := [va_rf l3, .ref p1]) (rest := []) (pc := 107) X rfl (c_Answer_finish l t G a4 l3 p1 _) (cwV_of (C := "TreeServer$Answer") X x_912 x_909 x_910 x_911 x_10 (by decide +kernel) ⟨rfl, rfl⟩ (by decide)) (rv_6 X f5) rfl rfl (by decide) d_S_serve_107 hwp (fun G6 hwp => ?_)
    exact kW.sub [0, 1, 2] rfl (k_S_serve_110 X hret hr_7 _ _ _ hwp)
set_option maxRecDepth 100000 in
set_option maxHeartbeats 4000000 in
theorem k_S_serve_90 {p : Program} {l : Launch} {e : Env} {s : State} {m : MethodId} {args : Array Value} {below : List Frame} {meth : Method} {c : Code} {t : TY} {a0 : Nat} {K : GS → Prop} {r7 : Nat → Int32 → GS → Prop} (X : kX p s m args meth c b_S_serve 4 "TreeServer" t) (hret : meth.sig.returnType = none) (hr_7 : ∀ (l1 : Nat) (l2 : Int32) (G : GS), r7 l1 l2 G → kW p l e rm_S_serve s m args below meth c (MQ below (va_Qv (fun u : GS => K u) (fun u T => HB t u T.heap) (tA t)) args s 0 0 (tA t)) 4 t false 7 [(0, va_rf (some a0)), (1, va_rf (some l1)), (2, .int l2)] [] G) (p1 : Nat) (l2 : Int32) (s0 : Option Nat) (G : GS) (hwp : w_S_serve_90 t a0 K r7 p1 l2 s0 G) : kW p l e rm_S_serve s m args below meth c (MQ below (va_Qv (fun u : GS => K u) (fun u T => HB t u T.heap) (tA t)) args s 0 0 (tA t)) 4 t false 90 [(0, va_rf (some a0)), (1, va_rf (some p1)), (2, .int l2)] [va_rf s0] G := by
  unfold w_S_serve_90 at hwp
  refine kw_astore_n (i := 3) (lv' := [(3, va_rf s0), (0, va_rf (some a0)), (1, va_rf (some p1)), (2, .int l2)]) (pc := 90) X d_S_serve_90 rfl (by decide) rfl ?_
  exact kW.sub [1, 2, 3, 0] rfl (k_S_serve_91 X hret hr_7 _ _ _ _ hwp)
set_option maxRecDepth 100000 in
set_option maxHeartbeats 4000000 in
theorem k_S_serve_7 {p : Program} {l : Launch} {e : Env} {s : State} {m : MethodId} {args : Array Value} {below : List Frame} {meth : Method} {c : Code} {t : TY} {a0 : Nat} {K : GS → Prop} (X : kX p s m args meth c b_S_serve 4 "TreeServer" t) (hret : meth.sig.returnType = none) : ∀ (n : Nat) (p1 : Nat) (l2 : Int32) (G : GS), w_S_serve_7 t a0 K n p1 l2 G → kW p l e rm_S_serve s m args below meth c (MQ below (va_Qv (fun u : GS => K u) (fun u T => HB t u T.heap) (tA t)) args s 0 0 (tA t)) 4 t false 7 [(0, va_rf (some a0)), (1, va_rf (some p1)), (2, .int l2)] [] G := by
  intro n
  induction n with
  | zero => intro p1 l2 G hwp; exact hwp.elim
  | succ n hr_7 =>
    intro p1 l2 G hwp
    unfold w_S_serve_7 at hwp
    dsimp only at hwp
    refine kw_iload_n (pc := 7) X d_S_serve_7 rfl 2 rfl ?_
    refine kw_sipush (v := 160) (pc := 8) X d_S_serve_8 (by decide) ?_
    refine kw_icmp_ge (tgt := 121) (pc := 11) X d_S_serve_11 (by decide) (fun h => ?_) (fun h => ?_)
    · have hwp := ite_t h hwp
      exact kr_v (pc := 121) X hret d_S_serve_121 hwp
    · have hwp := ite_f h hwp
      refine kw_aload_n (pc := 14) X d_S_serve_14 rfl 1 rfl ?_
      obtain ⟨f1, hwp⟩ := hwp
      refine kcVp_i (n := 0) (As := []) (rest := []) (pc := 15) X (c_Link_hasMessageToHandle l t G p1 _) (cwV_of (C := "TreeServer$Link") X x_522 x_519 x_520 x_521 x_11 (by decide +kernel) ⟨rfl, rfl⟩ (by decide)) (rv_8 X f1) rfl rfl (by decide) d_S_serve_15 hwp (fun v2 hwp => ?_)
      obtain ⟨b_v2, hwp⟩ := hwp
      refine kw_if_eq (tgt := 121) (pc := 18) X d_S_serve_18 (by decide) (fun h => ?_) (fun h => ?_)
      · have hwp := ite_t h hwp
        exact kr_v (pc := 121) X hret d_S_serve_121 hwp
      · have hwp := ite_f h hwp
        refine kw_aload_n (pc := 21) X d_S_serve_21 rfl 0 rfl ?_
        obtain ⟨f3, hwp⟩ := hwp
        refine kg_66 (a := a0) (pc := 22) X d_S_serve_22 x_367 rfl f3 ?_
        refine kw_aload_n (pc := 25) X d_S_serve_25 rfl 1 rfl ?_
        obtain ⟨a4, h_a4, hwp⟩ := hwp
        obtain ⟨f5, hwp⟩ := hwp
        refine kW.st (st' := [.ref p1, .ref a4]) (by simp only [h_a4]; rfl) ?_
        refine kcV_v (n := 1) (As := [.ref p1]) (rest := []) (pc := 26) X rfl (c_Message_takeFrom l t G a4 p1 _) (cwV_of (C := "TreeServer$Message") X x_526 x_523 x_524 x_525 x_9 (by decide +kernel) ⟨rfl, rfl⟩ (by decide)) (rv_5 X f5) rfl rfl (by decide) d_S_serve_26 hwp (fun G6 hwp => ?_)
        refine kw_aload_n (pc := 29) X d_S_serve_29 rfl 0 rfl ?_
        refine kg_67 (a := a0) (pc := 30) X d_S_serve_30 x_368 rfl f3 ?_
        refine kw_aload_n (pc := 33) X d_S_serve_33 rfl 0 rfl ?_
        refine kg_66 (a := a0) (pc := 34) X d_S_serve_34 x_367 rfl f3 ?_
        obtain ⟨a7, h_a7, hwp⟩ := hwp
        obtain ⟨f8, hwp⟩ := hwp
        refine kg_38 (a := a7) (pc := 37) X d_S_serve_37 x_234 h_a7 f8 ?_
        refine kw_iconst (v := 1) (pc := 40) X d_S_serve_40 (by decide) ?_
        refine kw_iadd (pc := 41) X d_S_serve_41 ?_
        refine kw_aload_n (pc := 42) X d_S_serve_42 rfl 0 rfl ?_
        refine kg_66 (a := a0) (pc := 43) X d_S_serve_43 x_367 rfl f3 ?_
        refine kg_39 (a := a7) (pc := 46) X d_S_serve_46 x_236 h_a7 f8 ?_
        obtain ⟨a9, h_a9, hwp⟩ := hwp
        obtain ⟨f10, hwp⟩ := hwp
        refine kW.st (st' := [.int (gi G6 39 a7), .int ((gi G6 38 a7) + (1 : Int32)), .ref a9]) (by simp only [h_a9]; rfl) ?_
        refine kcV_v (n := 2) (As := [.int ((gi G6 38 a7) + (1 : Int32)), .int (gi G6 39 a7)]) (rest := []) (pc := 49) X rfl (c_Answer_begin l t G6 a9 ((gi G6 38 a7) + (1 : Int32)) (gi G6 39 a7) _) (cwV_of (C := "TreeServer$Answer") X x_545 x_542 x_543 x_544 x_10 (by decide +kernel) ⟨rfl, rfl⟩ (by decide)) (rv_6 X f10) rfl rfl (by decide) d_S_serve_49 hwp (fun G11 hwp => ?_)
        refine kw_aload_n (pc := 52) X d_S_serve_52 rfl 0 rfl ?_
        refine kw_aload_n (pc := 53) X d_S_serve_53 rfl 1 rfl ?_
        refine kcV_q (n := 1) (As := [.ref p1]) (rest := []) (pc := 54) X rfl (c_S_firstRefusal l t G11 a0 p1 _) (cwV_of (C := "TreeServer") X x_553 x_550 x_552 xp_9 x_1 (by decide +kernel) ⟨rfl, rfl⟩ (by decide)) (rv_9 X f3) rfl rfl (by decide) d_S_serve_54 hwp (fun x13 G12 hwp => ?_)
        refine kw_astore_n (i := 3) (lv' := [(3, va_rf x13), (0, va_rf (some a0)), (1, va_rf (some p1)), (2, .int l2)]) (pc := 57) X d_S_serve_57 rfl (by decide) rfl ?_
        refine kw_aload_n (pc := 58) X d_S_serve_58 rfl 0 rfl ?_
        obtain ⟨j15, g_j15, h_j15, hwp⟩ := hwp
        refine kc_str_isEmpty (j := j15) (pc := 59) X d_S_serve_59 x_570 g_j15 h_j15 (by decide) (by decide) ?_
        obtain ⟨v14, e_v14⟩ : ∃ z, z = (if slen j15 = 0 then (1 : Int32) else 0) := ⟨_, rfl⟩
        rw [← e_v14] at hwp ⊢
        have b_v14 : isB v14 := by rw [e_v14]; unfold isB; split <;> simp
        refine kw_if_eq (tgt := 91) (pc := 62) X d_S_serve_62 (by decide) (fun h => ?_) (fun h => ?_)
        · have hwp := ite_t h hwp
          exact kW.sub [1, 2, 3, 0] rfl (k_S_serve_91 X hret hr_7 _ _ _ _ hwp)
        · have hwp := ite_f h hwp
          refine kw_aload_n (pc := 65) X d_S_serve_65 rfl 1 rfl ?_
          refine kg_66 (a := a0) (pc := 66) X d_S_serve_66 x_367 rfl f3 ?_
          obtain ⟨a16, h_a16, hwp⟩ := hwp
          obtain ⟨f17, hwp⟩ := hwp
          refine kg_38 (a := a16) (pc := 69) X d_S_serve_69 x_234 h_a16 f17 ?_
          refine kw_bipush (v := 112) (pc := 72) X d_S_serve_72 (by decide) ?_
          refine kw_icmp_ge (tgt := 85) (pc := 74) X d_S_serve_74 (by decide) (fun h => ?_) (fun h => ?_)
          · have hwp := ite_t h hwp
            refine kw_aload_n (pc := 85) X d_S_serve_85 rfl 1 rfl ?_
            refine kw_aload_n (pc := 86) X d_S_serve_86 rfl 2 rfl ?_
            refine kcV_q (n := 1) (As := [.ref p1]) (rest := []) (pc := 87) X rfl (c_S_handleWithFid l t G12 a0 p1 _) (cwV_of (C := "TreeServer") X x_723 x_720 x_722 xp_17 x_1 (by decide +kernel) ⟨rfl, rfl⟩ (by decide)) (rv_9 X f3) rfl rfl (by decide) d_S_serve_87 hwp (fun x19 G18 hwp => ?_)
            exact kW.sub [1, 2, 3] rfl (k_S_serve_90 X hret hr_7 _ _ _ _ hwp)
          · have hwp := ite_f h hwp
            refine kw_aload_n (pc := 77) X d_S_serve_77 rfl 1 rfl ?_
            refine kw_aload_n (pc := 78) X d_S_serve_78 rfl 2 rfl ?_
            refine kcV_q (n := 1) (As := [.ref p1]) (rest := []) (pc := 79) X rfl (c_S_handleSession l t G12 a0 p1 _) (cwV_of (C := "TreeServer") X x_577 x_574 x_576 xp_11 x_1 (by decide +kernel) ⟨rfl, rfl⟩ (by decide)) (rv_9 X f3) rfl rfl (by decide) d_S_serve_79 hwp (fun x21 G20 hwp => ?_)
            refine kw_goto (tgt := 90) (pc := 82) X d_S_serve_82 (by decide) ?_
            exact kW.sub [1, 2, 3] rfl (k_S_serve_90 X hret hr_7 _ _ _ _ hwp)
set_option maxRecDepth 100000 in
set_option maxHeartbeats 4000000 in
theorem k_S_serve {p : Program} {l : Launch} {e : Env} {s : State} {m : MethodId} {args : Array Value} {below : List Frame} {meth : Method} {c : Code} {t : TY} {a0 : Nat} {K : GS → Prop} (X : kX p s m args meth c b_S_serve 4 "TreeServer" t) (hret : meth.sig.returnType = none) (G : GS) (p1 : Nat) (hwp : w_S_serve t G a0 p1 K) : kW p l e rm_S_serve s m args below meth c (MQ below (va_Qv (fun u : GS => K u) (fun u T => HB t u T.heap) (tA t)) args s 0 0 (tA t)) 4 t false 0 [(0, va_rf (some a0)), (1, va_rf (some p1))] [] G := by
  unfold w_S_serve at hwp
  refine kw_aload_n (pc := 0) X d_S_serve_0 rfl 0 rfl ?_
  refine kw_aload_n (pc := 1) X d_S_serve_1 rfl 1 rfl ?_
  obtain ⟨f1, hwp⟩ := hwp
  refine kcV_v (n := 1) (As := [.ref p1]) (rest := []) (pc := 2) X rfl (c_S_breakIfMissized l t G a0 p1 _) (cwV_of (C := "TreeServer") X x_409 x_406 x_408 xp_2 x_1 (by decide +kernel) ⟨rfl, rfl⟩ (by decide)) (rv_9 X f1) rfl rfl (by decide) d_S_serve_2 hwp (fun G2 hwp => ?_)
  refine kw_iconst (v := 0) (pc := 5) X d_S_serve_5 (by decide) ?_
  refine kw_istore_n (i := 2) (lv' := [(2, .int (0 : Int32)), (0, va_rf (some a0)), (1, va_rf (some p1))]) (pc := 6) X d_S_serve_6 rfl (by decide) rfl ?_
  obtain ⟨n, hwp⟩ := hwp
  exact kW.sub [1, 2, 0] rfl (k_S_serve_7 X hret  n _ _ _ hwp)
set_option maxRecDepth 100000 in
set_option maxHeartbeats 4000000 in
theorem c_S_serve (l : Launch) (t : TY) (G : GS) (a0 : Nat) (p1 : Nat) (K : GS → Prop) : Met l y_S_serve (Cond.code y_S_serve b_S_serve 4 (Option.none : Option Jvm.ClassFile.FieldType) :: GW) rm_S_serve (va_Pc [.ref a0, .ref p1] (fun U => HB t G U.heap ∧ HK t U ∧ w_S_serve t G a0 p1 K)) (va_Qv (fun u : GS => K u) (fun u T => HB t u T.heap) (tA t)) 0 0 (tA t) := by
  refine Met.ofW (cc := b_S_serve) (maxL := 4) (ret := none) (by decide) rfl ?_
  intro p e s m args below meth c s₁ B hml hv
  obtain ⟨rfl, hB, hK, hwp⟩ := hv
  have hts := atoms_spec (ws := Cond.code y_S_serve b_S_serve 4 (Option.none : Option Jvm.ClassFile.FieldType) :: GW) B.pre
  have X : kX p s m _ meth c b_S_serve 4 "TreeServer" t := ⟨B.exec, B.bytes, hml, findClass_of_methodNamed B.named, fun w h => hts w (List.mem_cons_of_mem _ h), B.notSynchronized, hK⟩
  have hZ : kZ t false s G s.heap [] := ⟨hB, va_S.rf, fun _ => ⟨rfl, rfl⟩⟩
  rw [lg_entry_eq]
  have hl := lv_entry ([.ref a0, .ref p1]) (n := 4) (by simp [lg_sl, rf_cat, cat_i, cat_l, cat_r])
  exact k_S_serve X B.returns _ _ hwp s.heap [] _ hl hZ
abbrev b_S_feed : ByteArray := prog_1_method_2_code
def y_S_feed : MethodName := ⟨"TreeServer", "feed", "(IJI)Z"⟩
theorem d_S_feed_0 : decode b_S_feed 0 = .ok (.aload_n 0, 1) := by decide +kernel
theorem d_S_feed_1 : decode b_S_feed 1 = .ok (.iload_n 1, 1) := by decide +kernel
theorem d_S_feed_2 : decode b_S_feed 2 = .ok (.invokevirtual 51, 3) := by decide +kernel
theorem d_S_feed_5 : decode b_S_feed 5 = .ok (.astore 5, 2) := by decide +kernel
theorem d_S_feed_7 : decode b_S_feed 7 = .ok (.aload 5, 2) := by decide +kernel
theorem d_S_feed_9 : decode b_S_feed 9 = .ok (.ifnull 36, 3) := by decide +kernel
theorem d_S_feed_12 : decode b_S_feed 12 = .ok (.aload_n 0, 1) := by decide +kernel
theorem d_S_feed_13 : decode b_S_feed 13 = .ok (.getfield 19, 3) := by decide +kernel
theorem d_S_feed_16 : decode b_S_feed 16 = .ok (.getfield 55, 3) := by decide +kernel
theorem d_S_feed_19 : decode b_S_feed 19 = .ok (.ifCond .eq 26, 3) := by decide +kernel
theorem d_S_feed_22 : decode b_S_feed 22 = .ok (.iload 4, 2) := by decide +kernel
theorem d_S_feed_24 : decode b_S_feed 24 = .ok (.iconst 1, 1) := by decide +kernel
theorem d_S_feed_25 : decode b_S_feed 25 = .ok (.if_icmp .lt 20, 3) := by decide +kernel
theorem d_S_feed_28 : decode b_S_feed 28 = .ok (.iload 4, 2) := by decide +kernel
theorem d_S_feed_30 : decode b_S_feed 30 = .ok (.bipush 8, 2) := by decide +kernel
theorem d_S_feed_32 : decode b_S_feed 32 = .ok (.if_icmp .gt 13, 3) := by decide +kernel
theorem d_S_feed_35 : decode b_S_feed 35 = .ok (.aload 5, 2) := by decide +kernel
theorem d_S_feed_37 : decode b_S_feed 37 = .ok (.iload 4, 2) := by decide +kernel
theorem d_S_feed_39 : decode b_S_feed 39 = .ok (.invokevirtual 59, 3) := by decide +kernel
theorem d_S_feed_42 : decode b_S_feed 42 = .ok (.ifCond .ne 5, 3) := by decide +kernel
theorem d_S_feed_45 : decode b_S_feed 45 = .ok (.iconst 0, 1) := by decide +kernel
theorem d_S_feed_46 : decode b_S_feed 46 = .ok (.ireturn, 1) := by decide +kernel
theorem d_S_feed_47 : decode b_S_feed 47 = .ok (.aload 5, 2) := by decide +kernel
theorem d_S_feed_49 : decode b_S_feed 49 = .ok (.lload_n 2, 1) := by decide +kernel
theorem d_S_feed_50 : decode b_S_feed 50 = .ok (.iload 4, 2) := by decide +kernel
theorem d_S_feed_52 : decode b_S_feed 52 = .ok (.invokevirtual 63, 3) := by decide +kernel
theorem d_S_feed_55 : decode b_S_feed 55 = .ok (.aload_n 0, 1) := by decide +kernel
theorem d_S_feed_56 : decode b_S_feed 56 = .ok (.aload 5, 2) := by decide +kernel
theorem d_S_feed_58 : decode b_S_feed 58 = .ok (.invokevirtual 67, 3) := by decide +kernel
theorem d_S_feed_61 : decode b_S_feed 61 = .ok (.iconst 1, 1) := by decide +kernel
theorem d_S_feed_62 : decode b_S_feed 62 = .ok (.ireturn, 1) := by decide +kernel
abbrev rm_S_feed : Room := { frames := 10, cells := 0, slots := 0, locals := 246 }
set_option maxRecDepth 100000 in
set_option maxHeartbeats 4000000 in
theorem k_S_feed {p : Program} {l : Launch} {e : Env} {s : State} {m : MethodId} {args : Array Value} {below : List Frame} {meth : Method} {c : Code} {t : TY} {a0 : Nat} {K : GS → Int32 → Prop} (X : kX p s m args meth c b_S_feed 6 "TreeServer" t) (hret : meth.sig.returnType = some .boolean) (G : GS) (p1 : Int32) (p2 : Int64) (p4 : Int32) (hwp : w_S_feed t G a0 p1 p2 p4 K) : kW p l e rm_S_feed s m args below meth c (MQ below (va_Qi (fun r (u : GS) => isB r ∧ K u r) (fun u T => HB t u T.heap) (tA t)) args s 0 0 (tA t)) 6 t false 0 [(0, va_rf (some a0)), (1, .int p1), (2, .long p2), (4, .int p4)] [] G := by
  unfold w_S_feed at hwp
  refine kw_aload_n (pc := 0) X d_S_feed_0 rfl 0 rfl ?_
  refine kw_iload_n (pc := 1) X d_S_feed_1 rfl 1 rfl ?_
  obtain ⟨f1, hwp⟩ := hwp
  refine kcVp_q (n := 1) (As := [.int p1]) (rest := []) (pc := 2) X (c_S_linkOf l t G a0 p1 _) (cwV_of (C := "TreeServer") X x_393 x_390 x_392 xp_0 x_1 (by decide +kernel) ⟨rfl, rfl⟩ (by decide)) (rv_9 X f1) rfl rfl (by decide) d_S_feed_2 hwp (fun x2 hwp => ?_)
  refine kw_astore (i := 5) (lv' := [(5, va_rf x2), (0, va_rf (some a0)), (1, .int p1), (2, .long p2), (4, .int p4)]) (pc := 5) X d_S_feed_5 (by decide) rfl ?_
  refine kw_aload (pc := 7) X d_S_feed_7 0 rfl ?_
  refine kw_ifnull (tgt := 45) (pc := 9) X d_S_feed_9 (by decide) (fun h => ?_) (fun h => ?_)
  · have hwp := ite_t h hwp
    refine kw_iconst (v := 0) (pc := 45) X d_S_feed_45 (by decide) ?_
    exact kr_z (pc := 46) X hret d_S_feed_46 (Or.inl rfl) hwp
  · have hwp := ite_f h hwp
    refine kw_aload_n (pc := 12) X d_S_feed_12 rfl 1 rfl ?_
    refine kg_64 (a := a0) (pc := 13) X d_S_feed_13 x_365 rfl f1 ?_
    obtain ⟨a3, h_a3, hwp⟩ := hwp
    obtain ⟨f4, hwp⟩ := hwp
    refine kg_19 (a := a3) (pc := 16) X d_S_feed_16 x_146 h_a3 f4 ?_
    refine kw_if_eq (tgt := 45) (pc := 19) X d_S_feed_19 (by decide) (fun h => ?_) (fun h => ?_)
    · have hwp := ite_t h hwp
      refine kw_iconst (v := 0) (pc := 45) X d_S_feed_45 (by decide) ?_
      exact kr_z (pc := 46) X hret d_S_feed_46 (Or.inl rfl) hwp
    · have hwp := ite_f h hwp
      refine kw_iload (pc := 22) X d_S_feed_22 4 rfl ?_
      refine kw_iconst (v := 1) (pc := 24) X d_S_feed_24 (by decide) ?_
      refine kw_icmp_lt (tgt := 45) (pc := 25) X d_S_feed_25 (by decide) (fun h => ?_) (fun h => ?_)
      · have hwp := ite_t h hwp
        refine kw_iconst (v := 0) (pc := 45) X d_S_feed_45 (by decide) ?_
        exact kr_z (pc := 46) X hret d_S_feed_46 (Or.inl rfl) hwp
      · have hwp := ite_f h hwp
        refine kw_iload (pc := 28) X d_S_feed_28 4 rfl ?_
        refine kw_bipush (v := 8) (pc := 30) X d_S_feed_30 (by decide) ?_
        refine kw_icmp_gt (tgt := 45) (pc := 32) X d_S_feed_32 (by decide) (fun h => ?_) (fun h => ?_)
        · have hwp := ite_t h hwp
          refine kw_iconst (v := 0) (pc := 45) X d_S_feed_45 (by decide) ?_
          exact kr_z (pc := 46) X hret d_S_feed_46 (Or.inl rfl) hwp
        · have hwp := ite_f h hwp
          refine kw_aload (pc := 35) X d_S_feed_35 0 rfl ?_
          refine kw_iload (pc := 37) X d_S_feed_37 4 rfl ?_
          obtain ⟨a5, h_a5, hwp⟩ := hwp
          obtain ⟨f6, hwp⟩ := hwp
          refine kW.st (st' := [.int p4, .ref a5]) (by simp only [h_a5]; rfl) ?_
          refine kcVp_i (n := 1) (As := [.int p4]) (rest := []) (pc := 39) X (c_Link_hasRoomFor l t G a5 p4 _) (cwV_of (C := "TreeServer$Link") X x_397 x_394 x_395 x_396 x_11 (by decide +kernel) ⟨rfl, rfl⟩ (by decide)) (rv_8 X f6) rfl rfl (by decide) d_S_feed_39 hwp (fun v7 hwp => ?_)
          obtain ⟨b_v7, hwp⟩ := hwp
          refine kw_if_ne (tgt := 47) (pc := 42) X d_S_feed_42 (by decide) (fun h => ?_) (fun h => ?_)
          · have hwp := ite_t h hwp
            refine kw_aload (pc := 47) X d_S_feed_47 0 rfl ?_
            refine kw_lload_n (pc := 49) X d_S_feed_49 rfl 3 rfl ?_
            refine kw_iload (pc := 50) X d_S_feed_50 4 rfl ?_
            refine kW.st (st' := [.int p4, .long p2, .ref a5]) (by simp only [h_a5]; rfl) ?_
            refine kcV_v (n := 2) (As := [.long p2, .int p4]) (rest := []) (pc := 52) X rfl (c_Link_append l t G a5 p2 p4 _) (cwV_of (C := "TreeServer$Link") X x_401 x_398 x_399 x_400 x_11 (by decide +kernel) ⟨rfl, rfl⟩ (by decide)) (rv_8 X f6) rfl rfl (by decide) d_S_feed_52 hwp (fun G8 hwp => ?_)
            refine kw_aload_n (pc := 55) X d_S_feed_55 rfl 1 rfl ?_
            refine kw_aload (pc := 56) X d_S_feed_56 0 rfl ?_
            refine kW.st (st' := [.ref a5, .ref a0]) (by simp only [h_a5]; rfl) ?_
            refine kcV_v (n := 1) (As := [.ref a5]) (rest := []) (pc := 58) X rfl (c_S_serve l t G8 a0 a5 _) (cwV_of (C := "TreeServer") X x_405 x_402 x_404 xp_1 x_1 (by decide +kernel) ⟨rfl, rfl⟩ (by decide)) (rv_9 X f1) rfl rfl (by decide) d_S_feed_58 hwp (fun G9 hwp => ?_)
            refine kw_iconst (v := 1) (pc := 61) X d_S_feed_61 (by decide) ?_
            exact kr_z (pc := 62) X hret d_S_feed_62 (Or.inr rfl) hwp
          · have hwp := ite_f (not_not_intro h) hwp
            refine kw_iconst (v := 0) (pc := 45) X d_S_feed_45 (by decide) ?_
            exact kr_z (pc := 46) X hret d_S_feed_46 (Or.inl rfl) hwp
set_option maxRecDepth 100000 in
set_option maxHeartbeats 4000000 in
theorem c_S_feed (l : Launch) (t : TY) (G : GS) (a0 : Nat) (p1 : Int32) (p2 : Int64) (p4 : Int32) (K : GS → Int32 → Prop) : Met l y_S_feed (Cond.code y_S_feed b_S_feed 6 (Option.some Jvm.ClassFile.FieldType.boolean) :: GW) rm_S_feed (va_Pc [.ref a0, .int p1, .long p2, .int p4] (fun U => HB t G U.heap ∧ HK t U ∧ w_S_feed t G a0 p1 p2 p4 K)) (va_Qi (fun r (u : GS) => isB r ∧ K u r) (fun u T => HB t u T.heap) (tA t)) 0 0 (tA t) := by
  refine Met.ofW (cc := b_S_feed) (maxL := 6) (ret := some .boolean) (by decide) rfl ?_
  intro p e s m args below meth c s₁ B hml hv
  obtain ⟨rfl, hB, hK, hwp⟩ := hv
  have hts := atoms_spec (ws := Cond.code y_S_feed b_S_feed 6 (Option.some Jvm.ClassFile.FieldType.boolean) :: GW) B.pre
  have X : kX p s m _ meth c b_S_feed 6 "TreeServer" t := ⟨B.exec, B.bytes, hml, findClass_of_methodNamed B.named, fun w h => hts w (List.mem_cons_of_mem _ h), B.notSynchronized, hK⟩
  have hZ : kZ t false s G s.heap [] := ⟨hB, va_S.rf, fun _ => ⟨rfl, rfl⟩⟩
  rw [lg_entry_eq]
  have hl := lv_entry ([.ref a0, .int p1, .long p2, .int p4]) (n := 6) (by simp [lg_sl, rf_cat, cat_i, cat_l, cat_r])
  exact k_S_feed X B.returns _ _ _ _ hwp s.heap [] _ hl hZ
abbrev b_S_waiting : ByteArray := prog_1_method_3_code
def y_S_waiting : MethodName := ⟨"TreeServer", "waiting", "(I)I"⟩
theorem d_S_waiting_0 : decode b_S_waiting 0 = .ok (.aload_n 0, 1) := by decide +kernel
theorem d_S_waiting_1 : decode b_S_waiting 1 = .ok (.iload_n 1, 1) := by decide +kernel
theorem d_S_waiting_2 : decode b_S_waiting 2 = .ok (.invokevirtual 51, 3) := by decide +kernel
theorem d_S_waiting_5 : decode b_S_waiting 5 = .ok (.astore_n 2, 1) := by decide +kernel
theorem d_S_waiting_6 : decode b_S_waiting 6 = .ok (.aload_n 2, 1) := by decide +kernel
theorem d_S_waiting_7 : decode b_S_waiting 7 = .ok (.ifnonnull 7, 3) := by decide +kernel
theorem d_S_waiting_10 : decode b_S_waiting 10 = .ok (.iconst (-1), 1) := by decide +kernel
theorem d_S_waiting_11 : decode b_S_waiting 11 = .ok (.goto 7, 3) := by decide +kernel
theorem d_S_waiting_14 : decode b_S_waiting 14 = .ok (.aload_n 2, 1) := by decide +kernel
theorem d_S_waiting_15 : decode b_S_waiting 15 = .ok (.getfield 71, 3) := by decide +kernel
theorem d_S_waiting_18 : decode b_S_waiting 18 = .ok (.ireturn, 1) := by decide +kernel
abbrev rm_S_waiting : Room := { frames := 1, cells := 0, slots := 0, locals := 21 }
set_option maxRecDepth 100000 in
set_option maxHeartbeats 4000000 in
theorem k_S_waiting {p : Program} {l : Launch} {e : Env} {s : State} {m : MethodId} {args : Array Value} {below : List Frame} {meth : Method} {c : Code} {t : TY} {a0 : Nat} {G : GS} {K : Int32 → Prop} (X : kX p s m args meth c b_S_waiting 3 "TreeServer" t) (hret : meth.sig.returnType = some .int) (p1 : Int32) (hwp : w_S_waiting t G a0 p1 K) : kW p l e rm_S_waiting s m args below meth c (MQ below (vp_Si K) args s 0 0 (fun _ => False)) 3 t true 0 [(0, va_rf (some a0)), (1, .int p1)] [] G := by
  unfold w_S_waiting at hwp
  refine kw_aload_n (pc := 0) X d_S_waiting_0 rfl 0 rfl ?_
  refine kw_iload_n (pc := 1) X d_S_waiting_1 rfl 1 rfl ?_
  obtain ⟨f1, hwp⟩ := hwp
  refine kcVp_q (n := 1) (As := [.int p1]) (rest := []) (pc := 2) X (c_S_linkOf l t G a0 p1 _) (cwV_of (C := "TreeServer") X x_393 x_390 x_392 xp_0 x_1 (by decide +kernel) ⟨rfl, rfl⟩ (by decide)) (rv_9 X f1) rfl rfl (by decide) d_S_waiting_2 hwp (fun x2 hwp => ?_)
  refine kw_astore_n (i := 2) (lv' := [(2, va_rf x2), (0, va_rf (some a0)), (1, .int p1)]) (pc := 5) X d_S_waiting_5 rfl (by decide) rfl ?_
  refine kw_aload_n (pc := 6) X d_S_waiting_6 rfl 0 rfl ?_
  refine kw_ifnonnull (tgt := 14) (pc := 7) X d_S_waiting_7 (by decide) (fun h => ?_) (fun h => ?_)
  · have hwp := ite_t h hwp
    refine kw_aload_n (pc := 14) X d_S_waiting_14 rfl 0 rfl ?_
    obtain ⟨a3, h_a3, hwp⟩ := hwp
    obtain ⟨f4, hwp⟩ := hwp
    refine kg_58 (a := a3) (pc := 15) X d_S_waiting_15 x_338 h_a3 f4 ?_
    exact krp_i (pc := 18) X hret d_S_waiting_18 hwp
  · have hwp := ite_f (not_not_intro h) hwp
    refine kw_iconst (v := -1) (pc := 10) X d_S_waiting_10 (by decide) ?_
    refine kw_goto (tgt := 18) (pc := 11) X d_S_waiting_11 (by decide) ?_
    exact krp_i (pc := 18) X hret d_S_waiting_18 hwp
set_option maxRecDepth 100000 in
set_option maxHeartbeats 4000000 in
theorem c_S_waiting (l : Launch) (t : TY) (G : GS) (a0 : Nat) (p1 : Int32) (K : Int32 → Prop) : Met l y_S_waiting (Cond.code y_S_waiting b_S_waiting 3 (Option.some Jvm.ClassFile.FieldType.int) :: GW) rm_S_waiting (va_Pc [.ref a0, .int p1] (fun U => HB t G U.heap ∧ HK t U ∧ w_S_waiting t G a0 p1 K)) (vp_Si K) 0 0 (fun _ => False) := by
  refine Met.ofW (cc := b_S_waiting) (maxL := 3) (ret := some .int) (by decide) rfl ?_
  intro p e s m args below meth c s₁ B hml hv
  obtain ⟨rfl, hB, hK, hwp⟩ := hv
  have hts := atoms_spec (ws := Cond.code y_S_waiting b_S_waiting 3 (Option.some Jvm.ClassFile.FieldType.int) :: GW) B.pre
  have X : kX p s m _ meth c b_S_waiting 3 "TreeServer" t := ⟨B.exec, B.bytes, hml, findClass_of_methodNamed B.named, fun w h => hts w (List.mem_cons_of_mem _ h), B.notSynchronized, hK⟩
  have hZ : kZ t true s G s.heap [] := ⟨hB, va_S.rf, fun _ => ⟨rfl, rfl⟩⟩
  rw [lg_entry_eq]
  have hl := lv_entry ([.ref a0, .int p1]) (n := 3) (by simp [lg_sl, rf_cat, cat_i, cat_l, cat_r])
  exact k_S_waiting X B.returns _ hwp s.heap [] _ hl hZ
abbrev b_Link_takeOutput : ByteArray := prog_6_method_7_code
def y_Link_takeOutput : MethodName := ⟨"TreeServer$Link", "takeOutput", "()J"⟩
theorem d_Link_takeOutput_0 : decode b_Link_takeOutput 0 = .ok (.bipush 8, 2) := by decide +kernel
theorem d_Link_takeOutput_2 : decode b_Link_takeOutput 2 = .ok (.aload_n 0, 1) := by decide +kernel
theorem d_Link_takeOutput_3 : decode b_Link_takeOutput 3 = .ok (.getfield 37, 3) := by decide +kernel
theorem d_Link_takeOutput_6 : decode b_Link_takeOutput 6 = .ok (.invokestatic 56, 3) := by decide +kernel
theorem d_Link_takeOutput_9 : decode b_Link_takeOutput 9 = .ok (.istore_n 1, 1) := by decide +kernel
theorem d_Link_takeOutput_10 : decode b_Link_takeOutput 10 = .ok (.lconst 0, 1) := by decide +kernel
theorem d_Link_takeOutput_11 : decode b_Link_takeOutput 11 = .ok (.lstore_n 2, 1) := by decide +kernel
theorem d_Link_takeOutput_12 : decode b_Link_takeOutput 12 = .ok (.iconst 0, 1) := by decide +kernel
theorem d_Link_takeOutput_13 : decode b_Link_takeOutput 13 = .ok (.istore 4, 2) := by decide +kernel
theorem d_Link_takeOutput_15 : decode b_Link_takeOutput 15 = .ok (.iload 4, 2) := by decide +kernel
theorem d_Link_takeOutput_17 : decode b_Link_takeOutput 17 = .ok (.iload_n 1, 1) := by decide +kernel
theorem d_Link_takeOutput_18 : decode b_Link_takeOutput 18 = .ok (.if_icmp .ge 30, 3) := by decide +kernel
theorem d_Link_takeOutput_21 : decode b_Link_takeOutput 21 = .ok (.lload_n 2, 1) := by decide +kernel
theorem d_Link_takeOutput_22 : decode b_Link_takeOutput 22 = .ok (.aload_n 0, 1) := by decide +kernel
theorem d_Link_takeOutput_23 : decode b_Link_takeOutput 23 = .ok (.getfield 15, 3) := by decide +kernel
theorem d_Link_takeOutput_26 : decode b_Link_takeOutput 26 = .ok (.iload 4, 2) := by decide +kernel
theorem d_Link_takeOutput_28 : decode b_Link_takeOutput 28 = .ok (.baload, 1) := by decide +kernel
theorem d_Link_takeOutput_29 : decode b_Link_takeOutput 29 = .ok (.i2l, 1) := by decide +kernel
theorem d_Link_takeOutput_30 : decode b_Link_takeOutput 30 = .ok (.ldc2_w 62, 3) := by decide +kernel
theorem d_Link_takeOutput_33 : decode b_Link_takeOutput 33 = .ok (.land, 1) := by decide +kernel
theorem d_Link_takeOutput_34 : decode b_Link_takeOutput 34 = .ok (.bipush 8, 2) := by decide +kernel
theorem d_Link_takeOutput_36 : decode b_Link_takeOutput 36 = .ok (.iload 4, 2) := by decide +kernel
theorem d_Link_takeOutput_38 : decode b_Link_takeOutput 38 = .ok (.imul, 1) := by decide +kernel
theorem d_Link_takeOutput_39 : decode b_Link_takeOutput 39 = .ok (.lshl, 1) := by decide +kernel
theorem d_Link_takeOutput_40 : decode b_Link_takeOutput 40 = .ok (.lor, 1) := by decide +kernel
theorem d_Link_takeOutput_41 : decode b_Link_takeOutput 41 = .ok (.lstore_n 2, 1) := by decide +kernel
theorem d_Link_takeOutput_42 : decode b_Link_takeOutput 42 = .ok (.iinc 4 1, 3) := by decide +kernel
theorem d_Link_takeOutput_45 : decode b_Link_takeOutput 45 = .ok (.goto (-30), 3) := by decide +kernel
theorem d_Link_takeOutput_48 : decode b_Link_takeOutput 48 = .ok (.aload_n 0, 1) := by decide +kernel
theorem d_Link_takeOutput_49 : decode b_Link_takeOutput 49 = .ok (.getfield 15, 3) := by decide +kernel
theorem d_Link_takeOutput_52 : decode b_Link_takeOutput 52 = .ok (.iload_n 1, 1) := by decide +kernel
theorem d_Link_takeOutput_53 : decode b_Link_takeOutput 53 = .ok (.aload_n 0, 1) := by decide +kernel
theorem d_Link_takeOutput_54 : decode b_Link_takeOutput 54 = .ok (.getfield 15, 3) := by decide +kernel
theorem d_Link_takeOutput_57 : decode b_Link_takeOutput 57 = .ok (.iconst 0, 1) := by decide +kernel
theorem d_Link_takeOutput_58 : decode b_Link_takeOutput 58 = .ok (.aload_n 0, 1) := by decide +kernel
theorem d_Link_takeOutput_59 : decode b_Link_takeOutput 59 = .ok (.getfield 37, 3) := by decide +kernel
theorem d_Link_takeOutput_62 : decode b_Link_takeOutput 62 = .ok (.iload_n 1, 1) := by decide +kernel
theorem d_Link_takeOutput_63 : decode b_Link_takeOutput 63 = .ok (.isub, 1) := by decide +kernel
theorem d_Link_takeOutput_64 : decode b_Link_takeOutput 64 = .ok (.invokestatic 50, 3) := by decide +kernel
theorem d_Link_takeOutput_67 : decode b_Link_takeOutput 67 = .ok (.aload_n 0, 1) := by decide +kernel
theorem d_Link_takeOutput_68 : decode b_Link_takeOutput 68 = .ok (.dup, 1) := by decide +kernel
theorem d_Link_takeOutput_69 : decode b_Link_takeOutput 69 = .ok (.getfield 37, 3) := by decide +kernel
theorem d_Link_takeOutput_72 : decode b_Link_takeOutput 72 = .ok (.iload_n 1, 1) := by decide +kernel
theorem d_Link_takeOutput_73 : decode b_Link_takeOutput 73 = .ok (.isub, 1) := by decide +kernel
theorem d_Link_takeOutput_74 : decode b_Link_takeOutput 74 = .ok (.putfield 37, 3) := by decide +kernel
theorem d_Link_takeOutput_77 : decode b_Link_takeOutput 77 = .ok (.lload_n 2, 1) := by decide +kernel
theorem d_Link_takeOutput_78 : decode b_Link_takeOutput 78 = .ok (.lreturn, 1) := by decide +kernel
abbrev rm_Link_takeOutput : Room := { frames := 1, cells := 0, slots := 0, locals := 26 }
set_option maxRecDepth 100000 in
set_option maxHeartbeats 4000000 in
theorem k_Link_takeOutput_15 {p : Program} {l : Launch} {e : Env} {s : State} {m : MethodId} {args : Array Value} {below : List Frame} {meth : Method} {c : Code} {t : TY} {a0 : Nat} {K : GS → Int64 → Prop} (X : kX p s m args meth c b_Link_takeOutput 5 "TreeServer$Link" t) (hret : meth.sig.returnType = some .long) : ∀ (n : Nat) (l1 : Int32) (l2 : Int64) (l4 : Int32) (G : GS), w_Link_takeOutput_15 t a0 K n l1 l2 l4 G → kW p l e rm_Link_takeOutput s m args below meth c (MQ below (va_Ql (fun r (u : GS) => K u r) (fun u T => HB t u T.heap) (tA t)) args s 0 0 (tA t)) 5 t false 15 [(0, va_rf (some a0)), (1, .int l1), (2, .long l2), (4, .int l4)] [] G := by
  intro n
  induction n with
  | zero => intro l1 l2 l4 G hwp; exact hwp.elim
  | succ n hr_15 =>
    intro l1 l2 l4 G hwp
    unfold w_Link_takeOutput_15 at hwp
    dsimp only at hwp
    refine kw_iload (pc := 15) X d_Link_takeOutput_15 3 rfl ?_
    refine kw_iload_n (pc := 17) X d_Link_takeOutput_17 rfl 1 rfl ?_
    refine kw_icmp_ge (tgt := 48) (pc := 18) X d_Link_takeOutput_18 (by decide) (fun h => ?_) (fun h => ?_)
    · have hwp := ite_t h hwp
      refine kw_aload_n (pc := 48) X d_Link_takeOutput_48 rfl 0 rfl ?_
      obtain ⟨f1, hwp⟩ := hwp
      refine kg_57 (a := a0) (pc := 49) X d_Link_takeOutput_49 x_335 rfl f1 ?_
      refine kw_iload_n (pc := 52) X d_Link_takeOutput_52 rfl 1 rfl ?_
      refine kw_aload_n (pc := 53) X d_Link_takeOutput_53 rfl 0 rfl ?_
      refine kg_57 (a := a0) (pc := 54) X d_Link_takeOutput_54 x_335 rfl f1 ?_
      refine kw_iconst (v := 0) (pc := 57) X d_Link_takeOutput_57 (by decide) ?_
      refine kw_aload_n (pc := 58) X d_Link_takeOutput_58 rfl 0 rfl ?_
      refine kg_58 (a := a0) (pc := 59) X d_Link_takeOutput_59 x_337 rfl f1 ?_
      refine kw_iload_n (pc := 62) X d_Link_takeOutput_62 rfl 1 rfl ?_
      refine kw_isub (pc := 63) X d_Link_takeOutput_63 ?_
      obtain ⟨a2, h_a2, hwp⟩ := hwp
      obtain ⟨f3, hwp⟩ := hwp
      obtain ⟨f4, hwp⟩ := hwp
      refine ka_copy (a := a2) (b := a2) (pc := 64) X rfl d_Link_takeOutput_64 x_537 x_495 x_494 x_14 (by decide) (by decide) h_a2 h_a2 f3 f3 f4 ?_
      obtain ⟨G5, e_G5⟩ : ∃ g, g = acB G a2 a2 l1 (0 : Int32) ((gi G 58 a0) - l1) := ⟨_, rfl⟩
      have hwp := hwp G5 e_G5
      refine kW.g e_G5.symm ?_
      refine kw_aload_n (pc := 67) X d_Link_takeOutput_67 rfl 0 rfl ?_
      refine kw_dup (pc := 68) X d_Link_takeOutput_68 rfl ?_
      refine kg_58 (a := a0) (pc := 69) X d_Link_takeOutput_69 x_337 rfl f1 ?_
      refine kw_iload_n (pc := 72) X d_Link_takeOutput_72 rfl 1 rfl ?_
      refine kw_isub (pc := 73) X d_Link_takeOutput_73 ?_
      refine kp_58 (a := a0) (x := ((gi G5 58 a0) - l1)) (pc := 74) X rfl d_Link_takeOutput_74 x_337 rfl f1 ?_
      obtain ⟨G6, e_G6⟩ : ∃ g, g = si G5 58 a0 ((gi G5 58 a0) - l1) := ⟨_, rfl⟩
      have hwp := hwp G6 e_G6
      refine kW.g e_G6.symm ?_
      refine kw_lload_n (pc := 77) X d_Link_takeOutput_77 rfl 2 rfl ?_
      exact kr_l (pc := 78) X hret d_Link_takeOutput_78 hwp
    · have hwp := ite_f h hwp
      refine kw_lload_n (pc := 21) X d_Link_takeOutput_21 rfl 2 rfl ?_
      refine kw_aload_n (pc := 22) X d_Link_takeOutput_22 rfl 0 rfl ?_
      obtain ⟨f7, hwp⟩ := hwp
      refine kg_57 (a := a0) (pc := 23) X d_Link_takeOutput_23 x_335 rfl f7 ?_
      refine kw_iload (pc := 26) X d_Link_takeOutput_26 3 rfl ?_
      obtain ⟨a8, h_a8, hwp⟩ := hwp
      obtain ⟨f9, hwp⟩ := hwp
      obtain ⟨f10, hwp⟩ := hwp
      refine ka_bald (a := a8) (pc := 28) X d_Link_takeOutput_28 h_a8 f9 f10 ?_
      refine kw_i2l (pc := 29) X d_Link_takeOutput_29 ?_
      refine kw_ldc2 (v := 255) (pc := 30) X d_Link_takeOutput_30 x_418 ?_
      refine kw_land (pc := 33) X d_Link_takeOutput_33 ?_
      refine kw_bipush (v := 8) (pc := 34) X d_Link_takeOutput_34 (by decide) ?_
      refine kw_iload (pc := 36) X d_Link_takeOutput_36 3 rfl ?_
      refine kw_imul (pc := 38) X d_Link_takeOutput_38 ?_
      refine kw_lshl (pc := 39) X d_Link_takeOutput_39 ?_
      refine kw_lor (pc := 40) X d_Link_takeOutput_40 ?_
      obtain ⟨v11, e_v11⟩ : ∃ z, z = (l2 ||| (((ai G a8 l4.toNatClampNeg).toInt64 &&& (255 : Int64)) <<< (((8 : Int32) * l4).toInt64 &&& 63))) := ⟨_, rfl⟩
      have hwp := hwp v11 e_v11
      refine kW.st (st' := .long v11 :: _) (by rw [e_v11]) ?_
      refine kw_lstore_n (i := 2) (lv' := [(2, .long v11), (0, va_rf (some a0)), (1, .int l1), (4, .int l4)]) (pc := 41) X d_Link_takeOutput_41 rfl (by decide) rfl ?_
      obtain ⟨v12, e_v12⟩ : ∃ z, z = (l4 + (1 : Int32)) := ⟨_, rfl⟩
      have hwp := hwp v12 e_v12
      refine kw_iinc (v := v12) (lv' := [(4, .int v12), (2, .long v11), (0, va_rf (some a0)), (1, .int l1)]) (pc := 42) X d_Link_takeOutput_42 3 rfl (by rw [e_v12]; rfl) (by decide) rfl ?_
      refine kw_goto (tgt := 15) (pc := 45) X d_Link_takeOutput_45 (by decide) ?_
      exact kW.sub [2, 3, 1, 0] rfl (hr_15 _ _ _ _ hwp)
set_option maxRecDepth 100000 in
set_option maxHeartbeats 4000000 in
theorem k_Link_takeOutput {p : Program} {l : Launch} {e : Env} {s : State} {m : MethodId} {args : Array Value} {below : List Frame} {meth : Method} {c : Code} {t : TY} {a0 : Nat} {K : GS → Int64 → Prop} (X : kX p s m args meth c b_Link_takeOutput 5 "TreeServer$Link" t) (hret : meth.sig.returnType = some .long) (G : GS)  (hwp : w_Link_takeOutput t G a0 K) : kW p l e rm_Link_takeOutput s m args below meth c (MQ below (va_Ql (fun r (u : GS) => K u r) (fun u T => HB t u T.heap) (tA t)) args s 0 0 (tA t)) 5 t false 0 [(0, va_rf (some a0))] [] G := by
  unfold w_Link_takeOutput at hwp
  refine kw_bipush (v := 8) (pc := 0) X d_Link_takeOutput_0 (by decide) ?_
  refine kw_aload_n (pc := 2) X d_Link_takeOutput_2 rfl 0 rfl ?_
  obtain ⟨f1, hwp⟩ := hwp
  refine kg_58 (a := a0) (pc := 3) X d_Link_takeOutput_3 x_337 rfl f1 ?_
  refine km_min (pc := 6) X d_Link_takeOutput_6 x_929 x_806 x_15 x_807 (by decide) (by decide) ?_
  obtain ⟨v2, e_v2⟩ : ∃ z, z = (imin (8 : Int32) (gi G 58 a0)) := ⟨_, rfl⟩
  have hwp := hwp v2 e_v2
  refine kW.st (st' := .int v2 :: _) (by rw [e_v2]) ?_
  refine kw_istore_n (i := 1) (lv' := [(1, .int v2), (0, va_rf (some a0))]) (pc := 9) X d_Link_takeOutput_9 rfl (by decide) rfl ?_
  refine kw_lconst (v := 0) (pc := 10) X d_Link_takeOutput_10 (by decide) ?_
  refine kw_lstore_n (i := 2) (lv' := [(2, .long (0 : Int64)), (1, .int v2), (0, va_rf (some a0))]) (pc := 11) X d_Link_takeOutput_11 rfl (by decide) rfl ?_
  refine kw_iconst (v := 0) (pc := 12) X d_Link_takeOutput_12 (by decide) ?_
  refine kw_istore (i := 4) (lv' := [(4, .int (0 : Int32)), (2, .long (0 : Int64)), (1, .int v2), (0, va_rf (some a0))]) (pc := 13) X d_Link_takeOutput_13 (by decide) rfl ?_
  obtain ⟨n, hwp⟩ := hwp
  exact kW.sub [3, 2, 1, 0] rfl (k_Link_takeOutput_15 X hret  n _ _ _ _ hwp)
set_option maxRecDepth 100000 in
set_option maxHeartbeats 4000000 in
theorem c_Link_takeOutput (l : Launch) (t : TY) (G : GS) (a0 : Nat) (K : GS → Int64 → Prop) : Met l y_Link_takeOutput (Cond.code y_Link_takeOutput b_Link_takeOutput 5 (Option.some Jvm.ClassFile.FieldType.long) :: GW) rm_Link_takeOutput (va_Pc [.ref a0] (fun U => HB t G U.heap ∧ HK t U ∧ w_Link_takeOutput t G a0 K)) (va_Ql (fun r (u : GS) => K u r) (fun u T => HB t u T.heap) (tA t)) 0 0 (tA t) := by
  refine Met.ofW (cc := b_Link_takeOutput) (maxL := 5) (ret := some .long) (by decide) rfl ?_
  intro p e s m args below meth c s₁ B hml hv
  obtain ⟨rfl, hB, hK, hwp⟩ := hv
  have hts := atoms_spec (ws := Cond.code y_Link_takeOutput b_Link_takeOutput 5 (Option.some Jvm.ClassFile.FieldType.long) :: GW) B.pre
  have X : kX p s m _ meth c b_Link_takeOutput 5 "TreeServer$Link" t := ⟨B.exec, B.bytes, hml, findClass_of_methodNamed B.named, fun w h => hts w (List.mem_cons_of_mem _ h), B.notSynchronized, hK⟩
  have hZ : kZ t false s G s.heap [] := ⟨hB, va_S.rf, fun _ => ⟨rfl, rfl⟩⟩
  rw [lg_entry_eq]
  have hl := lv_entry ([.ref a0]) (n := 5) (by simp [lg_sl, rf_cat, cat_i, cat_l, cat_r])
  exact k_Link_takeOutput X B.returns _ hwp s.heap [] _ hl hZ
abbrev b_S_take : ByteArray := prog_1_method_4_code
def y_S_take : MethodName := ⟨"TreeServer", "take", "(I)J"⟩
theorem d_S_take_0 : decode b_S_take 0 = .ok (.aload_n 0, 1) := by decide +kernel
theorem d_S_take_1 : decode b_S_take 1 = .ok (.iload_n 1, 1) := by decide +kernel
theorem d_S_take_2 : decode b_S_take 2 = .ok (.invokevirtual 51, 3) := by decide +kernel
theorem d_S_take_5 : decode b_S_take 5 = .ok (.astore_n 2, 1) := by decide +kernel
theorem d_S_take_6 : decode b_S_take 6 = .ok (.aload_n 2, 1) := by decide +kernel
theorem d_S_take_7 : decode b_S_take 7 = .ok (.ifnonnull 5, 3) := by decide +kernel
theorem d_S_take_10 : decode b_S_take 10 = .ok (.lconst 0, 1) := by decide +kernel
theorem d_S_take_11 : decode b_S_take 11 = .ok (.lreturn, 1) := by decide +kernel
theorem d_S_take_12 : decode b_S_take 12 = .ok (.aload_n 2, 1) := by decide +kernel
theorem d_S_take_13 : decode b_S_take 13 = .ok (.invokevirtual 75, 3) := by decide +kernel
theorem d_S_take_16 : decode b_S_take 16 = .ok (.lstore_n 3, 1) := by decide +kernel
theorem d_S_take_17 : decode b_S_take 17 = .ok (.aload_n 0, 1) := by decide +kernel
theorem d_S_take_18 : decode b_S_take 18 = .ok (.aload_n 2, 1) := by decide +kernel
theorem d_S_take_19 : decode b_S_take 19 = .ok (.invokevirtual 67, 3) := by decide +kernel
theorem d_S_take_22 : decode b_S_take 22 = .ok (.lload_n 3, 1) := by decide +kernel
theorem d_S_take_23 : decode b_S_take 23 = .ok (.lreturn, 1) := by decide +kernel
abbrev rm_S_take : Room := { frames := 10, cells := 0, slots := 0, locals := 246 }
set_option maxRecDepth 100000 in
set_option maxHeartbeats 4000000 in
theorem k_S_take {p : Program} {l : Launch} {e : Env} {s : State} {m : MethodId} {args : Array Value} {below : List Frame} {meth : Method} {c : Code} {t : TY} {a0 : Nat} {K : GS → Int64 → Prop} (X : kX p s m args meth c b_S_take 5 "TreeServer" t) (hret : meth.sig.returnType = some .long) (G : GS) (p1 : Int32) (hwp : w_S_take t G a0 p1 K) : kW p l e rm_S_take s m args below meth c (MQ below (va_Ql (fun r (u : GS) => K u r) (fun u T => HB t u T.heap) (tA t)) args s 0 0 (tA t)) 5 t false 0 [(0, va_rf (some a0)), (1, .int p1)] [] G := by
  unfold w_S_take at hwp
  refine kw_aload_n (pc := 0) X d_S_take_0 rfl 0 rfl ?_
  refine kw_iload_n (pc := 1) X d_S_take_1 rfl 1 rfl ?_
  obtain ⟨f1, hwp⟩ := hwp
  refine kcVp_q (n := 1) (As := [.int p1]) (rest := []) (pc := 2) X (c_S_linkOf l t G a0 p1 _) (cwV_of (C := "TreeServer") X x_393 x_390 x_392 xp_0 x_1 (by decide +kernel) ⟨rfl, rfl⟩ (by decide)) (rv_9 X f1) rfl rfl (by decide) d_S_take_2 hwp (fun x2 hwp => ?_)
  refine kw_astore_n (i := 2) (lv' := [(2, va_rf x2), (0, va_rf (some a0)), (1, .int p1)]) (pc := 5) X d_S_take_5 rfl (by decide) rfl ?_
  refine kw_aload_n (pc := 6) X d_S_take_6 rfl 0 rfl ?_
  refine kw_ifnonnull (tgt := 12) (pc := 7) X d_S_take_7 (by decide) (fun h => ?_) (fun h => ?_)
  · have hwp := ite_t h hwp
    refine kw_aload_n (pc := 12) X d_S_take_12 rfl 0 rfl ?_
    obtain ⟨a3, h_a3, hwp⟩ := hwp
    obtain ⟨f4, hwp⟩ := hwp
    refine kW.st (st' := [.ref a3]) (by simp only [h_a3]; rfl) ?_
    refine kcV_l (n := 0) (As := []) (rest := []) (pc := 13) X rfl (c_Link_takeOutput l t G a3 _) (cwV_of (C := "TreeServer$Link") X x_928 x_925 x_926 x_927 x_11 (by decide +kernel) ⟨rfl, rfl⟩ (by decide)) (rv_8 X f4) rfl rfl (by decide) d_S_take_13 hwp (fun v6 G5 hwp => ?_)
    refine kw_lstore_n (i := 3) (lv' := [(3, .long v6), (2, va_rf x2), (0, va_rf (some a0)), (1, .int p1)]) (pc := 16) X d_S_take_16 rfl (by decide) (by simp [rf_cat, cat_i, cat_l, cat_r]) ?_
    refine kw_aload_n (pc := 17) X d_S_take_17 rfl 2 rfl ?_
    refine kw_aload_n (pc := 18) X d_S_take_18 rfl 1 rfl ?_
    refine kW.st (st' := [.ref a3, .ref a0]) (by simp only [h_a3]; rfl) ?_
    refine kcV_v (n := 1) (As := [.ref a3]) (rest := []) (pc := 19) X rfl (c_S_serve l t G5 a0 a3 _) (cwV_of (C := "TreeServer") X x_405 x_402 x_404 xp_1 x_1 (by decide +kernel) ⟨rfl, rfl⟩ (by decide)) (rv_9 X f1) rfl rfl (by decide) d_S_take_19 hwp (fun G7 hwp => ?_)
    refine kw_lload_n (pc := 22) X d_S_take_22 rfl 0 rfl ?_
    exact kr_l (pc := 23) X hret d_S_take_23 hwp
  · have hwp := ite_f (not_not_intro h) hwp
    refine kw_lconst (v := 0) (pc := 10) X d_S_take_10 (by decide) ?_
    exact kr_l (pc := 11) X hret d_S_take_11 hwp
set_option maxRecDepth 100000 in
set_option maxHeartbeats 4000000 in
theorem c_S_take (l : Launch) (t : TY) (G : GS) (a0 : Nat) (p1 : Int32) (K : GS → Int64 → Prop) : Met l y_S_take (Cond.code y_S_take b_S_take 5 (Option.some Jvm.ClassFile.FieldType.long) :: GW) rm_S_take (va_Pc [.ref a0, .int p1] (fun U => HB t G U.heap ∧ HK t U ∧ w_S_take t G a0 p1 K)) (va_Ql (fun r (u : GS) => K u r) (fun u T => HB t u T.heap) (tA t)) 0 0 (tA t) := by
  refine Met.ofW (cc := b_S_take) (maxL := 5) (ret := some .long) (by decide) rfl ?_
  intro p e s m args below meth c s₁ B hml hv
  obtain ⟨rfl, hB, hK, hwp⟩ := hv
  have hts := atoms_spec (ws := Cond.code y_S_take b_S_take 5 (Option.some Jvm.ClassFile.FieldType.long) :: GW) B.pre
  have X : kX p s m _ meth c b_S_take 5 "TreeServer" t := ⟨B.exec, B.bytes, hml, findClass_of_methodNamed B.named, fun w h => hts w (List.mem_cons_of_mem _ h), B.notSynchronized, hK⟩
  have hZ : kZ t false s G s.heap [] := ⟨hB, va_S.rf, fun _ => ⟨rfl, rfl⟩⟩
  rw [lg_entry_eq]
  have hl := lv_entry ([.ref a0, .int p1]) (n := 5) (by simp [lg_sl, rf_cat, cat_i, cat_l, cat_r])
  exact k_S_take X B.returns _ _ hwp s.heap [] _ hl hZ
abbrev b_S_hangup : ByteArray := prog_1_method_5_code
def y_S_hangup : MethodName := ⟨"TreeServer", "hangup", "(I)Z"⟩
theorem d_S_hangup_0 : decode b_S_hangup 0 = .ok (.aload_n 0, 1) := by decide +kernel
theorem d_S_hangup_1 : decode b_S_hangup 1 = .ok (.iload_n 1, 1) := by decide +kernel
theorem d_S_hangup_2 : decode b_S_hangup 2 = .ok (.invokevirtual 51, 3) := by decide +kernel
theorem d_S_hangup_5 : decode b_S_hangup 5 = .ok (.astore_n 2, 1) := by decide +kernel
theorem d_S_hangup_6 : decode b_S_hangup 6 = .ok (.aload_n 2, 1) := by decide +kernel
theorem d_S_hangup_7 : decode b_S_hangup 7 = .ok (.ifnull 13, 3) := by decide +kernel
theorem d_S_hangup_10 : decode b_S_hangup 10 = .ok (.aload_n 0, 1) := by decide +kernel
theorem d_S_hangup_11 : decode b_S_hangup 11 = .ok (.getfield 19, 3) := by decide +kernel
theorem d_S_hangup_14 : decode b_S_hangup 14 = .ok (.getfield 55, 3) := by decide +kernel
theorem d_S_hangup_17 : decode b_S_hangup 17 = .ok (.ifCond .ne 5, 3) := by decide +kernel
theorem d_S_hangup_20 : decode b_S_hangup 20 = .ok (.iconst 0, 1) := by decide +kernel
theorem d_S_hangup_21 : decode b_S_hangup 21 = .ok (.ireturn, 1) := by decide +kernel
theorem d_S_hangup_22 : decode b_S_hangup 22 = .ok (.aload_n 0, 1) := by decide +kernel
theorem d_S_hangup_23 : decode b_S_hangup 23 = .ok (.aload_n 2, 1) := by decide +kernel
theorem d_S_hangup_24 : decode b_S_hangup 24 = .ok (.invokevirtual 79, 3) := by decide +kernel
theorem d_S_hangup_27 : decode b_S_hangup 27 = .ok (.aload_n 2, 1) := by decide +kernel
theorem d_S_hangup_28 : decode b_S_hangup 28 = .ok (.invokevirtual 82, 3) := by decide +kernel
theorem d_S_hangup_31 : decode b_S_hangup 31 = .ok (.iconst 1, 1) := by decide +kernel
theorem d_S_hangup_32 : decode b_S_hangup 32 = .ok (.ireturn, 1) := by decide +kernel
abbrev rm_S_hangup : Room := { frames := 5, cells := 0, slots := 0, locals := 115 }
set_option maxRecDepth 100000 in
set_option maxHeartbeats 4000000 in
theorem k_S_hangup {p : Program} {l : Launch} {e : Env} {s : State} {m : MethodId} {args : Array Value} {below : List Frame} {meth : Method} {c : Code} {t : TY} {a0 : Nat} {K : GS → Int32 → Prop} (X : kX p s m args meth c b_S_hangup 3 "TreeServer" t) (hret : meth.sig.returnType = some .boolean) (G : GS) (p1 : Int32) (hwp : w_S_hangup t G a0 p1 K) : kW p l e rm_S_hangup s m args below meth c (MQ below (va_Qi (fun r (u : GS) => isB r ∧ K u r) (fun u T => HB t u T.heap) (tA t)) args s 0 0 (tA t)) 3 t false 0 [(0, va_rf (some a0)), (1, .int p1)] [] G := by
  unfold w_S_hangup at hwp
  refine kw_aload_n (pc := 0) X d_S_hangup_0 rfl 0 rfl ?_
  refine kw_iload_n (pc := 1) X d_S_hangup_1 rfl 1 rfl ?_
  obtain ⟨f1, hwp⟩ := hwp
  refine kcVp_q (n := 1) (As := [.int p1]) (rest := []) (pc := 2) X (c_S_linkOf l t G a0 p1 _) (cwV_of (C := "TreeServer") X x_393 x_390 x_392 xp_0 x_1 (by decide +kernel) ⟨rfl, rfl⟩ (by decide)) (rv_9 X f1) rfl rfl (by decide) d_S_hangup_2 hwp (fun x2 hwp => ?_)
  refine kw_astore_n (i := 2) (lv' := [(2, va_rf x2), (0, va_rf (some a0)), (1, .int p1)]) (pc := 5) X d_S_hangup_5 rfl (by decide) rfl ?_
  refine kw_aload_n (pc := 6) X d_S_hangup_6 rfl 0 rfl ?_
  refine kw_ifnull (tgt := 20) (pc := 7) X d_S_hangup_7 (by decide) (fun h => ?_) (fun h => ?_)
  · have hwp := ite_t h hwp
    refine kw_iconst (v := 0) (pc := 20) X d_S_hangup_20 (by decide) ?_
    exact kr_z (pc := 21) X hret d_S_hangup_21 (Or.inl rfl) hwp
  · have hwp := ite_f h hwp
    refine kw_aload_n (pc := 10) X d_S_hangup_10 rfl 1 rfl ?_
    refine kg_64 (a := a0) (pc := 11) X d_S_hangup_11 x_365 rfl f1 ?_
    obtain ⟨a3, h_a3, hwp⟩ := hwp
    obtain ⟨f4, hwp⟩ := hwp
    refine kg_19 (a := a3) (pc := 14) X d_S_hangup_14 x_146 h_a3 f4 ?_
    refine kw_if_ne (tgt := 22) (pc := 17) X d_S_hangup_17 (by decide) (fun h => ?_) (fun h => ?_)
    · have hwp := ite_t h hwp
      refine kw_aload_n (pc := 22) X d_S_hangup_22 rfl 1 rfl ?_
      refine kw_aload_n (pc := 23) X d_S_hangup_23 rfl 0 rfl ?_
      obtain ⟨a5, h_a5, hwp⟩ := hwp
      refine kW.st (st' := [.ref a5, .ref a0]) (by simp only [h_a5]; rfl) ?_
      refine kcV_v (n := 1) (As := [.ref a5]) (rest := []) (pc := 24) X rfl (c_S_releaseAll l t G a0 a5 _) (cwV_of (C := "TreeServer") X x_423 x_420 x_422 xp_3 x_1 (by decide +kernel) ⟨rfl, rfl⟩ (by decide)) (rv_9 X f1) rfl rfl (by decide) d_S_hangup_24 hwp (fun G6 hwp => ?_)
      refine kw_aload_n (pc := 27) X d_S_hangup_27 rfl 0 rfl ?_
      obtain ⟨f7, hwp⟩ := hwp
      refine kW.st (st' := [.ref a5]) (by simp only [h_a5]; rfl) ?_
      refine kcV_v (n := 0) (As := []) (rest := []) (pc := 28) X rfl (c_Link_reset l t G6 a5 _) (cwV_of (C := "TreeServer$Link") X x_514 x_511 x_512 x_513 x_11 (by decide +kernel) ⟨rfl, rfl⟩ (by decide)) (rv_8 X f7) rfl rfl (by decide) d_S_hangup_28 hwp (fun G8 hwp => ?_)
      refine kw_iconst (v := 1) (pc := 31) X d_S_hangup_31 (by decide) ?_
      exact kr_z (pc := 32) X hret d_S_hangup_32 (Or.inr rfl) hwp
    · have hwp := ite_f (not_not_intro h) hwp
      refine kw_iconst (v := 0) (pc := 20) X d_S_hangup_20 (by decide) ?_
      exact kr_z (pc := 21) X hret d_S_hangup_21 (Or.inl rfl) hwp
set_option maxRecDepth 100000 in
set_option maxHeartbeats 4000000 in
theorem c_S_hangup (l : Launch) (t : TY) (G : GS) (a0 : Nat) (p1 : Int32) (K : GS → Int32 → Prop) : Met l y_S_hangup (Cond.code y_S_hangup b_S_hangup 3 (Option.some Jvm.ClassFile.FieldType.boolean) :: GW) rm_S_hangup (va_Pc [.ref a0, .int p1] (fun U => HB t G U.heap ∧ HK t U ∧ w_S_hangup t G a0 p1 K)) (va_Qi (fun r (u : GS) => isB r ∧ K u r) (fun u T => HB t u T.heap) (tA t)) 0 0 (tA t) := by
  refine Met.ofW (cc := b_S_hangup) (maxL := 3) (ret := some .boolean) (by decide) rfl ?_
  intro p e s m args below meth c s₁ B hml hv
  obtain ⟨rfl, hB, hK, hwp⟩ := hv
  have hts := atoms_spec (ws := Cond.code y_S_hangup b_S_hangup 3 (Option.some Jvm.ClassFile.FieldType.boolean) :: GW) B.pre
  have X : kX p s m _ meth c b_S_hangup 3 "TreeServer" t := ⟨B.exec, B.bytes, hml, findClass_of_methodNamed B.named, fun w h => hts w (List.mem_cons_of_mem _ h), B.notSynchronized, hK⟩
  have hZ : kZ t false s G s.heap [] := ⟨hB, va_S.rf, fun _ => ⟨rfl, rfl⟩⟩
  rw [lg_entry_eq]
  have hl := lv_entry ([.ref a0, .int p1]) (n := 3) (by simp [lg_sl, rf_cat, cat_i, cat_l, cat_r])
  exact k_S_hangup X B.returns _ _ hwp s.heap [] _ hl hZ
abbrev b_S_status : ByteArray := prog_1_method_6_code
def y_S_status : MethodName := ⟨"TreeServer", "status", "(I)I"⟩
theorem d_S_status_0 : decode b_S_status 0 = .ok (.aload_n 0, 1) := by decide +kernel
theorem d_S_status_1 : decode b_S_status 1 = .ok (.iload_n 1, 1) := by decide +kernel
theorem d_S_status_2 : decode b_S_status 2 = .ok (.invokevirtual 51, 3) := by decide +kernel
theorem d_S_status_5 : decode b_S_status 5 = .ok (.astore_n 2, 1) := by decide +kernel
theorem d_S_status_6 : decode b_S_status 6 = .ok (.aload_n 2, 1) := by decide +kernel
theorem d_S_status_7 : decode b_S_status 7 = .ok (.ifnonnull 5, 3) := by decide +kernel
theorem d_S_status_10 : decode b_S_status 10 = .ok (.iconst (-1), 1) := by decide +kernel
theorem d_S_status_11 : decode b_S_status 11 = .ok (.ireturn, 1) := by decide +kernel
theorem d_S_status_12 : decode b_S_status 12 = .ok (.aload_n 2, 1) := by decide +kernel
theorem d_S_status_13 : decode b_S_status 13 = .ok (.getfield 85, 3) := by decide +kernel
theorem d_S_status_16 : decode b_S_status 16 = .ok (.ifCond .eq 5, 3) := by decide +kernel
theorem d_S_status_19 : decode b_S_status 19 = .ok (.iconst 2, 1) := by decide +kernel
theorem d_S_status_20 : decode b_S_status 20 = .ok (.ireturn, 1) := by decide +kernel
theorem d_S_status_21 : decode b_S_status 21 = .ok (.aload_n 2, 1) := by decide +kernel
theorem d_S_status_22 : decode b_S_status 22 = .ok (.getfield 88, 3) := by decide +kernel
theorem d_S_status_25 : decode b_S_status 25 = .ok (.ifCond .eq 7, 3) := by decide +kernel
theorem d_S_status_28 : decode b_S_status 28 = .ok (.iconst 1, 1) := by decide +kernel
theorem d_S_status_29 : decode b_S_status 29 = .ok (.goto 4, 3) := by decide +kernel
theorem d_S_status_32 : decode b_S_status 32 = .ok (.iconst 0, 1) := by decide +kernel
theorem d_S_status_33 : decode b_S_status 33 = .ok (.ireturn, 1) := by decide +kernel
abbrev rm_S_status : Room := { frames := 1, cells := 0, slots := 0, locals := 21 }
set_option maxRecDepth 100000 in
set_option maxHeartbeats 4000000 in
theorem k_S_status {p : Program} {l : Launch} {e : Env} {s : State} {m : MethodId} {args : Array Value} {below : List Frame} {meth : Method} {c : Code} {t : TY} {a0 : Nat} {G : GS} {K : Int32 → Prop} (X : kX p s m args meth c b_S_status 3 "TreeServer" t) (hret : meth.sig.returnType = some .int) (p1 : Int32) (hwp : w_S_status t G a0 p1 K) : kW p l e rm_S_status s m args below meth c (MQ below (vp_Si K) args s 0 0 (fun _ => False)) 3 t true 0 [(0, va_rf (some a0)), (1, .int p1)] [] G := by
  unfold w_S_status at hwp
  refine kw_aload_n (pc := 0) X d_S_status_0 rfl 0 rfl ?_
  refine kw_iload_n (pc := 1) X d_S_status_1 rfl 1 rfl ?_
  obtain ⟨f1, hwp⟩ := hwp
  refine kcVp_q (n := 1) (As := [.int p1]) (rest := []) (pc := 2) X (c_S_linkOf l t G a0 p1 _) (cwV_of (C := "TreeServer") X x_393 x_390 x_392 xp_0 x_1 (by decide +kernel) ⟨rfl, rfl⟩ (by decide)) (rv_9 X f1) rfl rfl (by decide) d_S_status_2 hwp (fun x2 hwp => ?_)
  refine kw_astore_n (i := 2) (lv' := [(2, va_rf x2), (0, va_rf (some a0)), (1, .int p1)]) (pc := 5) X d_S_status_5 rfl (by decide) rfl ?_
  refine kw_aload_n (pc := 6) X d_S_status_6 rfl 0 rfl ?_
  refine kw_ifnonnull (tgt := 12) (pc := 7) X d_S_status_7 (by decide) (fun h => ?_) (fun h => ?_)
  · have hwp := ite_t h hwp
    refine kw_aload_n (pc := 12) X d_S_status_12 rfl 0 rfl ?_
    obtain ⟨a3, h_a3, hwp⟩ := hwp
    obtain ⟨f4, hwp⟩ := hwp
    refine kg_61 (a := a3) (pc := 13) X d_S_status_13 x_345 h_a3 f4 ?_
    refine kw_if_eq (tgt := 21) (pc := 16) X d_S_status_16 (by decide) (fun h => ?_) (fun h => ?_)
    · have hwp := ite_t h hwp
      refine kw_aload_n (pc := 21) X d_S_status_21 rfl 0 rfl ?_
      refine kg_60 (a := a3) (pc := 22) X d_S_status_22 x_343 h_a3 f4 ?_
      refine kw_if_eq (tgt := 32) (pc := 25) X d_S_status_25 (by decide) (fun h => ?_) (fun h => ?_)
      · have hwp := ite_t h hwp
        refine kw_iconst (v := 0) (pc := 32) X d_S_status_32 (by decide) ?_
        exact krp_i (pc := 33) X hret d_S_status_33 hwp
      · have hwp := ite_f h hwp
        refine kw_iconst (v := 1) (pc := 28) X d_S_status_28 (by decide) ?_
        refine kw_goto (tgt := 33) (pc := 29) X d_S_status_29 (by decide) ?_
        exact krp_i (pc := 33) X hret d_S_status_33 hwp
    · have hwp := ite_f h hwp
      refine kw_iconst (v := 2) (pc := 19) X d_S_status_19 (by decide) ?_
      exact krp_i (pc := 20) X hret d_S_status_20 hwp
  · have hwp := ite_f (not_not_intro h) hwp
    refine kw_iconst (v := -1) (pc := 10) X d_S_status_10 (by decide) ?_
    exact krp_i (pc := 11) X hret d_S_status_11 hwp
set_option maxRecDepth 100000 in
set_option maxHeartbeats 4000000 in
theorem c_S_status (l : Launch) (t : TY) (G : GS) (a0 : Nat) (p1 : Int32) (K : Int32 → Prop) : Met l y_S_status (Cond.code y_S_status b_S_status 3 (Option.some Jvm.ClassFile.FieldType.int) :: GW) rm_S_status (va_Pc [.ref a0, .int p1] (fun U => HB t G U.heap ∧ HK t U ∧ w_S_status t G a0 p1 K)) (vp_Si K) 0 0 (fun _ => False) := by
  refine Met.ofW (cc := b_S_status) (maxL := 3) (ret := some .int) (by decide) rfl ?_
  intro p e s m args below meth c s₁ B hml hv
  obtain ⟨rfl, hB, hK, hwp⟩ := hv
  have hts := atoms_spec (ws := Cond.code y_S_status b_S_status 3 (Option.some Jvm.ClassFile.FieldType.int) :: GW) B.pre
  have X : kX p s m _ meth c b_S_status 3 "TreeServer" t := ⟨B.exec, B.bytes, hml, findClass_of_methodNamed B.named, fun w h => hts w (List.mem_cons_of_mem _ h), B.notSynchronized, hK⟩
  have hZ : kZ t true s G s.heap [] := ⟨hB, va_S.rf, fun _ => ⟨rfl, rfl⟩⟩
  rw [lg_entry_eq]
  have hl := lv_entry ([.ref a0, .int p1]) (n := 3) (by simp [lg_sl, rf_cat, cat_i, cat_l, cat_r])
  exact k_S_status X B.returns _ hwp s.heap [] _ hl hZ
abbrev b_Link_countFids : ByteArray := prog_6_method_14_code
def y_Link_countFids : MethodName := ⟨"TreeServer$Link", "countFids", "()I"⟩
theorem d_Link_countFids_0 : decode b_Link_countFids 0 = .ok (.iconst 0, 1) := by decide +kernel
theorem d_Link_countFids_1 : decode b_Link_countFids 1 = .ok (.istore_n 1, 1) := by decide +kernel
theorem d_Link_countFids_2 : decode b_Link_countFids 2 = .ok (.iconst 0, 1) := by decide +kernel
theorem d_Link_countFids_3 : decode b_Link_countFids 3 = .ok (.istore_n 2, 1) := by decide +kernel
theorem d_Link_countFids_4 : decode b_Link_countFids 4 = .ok (.iload_n 2, 1) := by decide +kernel
theorem d_Link_countFids_5 : decode b_Link_countFids 5 = .ok (.bipush 6, 2) := by decide +kernel
theorem d_Link_countFids_7 : decode b_Link_countFids 7 = .ok (.if_icmp .ge 24, 3) := by decide +kernel
theorem d_Link_countFids_10 : decode b_Link_countFids 10 = .ok (.aload_n 0, 1) := by decide +kernel
theorem d_Link_countFids_11 : decode b_Link_countFids 11 = .ok (.getfield 24, 3) := by decide +kernel
theorem d_Link_countFids_14 : decode b_Link_countFids 14 = .ok (.iload_n 2, 1) := by decide +kernel
theorem d_Link_countFids_15 : decode b_Link_countFids 15 = .ok (.aaload, 1) := by decide +kernel
theorem d_Link_countFids_16 : decode b_Link_countFids 16 = .ok (.getfield 47, 3) := by decide +kernel
theorem d_Link_countFids_19 : decode b_Link_countFids 19 = .ok (.ifCond .eq 6, 3) := by decide +kernel
theorem d_Link_countFids_22 : decode b_Link_countFids 22 = .ok (.iinc 1 1, 3) := by decide +kernel
theorem d_Link_countFids_25 : decode b_Link_countFids 25 = .ok (.iinc 2 1, 3) := by decide +kernel
theorem d_Link_countFids_28 : decode b_Link_countFids 28 = .ok (.goto (-24), 3) := by decide +kernel
theorem d_Link_countFids_31 : decode b_Link_countFids 31 = .ok (.iload_n 1, 1) := by decide +kernel
theorem d_Link_countFids_32 : decode b_Link_countFids 32 = .ok (.ireturn, 1) := by decide +kernel
abbrev rm_Link_countFids : Room := { frames := 0, cells := 0, slots := 0, locals := 0 }
set_option maxRecDepth 100000 in
set_option maxHeartbeats 4000000 in
theorem k_Link_countFids_4 {p : Program} {l : Launch} {e : Env} {s : State} {m : MethodId} {args : Array Value} {below : List Frame} {meth : Method} {c : Code} {t : TY} {a0 : Nat} {G : GS} {K : Int32 → Prop} (X : kX p s m args meth c b_Link_countFids 3 "TreeServer$Link" t) (hret : meth.sig.returnType = some .int) : ∀ (n : Nat) (l1 : Int32) (l2 : Int32), w_Link_countFids_4 t G a0 K n l1 l2 → kW p l e rm_Link_countFids s m args below meth c (MQ below (vp_Si K) args s 0 0 (fun _ => False)) 3 t true 4 [(0, va_rf (some a0)), (1, .int l1), (2, .int l2)] [] G := by
  intro n
  induction n with
  | zero => intro l1 l2 hwp; exact hwp.elim
  | succ n hr_4 =>
    intro l1 l2 hwp
    unfold w_Link_countFids_4 at hwp
    dsimp only at hwp
    refine kw_iload_n (pc := 4) X d_Link_countFids_4 rfl 2 rfl ?_
    refine kw_bipush (v := 6) (pc := 5) X d_Link_countFids_5 (by decide) ?_
    refine kw_icmp_ge (tgt := 31) (pc := 7) X d_Link_countFids_7 (by decide) (fun h => ?_) (fun h => ?_)
    · have hwp := ite_t h hwp
      refine kw_iload_n (pc := 31) X d_Link_countFids_31 rfl 1 rfl ?_
      exact krp_i (pc := 32) X hret d_Link_countFids_32 hwp
    · have hwp := ite_f h hwp
      refine kw_aload_n (pc := 10) X d_Link_countFids_10 rfl 0 rfl ?_
      obtain ⟨f1, hwp⟩ := hwp
      refine kg_62 (a := a0) (pc := 11) X d_Link_countFids_11 x_346 rfl f1 ?_
      refine kw_iload_n (pc := 14) X d_Link_countFids_14 rfl 2 rfl ?_
      obtain ⟨a2, h_a2, hwp⟩ := hwp
      obtain ⟨f3, hwp⟩ := hwp
      obtain ⟨f4, hwp⟩ := hwp
      refine ka_aald56 (a := a2) (pc := 15) X d_Link_countFids_15 h_a2 f3 f4 ?_
      obtain ⟨a5, h_a5, hwp⟩ := hwp
      obtain ⟨f6, hwp⟩ := hwp
      refine kg_46 (a := a5) (pc := 16) X d_Link_countFids_16 x_293 h_a5 f6 ?_
      refine kw_if_eq (tgt := 25) (pc := 19) X d_Link_countFids_19 (by decide) (fun h => ?_) (fun h => ?_)
      · have hwp := ite_t h hwp
        obtain ⟨v7, e_v7⟩ : ∃ z, z = (l2 + (1 : Int32)) := ⟨_, rfl⟩
        have hwp := hwp v7 e_v7
        refine kw_iinc (v := v7) (lv' := [(2, .int v7), (0, va_rf (some a0)), (1, .int l1)]) (pc := 25) X d_Link_countFids_25 2 rfl (by rw [e_v7]; rfl) (by decide) rfl ?_
        refine kw_goto (tgt := 4) (pc := 28) X d_Link_countFids_28 (by decide) ?_
        exact kW.sub [1, 2, 0] rfl (hr_4 _ _ hwp)
      · have hwp := ite_f h hwp
        obtain ⟨v8, e_v8⟩ : ∃ z, z = (l1 + (1 : Int32)) := ⟨_, rfl⟩
        have hwp := hwp v8 e_v8
        refine kw_iinc (v := v8) (lv' := [(1, .int v8), (0, va_rf (some a0)), (2, .int l2)]) (pc := 22) X d_Link_countFids_22 1 rfl (by rw [e_v8]; rfl) (by decide) rfl ?_
        obtain ⟨v9, e_v9⟩ : ∃ z, z = (l2 + (1 : Int32)) := ⟨_, rfl⟩
        have hwp := hwp v9 e_v9
        refine kw_iinc (v := v9) (lv' := [(2, .int v9), (1, .int v8), (0, va_rf (some a0))]) (pc := 25) X d_Link_countFids_25 2 rfl (by rw [e_v9]; rfl) (by decide) rfl ?_
        refine kw_goto (tgt := 4) (pc := 28) X d_Link_countFids_28 (by decide) ?_
        exact kW.sub [2, 1, 0] rfl (hr_4 _ _ hwp)
set_option maxRecDepth 100000 in
set_option maxHeartbeats 4000000 in
theorem k_Link_countFids {p : Program} {l : Launch} {e : Env} {s : State} {m : MethodId} {args : Array Value} {below : List Frame} {meth : Method} {c : Code} {t : TY} {a0 : Nat} {G : GS} {K : Int32 → Prop} (X : kX p s m args meth c b_Link_countFids 3 "TreeServer$Link" t) (hret : meth.sig.returnType = some .int)  (hwp : w_Link_countFids t G a0 K) : kW p l e rm_Link_countFids s m args below meth c (MQ below (vp_Si K) args s 0 0 (fun _ => False)) 3 t true 0 [(0, va_rf (some a0))] [] G := by
  unfold w_Link_countFids at hwp
  refine kw_iconst (v := 0) (pc := 0) X d_Link_countFids_0 (by decide) ?_
  refine kw_istore_n (i := 1) (lv' := [(1, .int (0 : Int32)), (0, va_rf (some a0))]) (pc := 1) X d_Link_countFids_1 rfl (by decide) rfl ?_
  refine kw_iconst (v := 0) (pc := 2) X d_Link_countFids_2 (by decide) ?_
  refine kw_istore_n (i := 2) (lv' := [(2, .int (0 : Int32)), (1, .int (0 : Int32)), (0, va_rf (some a0))]) (pc := 3) X d_Link_countFids_3 rfl (by decide) rfl ?_
  obtain ⟨n, hwp⟩ := hwp
  exact kW.sub [2, 1, 0] rfl (k_Link_countFids_4 X hret  n _ _ hwp)
set_option maxRecDepth 100000 in
set_option maxHeartbeats 4000000 in
theorem c_Link_countFids (l : Launch) (t : TY) (G : GS) (a0 : Nat) (K : Int32 → Prop) : Met l y_Link_countFids (Cond.code y_Link_countFids b_Link_countFids 3 (Option.some Jvm.ClassFile.FieldType.int) :: GW) rm_Link_countFids (va_Pc [.ref a0] (fun U => HB t G U.heap ∧ HK t U ∧ w_Link_countFids t G a0 K)) (vp_Si K) 0 0 (fun _ => False) := by
  refine Met.ofW (cc := b_Link_countFids) (maxL := 3) (ret := some .int) (by decide) rfl ?_
  intro p e s m args below meth c s₁ B hml hv
  obtain ⟨rfl, hB, hK, hwp⟩ := hv
  have hts := atoms_spec (ws := Cond.code y_Link_countFids b_Link_countFids 3 (Option.some Jvm.ClassFile.FieldType.int) :: GW) B.pre
  have X : kX p s m _ meth c b_Link_countFids 3 "TreeServer$Link" t := ⟨B.exec, B.bytes, hml, findClass_of_methodNamed B.named, fun w h => hts w (List.mem_cons_of_mem _ h), B.notSynchronized, hK⟩
  have hZ : kZ t true s G s.heap [] := ⟨hB, va_S.rf, fun _ => ⟨rfl, rfl⟩⟩
  rw [lg_entry_eq]
  have hl := lv_entry ([.ref a0]) (n := 3) (by simp [lg_sl, rf_cat, cat_i, cat_l, cat_r])
  exact k_Link_countFids X B.returns hwp s.heap [] _ hl hZ
abbrev b_S_fids : ByteArray := prog_1_method_7_code
def y_S_fids : MethodName := ⟨"TreeServer", "fids", "(I)I"⟩
theorem d_S_fids_0 : decode b_S_fids 0 = .ok (.aload_n 0, 1) := by decide +kernel
theorem d_S_fids_1 : decode b_S_fids 1 = .ok (.iload_n 1, 1) := by decide +kernel
theorem d_S_fids_2 : decode b_S_fids 2 = .ok (.invokevirtual 51, 3) := by decide +kernel
theorem d_S_fids_5 : decode b_S_fids 5 = .ok (.astore_n 2, 1) := by decide +kernel
theorem d_S_fids_6 : decode b_S_fids 6 = .ok (.aload_n 2, 1) := by decide +kernel
theorem d_S_fids_7 : decode b_S_fids 7 = .ok (.ifnonnull 7, 3) := by decide +kernel
theorem d_S_fids_10 : decode b_S_fids 10 = .ok (.iconst (-1), 1) := by decide +kernel
theorem d_S_fids_11 : decode b_S_fids 11 = .ok (.goto 7, 3) := by decide +kernel
theorem d_S_fids_14 : decode b_S_fids 14 = .ok (.aload_n 2, 1) := by decide +kernel
theorem d_S_fids_15 : decode b_S_fids 15 = .ok (.invokevirtual 91, 3) := by decide +kernel
theorem d_S_fids_18 : decode b_S_fids 18 = .ok (.ireturn, 1) := by decide +kernel
abbrev rm_S_fids : Room := { frames := 1, cells := 0, slots := 0, locals := 22 }
set_option maxRecDepth 100000 in
set_option maxHeartbeats 4000000 in
theorem k_S_fids {p : Program} {l : Launch} {e : Env} {s : State} {m : MethodId} {args : Array Value} {below : List Frame} {meth : Method} {c : Code} {t : TY} {a0 : Nat} {G : GS} {K : Int32 → Prop} (X : kX p s m args meth c b_S_fids 3 "TreeServer" t) (hret : meth.sig.returnType = some .int) (p1 : Int32) (hwp : w_S_fids t G a0 p1 K) : kW p l e rm_S_fids s m args below meth c (MQ below (vp_Si K) args s 0 0 (fun _ => False)) 3 t true 0 [(0, va_rf (some a0)), (1, .int p1)] [] G := by
  unfold w_S_fids at hwp
  refine kw_aload_n (pc := 0) X d_S_fids_0 rfl 0 rfl ?_
  refine kw_iload_n (pc := 1) X d_S_fids_1 rfl 1 rfl ?_
  obtain ⟨f1, hwp⟩ := hwp
  refine kcVp_q (n := 1) (As := [.int p1]) (rest := []) (pc := 2) X (c_S_linkOf l t G a0 p1 _) (cwV_of (C := "TreeServer") X x_393 x_390 x_392 xp_0 x_1 (by decide +kernel) ⟨rfl, rfl⟩ (by decide)) (rv_9 X f1) rfl rfl (by decide) d_S_fids_2 hwp (fun x2 hwp => ?_)
  refine kw_astore_n (i := 2) (lv' := [(2, va_rf x2), (0, va_rf (some a0)), (1, .int p1)]) (pc := 5) X d_S_fids_5 rfl (by decide) rfl ?_
  refine kw_aload_n (pc := 6) X d_S_fids_6 rfl 0 rfl ?_
  refine kw_ifnonnull (tgt := 14) (pc := 7) X d_S_fids_7 (by decide) (fun h => ?_) (fun h => ?_)
  · have hwp := ite_t h hwp
    refine kw_aload_n (pc := 14) X d_S_fids_14 rfl 0 rfl ?_
    obtain ⟨a3, h_a3, hwp⟩ := hwp
    obtain ⟨f4, hwp⟩ := hwp
    refine kW.st (st' := [.ref a3]) (by simp only [h_a3]; rfl) ?_
    refine kcVp_i (n := 0) (As := []) (rest := []) (pc := 15) X (c_Link_countFids l t G a3 _) (cwV_of (C := "TreeServer$Link") X x_945 x_942 x_943 x_944 x_11 (by decide +kernel) ⟨rfl, rfl⟩ (by decide)) (rv_8 X f4) rfl rfl (by decide) d_S_fids_15 hwp (fun v5 hwp => ?_)
    exact krp_i (pc := 18) X hret d_S_fids_18 hwp
  · have hwp := ite_f (not_not_intro h) hwp
    refine kw_iconst (v := -1) (pc := 10) X d_S_fids_10 (by decide) ?_
    refine kw_goto (tgt := 18) (pc := 11) X d_S_fids_11 (by decide) ?_
    exact krp_i (pc := 18) X hret d_S_fids_18 hwp
set_option maxRecDepth 100000 in
set_option maxHeartbeats 4000000 in
theorem c_S_fids (l : Launch) (t : TY) (G : GS) (a0 : Nat) (p1 : Int32) (K : Int32 → Prop) : Met l y_S_fids (Cond.code y_S_fids b_S_fids 3 (Option.some Jvm.ClassFile.FieldType.int) :: GW) rm_S_fids (va_Pc [.ref a0, .int p1] (fun U => HB t G U.heap ∧ HK t U ∧ w_S_fids t G a0 p1 K)) (vp_Si K) 0 0 (fun _ => False) := by
  refine Met.ofW (cc := b_S_fids) (maxL := 3) (ret := some .int) (by decide) rfl ?_
  intro p e s m args below meth c s₁ B hml hv
  obtain ⟨rfl, hB, hK, hwp⟩ := hv
  have hts := atoms_spec (ws := Cond.code y_S_fids b_S_fids 3 (Option.some Jvm.ClassFile.FieldType.int) :: GW) B.pre
  have X : kX p s m _ meth c b_S_fids 3 "TreeServer" t := ⟨B.exec, B.bytes, hml, findClass_of_methodNamed B.named, fun w h => hts w (List.mem_cons_of_mem _ h), B.notSynchronized, hK⟩
  have hZ : kZ t true s G s.heap [] := ⟨hB, va_S.rf, fun _ => ⟨rfl, rfl⟩⟩
  rw [lg_entry_eq]
  have hl := lv_entry ([.ref a0, .int p1]) (n := 3) (by simp [lg_sl, rf_cat, cat_i, cat_l, cat_r])
  exact k_S_fids X B.returns _ hwp s.heap [] _ hl hZ
abbrev b_S_clock : ByteArray := prog_1_method_8_code
def y_S_clock : MethodName := ⟨"TreeServer", "clock", "(I)V"⟩
theorem d_S_clock_0 : decode b_S_clock 0 = .ok (.aload_n 0, 1) := by decide +kernel
theorem d_S_clock_1 : decode b_S_clock 1 = .ok (.iload_n 1, 1) := by decide +kernel
theorem d_S_clock_2 : decode b_S_clock 2 = .ok (.putfield 95, 3) := by decide +kernel
theorem d_S_clock_5 : decode b_S_clock 5 = .ok (.return_, 1) := by decide +kernel
abbrev rm_S_clock : Room := { frames := 0, cells := 0, slots := 0, locals := 0 }
set_option maxRecDepth 100000 in
set_option maxHeartbeats 4000000 in
theorem k_S_clock {p : Program} {l : Launch} {e : Env} {s : State} {m : MethodId} {args : Array Value} {below : List Frame} {meth : Method} {c : Code} {t : TY} {a0 : Nat} {K : GS → Prop} (X : kX p s m args meth c b_S_clock 2 "TreeServer" t) (hret : meth.sig.returnType = none) (G : GS) (p1 : Int32) (hwp : w_S_clock t G a0 p1 K) : kW p l e rm_S_clock s m args below meth c (MQ below (va_Qv (fun u : GS => K u) (fun u T => HB t u T.heap) (tA t)) args s 0 0 (tA t)) 2 t false 0 [(0, va_rf (some a0)), (1, .int p1)] [] G := by
  unfold w_S_clock at hwp
  refine kw_aload_n (pc := 0) X d_S_clock_0 rfl 0 rfl ?_
  refine kw_iload_n (pc := 1) X d_S_clock_1 rfl 1 rfl ?_
  obtain ⟨f1, hwp⟩ := hwp
  refine kp_69 (a := a0) (x := p1) (pc := 2) X rfl d_S_clock_2 x_370 rfl f1 ?_
  obtain ⟨G2, e_G2⟩ : ∃ g, g = si G 69 a0 p1 := ⟨_, rfl⟩
  have hwp := hwp G2 e_G2
  refine kW.g e_G2.symm ?_
  exact kr_v (pc := 5) X hret d_S_clock_5 hwp
set_option maxRecDepth 100000 in
set_option maxHeartbeats 4000000 in
theorem c_S_clock (l : Launch) (t : TY) (G : GS) (a0 : Nat) (p1 : Int32) (K : GS → Prop) : Met l y_S_clock (Cond.code y_S_clock b_S_clock 2 (Option.none : Option Jvm.ClassFile.FieldType) :: GW) rm_S_clock (va_Pc [.ref a0, .int p1] (fun U => HB t G U.heap ∧ HK t U ∧ w_S_clock t G a0 p1 K)) (va_Qv (fun u : GS => K u) (fun u T => HB t u T.heap) (tA t)) 0 0 (tA t) := by
  refine Met.ofW (cc := b_S_clock) (maxL := 2) (ret := none) (by decide) rfl ?_
  intro p e s m args below meth c s₁ B hml hv
  obtain ⟨rfl, hB, hK, hwp⟩ := hv
  have hts := atoms_spec (ws := Cond.code y_S_clock b_S_clock 2 (Option.none : Option Jvm.ClassFile.FieldType) :: GW) B.pre
  have X : kX p s m _ meth c b_S_clock 2 "TreeServer" t := ⟨B.exec, B.bytes, hml, findClass_of_methodNamed B.named, fun w h => hts w (List.mem_cons_of_mem _ h), B.notSynchronized, hK⟩
  have hZ : kZ t false s G s.heap [] := ⟨hB, va_S.rf, fun _ => ⟨rfl, rfl⟩⟩
  rw [lg_entry_eq]
  have hl := lv_entry ([.ref a0, .int p1]) (n := 2) (by simp [lg_sl, rf_cat, cat_i, cat_l, cat_r])
  exact k_S_clock X B.returns _ _ hwp s.heap [] _ hl hZ
abbrev b_S_cut : ByteArray := prog_1_method_9_code
def y_S_cut : MethodName := ⟨"TreeServer", "cut", "(I)Z"⟩
theorem d_S_cut_0 : decode b_S_cut 0 = .ok (.iload_n 1, 1) := by decide +kernel
theorem d_S_cut_1 : decode b_S_cut 1 = .ok (.ifCond .lt 13, 3) := by decide +kernel
theorem d_S_cut_4 : decode b_S_cut 4 = .ok (.aload_n 0, 1) := by decide +kernel
theorem d_S_cut_5 : decode b_S_cut 5 = .ok (.getfield 19, 3) := by decide +kernel
theorem d_S_cut_8 : decode b_S_cut 8 = .ok (.getfield 55, 3) := by decide +kernel
theorem d_S_cut_11 : decode b_S_cut 11 = .ok (.ifCond .ne 5, 3) := by decide +kernel
theorem d_S_cut_14 : decode b_S_cut 14 = .ok (.iconst 0, 1) := by decide +kernel
theorem d_S_cut_15 : decode b_S_cut 15 = .ok (.ireturn, 1) := by decide +kernel
theorem d_S_cut_16 : decode b_S_cut 16 = .ok (.aload_n 0, 1) := by decide +kernel
theorem d_S_cut_17 : decode b_S_cut 17 = .ok (.getfield 19, 3) := by decide +kernel
theorem d_S_cut_20 : decode b_S_cut 20 = .ok (.iload_n 1, 1) := by decide +kernel
theorem d_S_cut_21 : decode b_S_cut 21 = .ok (.putfield 98, 3) := by decide +kernel
theorem d_S_cut_24 : decode b_S_cut 24 = .ok (.iconst 1, 1) := by decide +kernel
theorem d_S_cut_25 : decode b_S_cut 25 = .ok (.ireturn, 1) := by decide +kernel
abbrev rm_S_cut : Room := { frames := 0, cells := 0, slots := 0, locals := 0 }
set_option maxRecDepth 100000 in
set_option maxHeartbeats 4000000 in
theorem k_S_cut {p : Program} {l : Launch} {e : Env} {s : State} {m : MethodId} {args : Array Value} {below : List Frame} {meth : Method} {c : Code} {t : TY} {a0 : Nat} {K : GS → Int32 → Prop} (X : kX p s m args meth c b_S_cut 2 "TreeServer" t) (hret : meth.sig.returnType = some .boolean) (G : GS) (p1 : Int32) (hwp : w_S_cut t G a0 p1 K) : kW p l e rm_S_cut s m args below meth c (MQ below (va_Qi (fun r (u : GS) => isB r ∧ K u r) (fun u T => HB t u T.heap) (tA t)) args s 0 0 (tA t)) 2 t false 0 [(0, va_rf (some a0)), (1, .int p1)] [] G := by
  unfold w_S_cut at hwp
  refine kw_iload_n (pc := 0) X d_S_cut_0 rfl 1 rfl ?_
  refine kw_if_lt (tgt := 14) (pc := 1) X d_S_cut_1 (by decide) (fun h => ?_) (fun h => ?_)
  · have hwp := ite_t h hwp
    refine kw_iconst (v := 0) (pc := 14) X d_S_cut_14 (by decide) ?_
    exact kr_z (pc := 15) X hret d_S_cut_15 (Or.inl rfl) hwp
  · have hwp := ite_f h hwp
    refine kw_aload_n (pc := 4) X d_S_cut_4 rfl 0 rfl ?_
    obtain ⟨f1, hwp⟩ := hwp
    refine kg_64 (a := a0) (pc := 5) X d_S_cut_5 x_365 rfl f1 ?_
    obtain ⟨a2, h_a2, hwp⟩ := hwp
    obtain ⟨f3, hwp⟩ := hwp
    refine kg_19 (a := a2) (pc := 8) X d_S_cut_8 x_146 h_a2 f3 ?_
    refine kw_if_ne (tgt := 16) (pc := 11) X d_S_cut_11 (by decide) (fun h => ?_) (fun h => ?_)
    · have hwp := ite_t h hwp
      refine kw_aload_n (pc := 16) X d_S_cut_16 rfl 0 rfl ?_
      refine kg_64 (a := a0) (pc := 17) X d_S_cut_17 x_365 rfl f1 ?_
      refine kw_iload_n (pc := 20) X d_S_cut_20 rfl 1 rfl ?_
      refine kp_18 (a := a2) (x := p1) (pc := 21) X rfl d_S_cut_21 x_144 h_a2 f3 ?_
      obtain ⟨G4, e_G4⟩ : ∃ g, g = si G 18 a2 p1 := ⟨_, rfl⟩
      have hwp := hwp G4 e_G4
      refine kW.g e_G4.symm ?_
      refine kw_iconst (v := 1) (pc := 24) X d_S_cut_24 (by decide) ?_
      exact kr_z (pc := 25) X hret d_S_cut_25 (Or.inr rfl) hwp
    · have hwp := ite_f (not_not_intro h) hwp
      refine kw_iconst (v := 0) (pc := 14) X d_S_cut_14 (by decide) ?_
      exact kr_z (pc := 15) X hret d_S_cut_15 (Or.inl rfl) hwp
set_option maxRecDepth 100000 in
set_option maxHeartbeats 4000000 in
theorem c_S_cut (l : Launch) (t : TY) (G : GS) (a0 : Nat) (p1 : Int32) (K : GS → Int32 → Prop) : Met l y_S_cut (Cond.code y_S_cut b_S_cut 2 (Option.some Jvm.ClassFile.FieldType.boolean) :: GW) rm_S_cut (va_Pc [.ref a0, .int p1] (fun U => HB t G U.heap ∧ HK t U ∧ w_S_cut t G a0 p1 K)) (va_Qi (fun r (u : GS) => isB r ∧ K u r) (fun u T => HB t u T.heap) (tA t)) 0 0 (tA t) := by
  refine Met.ofW (cc := b_S_cut) (maxL := 2) (ret := some .boolean) (by decide) rfl ?_
  intro p e s m args below meth c s₁ B hml hv
  obtain ⟨rfl, hB, hK, hwp⟩ := hv
  have hts := atoms_spec (ws := Cond.code y_S_cut b_S_cut 2 (Option.some Jvm.ClassFile.FieldType.boolean) :: GW) B.pre
  have X : kX p s m _ meth c b_S_cut 2 "TreeServer" t := ⟨B.exec, B.bytes, hml, findClass_of_methodNamed B.named, fun w h => hts w (List.mem_cons_of_mem _ h), B.notSynchronized, hK⟩
  have hZ : kZ t false s G s.heap [] := ⟨hB, va_S.rf, fun _ => ⟨rfl, rfl⟩⟩
  rw [lg_entry_eq]
  have hl := lv_entry ([.ref a0, .int p1]) (n := 2) (by simp [lg_sl, rf_cat, cat_i, cat_l, cat_r])
  exact k_S_cut X B.returns _ _ hwp s.heap [] _ hl hZ
abbrev b_Log_startAgain : ByteArray := prog_7_method_3_code
def y_Log_startAgain : MethodName := ⟨"TreeServer$Log", "startAgain", "()V"⟩
theorem d_Log_startAgain_0 : decode b_Log_startAgain 0 = .ok (.aload_n 0, 1) := by decide +kernel
theorem d_Log_startAgain_1 : decode b_Log_startAgain 1 = .ok (.dup, 1) := by decide +kernel
theorem d_Log_startAgain_2 : decode b_Log_startAgain 2 = .ok (.getfield 17, 3) := by decide +kernel
theorem d_Log_startAgain_5 : decode b_Log_startAgain 5 = .ok (.iconst 1, 1) := by decide +kernel
theorem d_Log_startAgain_6 : decode b_Log_startAgain 6 = .ok (.iadd, 1) := by decide +kernel
theorem d_Log_startAgain_7 : decode b_Log_startAgain 7 = .ok (.putfield 17, 3) := by decide +kernel
theorem d_Log_startAgain_10 : decode b_Log_startAgain 10 = .ok (.aload_n 0, 1) := by decide +kernel
theorem d_Log_startAgain_11 : decode b_Log_startAgain 11 = .ok (.iconst 0, 1) := by decide +kernel
theorem d_Log_startAgain_12 : decode b_Log_startAgain 12 = .ok (.putfield 20, 3) := by decide +kernel
theorem d_Log_startAgain_15 : decode b_Log_startAgain 15 = .ok (.aload_n 0, 1) := by decide +kernel
theorem d_Log_startAgain_16 : decode b_Log_startAgain 16 = .ok (.iconst 1, 1) := by decide +kernel
theorem d_Log_startAgain_17 : decode b_Log_startAgain 17 = .ok (.putfield 13, 3) := by decide +kernel
theorem d_Log_startAgain_20 : decode b_Log_startAgain 20 = .ok (.return_, 1) := by decide +kernel
abbrev rm_Log_startAgain : Room := { frames := 0, cells := 0, slots := 0, locals := 0 }
set_option maxRecDepth 100000 in
set_option maxHeartbeats 4000000 in
theorem k_Log_startAgain {p : Program} {l : Launch} {e : Env} {s : State} {m : MethodId} {args : Array Value} {below : List Frame} {meth : Method} {c : Code} {t : TY} {a0 : Nat} {K : GS → Prop} (X : kX p s m args meth c b_Log_startAgain 1 "TreeServer$Log" t) (hret : meth.sig.returnType = none) (G : GS)  (hwp : w_Log_startAgain t G a0 K) : kW p l e rm_Log_startAgain s m args below meth c (MQ below (va_Qv (fun u : GS => K u) (fun u T => HB t u T.heap) (tA t)) args s 0 0 (tA t)) 1 t false 0 [(0, va_rf (some a0))] [] G := by
  unfold w_Log_startAgain at hwp
  refine kw_aload_n (pc := 0) X d_Log_startAgain_0 rfl 0 rfl ?_
  refine kw_dup (pc := 1) X d_Log_startAgain_1 rfl ?_
  obtain ⟨f1, hwp⟩ := hwp
  refine kg_17 (a := a0) (pc := 2) X d_Log_startAgain_2 x_141 rfl f1 ?_
  refine kw_iconst (v := 1) (pc := 5) X d_Log_startAgain_5 (by decide) ?_
  refine kw_iadd (pc := 6) X d_Log_startAgain_6 ?_
  refine kp_17 (a := a0) (x := ((gi G 17 a0) + (1 : Int32))) (pc := 7) X rfl d_Log_startAgain_7 x_141 rfl f1 ?_
  obtain ⟨G2, e_G2⟩ : ∃ g, g = si G 17 a0 ((gi G 17 a0) + (1 : Int32)) := ⟨_, rfl⟩
  have hwp := hwp G2 e_G2
  refine kW.g e_G2.symm ?_
  refine kw_aload_n (pc := 10) X d_Log_startAgain_10 rfl 0 rfl ?_
  refine kw_iconst (v := 0) (pc := 11) X d_Log_startAgain_11 (by decide) ?_
  refine kp_20 (a := a0) (x := (0 : Int32)) (pc := 12) X rfl d_Log_startAgain_12 x_147 rfl f1 (Or.inl rfl) ?_
  obtain ⟨G3, e_G3⟩ : ∃ g, g = si G2 20 a0 (0 : Int32) := ⟨_, rfl⟩
  have hwp := hwp G3 e_G3
  refine kW.g e_G3.symm ?_
  refine kw_aload_n (pc := 15) X d_Log_startAgain_15 rfl 0 rfl ?_
  refine kw_iconst (v := 1) (pc := 16) X d_Log_startAgain_16 (by decide) ?_
  refine kp_19 (a := a0) (x := (1 : Int32)) (pc := 17) X rfl d_Log_startAgain_17 x_145 rfl f1 (Or.inr rfl) ?_
  obtain ⟨G4, e_G4⟩ : ∃ g, g = si G3 19 a0 (1 : Int32) := ⟨_, rfl⟩
  have hwp := hwp G4 e_G4
  refine kW.g e_G4.symm ?_
  exact kr_v (pc := 20) X hret d_Log_startAgain_20 hwp
set_option maxRecDepth 100000 in
set_option maxHeartbeats 4000000 in
theorem c_Log_startAgain (l : Launch) (t : TY) (G : GS) (a0 : Nat) (K : GS → Prop) : Met l y_Log_startAgain (Cond.code y_Log_startAgain b_Log_startAgain 1 (Option.none : Option Jvm.ClassFile.FieldType) :: GW) rm_Log_startAgain (va_Pc [.ref a0] (fun U => HB t G U.heap ∧ HK t U ∧ w_Log_startAgain t G a0 K)) (va_Qv (fun u : GS => K u) (fun u T => HB t u T.heap) (tA t)) 0 0 (tA t) := by
  refine Met.ofW (cc := b_Log_startAgain) (maxL := 1) (ret := none) (by decide) rfl ?_
  intro p e s m args below meth c s₁ B hml hv
  obtain ⟨rfl, hB, hK, hwp⟩ := hv
  have hts := atoms_spec (ws := Cond.code y_Log_startAgain b_Log_startAgain 1 (Option.none : Option Jvm.ClassFile.FieldType) :: GW) B.pre
  have X : kX p s m _ meth c b_Log_startAgain 1 "TreeServer$Log" t := ⟨B.exec, B.bytes, hml, findClass_of_methodNamed B.named, fun w h => hts w (List.mem_cons_of_mem _ h), B.notSynchronized, hK⟩
  have hZ : kZ t false s G s.heap [] := ⟨hB, va_S.rf, fun _ => ⟨rfl, rfl⟩⟩
  rw [lg_entry_eq]
  have hl := lv_entry ([.ref a0]) (n := 1) (by simp [lg_sl, rf_cat, cat_i, cat_l, cat_r])
  exact k_Log_startAgain X B.returns _ hwp s.heap [] _ hl hZ
abbrev b_S_restart : ByteArray := prog_1_method_10_code
def y_S_restart : MethodName := ⟨"TreeServer", "restart", "()Z"⟩
theorem d_S_restart_0 : decode b_S_restart 0 = .ok (.aload_n 0, 1) := by decide +kernel
theorem d_S_restart_1 : decode b_S_restart 1 = .ok (.getfield 19, 3) := by decide +kernel
theorem d_S_restart_4 : decode b_S_restart 4 = .ok (.getfield 55, 3) := by decide +kernel
theorem d_S_restart_7 : decode b_S_restart 7 = .ok (.ifCond .eq 5, 3) := by decide +kernel
theorem d_S_restart_10 : decode b_S_restart 10 = .ok (.iconst 0, 1) := by decide +kernel
theorem d_S_restart_11 : decode b_S_restart 11 = .ok (.ireturn, 1) := by decide +kernel
theorem d_S_restart_12 : decode b_S_restart 12 = .ok (.aload_n 0, 1) := by decide +kernel
theorem d_S_restart_13 : decode b_S_restart 13 = .ok (.getfield 19, 3) := by decide +kernel
theorem d_S_restart_16 : decode b_S_restart 16 = .ok (.getfield 101, 3) := by decide +kernel
theorem d_S_restart_19 : decode b_S_restart 19 = .ok (.ifCond .eq 14, 3) := by decide +kernel
theorem d_S_restart_22 : decode b_S_restart 22 = .ok (.aload_n 0, 1) := by decide +kernel
theorem d_S_restart_23 : decode b_S_restart 23 = .ok (.getfield 26, 3) := by decide +kernel
theorem d_S_restart_26 : decode b_S_restart 26 = .ok (.aload_n 0, 1) := by decide +kernel
theorem d_S_restart_27 : decode b_S_restart 27 = .ok (.getfield 10, 3) := by decide +kernel
theorem d_S_restart_30 : decode b_S_restart 30 = .ok (.invokevirtual 104, 3) := by decide +kernel
theorem d_S_restart_33 : decode b_S_restart 33 = .ok (.aload_n 0, 1) := by decide +kernel
theorem d_S_restart_34 : decode b_S_restart 34 = .ok (.getfield 19, 3) := by decide +kernel
theorem d_S_restart_37 : decode b_S_restart 37 = .ok (.invokevirtual 108, 3) := by decide +kernel
theorem d_S_restart_40 : decode b_S_restart 40 = .ok (.iconst 1, 1) := by decide +kernel
theorem d_S_restart_41 : decode b_S_restart 41 = .ok (.ireturn, 1) := by decide +kernel
abbrev rm_S_restart : Room := { frames := 3, cells := 0, slots := 0, locals := 71 }
set_option maxRecDepth 100000 in
set_option maxHeartbeats 4000000 in
theorem k_S_restart_33 {p : Program} {l : Launch} {e : Env} {s : State} {m : MethodId} {args : Array Value} {below : List Frame} {meth : Method} {c : Code} {t : TY} {a0 : Nat} {K : GS → Int32 → Prop} (X : kX p s m args meth c b_S_restart 1 "TreeServer" t) (hret : meth.sig.returnType = some .boolean)  (G : GS) (hwp : w_S_restart_33 t a0 K G) : kW p l e rm_S_restart s m args below meth c (MQ below (va_Qi (fun r (u : GS) => isB r ∧ K u r) (fun u T => HB t u T.heap) (tA t)) args s 0 0 (tA t)) 1 t false 33 [(0, va_rf (some a0))] [] G := by
  unfold w_S_restart_33 at hwp
  refine kw_aload_n (pc := 33) X d_S_restart_33 rfl 0 rfl ?_
  obtain ⟨f1, hwp⟩ := hwp
  refine kg_64 (a := a0) (pc := 34) X d_S_restart_34 x_365 rfl f1 ?_
  obtain ⟨a2, h_a2, hwp⟩ := hwp
  obtain ⟨f3, hwp⟩ := hwp
  refine kW.st (st' := [.ref a2]) (by simp only [h_a2]; rfl) ?_
  refine kcV_v (n := 0) (As := []) (rest := []) (pc := 37) X rfl (c_Log_startAgain l t G a2 _) (cwV_of (C := "TreeServer$Log") X x_961 x_958 x_959 x_960 x_6 (by decide +kernel) ⟨rfl, rfl⟩ (by decide)) (rv_3 X f3) rfl rfl (by decide) d_S_restart_37 hwp (fun G4 hwp => ?_)
  refine kw_iconst (v := 1) (pc := 40) X d_S_restart_40 (by decide) ?_
  exact kr_z (pc := 41) X hret d_S_restart_41 (Or.inr rfl) hwp
set_option maxRecDepth 100000 in
set_option maxHeartbeats 4000000 in
theorem k_S_restart {p : Program} {l : Launch} {e : Env} {s : State} {m : MethodId} {args : Array Value} {below : List Frame} {meth : Method} {c : Code} {t : TY} {a0 : Nat} {K : GS → Int32 → Prop} (X : kX p s m args meth c b_S_restart 1 "TreeServer" t) (hret : meth.sig.returnType = some .boolean) (G : GS)  (hwp : w_S_restart t G a0 K) : kW p l e rm_S_restart s m args below meth c (MQ below (va_Qi (fun r (u : GS) => isB r ∧ K u r) (fun u T => HB t u T.heap) (tA t)) args s 0 0 (tA t)) 1 t false 0 [(0, va_rf (some a0))] [] G := by
  unfold w_S_restart at hwp
  refine kw_aload_n (pc := 0) X d_S_restart_0 rfl 0 rfl ?_
  obtain ⟨f1, hwp⟩ := hwp
  refine kg_64 (a := a0) (pc := 1) X d_S_restart_1 x_365 rfl f1 ?_
  obtain ⟨a2, h_a2, hwp⟩ := hwp
  obtain ⟨f3, hwp⟩ := hwp
  refine kg_19 (a := a2) (pc := 4) X d_S_restart_4 x_146 h_a2 f3 ?_
  refine kw_if_eq (tgt := 12) (pc := 7) X d_S_restart_7 (by decide) (fun h => ?_) (fun h => ?_)
  · have hwp := ite_t h hwp
    refine kw_aload_n (pc := 12) X d_S_restart_12 rfl 0 rfl ?_
    refine kg_64 (a := a0) (pc := 13) X d_S_restart_13 x_365 rfl f1 ?_
    refine kg_20 (a := a2) (pc := 16) X d_S_restart_16 x_148 h_a2 f3 ?_
    refine kw_if_eq (tgt := 33) (pc := 19) X d_S_restart_19 (by decide) (fun h => ?_) (fun h => ?_)
    · have hwp := ite_t h hwp
      exact kW.sub [0] rfl (k_S_restart_33 X hret  _ hwp)
    · have hwp := ite_f h hwp
      refine kw_aload_n (pc := 22) X d_S_restart_22 rfl 0 rfl ?_
      refine kg_65 (a := a0) (pc := 23) X d_S_restart_23 x_366 rfl f1 ?_
      refine kw_aload_n (pc := 26) X d_S_restart_26 rfl 0 rfl ?_
      refine kg_63 (a := a0) (pc := 27) X d_S_restart_27 x_364 rfl f1 ?_
      obtain ⟨a4, h_a4, hwp⟩ := hwp
      obtain ⟨f5, hwp⟩ := hwp
      obtain ⟨a6, h_a6, hwp⟩ := hwp
      refine kW.st (st' := [.ref a6, .ref a4]) (by simp only [h_a6, h_a4]; rfl) ?_
      refine kcV_v (n := 1) (As := [.ref a6]) (rest := []) (pc := 30) X rfl (c_Change_run l t G a4 a6 _) (cwV_of (C := "TreeServer$Change") X x_464 x_461 x_462 x_463 x_7 (by decide +kernel) ⟨rfl, rfl⟩ (by decide)) (rv_4 X f5) rfl rfl (by decide) d_S_restart_30 hwp (fun G7 hwp => ?_)
      exact kW.sub [0] rfl (k_S_restart_33 X hret  _ hwp)
  · have hwp := ite_f h hwp
    refine kw_iconst (v := 0) (pc := 10) X d_S_restart_10 (by decide) ?_
    exact kr_z (pc := 11) X hret d_S_restart_11 (Or.inl rfl) hwp
set_option maxRecDepth 100000 in
set_option maxHeartbeats 4000000 in
theorem c_S_restart (l : Launch) (t : TY) (G : GS) (a0 : Nat) (K : GS → Int32 → Prop) : Met l y_S_restart (Cond.code y_S_restart b_S_restart 1 (Option.some Jvm.ClassFile.FieldType.boolean) :: GW) rm_S_restart (va_Pc [.ref a0] (fun U => HB t G U.heap ∧ HK t U ∧ w_S_restart t G a0 K)) (va_Qi (fun r (u : GS) => isB r ∧ K u r) (fun u T => HB t u T.heap) (tA t)) 0 0 (tA t) := by
  refine Met.ofW (cc := b_S_restart) (maxL := 1) (ret := some .boolean) (by decide) rfl ?_
  intro p e s m args below meth c s₁ B hml hv
  obtain ⟨rfl, hB, hK, hwp⟩ := hv
  have hts := atoms_spec (ws := Cond.code y_S_restart b_S_restart 1 (Option.some Jvm.ClassFile.FieldType.boolean) :: GW) B.pre
  have X : kX p s m _ meth c b_S_restart 1 "TreeServer" t := ⟨B.exec, B.bytes, hml, findClass_of_methodNamed B.named, fun w h => hts w (List.mem_cons_of_mem _ h), B.notSynchronized, hK⟩
  have hZ : kZ t false s G s.heap [] := ⟨hB, va_S.rf, fun _ => ⟨rfl, rfl⟩⟩
  rw [lg_entry_eq]
  have hl := lv_entry ([.ref a0]) (n := 1) (by simp [lg_sl, rf_cat, cat_i, cat_l, cat_r])
  exact k_S_restart X B.returns _ hwp s.heap [] _ hl hZ
abbrev b_S_up : ByteArray := prog_1_method_11_code
def y_S_up : MethodName := ⟨"TreeServer", "up", "()Z"⟩
theorem d_S_up_0 : decode b_S_up 0 = .ok (.aload_n 0, 1) := by decide +kernel
theorem d_S_up_1 : decode b_S_up 1 = .ok (.getfield 19, 3) := by decide +kernel
theorem d_S_up_4 : decode b_S_up 4 = .ok (.getfield 55, 3) := by decide +kernel
theorem d_S_up_7 : decode b_S_up 7 = .ok (.ireturn, 1) := by decide +kernel
abbrev rm_S_up : Room := { frames := 0, cells := 0, slots := 0, locals := 0 }
set_option maxRecDepth 100000 in
set_option maxHeartbeats 4000000 in
theorem k_S_up {p : Program} {l : Launch} {e : Env} {s : State} {m : MethodId} {args : Array Value} {below : List Frame} {meth : Method} {c : Code} {t : TY} {a0 : Nat} {G : GS} {K : Int32 → Prop} (X : kX p s m args meth c b_S_up 1 "TreeServer" t) (hret : meth.sig.returnType = some .boolean)  (hwp : w_S_up t G a0 K) : kW p l e rm_S_up s m args below meth c (MQ below (vp_Si (fun r => isB r ∧ K r)) args s 0 0 (fun _ => False)) 1 t true 0 [(0, va_rf (some a0))] [] G := by
  unfold w_S_up at hwp
  refine kw_aload_n (pc := 0) X d_S_up_0 rfl 0 rfl ?_
  obtain ⟨f1, hwp⟩ := hwp
  refine kg_64 (a := a0) (pc := 1) X d_S_up_1 x_365 rfl f1 ?_
  obtain ⟨a2, h_a2, hwp⟩ := hwp
  obtain ⟨f3, hwp⟩ := hwp
  refine kg_19 (a := a2) (pc := 4) X d_S_up_4 x_146 h_a2 f3 ?_
  obtain ⟨f4, hwp⟩ := hwp
  exact krp_z (pc := 7) X hret d_S_up_7 f4 hwp
set_option maxRecDepth 100000 in
set_option maxHeartbeats 4000000 in
theorem c_S_up (l : Launch) (t : TY) (G : GS) (a0 : Nat) (K : Int32 → Prop) : Met l y_S_up (Cond.code y_S_up b_S_up 1 (Option.some Jvm.ClassFile.FieldType.boolean) :: GW) rm_S_up (va_Pc [.ref a0] (fun U => HB t G U.heap ∧ HK t U ∧ w_S_up t G a0 K)) (vp_Si (fun r => isB r ∧ K r)) 0 0 (fun _ => False) := by
  refine Met.ofW (cc := b_S_up) (maxL := 1) (ret := some .boolean) (by decide) rfl ?_
  intro p e s m args below meth c s₁ B hml hv
  obtain ⟨rfl, hB, hK, hwp⟩ := hv
  have hts := atoms_spec (ws := Cond.code y_S_up b_S_up 1 (Option.some Jvm.ClassFile.FieldType.boolean) :: GW) B.pre
  have X : kX p s m _ meth c b_S_up 1 "TreeServer" t := ⟨B.exec, B.bytes, hml, findClass_of_methodNamed B.named, fun w h => hts w (List.mem_cons_of_mem _ h), B.notSynchronized, hK⟩
  have hZ : kZ t true s G s.heap [] := ⟨hB, va_S.rf, fun _ => ⟨rfl, rfl⟩⟩
  rw [lg_entry_eq]
  have hl := lv_entry ([.ref a0]) (n := 1) (by simp [lg_sl, rf_cat, cat_i, cat_l, cat_r])
  exact k_S_up X B.returns hwp s.heap [] _ hl hZ
abbrev b_S_nodes : ByteArray := prog_1_method_12_code
def y_S_nodes : MethodName := ⟨"TreeServer", "nodes", "()I"⟩
theorem d_S_nodes_0 : decode b_S_nodes 0 = .ok (.aload_n 0, 1) := by decide +kernel
theorem d_S_nodes_1 : decode b_S_nodes 1 = .ok (.getfield 10, 3) := by decide +kernel
theorem d_S_nodes_4 : decode b_S_nodes 4 = .ok (.getfield 111, 3) := by decide +kernel
theorem d_S_nodes_7 : decode b_S_nodes 7 = .ok (.ireturn, 1) := by decide +kernel
abbrev rm_S_nodes : Room := { frames := 0, cells := 0, slots := 0, locals := 0 }
set_option maxRecDepth 100000 in
set_option maxHeartbeats 4000000 in
theorem k_S_nodes {p : Program} {l : Launch} {e : Env} {s : State} {m : MethodId} {args : Array Value} {below : List Frame} {meth : Method} {c : Code} {t : TY} {a0 : Nat} {G : GS} {K : Int32 → Prop} (X : kX p s m args meth c b_S_nodes 1 "TreeServer" t) (hret : meth.sig.returnType = some .int)  (hwp : w_S_nodes t G a0 K) : kW p l e rm_S_nodes s m args below meth c (MQ below (vp_Si K) args s 0 0 (fun _ => False)) 1 t true 0 [(0, va_rf (some a0))] [] G := by
  unfold w_S_nodes at hwp
  refine kw_aload_n (pc := 0) X d_S_nodes_0 rfl 0 rfl ?_
  obtain ⟨f1, hwp⟩ := hwp
  refine kg_63 (a := a0) (pc := 1) X d_S_nodes_1 x_364 rfl f1 ?_
  obtain ⟨a2, h_a2, hwp⟩ := hwp
  obtain ⟨f3, hwp⟩ := hwp
  refine kg_15 (a := a2) (pc := 4) X d_S_nodes_4 x_124 h_a2 f3 ?_
  exact krp_i (pc := 7) X hret d_S_nodes_7 hwp
set_option maxRecDepth 100000 in
set_option maxHeartbeats 4000000 in
theorem c_S_nodes (l : Launch) (t : TY) (G : GS) (a0 : Nat) (K : Int32 → Prop) : Met l y_S_nodes (Cond.code y_S_nodes b_S_nodes 1 (Option.some Jvm.ClassFile.FieldType.int) :: GW) rm_S_nodes (va_Pc [.ref a0] (fun U => HB t G U.heap ∧ HK t U ∧ w_S_nodes t G a0 K)) (vp_Si K) 0 0 (fun _ => False) := by
  refine Met.ofW (cc := b_S_nodes) (maxL := 1) (ret := some .int) (by decide) rfl ?_
  intro p e s m args below meth c s₁ B hml hv
  obtain ⟨rfl, hB, hK, hwp⟩ := hv
  have hts := atoms_spec (ws := Cond.code y_S_nodes b_S_nodes 1 (Option.some Jvm.ClassFile.FieldType.int) :: GW) B.pre
  have X : kX p s m _ meth c b_S_nodes 1 "TreeServer" t := ⟨B.exec, B.bytes, hml, findClass_of_methodNamed B.named, fun w h => hts w (List.mem_cons_of_mem _ h), B.notSynchronized, hK⟩
  have hZ : kZ t true s G s.heap [] := ⟨hB, va_S.rf, fun _ => ⟨rfl, rfl⟩⟩
  rw [lg_entry_eq]
  have hl := lv_entry ([.ref a0]) (n := 1) (by simp [lg_sl, rf_cat, cat_i, cat_l, cat_r])
  exact k_S_nodes X B.returns hwp s.heap [] _ hl hZ
abbrev b_S_free : ByteArray := prog_1_method_13_code
def y_S_free : MethodName := ⟨"TreeServer", "free", "()I"⟩
theorem d_S_free_0 : decode b_S_free 0 = .ok (.aload_n 0, 1) := by decide +kernel
theorem d_S_free_1 : decode b_S_free 1 = .ok (.getfield 10, 3) := by decide +kernel
theorem d_S_free_4 : decode b_S_free 4 = .ok (.invokevirtual 114, 3) := by decide +kernel
theorem d_S_free_7 : decode b_S_free 7 = .ok (.ireturn, 1) := by decide +kernel
abbrev rm_S_free : Room := { frames := 2, cells := 0, slots := 0, locals := 42 }
set_option maxRecDepth 100000 in
set_option maxHeartbeats 4000000 in
theorem k_S_free {p : Program} {l : Launch} {e : Env} {s : State} {m : MethodId} {args : Array Value} {below : List Frame} {meth : Method} {c : Code} {t : TY} {a0 : Nat} {G : GS} {K : Int32 → Prop} (X : kX p s m args meth c b_S_free 1 "TreeServer" t) (hret : meth.sig.returnType = some .int)  (hwp : w_S_free t G a0 K) : kW p l e rm_S_free s m args below meth c (MQ below (vp_Si K) args s 0 0 (fun _ => False)) 1 t true 0 [(0, va_rf (some a0))] [] G := by
  unfold w_S_free at hwp
  refine kw_aload_n (pc := 0) X d_S_free_0 rfl 0 rfl ?_
  obtain ⟨f1, hwp⟩ := hwp
  refine kg_63 (a := a0) (pc := 1) X d_S_free_1 x_364 rfl f1 ?_
  obtain ⟨a2, h_a2, hwp⟩ := hwp
  obtain ⟨f3, hwp⟩ := hwp
  refine kW.st (st' := [.ref a2]) (by simp only [h_a2]; rfl) ?_
  refine kcVp_i (n := 0) (As := []) (rest := []) (pc := 4) X (c_Tree_spareBlocks l t G a2 _) (cwV_of (C := "TreeServer$Tree") X x_794 x_974 x_792 x_793 x_2 (by decide +kernel) ⟨rfl, rfl⟩ (by decide)) (rv_2 X f3) rfl rfl (by decide) d_S_free_4 hwp (fun v4 hwp => ?_)
  exact krp_i (pc := 7) X hret d_S_free_7 hwp
set_option maxRecDepth 100000 in
set_option maxHeartbeats 4000000 in
theorem c_S_free (l : Launch) (t : TY) (G : GS) (a0 : Nat) (K : Int32 → Prop) : Met l y_S_free (Cond.code y_S_free b_S_free 1 (Option.some Jvm.ClassFile.FieldType.int) :: GW) rm_S_free (va_Pc [.ref a0] (fun U => HB t G U.heap ∧ HK t U ∧ w_S_free t G a0 K)) (vp_Si K) 0 0 (fun _ => False) := by
  refine Met.ofW (cc := b_S_free) (maxL := 1) (ret := some .int) (by decide) rfl ?_
  intro p e s m args below meth c s₁ B hml hv
  obtain ⟨rfl, hB, hK, hwp⟩ := hv
  have hts := atoms_spec (ws := Cond.code y_S_free b_S_free 1 (Option.some Jvm.ClassFile.FieldType.int) :: GW) B.pre
  have X : kX p s m _ meth c b_S_free 1 "TreeServer" t := ⟨B.exec, B.bytes, hml, findClass_of_methodNamed B.named, fun w h => hts w (List.mem_cons_of_mem _ h), B.notSynchronized, hK⟩
  have hZ : kZ t true s G s.heap [] := ⟨hB, va_S.rf, fun _ => ⟨rfl, rfl⟩⟩
  rw [lg_entry_eq]
  have hl := lv_entry ([.ref a0]) (n := 1) (by simp [lg_sl, rf_cat, cat_i, cat_l, cat_r])
  exact k_S_free X B.returns hwp s.heap [] _ hl hZ
abbrev b_S_writes : ByteArray := prog_1_method_14_code
def y_S_writes : MethodName := ⟨"TreeServer", "writes", "()I"⟩
theorem d_S_writes_0 : decode b_S_writes 0 = .ok (.aload_n 0, 1) := by decide +kernel
theorem d_S_writes_1 : decode b_S_writes 1 = .ok (.getfield 19, 3) := by decide +kernel
theorem d_S_writes_4 : decode b_S_writes 4 = .ok (.getfield 117, 3) := by decide +kernel
theorem d_S_writes_7 : decode b_S_writes 7 = .ok (.ireturn, 1) := by decide +kernel
abbrev rm_S_writes : Room := { frames := 0, cells := 0, slots := 0, locals := 0 }
set_option maxRecDepth 100000 in
set_option maxHeartbeats 4000000 in
theorem k_S_writes {p : Program} {l : Launch} {e : Env} {s : State} {m : MethodId} {args : Array Value} {below : List Frame} {meth : Method} {c : Code} {t : TY} {a0 : Nat} {G : GS} {K : Int32 → Prop} (X : kX p s m args meth c b_S_writes 1 "TreeServer" t) (hret : meth.sig.returnType = some .int)  (hwp : w_S_writes t G a0 K) : kW p l e rm_S_writes s m args below meth c (MQ below (vp_Si K) args s 0 0 (fun _ => False)) 1 t true 0 [(0, va_rf (some a0))] [] G := by
  unfold w_S_writes at hwp
  refine kw_aload_n (pc := 0) X d_S_writes_0 rfl 0 rfl ?_
  obtain ⟨f1, hwp⟩ := hwp
  refine kg_64 (a := a0) (pc := 1) X d_S_writes_1 x_365 rfl f1 ?_
  obtain ⟨a2, h_a2, hwp⟩ := hwp
  obtain ⟨f3, hwp⟩ := hwp
  refine kg_17 (a := a2) (pc := 4) X d_S_writes_4 x_142 h_a2 f3 ?_
  exact krp_i (pc := 7) X hret d_S_writes_7 hwp
set_option maxRecDepth 100000 in
set_option maxHeartbeats 4000000 in
theorem c_S_writes (l : Launch) (t : TY) (G : GS) (a0 : Nat) (K : Int32 → Prop) : Met l y_S_writes (Cond.code y_S_writes b_S_writes 1 (Option.some Jvm.ClassFile.FieldType.int) :: GW) rm_S_writes (va_Pc [.ref a0] (fun U => HB t G U.heap ∧ HK t U ∧ w_S_writes t G a0 K)) (vp_Si K) 0 0 (fun _ => False) := by
  refine Met.ofW (cc := b_S_writes) (maxL := 1) (ret := some .int) (by decide) rfl ?_
  intro p e s m args below meth c s₁ B hml hv
  obtain ⟨rfl, hB, hK, hwp⟩ := hv
  have hts := atoms_spec (ws := Cond.code y_S_writes b_S_writes 1 (Option.some Jvm.ClassFile.FieldType.int) :: GW) B.pre
  have X : kX p s m _ meth c b_S_writes 1 "TreeServer" t := ⟨B.exec, B.bytes, hml, findClass_of_methodNamed B.named, fun w h => hts w (List.mem_cons_of_mem _ h), B.notSynchronized, hK⟩
  have hZ : kZ t true s G s.heap [] := ⟨hB, va_S.rf, fun _ => ⟨rfl, rfl⟩⟩
  rw [lg_entry_eq]
  have hl := lv_entry ([.ref a0]) (n := 1) (by simp [lg_sl, rf_cat, cat_i, cat_l, cat_r])
  exact k_S_writes X B.returns hwp s.heap [] _ hl hZ
abbrev b_M_fresh : ByteArray := prog_13_method_2_code
def y_M_fresh : MethodName := ⟨"TreeServerModel", "fresh", "(I)V"⟩
theorem d_M_fresh_0 : decode b_M_fresh 0 = .ok (.aload_n 0, 1) := by decide +kernel
theorem d_M_fresh_1 : decode b_M_fresh 1 = .ok (.getfield 26, 3) := by decide +kernel
theorem d_M_fresh_4 : decode b_M_fresh 4 = .ok (.iload_n 1, 1) := by decide +kernel
theorem d_M_fresh_5 : decode b_M_fresh 5 = .ok (.iconst 0, 1) := by decide +kernel
theorem d_M_fresh_6 : decode b_M_fresh 6 = .ok (.iastore, 1) := by decide +kernel
theorem d_M_fresh_7 : decode b_M_fresh 7 = .ok (.aload_n 0, 1) := by decide +kernel
theorem d_M_fresh_8 : decode b_M_fresh 8 = .ok (.getfield 32, 3) := by decide +kernel
theorem d_M_fresh_11 : decode b_M_fresh 11 = .ok (.iload_n 1, 1) := by decide +kernel
theorem d_M_fresh_12 : decode b_M_fresh 12 = .ok (.iconst 0, 1) := by decide +kernel
theorem d_M_fresh_13 : decode b_M_fresh 13 = .ok (.iastore, 1) := by decide +kernel
theorem d_M_fresh_14 : decode b_M_fresh 14 = .ok (.aload_n 0, 1) := by decide +kernel
theorem d_M_fresh_15 : decode b_M_fresh 15 = .ok (.getfield 35, 3) := by decide +kernel
theorem d_M_fresh_18 : decode b_M_fresh 18 = .ok (.iload_n 1, 1) := by decide +kernel
theorem d_M_fresh_19 : decode b_M_fresh 19 = .ok (.sipush 128, 3) := by decide +kernel
theorem d_M_fresh_22 : decode b_M_fresh 22 = .ok (.iastore, 1) := by decide +kernel
theorem d_M_fresh_23 : decode b_M_fresh 23 = .ok (.aload_n 0, 1) := by decide +kernel
theorem d_M_fresh_24 : decode b_M_fresh 24 = .ok (.getfield 38, 3) := by decide +kernel
theorem d_M_fresh_27 : decode b_M_fresh 27 = .ok (.iload_n 1, 1) := by decide +kernel
theorem d_M_fresh_28 : decode b_M_fresh 28 = .ok (.iconst 0, 1) := by decide +kernel
theorem d_M_fresh_29 : decode b_M_fresh 29 = .ok (.bastore, 1) := by decide +kernel
theorem d_M_fresh_30 : decode b_M_fresh 30 = .ok (.aload_n 0, 1) := by decide +kernel
theorem d_M_fresh_31 : decode b_M_fresh 31 = .ok (.getfield 42, 3) := by decide +kernel
theorem d_M_fresh_34 : decode b_M_fresh 34 = .ok (.iload_n 1, 1) := by decide +kernel
theorem d_M_fresh_35 : decode b_M_fresh 35 = .ok (.iconst 0, 1) := by decide +kernel
theorem d_M_fresh_36 : decode b_M_fresh 36 = .ok (.bastore, 1) := by decide +kernel
theorem d_M_fresh_37 : decode b_M_fresh 37 = .ok (.bipush 6, 2) := by decide +kernel
theorem d_M_fresh_39 : decode b_M_fresh 39 = .ok (.iload_n 1, 1) := by decide +kernel
theorem d_M_fresh_40 : decode b_M_fresh 40 = .ok (.imul, 1) := by decide +kernel
theorem d_M_fresh_41 : decode b_M_fresh 41 = .ok (.istore_n 2, 1) := by decide +kernel
theorem d_M_fresh_42 : decode b_M_fresh 42 = .ok (.iload_n 2, 1) := by decide +kernel
theorem d_M_fresh_43 : decode b_M_fresh 43 = .ok (.bipush 6, 2) := by decide +kernel
theorem d_M_fresh_45 : decode b_M_fresh 45 = .ok (.iload_n 1, 1) := by decide +kernel
theorem d_M_fresh_46 : decode b_M_fresh 46 = .ok (.imul, 1) := by decide +kernel
theorem d_M_fresh_47 : decode b_M_fresh 47 = .ok (.bipush 6, 2) := by decide +kernel
theorem d_M_fresh_49 : decode b_M_fresh 49 = .ok (.iadd, 1) := by decide +kernel
theorem d_M_fresh_50 : decode b_M_fresh 50 = .ok (.if_icmp .ge 16, 3) := by decide +kernel
theorem d_M_fresh_53 : decode b_M_fresh 53 = .ok (.aload_n 0, 1) := by decide +kernel
theorem d_M_fresh_54 : decode b_M_fresh 54 = .ok (.getfield 45, 3) := by decide +kernel
theorem d_M_fresh_57 : decode b_M_fresh 57 = .ok (.iload_n 2, 1) := by decide +kernel
theorem d_M_fresh_58 : decode b_M_fresh 58 = .ok (.iconst 0, 1) := by decide +kernel
theorem d_M_fresh_59 : decode b_M_fresh 59 = .ok (.bastore, 1) := by decide +kernel
theorem d_M_fresh_60 : decode b_M_fresh 60 = .ok (.iinc 2 1, 3) := by decide +kernel
theorem d_M_fresh_63 : decode b_M_fresh 63 = .ok (.goto (-21), 3) := by decide +kernel
theorem d_M_fresh_66 : decode b_M_fresh 66 = .ok (.return_, 1) := by decide +kernel
abbrev rm_M_fresh : Room := { frames := 0, cells := 0, slots := 0, locals := 0 }
set_option maxRecDepth 100000 in
set_option maxHeartbeats 4000000 in
theorem k_M_fresh_42 {p : Program} {l : Launch} {e : Env} {s : State} {m : MethodId} {args : Array Value} {below : List Frame} {meth : Method} {c : Code} {t : TY} {a0 : Nat} {K : GS → Prop} (X : kX p s m args meth c b_M_fresh 3 "TreeServerModel" t) (hret : meth.sig.returnType = none) : ∀ (n : Nat) (l1 : Int32) (l2 : Int32) (G : GS), w_M_fresh_42 t a0 K n l1 l2 G → kW p l e rm_M_fresh s m args below meth c (MQ below (va_Qv (fun u : GS => K u) (fun u T => HB t u T.heap) (tA t)) args s 0 0 (tA t)) 3 t false 42 [(0, va_rf (some a0)), (1, .int l1), (2, .int l2)] [] G := by
  intro n
  induction n with
  | zero => intro l1 l2 G hwp; exact hwp.elim
  | succ n hr_42 =>
    intro l1 l2 G hwp
    unfold w_M_fresh_42 at hwp
    dsimp only at hwp
    refine kw_iload_n (pc := 42) X d_M_fresh_42 rfl 2 rfl ?_
    refine kw_bipush (v := 6) (pc := 43) X d_M_fresh_43 (by decide) ?_
    refine kw_iload_n (pc := 45) X d_M_fresh_45 rfl 1 rfl ?_
    refine kw_imul (pc := 46) X d_M_fresh_46 ?_
    refine kw_bipush (v := 6) (pc := 47) X d_M_fresh_47 (by decide) ?_
    refine kw_iadd (pc := 49) X d_M_fresh_49 ?_
    refine kw_icmp_ge (tgt := 66) (pc := 50) X d_M_fresh_50 (by decide) (fun h => ?_) (fun h => ?_)
    · have hwp := ite_t h hwp
      exact kr_v (pc := 66) X hret d_M_fresh_66 hwp
    · have hwp := ite_f h hwp
      refine kw_aload_n (pc := 53) X d_M_fresh_53 rfl 0 rfl ?_
      obtain ⟨f1, hwp⟩ := hwp
      refine kg_86 (a := a0) (pc := 54) X d_M_fresh_54 x_1006 rfl f1 ?_
      refine kw_iload_n (pc := 57) X d_M_fresh_57 rfl 2 rfl ?_
      refine kw_iconst (v := 0) (pc := 58) X d_M_fresh_58 (by decide) ?_
      obtain ⟨a2, h_a2, hwp⟩ := hwp
      obtain ⟨f3, hwp⟩ := hwp
      obtain ⟨f4, hwp⟩ := hwp
      refine ka_zast (a := a2) (pc := 59) X rfl d_M_fresh_59 h_a2 f3 f4 ?_
      obtain ⟨G5, e_G5⟩ : ∃ g, g = ais G a2 l2.toNatClampNeg (vp_nar .boolean (0 : Int32)) := ⟨_, rfl⟩
      have hwp := hwp G5 e_G5
      refine kW.g e_G5.symm ?_
      obtain ⟨v6, e_v6⟩ : ∃ z, z = (l2 + (1 : Int32)) := ⟨_, rfl⟩
      have hwp := hwp v6 e_v6
      refine kw_iinc (v := v6) (lv' := [(2, .int v6), (0, va_rf (some a0)), (1, .int l1)]) (pc := 60) X d_M_fresh_60 2 rfl (by rw [e_v6]; rfl) (by decide) rfl ?_
      refine kw_goto (tgt := 42) (pc := 63) X d_M_fresh_63 (by decide) ?_
      exact kW.sub [1, 2, 0] rfl (hr_42 _ _ _ hwp)
set_option maxRecDepth 100000 in
set_option maxHeartbeats 4000000 in
theorem k_M_fresh {p : Program} {l : Launch} {e : Env} {s : State} {m : MethodId} {args : Array Value} {below : List Frame} {meth : Method} {c : Code} {t : TY} {a0 : Nat} {K : GS → Prop} (X : kX p s m args meth c b_M_fresh 3 "TreeServerModel" t) (hret : meth.sig.returnType = none) (G : GS) (p1 : Int32) (hwp : w_M_fresh t G a0 p1 K) : kW p l e rm_M_fresh s m args below meth c (MQ below (va_Qv (fun u : GS => K u) (fun u T => HB t u T.heap) (tA t)) args s 0 0 (tA t)) 3 t false 0 [(0, va_rf (some a0)), (1, .int p1)] [] G := by
  unfold w_M_fresh at hwp
  refine kw_aload_n (pc := 0) X d_M_fresh_0 rfl 0 rfl ?_
  obtain ⟨f1, hwp⟩ := hwp
  refine kg_80 (a := a0) (pc := 1) X d_M_fresh_1 x_1000 rfl f1 ?_
  refine kw_iload_n (pc := 4) X d_M_fresh_4 rfl 1 rfl ?_
  refine kw_iconst (v := 0) (pc := 5) X d_M_fresh_5 (by decide) ?_
  obtain ⟨a2, h_a2, hwp⟩ := hwp
  obtain ⟨f3, hwp⟩ := hwp
  obtain ⟨f4, hwp⟩ := hwp
  refine ka_iast (a := a2) (pc := 6) X rfl d_M_fresh_6 h_a2 f3 f4 ?_
  obtain ⟨G5, e_G5⟩ : ∃ g, g = ais G a2 p1.toNatClampNeg (0 : Int32) := ⟨_, rfl⟩
  have hwp := hwp G5 e_G5
  refine kW.g e_G5.symm ?_
  refine kw_aload_n (pc := 7) X d_M_fresh_7 rfl 0 rfl ?_
  refine kg_82 (a := a0) (pc := 8) X d_M_fresh_8 x_1002 rfl f1 ?_
  refine kw_iload_n (pc := 11) X d_M_fresh_11 rfl 1 rfl ?_
  refine kw_iconst (v := 0) (pc := 12) X d_M_fresh_12 (by decide) ?_
  obtain ⟨a6, h_a6, hwp⟩ := hwp
  obtain ⟨f7, hwp⟩ := hwp
  obtain ⟨f8, hwp⟩ := hwp
  refine ka_iast (a := a6) (pc := 13) X rfl d_M_fresh_13 h_a6 f7 f8 ?_
  obtain ⟨G9, e_G9⟩ : ∃ g, g = ais G5 a6 p1.toNatClampNeg (0 : Int32) := ⟨_, rfl⟩
  have hwp := hwp G9 e_G9
  refine kW.g e_G9.symm ?_
  refine kw_aload_n (pc := 14) X d_M_fresh_14 rfl 0 rfl ?_
  refine kg_83 (a := a0) (pc := 15) X d_M_fresh_15 x_1003 rfl f1 ?_
  refine kw_iload_n (pc := 18) X d_M_fresh_18 rfl 1 rfl ?_
  refine kw_sipush (v := 128) (pc := 19) X d_M_fresh_19 (by decide) ?_
  obtain ⟨a10, h_a10, hwp⟩ := hwp
  obtain ⟨f11, hwp⟩ := hwp
  obtain ⟨f12, hwp⟩ := hwp
  refine ka_iast (a := a10) (pc := 22) X rfl d_M_fresh_22 h_a10 f11 f12 ?_
  obtain ⟨G13, e_G13⟩ : ∃ g, g = ais G9 a10 p1.toNatClampNeg (128 : Int32) := ⟨_, rfl⟩
  have hwp := hwp G13 e_G13
  refine kW.g e_G13.symm ?_
  refine kw_aload_n (pc := 23) X d_M_fresh_23 rfl 0 rfl ?_
  refine kg_84 (a := a0) (pc := 24) X d_M_fresh_24 x_1004 rfl f1 ?_
  refine kw_iload_n (pc := 27) X d_M_fresh_27 rfl 1 rfl ?_
  refine kw_iconst (v := 0) (pc := 28) X d_M_fresh_28 (by decide) ?_
  obtain ⟨a14, h_a14, hwp⟩ := hwp
  obtain ⟨f15, hwp⟩ := hwp
  obtain ⟨f16, hwp⟩ := hwp
  refine ka_zast (a := a14) (pc := 29) X rfl d_M_fresh_29 h_a14 f15 f16 ?_
  obtain ⟨G17, e_G17⟩ : ∃ g, g = ais G13 a14 p1.toNatClampNeg (vp_nar .boolean (0 : Int32)) := ⟨_, rfl⟩
  have hwp := hwp G17 e_G17
  refine kW.g e_G17.symm ?_
  refine kw_aload_n (pc := 30) X d_M_fresh_30 rfl 0 rfl ?_
  refine kg_85 (a := a0) (pc := 31) X d_M_fresh_31 x_1005 rfl f1 ?_
  refine kw_iload_n (pc := 34) X d_M_fresh_34 rfl 1 rfl ?_
  refine kw_iconst (v := 0) (pc := 35) X d_M_fresh_35 (by decide) ?_
  obtain ⟨a18, h_a18, hwp⟩ := hwp
  obtain ⟨f19, hwp⟩ := hwp
  obtain ⟨f20, hwp⟩ := hwp
  refine ka_zast (a := a18) (pc := 36) X rfl d_M_fresh_36 h_a18 f19 f20 ?_
  obtain ⟨G21, e_G21⟩ : ∃ g, g = ais G17 a18 p1.toNatClampNeg (vp_nar .boolean (0 : Int32)) := ⟨_, rfl⟩
  have hwp := hwp G21 e_G21
  refine kW.g e_G21.symm ?_
  refine kw_bipush (v := 6) (pc := 37) X d_M_fresh_37 (by decide) ?_
  refine kw_iload_n (pc := 39) X d_M_fresh_39 rfl 1 rfl ?_
  refine kw_imul (pc := 40) X d_M_fresh_40 ?_
  obtain ⟨v22, e_v22⟩ : ∃ z, z = ((6 : Int32) * p1) := ⟨_, rfl⟩
  have hwp := hwp v22 e_v22
  refine kW.st (st' := .int v22 :: _) (by rw [e_v22]) ?_
  refine kw_istore_n (i := 2) (lv' := [(2, .int v22), (0, va_rf (some a0)), (1, .int p1)]) (pc := 41) X d_M_fresh_41 rfl (by decide) rfl ?_
  obtain ⟨n, hwp⟩ := hwp
  exact kW.sub [1, 2, 0] rfl (k_M_fresh_42 X hret  n _ _ _ hwp)
set_option maxRecDepth 100000 in
set_option maxHeartbeats 4000000 in
theorem c_M_fresh (l : Launch) (t : TY) (G : GS) (a0 : Nat) (p1 : Int32) (K : GS → Prop) : Met l y_M_fresh (Cond.code y_M_fresh b_M_fresh 3 (Option.none : Option Jvm.ClassFile.FieldType) :: GW) rm_M_fresh (va_Pc [.ref a0, .int p1] (fun U => HB t G U.heap ∧ HK t U ∧ w_M_fresh t G a0 p1 K)) (va_Qv (fun u : GS => K u) (fun u T => HB t u T.heap) (tA t)) 0 0 (tA t) := by
  refine Met.ofW (cc := b_M_fresh) (maxL := 3) (ret := none) (by decide) rfl ?_
  intro p e s m args below meth c s₁ B hml hv
  obtain ⟨rfl, hB, hK, hwp⟩ := hv
  have hts := atoms_spec (ws := Cond.code y_M_fresh b_M_fresh 3 (Option.none : Option Jvm.ClassFile.FieldType) :: GW) B.pre
  have X : kX p s m _ meth c b_M_fresh 3 "TreeServerModel" t := ⟨B.exec, B.bytes, hml, findClass_of_methodNamed B.named, fun w h => hts w (List.mem_cons_of_mem _ h), B.notSynchronized, hK⟩
  have hZ : kZ t false s G s.heap [] := ⟨hB, va_S.rf, fun _ => ⟨rfl, rfl⟩⟩
  rw [lg_entry_eq]
  have hl := lv_entry ([.ref a0, .int p1]) (n := 3) (by simp [lg_sl, rf_cat, cat_i, cat_l, cat_r])
  exact k_M_fresh X B.returns _ _ hwp s.heap [] _ hl hZ
abbrev b_M_at : ByteArray := prog_13_method_3_code
def y_M_at : MethodName := ⟨"TreeServerModel", "at", "(II)I"⟩
theorem d_M_at_0 : decode b_M_at 0 = .ok (.aload_n 0, 1) := by decide +kernel
theorem d_M_at_1 : decode b_M_at 1 = .ok (.getfield 7, 3) := by decide +kernel
theorem d_M_at_4 : decode b_M_at 4 = .ok (.bipush 83, 2) := by decide +kernel
theorem d_M_at_6 : decode b_M_at 6 = .ok (.iload_n 1, 1) := by decide +kernel
theorem d_M_at_7 : decode b_M_at 7 = .ok (.imul, 1) := by decide +kernel
theorem d_M_at_8 : decode b_M_at 8 = .ok (.iload_n 2, 1) := by decide +kernel
theorem d_M_at_9 : decode b_M_at 9 = .ok (.iadd, 1) := by decide +kernel
theorem d_M_at_10 : decode b_M_at 10 = .ok (.iaload, 1) := by decide +kernel
theorem d_M_at_11 : decode b_M_at 11 = .ok (.ireturn, 1) := by decide +kernel
abbrev rm_M_at : Room := { frames := 0, cells := 0, slots := 0, locals := 0 }
set_option maxRecDepth 100000 in
set_option maxHeartbeats 4000000 in
theorem k_M_at {p : Program} {l : Launch} {e : Env} {s : State} {m : MethodId} {args : Array Value} {below : List Frame} {meth : Method} {c : Code} {t : TY} {a0 : Nat} {G : GS} {K : Int32 → Prop} (X : kX p s m args meth c b_M_at 3 "TreeServerModel" t) (hret : meth.sig.returnType = some .int) (p1 : Int32) (p2 : Int32) (hwp : w_M_at t G a0 p1 p2 K) : kW p l e rm_M_at s m args below meth c (MQ below (vp_Si K) args s 0 0 (fun _ => False)) 3 t true 0 [(0, va_rf (some a0)), (1, .int p1), (2, .int p2)] [] G := by
  unfold w_M_at at hwp
  refine kw_aload_n (pc := 0) X d_M_at_0 rfl 0 rfl ?_
  obtain ⟨f1, hwp⟩ := hwp
  refine kg_70 (a := a0) (pc := 1) X d_M_at_1 x_990 rfl f1 ?_
  refine kw_bipush (v := 83) (pc := 4) X d_M_at_4 (by decide) ?_
  refine kw_iload_n (pc := 6) X d_M_at_6 rfl 1 rfl ?_
  refine kw_imul (pc := 7) X d_M_at_7 ?_
  refine kw_iload_n (pc := 8) X d_M_at_8 rfl 2 rfl ?_
  refine kw_iadd (pc := 9) X d_M_at_9 ?_
  obtain ⟨a2, h_a2, hwp⟩ := hwp
  obtain ⟨f3, hwp⟩ := hwp
  obtain ⟨f4, hwp⟩ := hwp
  refine ka_iald (a := a2) (pc := 10) X d_M_at_10 h_a2 f3 f4 ?_
  exact krp_i (pc := 11) X hret d_M_at_11 hwp
set_option maxRecDepth 100000 in
set_option maxHeartbeats 4000000 in
theorem c_M_at (l : Launch) (t : TY) (G : GS) (a0 : Nat) (p1 : Int32) (p2 : Int32) (K : Int32 → Prop) : Met l y_M_at (Cond.code y_M_at b_M_at 3 (Option.some Jvm.ClassFile.FieldType.int) :: GW) rm_M_at (va_Pc [.ref a0, .int p1, .int p2] (fun U => HB t G U.heap ∧ HK t U ∧ w_M_at t G a0 p1 p2 K)) (vp_Si K) 0 0 (fun _ => False) := by
  refine Met.ofW (cc := b_M_at) (maxL := 3) (ret := some .int) (by decide) rfl ?_
  intro p e s m args below meth c s₁ B hml hv
  obtain ⟨rfl, hB, hK, hwp⟩ := hv
  have hts := atoms_spec (ws := Cond.code y_M_at b_M_at 3 (Option.some Jvm.ClassFile.FieldType.int) :: GW) B.pre
  have X : kX p s m _ meth c b_M_at 3 "TreeServerModel" t := ⟨B.exec, B.bytes, hml, findClass_of_methodNamed B.named, fun w h => hts w (List.mem_cons_of_mem _ h), B.notSynchronized, hK⟩
  have hZ : kZ t true s G s.heap [] := ⟨hB, va_S.rf, fun _ => ⟨rfl, rfl⟩⟩
  rw [lg_entry_eq]
  have hl := lv_entry ([.ref a0, .int p1, .int p2]) (n := 3) (by simp [lg_sl, rf_cat, cat_i, cat_l, cat_r])
  exact k_M_at X B.returns _ _ hwp s.heap [] _ hl hZ
abbrev b_M_set : ByteArray := prog_13_method_4_code
def y_M_set : MethodName := ⟨"TreeServerModel", "set", "(III)V"⟩
theorem d_M_set_0 : decode b_M_set 0 = .ok (.aload_n 0, 1) := by decide +kernel
theorem d_M_set_1 : decode b_M_set 1 = .ok (.getfield 7, 3) := by decide +kernel
theorem d_M_set_4 : decode b_M_set 4 = .ok (.bipush 83, 2) := by decide +kernel
theorem d_M_set_6 : decode b_M_set 6 = .ok (.iload_n 1, 1) := by decide +kernel
theorem d_M_set_7 : decode b_M_set 7 = .ok (.imul, 1) := by decide +kernel
theorem d_M_set_8 : decode b_M_set 8 = .ok (.iload_n 2, 1) := by decide +kernel
theorem d_M_set_9 : decode b_M_set 9 = .ok (.iadd, 1) := by decide +kernel
theorem d_M_set_10 : decode b_M_set 10 = .ok (.iload_n 3, 1) := by decide +kernel
theorem d_M_set_11 : decode b_M_set 11 = .ok (.iastore, 1) := by decide +kernel
theorem d_M_set_12 : decode b_M_set 12 = .ok (.return_, 1) := by decide +kernel
abbrev rm_M_set : Room := { frames := 0, cells := 0, slots := 0, locals := 0 }
set_option maxRecDepth 100000 in
set_option maxHeartbeats 4000000 in
theorem k_M_set {p : Program} {l : Launch} {e : Env} {s : State} {m : MethodId} {args : Array Value} {below : List Frame} {meth : Method} {c : Code} {t : TY} {a0 : Nat} {K : GS → Prop} (X : kX p s m args meth c b_M_set 4 "TreeServerModel" t) (hret : meth.sig.returnType = none) (G : GS) (p1 : Int32) (p2 : Int32) (p3 : Int32) (hwp : w_M_set t G a0 p1 p2 p3 K) : kW p l e rm_M_set s m args below meth c (MQ below (va_Qv (fun u : GS => K u) (fun u T => HB t u T.heap) (tA t)) args s 0 0 (tA t)) 4 t false 0 [(0, va_rf (some a0)), (1, .int p1), (2, .int p2), (3, .int p3)] [] G := by
  unfold w_M_set at hwp
  refine kw_aload_n (pc := 0) X d_M_set_0 rfl 0 rfl ?_
  obtain ⟨f1, hwp⟩ := hwp
  refine kg_70 (a := a0) (pc := 1) X d_M_set_1 x_990 rfl f1 ?_
  refine kw_bipush (v := 83) (pc := 4) X d_M_set_4 (by decide) ?_
  refine kw_iload_n (pc := 6) X d_M_set_6 rfl 1 rfl ?_
  refine kw_imul (pc := 7) X d_M_set_7 ?_
  refine kw_iload_n (pc := 8) X d_M_set_8 rfl 2 rfl ?_
  refine kw_iadd (pc := 9) X d_M_set_9 ?_
  refine kw_iload_n (pc := 10) X d_M_set_10 rfl 3 rfl ?_
  obtain ⟨a2, h_a2, hwp⟩ := hwp
  obtain ⟨f3, hwp⟩ := hwp
  obtain ⟨f4, hwp⟩ := hwp
  refine ka_iast (a := a2) (pc := 11) X rfl d_M_set_11 h_a2 f3 f4 ?_
  obtain ⟨G5, e_G5⟩ : ∃ g, g = ais G a2 (((83 : Int32) * p1) + p2).toNatClampNeg p3 := ⟨_, rfl⟩
  have hwp := hwp G5 e_G5
  refine kW.g e_G5.symm ?_
  exact kr_v (pc := 12) X hret d_M_set_12 hwp
set_option maxRecDepth 100000 in
set_option maxHeartbeats 4000000 in
theorem c_M_set (l : Launch) (t : TY) (G : GS) (a0 : Nat) (p1 : Int32) (p2 : Int32) (p3 : Int32) (K : GS → Prop) : Met l y_M_set (Cond.code y_M_set b_M_set 4 (Option.none : Option Jvm.ClassFile.FieldType) :: GW) rm_M_set (va_Pc [.ref a0, .int p1, .int p2, .int p3] (fun U => HB t G U.heap ∧ HK t U ∧ w_M_set t G a0 p1 p2 p3 K)) (va_Qv (fun u : GS => K u) (fun u T => HB t u T.heap) (tA t)) 0 0 (tA t) := by
  refine Met.ofW (cc := b_M_set) (maxL := 4) (ret := none) (by decide) rfl ?_
  intro p e s m args below meth c s₁ B hml hv
  obtain ⟨rfl, hB, hK, hwp⟩ := hv
  have hts := atoms_spec (ws := Cond.code y_M_set b_M_set 4 (Option.none : Option Jvm.ClassFile.FieldType) :: GW) B.pre
  have X : kX p s m _ meth c b_M_set 4 "TreeServerModel" t := ⟨B.exec, B.bytes, hml, findClass_of_methodNamed B.named, fun w h => hts w (List.mem_cons_of_mem _ h), B.notSynchronized, hK⟩
  have hZ : kZ t false s G s.heap [] := ⟨hB, va_S.rf, fun _ => ⟨rfl, rfl⟩⟩
  rw [lg_entry_eq]
  have hl := lv_entry ([.ref a0, .int p1, .int p2, .int p3]) (n := 4) (by simp [lg_sl, rf_cat, cat_i, cat_l, cat_r])
  exact k_M_set X B.returns _ _ _ _ hwp s.heap [] _ hl hZ
abbrev b_M_find : ByteArray := prog_13_method_5_code
def y_M_find : MethodName := ⟨"TreeServerModel", "find", "(I)I"⟩
theorem d_M_find_0 : decode b_M_find 0 = .ok (.iconst 0, 1) := by decide +kernel
theorem d_M_find_1 : decode b_M_find 1 = .ok (.istore_n 2, 1) := by decide +kernel
theorem d_M_find_2 : decode b_M_find 2 = .ok (.iload_n 2, 1) := by decide +kernel
theorem d_M_find_3 : decode b_M_find 3 = .ok (.bipush 21, 2) := by decide +kernel
theorem d_M_find_5 : decode b_M_find 5 = .ok (.if_icmp .ge 31, 3) := by decide +kernel
theorem d_M_find_8 : decode b_M_find 8 = .ok (.aload_n 0, 1) := by decide +kernel
theorem d_M_find_9 : decode b_M_find 9 = .ok (.iload_n 2, 1) := by decide +kernel
theorem d_M_find_10 : decode b_M_find 10 = .ok (.iconst 0, 1) := by decide +kernel
theorem d_M_find_11 : decode b_M_find 11 = .ok (.invokevirtual 81, 3) := by decide +kernel
theorem d_M_find_14 : decode b_M_find 14 = .ok (.iconst 1, 1) := by decide +kernel
theorem d_M_find_15 : decode b_M_find 15 = .ok (.if_icmp .ne 15, 3) := by decide +kernel
theorem d_M_find_18 : decode b_M_find 18 = .ok (.aload_n 0, 1) := by decide +kernel
theorem d_M_find_19 : decode b_M_find 19 = .ok (.iload_n 2, 1) := by decide +kernel
theorem d_M_find_20 : decode b_M_find 20 = .ok (.iconst 1, 1) := by decide +kernel
theorem d_M_find_21 : decode b_M_find 21 = .ok (.invokevirtual 81, 3) := by decide +kernel
theorem d_M_find_24 : decode b_M_find 24 = .ok (.iload_n 1, 1) := by decide +kernel
theorem d_M_find_25 : decode b_M_find 25 = .ok (.if_icmp .ne 5, 3) := by decide +kernel
theorem d_M_find_28 : decode b_M_find 28 = .ok (.iload_n 2, 1) := by decide +kernel
theorem d_M_find_29 : decode b_M_find 29 = .ok (.ireturn, 1) := by decide +kernel
theorem d_M_find_30 : decode b_M_find 30 = .ok (.iinc 2 1, 3) := by decide +kernel
theorem d_M_find_33 : decode b_M_find 33 = .ok (.goto (-31), 3) := by decide +kernel
theorem d_M_find_36 : decode b_M_find 36 = .ok (.iconst (-1), 1) := by decide +kernel
theorem d_M_find_37 : decode b_M_find 37 = .ok (.ireturn, 1) := by decide +kernel
abbrev rm_M_find : Room := { frames := 1, cells := 0, slots := 0, locals := 22 }
set_option maxRecDepth 100000 in
set_option maxHeartbeats 4000000 in
theorem k_M_find_2 {p : Program} {l : Launch} {e : Env} {s : State} {m : MethodId} {args : Array Value} {below : List Frame} {meth : Method} {c : Code} {t : TY} {a0 : Nat} {G : GS} {K : Int32 → Prop} (X : kX p s m args meth c b_M_find 3 "TreeServerModel" t) (hret : meth.sig.returnType = some .int) : ∀ (n : Nat) (l1 : Int32) (l2 : Int32), w_M_find_2 t G a0 K n l1 l2 → kW p l e rm_M_find s m args below meth c (MQ below (vp_Si K) args s 0 0 (fun _ => False)) 3 t true 2 [(0, va_rf (some a0)), (1, .int l1), (2, .int l2)] [] G := by
  intro n
  induction n with
  | zero => intro l1 l2 hwp; exact hwp.elim
  | succ n hr_2 =>
    intro l1 l2 hwp
    unfold w_M_find_2 at hwp
    dsimp only at hwp
    refine kw_iload_n (pc := 2) X d_M_find_2 rfl 2 rfl ?_
    refine kw_bipush (v := 21) (pc := 3) X d_M_find_3 (by decide) ?_
    refine kw_icmp_ge (tgt := 36) (pc := 5) X d_M_find_5 (by decide) (fun h => ?_) (fun h => ?_)
    · have hwp := ite_t h hwp
      refine kw_iconst (v := -1) (pc := 36) X d_M_find_36 (by decide) ?_
      exact krp_i (pc := 37) X hret d_M_find_37 hwp
    · have hwp := ite_f h hwp
      refine kw_aload_n (pc := 8) X d_M_find_8 rfl 0 rfl ?_
      refine kw_iload_n (pc := 9) X d_M_find_9 rfl 2 rfl ?_
      refine kw_iconst (v := 0) (pc := 10) X d_M_find_10 (by decide) ?_
      obtain ⟨f1, hwp⟩ := hwp
      refine kcVp_i (n := 2) (As := [.int l2, .int (0 : Int32)]) (rest := []) (pc := 11) X (c_M_at l t G a0 l2 (0 : Int32) _) (cwV_of (C := "TreeServerModel") X x_1111 x_1108 x_1110 xp_41 x_13 (by decide +kernel) ⟨rfl, rfl⟩ (by decide)) (rv_10 X f1) rfl rfl (by decide) d_M_find_11 hwp (fun v2 hwp => ?_)
      refine kw_iconst (v := 1) (pc := 14) X d_M_find_14 (by decide) ?_
      refine kw_icmp_ne (tgt := 30) (pc := 15) X d_M_find_15 (by decide) (fun h => ?_) (fun h => ?_)
      · have hwp := ite_t h hwp
        obtain ⟨v3, e_v3⟩ : ∃ z, z = (l2 + (1 : Int32)) := ⟨_, rfl⟩
        have hwp := hwp v3 e_v3
        refine kw_iinc (v := v3) (lv' := [(2, .int v3), (0, va_rf (some a0)), (1, .int l1)]) (pc := 30) X d_M_find_30 2 rfl (by rw [e_v3]; rfl) (by decide) rfl ?_
        refine kw_goto (tgt := 2) (pc := 33) X d_M_find_33 (by decide) ?_
        exact kW.sub [1, 2, 0] rfl (hr_2 _ _ hwp)
      · have hwp := ite_f (not_not_intro h) hwp
        refine kw_aload_n (pc := 18) X d_M_find_18 rfl 0 rfl ?_
        refine kw_iload_n (pc := 19) X d_M_find_19 rfl 2 rfl ?_
        refine kw_iconst (v := 1) (pc := 20) X d_M_find_20 (by decide) ?_
        refine kcVp_i (n := 2) (As := [.int l2, .int (1 : Int32)]) (rest := []) (pc := 21) X (c_M_at l t G a0 l2 (1 : Int32) _) (cwV_of (C := "TreeServerModel") X x_1111 x_1108 x_1110 xp_41 x_13 (by decide +kernel) ⟨rfl, rfl⟩ (by decide)) (rv_10 X f1) rfl rfl (by decide) d_M_find_21 hwp (fun v4 hwp => ?_)
        refine kw_iload_n (pc := 24) X d_M_find_24 rfl 1 rfl ?_
        refine kw_icmp_ne (tgt := 30) (pc := 25) X d_M_find_25 (by decide) (fun h => ?_) (fun h => ?_)
        · have hwp := ite_t h hwp
          obtain ⟨v5, e_v5⟩ : ∃ z, z = (l2 + (1 : Int32)) := ⟨_, rfl⟩
          have hwp := hwp v5 e_v5
          refine kw_iinc (v := v5) (lv' := [(2, .int v5), (0, va_rf (some a0)), (1, .int l1)]) (pc := 30) X d_M_find_30 2 rfl (by rw [e_v5]; rfl) (by decide) rfl ?_
          refine kw_goto (tgt := 2) (pc := 33) X d_M_find_33 (by decide) ?_
          exact kW.sub [1, 2, 0] rfl (hr_2 _ _ hwp)
        · have hwp := ite_f (not_not_intro h) hwp
          refine kw_iload_n (pc := 28) X d_M_find_28 rfl 2 rfl ?_
          exact krp_i (pc := 29) X hret d_M_find_29 hwp
set_option maxRecDepth 100000 in
set_option maxHeartbeats 4000000 in
theorem k_M_find {p : Program} {l : Launch} {e : Env} {s : State} {m : MethodId} {args : Array Value} {below : List Frame} {meth : Method} {c : Code} {t : TY} {a0 : Nat} {G : GS} {K : Int32 → Prop} (X : kX p s m args meth c b_M_find 3 "TreeServerModel" t) (hret : meth.sig.returnType = some .int) (p1 : Int32) (hwp : w_M_find t G a0 p1 K) : kW p l e rm_M_find s m args below meth c (MQ below (vp_Si K) args s 0 0 (fun _ => False)) 3 t true 0 [(0, va_rf (some a0)), (1, .int p1)] [] G := by
  unfold w_M_find at hwp
  refine kw_iconst (v := 0) (pc := 0) X d_M_find_0 (by decide) ?_
  refine kw_istore_n (i := 2) (lv' := [(2, .int (0 : Int32)), (0, va_rf (some a0)), (1, .int p1)]) (pc := 1) X d_M_find_1 rfl (by decide) rfl ?_
  obtain ⟨n, hwp⟩ := hwp
  exact kW.sub [1, 2, 0] rfl (k_M_find_2 X hret  n _ _ hwp)
set_option maxRecDepth 100000 in
set_option maxHeartbeats 4000000 in
theorem c_M_find (l : Launch) (t : TY) (G : GS) (a0 : Nat) (p1 : Int32) (K : Int32 → Prop) : Met l y_M_find (Cond.code y_M_find b_M_find 3 (Option.some Jvm.ClassFile.FieldType.int) :: GW) rm_M_find (va_Pc [.ref a0, .int p1] (fun U => HB t G U.heap ∧ HK t U ∧ w_M_find t G a0 p1 K)) (vp_Si K) 0 0 (fun _ => False) := by
  refine Met.ofW (cc := b_M_find) (maxL := 3) (ret := some .int) (by decide) rfl ?_
  intro p e s m args below meth c s₁ B hml hv
  obtain ⟨rfl, hB, hK, hwp⟩ := hv
  have hts := atoms_spec (ws := Cond.code y_M_find b_M_find 3 (Option.some Jvm.ClassFile.FieldType.int) :: GW) B.pre
  have X : kX p s m _ meth c b_M_find 3 "TreeServerModel" t := ⟨B.exec, B.bytes, hml, findClass_of_methodNamed B.named, fun w h => hts w (List.mem_cons_of_mem _ h), B.notSynchronized, hK⟩
  have hZ : kZ t true s G s.heap [] := ⟨hB, va_S.rf, fun _ => ⟨rfl, rfl⟩⟩
  rw [lg_entry_eq]
  have hl := lv_entry ([.ref a0, .int p1]) (n := 3) (by simp [lg_sl, rf_cat, cat_i, cat_l, cat_r])
  exact k_M_find X B.returns _ hwp s.heap [] _ hl hZ
abbrev b_M_isDirectory : ByteArray := prog_13_method_6_code
def y_M_isDirectory : MethodName := ⟨"TreeServerModel", "isDirectory", "(I)Z"⟩
theorem d_M_isDirectory_0 : decode b_M_isDirectory 0 = .ok (.aload_n 0, 1) := by decide +kernel
theorem d_M_isDirectory_1 : decode b_M_isDirectory 1 = .ok (.iload_n 1, 1) := by decide +kernel
theorem d_M_isDirectory_2 : decode b_M_isDirectory 2 = .ok (.iconst 3, 1) := by decide +kernel
theorem d_M_isDirectory_3 : decode b_M_isDirectory 3 = .ok (.invokevirtual 81, 3) := by decide +kernel
theorem d_M_isDirectory_6 : decode b_M_isDirectory 6 = .ok (.ifCond .ge 7, 3) := by decide +kernel
theorem d_M_isDirectory_9 : decode b_M_isDirectory 9 = .ok (.iconst 1, 1) := by decide +kernel
theorem d_M_isDirectory_10 : decode b_M_isDirectory 10 = .ok (.goto 4, 3) := by decide +kernel
theorem d_M_isDirectory_13 : decode b_M_isDirectory 13 = .ok (.iconst 0, 1) := by decide +kernel
theorem d_M_isDirectory_14 : decode b_M_isDirectory 14 = .ok (.ireturn, 1) := by decide +kernel
abbrev rm_M_isDirectory : Room := { frames := 1, cells := 0, slots := 0, locals := 22 }
set_option maxRecDepth 100000 in
set_option maxHeartbeats 4000000 in
theorem k_M_isDirectory {p : Program} {l : Launch} {e : Env} {s : State} {m : MethodId} {args : Array Value} {below : List Frame} {meth : Method} {c : Code} {t : TY} {a0 : Nat} {G : GS} {K : Int32 → Prop} (X : kX p s m args meth c b_M_isDirectory 2 "TreeServerModel" t) (hret : meth.sig.returnType = some .boolean) (p1 : Int32) (hwp : w_M_isDirectory t G a0 p1 K) : kW p l e rm_M_isDirectory s m args below meth c (MQ below (vp_Si (fun r => isB r ∧ K r)) args s 0 0 (fun _ => False)) 2 t true 0 [(0, va_rf (some a0)), (1, .int p1)] [] G := by
  unfold w_M_isDirectory at hwp
  refine kw_aload_n (pc := 0) X d_M_isDirectory_0 rfl 0 rfl ?_
  refine kw_iload_n (pc := 1) X d_M_isDirectory_1 rfl 1 rfl ?_
  refine kw_iconst (v := 3) (pc := 2) X d_M_isDirectory_2 (by decide) ?_
  obtain ⟨f1, hwp⟩ := hwp
  refine kcVp_i (n := 2) (As := [.int p1, .int (3 : Int32)]) (rest := []) (pc := 3) X (c_M_at l t G a0 p1 (3 : Int32) _) (cwV_of (C := "TreeServerModel") X x_1111 x_1108 x_1110 xp_41 x_13 (by decide +kernel) ⟨rfl, rfl⟩ (by decide)) (rv_10 X f1) rfl rfl (by decide) d_M_isDirectory_3 hwp (fun v2 hwp => ?_)
  refine kw_if_ge (tgt := 13) (pc := 6) X d_M_isDirectory_6 (by decide) (fun h => ?_) (fun h => ?_)
  · have hwp := ite_t h hwp
    refine kw_iconst (v := 0) (pc := 13) X d_M_isDirectory_13 (by decide) ?_
    exact krp_z (pc := 14) X hret d_M_isDirectory_14 (Or.inl rfl) hwp
  · have hwp := ite_f h hwp
    refine kw_iconst (v := 1) (pc := 9) X d_M_isDirectory_9 (by decide) ?_
    refine kw_goto (tgt := 14) (pc := 10) X d_M_isDirectory_10 (by decide) ?_
    exact krp_z (pc := 14) X hret d_M_isDirectory_14 (Or.inr rfl) hwp
set_option maxRecDepth 100000 in
set_option maxHeartbeats 4000000 in
theorem c_M_isDirectory (l : Launch) (t : TY) (G : GS) (a0 : Nat) (p1 : Int32) (K : Int32 → Prop) : Met l y_M_isDirectory (Cond.code y_M_isDirectory b_M_isDirectory 2 (Option.some Jvm.ClassFile.FieldType.boolean) :: GW) rm_M_isDirectory (va_Pc [.ref a0, .int p1] (fun U => HB t G U.heap ∧ HK t U ∧ w_M_isDirectory t G a0 p1 K)) (vp_Si (fun r => isB r ∧ K r)) 0 0 (fun _ => False) := by
  refine Met.ofW (cc := b_M_isDirectory) (maxL := 2) (ret := some .boolean) (by decide) rfl ?_
  intro p e s m args below meth c s₁ B hml hv
  obtain ⟨rfl, hB, hK, hwp⟩ := hv
  have hts := atoms_spec (ws := Cond.code y_M_isDirectory b_M_isDirectory 2 (Option.some Jvm.ClassFile.FieldType.boolean) :: GW) B.pre
  have X : kX p s m _ meth c b_M_isDirectory 2 "TreeServerModel" t := ⟨B.exec, B.bytes, hml, findClass_of_methodNamed B.named, fun w h => hts w (List.mem_cons_of_mem _ h), B.notSynchronized, hK⟩
  have hZ : kZ t true s G s.heap [] := ⟨hB, va_S.rf, fun _ => ⟨rfl, rfl⟩⟩
  rw [lg_entry_eq]
  have hl := lv_entry ([.ref a0, .int p1]) (n := 2) (by simp [lg_sl, rf_cat, cat_i, cat_l, cat_r])
  exact k_M_isDirectory X B.returns _ hwp s.heap [] _ hl hZ
abbrev b_M_entry : ByteArray := prog_13_method_7_code
def y_M_entry : MethodName := ⟨"TreeServerModel", "entry", "(II)I"⟩
theorem d_M_entry_0 : decode b_M_entry 0 = .ok (.iconst (-1), 1) := by decide +kernel
theorem d_M_entry_1 : decode b_M_entry 1 = .ok (.istore_n 3, 1) := by decide +kernel
theorem d_M_entry_2 : decode b_M_entry 2 = .ok (.iconst 1, 1) := by decide +kernel
theorem d_M_entry_3 : decode b_M_entry 3 = .ok (.istore 4, 2) := by decide +kernel
theorem d_M_entry_5 : decode b_M_entry 5 = .ok (.iload 4, 2) := by decide +kernel
theorem d_M_entry_7 : decode b_M_entry 7 = .ok (.bipush 21, 2) := by decide +kernel
theorem d_M_entry_9 : decode b_M_entry 9 = .ok (.if_icmp .ge 83, 3) := by decide +kernel
theorem d_M_entry_12 : decode b_M_entry 12 = .ok (.aload_n 0, 1) := by decide +kernel
theorem d_M_entry_13 : decode b_M_entry 13 = .ok (.iload 4, 2) := by decide +kernel
theorem d_M_entry_15 : decode b_M_entry 15 = .ok (.iconst 0, 1) := by decide +kernel
theorem d_M_entry_16 : decode b_M_entry 16 = .ok (.invokevirtual 81, 3) := by decide +kernel
theorem d_M_entry_19 : decode b_M_entry 19 = .ok (.iconst 1, 1) := by decide +kernel
theorem d_M_entry_20 : decode b_M_entry 20 = .ok (.if_icmp .ne 35, 3) := by decide +kernel
theorem d_M_entry_23 : decode b_M_entry 23 = .ok (.aload_n 0, 1) := by decide +kernel
theorem d_M_entry_24 : decode b_M_entry 24 = .ok (.iload 4, 2) := by decide +kernel
theorem d_M_entry_26 : decode b_M_entry 26 = .ok (.bipush 8, 2) := by decide +kernel
theorem d_M_entry_28 : decode b_M_entry 28 = .ok (.invokevirtual 81, 3) := by decide +kernel
theorem d_M_entry_31 : decode b_M_entry 31 = .ok (.aload_n 0, 1) := by decide +kernel
theorem d_M_entry_32 : decode b_M_entry 32 = .ok (.iload_n 1, 1) := by decide +kernel
theorem d_M_entry_33 : decode b_M_entry 33 = .ok (.iconst 1, 1) := by decide +kernel
theorem d_M_entry_34 : decode b_M_entry 34 = .ok (.invokevirtual 81, 3) := by decide +kernel
theorem d_M_entry_37 : decode b_M_entry 37 = .ok (.if_icmp .ne 18, 3) := by decide +kernel
theorem d_M_entry_40 : decode b_M_entry 40 = .ok (.aload_n 0, 1) := by decide +kernel
theorem d_M_entry_41 : decode b_M_entry 41 = .ok (.iload 4, 2) := by decide +kernel
theorem d_M_entry_43 : decode b_M_entry 43 = .ok (.iconst 1, 1) := by decide +kernel
theorem d_M_entry_44 : decode b_M_entry 44 = .ok (.invokevirtual 81, 3) := by decide +kernel
theorem d_M_entry_47 : decode b_M_entry 47 = .ok (.iload_n 2, 1) := by decide +kernel
theorem d_M_entry_48 : decode b_M_entry 48 = .ok (.if_icmp .le 7, 3) := by decide +kernel
theorem d_M_entry_51 : decode b_M_entry 51 = .ok (.iconst 1, 1) := by decide +kernel
theorem d_M_entry_52 : decode b_M_entry 52 = .ok (.goto 4, 3) := by decide +kernel
theorem d_M_entry_55 : decode b_M_entry 55 = .ok (.iconst 0, 1) := by decide +kernel
theorem d_M_entry_56 : decode b_M_entry 56 = .ok (.istore 5, 2) := by decide +kernel
theorem d_M_entry_58 : decode b_M_entry 58 = .ok (.iload 5, 2) := by decide +kernel
theorem d_M_entry_60 : decode b_M_entry 60 = .ok (.ifCond .eq 26, 3) := by decide +kernel
theorem d_M_entry_63 : decode b_M_entry 63 = .ok (.iload_n 3, 1) := by decide +kernel
theorem d_M_entry_64 : decode b_M_entry 64 = .ok (.ifCond .lt 19, 3) := by decide +kernel
theorem d_M_entry_67 : decode b_M_entry 67 = .ok (.aload_n 0, 1) := by decide +kernel
theorem d_M_entry_68 : decode b_M_entry 68 = .ok (.iload 4, 2) := by decide +kernel
theorem d_M_entry_70 : decode b_M_entry 70 = .ok (.iconst 1, 1) := by decide +kernel
theorem d_M_entry_71 : decode b_M_entry 71 = .ok (.invokevirtual 81, 3) := by decide +kernel
theorem d_M_entry_74 : decode b_M_entry 74 = .ok (.aload_n 0, 1) := by decide +kernel
theorem d_M_entry_75 : decode b_M_entry 75 = .ok (.iload_n 3, 1) := by decide +kernel
theorem d_M_entry_76 : decode b_M_entry 76 = .ok (.iconst 1, 1) := by decide +kernel
theorem d_M_entry_77 : decode b_M_entry 77 = .ok (.invokevirtual 81, 3) := by decide +kernel
theorem d_M_entry_80 : decode b_M_entry 80 = .ok (.if_icmp .ge 6, 3) := by decide +kernel
theorem d_M_entry_83 : decode b_M_entry 83 = .ok (.iload 4, 2) := by decide +kernel
theorem d_M_entry_85 : decode b_M_entry 85 = .ok (.istore_n 3, 1) := by decide +kernel
theorem d_M_entry_86 : decode b_M_entry 86 = .ok (.iinc 4 1, 3) := by decide +kernel
theorem d_M_entry_89 : decode b_M_entry 89 = .ok (.goto (-84), 3) := by decide +kernel
theorem d_M_entry_92 : decode b_M_entry 92 = .ok (.iload_n 3, 1) := by decide +kernel
theorem d_M_entry_93 : decode b_M_entry 93 = .ok (.ireturn, 1) := by decide +kernel
abbrev rm_M_entry : Room := { frames := 1, cells := 0, slots := 0, locals := 22 }
set_option maxRecDepth 100000 in
set_option maxHeartbeats 4000000 in
theorem k_M_entry_56 {p : Program} {l : Launch} {e : Env} {s : State} {m : MethodId} {args : Array Value} {below : List Frame} {meth : Method} {c : Code} {t : TY} {a0 : Nat} {G : GS} {K : Int32 → Prop} {r5 : Int32 → Int32 → Int32 → Int32 → Prop} (X : kX p s m args meth c b_M_entry 6 "TreeServerModel" t) (hret : meth.sig.returnType = some .int) (hr_5 : ∀ (l1 : Int32) (l2 : Int32) (l3 : Int32) (l4 : Int32), r5 l1 l2 l3 l4 → kW p l e rm_M_entry s m args below meth c (MQ below (vp_Si K) args s 0 0 (fun _ => False)) 6 t true 5 [(0, va_rf (some a0)), (1, .int l1), (2, .int l2), (3, .int l3), (4, .int l4)] [] G) (l1 : Int32) (l2 : Int32) (l3 : Int32) (l4 : Int32) (s0 : Int32) (hwp : w_M_entry_56 t G a0 K r5 l1 l2 l3 l4 s0) : kW p l e rm_M_entry s m args below meth c (MQ below (vp_Si K) args s 0 0 (fun _ => False)) 6 t true 56 [(0, va_rf (some a0)), (1, .int l1), (2, .int l2), (3, .int l3), (4, .int l4)] [.int s0] G := by
  unfold w_M_entry_56 at hwp
  refine kw_istore (i := 5) (lv' := [(5, .int s0), (0, va_rf (some a0)), (1, .int l1), (2, .int l2), (3, .int l3), (4, .int l4)]) (pc := 56) X d_M_entry_56 (by decide) rfl ?_
  refine kw_iload (pc := 58) X d_M_entry_58 0 rfl ?_
  refine kw_if_eq (tgt := 86) (pc := 60) X d_M_entry_60 (by decide) (fun h => ?_) (fun h => ?_)
  · have hwp := ite_t h hwp
    obtain ⟨v1, e_v1⟩ : ∃ z, z = (l4 + (1 : Int32)) := ⟨_, rfl⟩
    have hwp := hwp v1 e_v1
    refine kw_iinc (v := v1) (lv' := [(4, .int v1), (5, .int s0), (0, va_rf (some a0)), (1, .int l1), (2, .int l2), (3, .int l3)]) (pc := 86) X d_M_entry_86 5 rfl (by rw [e_v1]; rfl) (by decide) rfl ?_
    refine kw_goto (tgt := 5) (pc := 89) X d_M_entry_89 (by decide) ?_
    exact kW.sub [2, 3, 4, 5, 0] rfl (hr_5 _ _ _ _ hwp)
  · have hwp := ite_f h hwp
    refine kw_iload_n (pc := 63) X d_M_entry_63 rfl 4 rfl ?_
    refine kw_if_lt (tgt := 83) (pc := 64) X d_M_entry_64 (by decide) (fun h => ?_) (fun h => ?_)
    · have hwp := ite_t h hwp
      refine kw_iload (pc := 83) X d_M_entry_83 5 rfl ?_
      refine kw_istore_n (i := 3) (lv' := [(3, .int l4), (5, .int s0), (0, va_rf (some a0)), (1, .int l1), (2, .int l2), (4, .int l4)]) (pc := 85) X d_M_entry_85 rfl (by decide) rfl ?_
      obtain ⟨v2, e_v2⟩ : ∃ z, z = (l4 + (1 : Int32)) := ⟨_, rfl⟩
      have hwp := hwp v2 e_v2
      refine kw_iinc (v := v2) (lv' := [(4, .int v2), (3, .int l4), (5, .int s0), (0, va_rf (some a0)), (1, .int l1), (2, .int l2)]) (pc := 86) X d_M_entry_86 5 rfl (by rw [e_v2]; rfl) (by decide) rfl ?_
      refine kw_goto (tgt := 5) (pc := 89) X d_M_entry_89 (by decide) ?_
      exact kW.sub [3, 4, 5, 1, 0] rfl (hr_5 _ _ _ _ hwp)
    · have hwp := ite_f h hwp
      refine kw_aload_n (pc := 67) X d_M_entry_67 rfl 1 rfl ?_
      refine kw_iload (pc := 68) X d_M_entry_68 5 rfl ?_
      refine kw_iconst (v := 1) (pc := 70) X d_M_entry_70 (by decide) ?_
      obtain ⟨f3, hwp⟩ := hwp
      refine kcVp_i (n := 2) (As := [.int l4, .int (1 : Int32)]) (rest := []) (pc := 71) X (c_M_at l t G a0 l4 (1 : Int32) _) (cwV_of (C := "TreeServerModel") X x_1111 x_1108 x_1110 xp_41 x_13 (by decide +kernel) ⟨rfl, rfl⟩ (by decide)) (rv_10 X f3) rfl rfl (by decide) d_M_entry_71 hwp (fun v4 hwp => ?_)
      refine kw_aload_n (pc := 74) X d_M_entry_74 rfl 1 rfl ?_
      refine kw_iload_n (pc := 75) X d_M_entry_75 rfl 4 rfl ?_
      refine kw_iconst (v := 1) (pc := 76) X d_M_entry_76 (by decide) ?_
      refine kcVp_i (n := 2) (As := [.int l3, .int (1 : Int32)]) (rest := [.int v4]) (pc := 77) X (c_M_at l t G a0 l3 (1 : Int32) _) (cwV_of (C := "TreeServerModel") X x_1111 x_1108 x_1110 xp_41 x_13 (by decide +kernel) ⟨rfl, rfl⟩ (by decide)) (rv_10 X f3) rfl rfl (by simp [rf_cat, cat_i, cat_l, cat_r]) d_M_entry_77 hwp (fun v5 hwp => ?_)
      refine kw_icmp_ge (tgt := 86) (pc := 80) X d_M_entry_80 (by decide) (fun h => ?_) (fun h => ?_)
      · have hwp := ite_t h hwp
        obtain ⟨v6, e_v6⟩ : ∃ z, z = (l4 + (1 : Int32)) := ⟨_, rfl⟩
        have hwp := hwp v6 e_v6
        refine kw_iinc (v := v6) (lv' := [(4, .int v6), (5, .int s0), (0, va_rf (some a0)), (1, .int l1), (2, .int l2), (3, .int l3)]) (pc := 86) X d_M_entry_86 5 rfl (by rw [e_v6]; rfl) (by decide) rfl ?_
        refine kw_goto (tgt := 5) (pc := 89) X d_M_entry_89 (by decide) ?_
        exact kW.sub [2, 3, 4, 5, 0] rfl (hr_5 _ _ _ _ hwp)
      · have hwp := ite_f h hwp
        refine kw_iload (pc := 83) X d_M_entry_83 5 rfl ?_
        refine kw_istore_n (i := 3) (lv' := [(3, .int l4), (5, .int s0), (0, va_rf (some a0)), (1, .int l1), (2, .int l2), (4, .int l4)]) (pc := 85) X d_M_entry_85 rfl (by decide) rfl ?_
        obtain ⟨v7, e_v7⟩ : ∃ z, z = (l4 + (1 : Int32)) := ⟨_, rfl⟩
        have hwp := hwp v7 e_v7
        refine kw_iinc (v := v7) (lv' := [(4, .int v7), (3, .int l4), (5, .int s0), (0, va_rf (some a0)), (1, .int l1), (2, .int l2)]) (pc := 86) X d_M_entry_86 5 rfl (by rw [e_v7]; rfl) (by decide) rfl ?_
        refine kw_goto (tgt := 5) (pc := 89) X d_M_entry_89 (by decide) ?_
        exact kW.sub [3, 4, 5, 1, 0] rfl (hr_5 _ _ _ _ hwp)
set_option maxRecDepth 100000 in
set_option maxHeartbeats 4000000 in
theorem k_M_entry_55 {p : Program} {l : Launch} {e : Env} {s : State} {m : MethodId} {args : Array Value} {below : List Frame} {meth : Method} {c : Code} {t : TY} {a0 : Nat} {G : GS} {K : Int32 → Prop} {r5 : Int32 → Int32 → Int32 → Int32 → Prop} (X : kX p s m args meth c b_M_entry 6 "TreeServerModel" t) (hret : meth.sig.returnType = some .int) (hr_5 : ∀ (l1 : Int32) (l2 : Int32) (l3 : Int32) (l4 : Int32), r5 l1 l2 l3 l4 → kW p l e rm_M_entry s m args below meth c (MQ below (vp_Si K) args s 0 0 (fun _ => False)) 6 t true 5 [(0, va_rf (some a0)), (1, .int l1), (2, .int l2), (3, .int l3), (4, .int l4)] [] G) (l1 : Int32) (l2 : Int32) (l3 : Int32) (l4 : Int32) (hwp : w_M_entry_55 t G a0 K r5 l1 l2 l3 l4) : kW p l e rm_M_entry s m args below meth c (MQ below (vp_Si K) args s 0 0 (fun _ => False)) 6 t true 55 [(0, va_rf (some a0)), (1, .int l1), (2, .int l2), (3, .int l3), (4, .int l4)] [] G := by
  unfold w_M_entry_55 at hwp
  refine kw_iconst (v := 0) (pc := 55) X d_M_entry_55 (by decide) ?_
  exact kW.sub [0, 1, 2, 3, 4] rfl (k_M_entry_56 X hret hr_5 _ _ _ _ _ hwp)
set_option maxRecDepth 100000 in
set_option maxHeartbeats 4000000 in
theorem k_M_entry_5 {p : Program} {l : Launch} {e : Env} {s : State} {m : MethodId} {args : Array Value} {below : List Frame} {meth : Method} {c : Code} {t : TY} {a0 : Nat} {G : GS} {K : Int32 → Prop} (X : kX p s m args meth c b_M_entry 6 "TreeServerModel" t) (hret : meth.sig.returnType = some .int) : ∀ (n : Nat) (l1 : Int32) (l2 : Int32) (l3 : Int32) (l4 : Int32), w_M_entry_5 t G a0 K n l1 l2 l3 l4 → kW p l e rm_M_entry s m args below meth c (MQ below (vp_Si K) args s 0 0 (fun _ => False)) 6 t true 5 [(0, va_rf (some a0)), (1, .int l1), (2, .int l2), (3, .int l3), (4, .int l4)] [] G := by
  intro n
  induction n with
  | zero => intro l1 l2 l3 l4 hwp; exact hwp.elim
  | succ n hr_5 =>
    intro l1 l2 l3 l4 hwp
    unfold w_M_entry_5 at hwp
    dsimp only at hwp
    refine kw_iload (pc := 5) X d_M_entry_5 4 rfl ?_
    refine kw_bipush (v := 21) (pc := 7) X d_M_entry_7 (by decide) ?_
    refine kw_icmp_ge (tgt := 92) (pc := 9) X d_M_entry_9 (by decide) (fun h => ?_) (fun h => ?_)
    · have hwp := ite_t h hwp
      refine kw_iload_n (pc := 92) X d_M_entry_92 rfl 3 rfl ?_
      exact krp_i (pc := 93) X hret d_M_entry_93 hwp
    · have hwp := ite_f h hwp
      refine kw_aload_n (pc := 12) X d_M_entry_12 rfl 0 rfl ?_
      refine kw_iload (pc := 13) X d_M_entry_13 4 rfl ?_
      refine kw_iconst (v := 0) (pc := 15) X d_M_entry_15 (by decide) ?_
      obtain ⟨f1, hwp⟩ := hwp
      refine kcVp_i (n := 2) (As := [.int l4, .int (0 : Int32)]) (rest := []) (pc := 16) X (c_M_at l t G a0 l4 (0 : Int32) _) (cwV_of (C := "TreeServerModel") X x_1111 x_1108 x_1110 xp_41 x_13 (by decide +kernel) ⟨rfl, rfl⟩ (by decide)) (rv_10 X f1) rfl rfl (by decide) d_M_entry_16 hwp (fun v2 hwp => ?_)
      refine kw_iconst (v := 1) (pc := 19) X d_M_entry_19 (by decide) ?_
      refine kw_icmp_ne (tgt := 55) (pc := 20) X d_M_entry_20 (by decide) (fun h => ?_) (fun h => ?_)
      · have hwp := ite_t h hwp
        exact kW.sub [0, 1, 2, 3, 4] rfl (k_M_entry_55 X hret hr_5 _ _ _ _ hwp)
      · have hwp := ite_f (not_not_intro h) hwp
        refine kw_aload_n (pc := 23) X d_M_entry_23 rfl 0 rfl ?_
        refine kw_iload (pc := 24) X d_M_entry_24 4 rfl ?_
        refine kw_bipush (v := 8) (pc := 26) X d_M_entry_26 (by decide) ?_
        refine kcVp_i (n := 2) (As := [.int l4, .int (8 : Int32)]) (rest := []) (pc := 28) X (c_M_at l t G a0 l4 (8 : Int32) _) (cwV_of (C := "TreeServerModel") X x_1111 x_1108 x_1110 xp_41 x_13 (by decide +kernel) ⟨rfl, rfl⟩ (by decide)) (rv_10 X f1) rfl rfl (by decide) d_M_entry_28 hwp (fun v3 hwp => ?_)
        refine kw_aload_n (pc := 31) X d_M_entry_31 rfl 0 rfl ?_
        refine kw_iload_n (pc := 32) X d_M_entry_32 rfl 1 rfl ?_
        refine kw_iconst (v := 1) (pc := 33) X d_M_entry_33 (by decide) ?_
        refine kcVp_i (n := 2) (As := [.int l1, .int (1 : Int32)]) (rest := [.int v3]) (pc := 34) X (c_M_at l t G a0 l1 (1 : Int32) _) (cwV_of (C := "TreeServerModel") X x_1111 x_1108 x_1110 xp_41 x_13 (by decide +kernel) ⟨rfl, rfl⟩ (by decide)) (rv_10 X f1) rfl rfl (by simp [rf_cat, cat_i, cat_l, cat_r]) d_M_entry_34 hwp (fun v4 hwp => ?_)
        refine kw_icmp_ne (tgt := 55) (pc := 37) X d_M_entry_37 (by decide) (fun h => ?_) (fun h => ?_)
        · have hwp := ite_t h hwp
          exact kW.sub [0, 1, 2, 3, 4] rfl (k_M_entry_55 X hret hr_5 _ _ _ _ hwp)
        · have hwp := ite_f (not_not_intro h) hwp
          refine kw_aload_n (pc := 40) X d_M_entry_40 rfl 0 rfl ?_
          refine kw_iload (pc := 41) X d_M_entry_41 4 rfl ?_
          refine kw_iconst (v := 1) (pc := 43) X d_M_entry_43 (by decide) ?_
          refine kcVp_i (n := 2) (As := [.int l4, .int (1 : Int32)]) (rest := []) (pc := 44) X (c_M_at l t G a0 l4 (1 : Int32) _) (cwV_of (C := "TreeServerModel") X x_1111 x_1108 x_1110 xp_41 x_13 (by decide +kernel) ⟨rfl, rfl⟩ (by decide)) (rv_10 X f1) rfl rfl (by decide) d_M_entry_44 hwp (fun v5 hwp => ?_)
          refine kw_iload_n (pc := 47) X d_M_entry_47 rfl 2 rfl ?_
          refine kw_icmp_le (tgt := 55) (pc := 48) X d_M_entry_48 (by decide) (fun h => ?_) (fun h => ?_)
          · have hwp := ite_t h hwp
            exact kW.sub [0, 1, 2, 3, 4] rfl (k_M_entry_55 X hret hr_5 _ _ _ _ hwp)
          · have hwp := ite_f h hwp
            refine kw_iconst (v := 1) (pc := 51) X d_M_entry_51 (by decide) ?_
            refine kw_goto (tgt := 56) (pc := 52) X d_M_entry_52 (by decide) ?_
            exact kW.sub [0, 1, 2, 3, 4] rfl (k_M_entry_56 X hret hr_5 _ _ _ _ _ hwp)
set_option maxRecDepth 100000 in
set_option maxHeartbeats 4000000 in
theorem k_M_entry {p : Program} {l : Launch} {e : Env} {s : State} {m : MethodId} {args : Array Value} {below : List Frame} {meth : Method} {c : Code} {t : TY} {a0 : Nat} {G : GS} {K : Int32 → Prop} (X : kX p s m args meth c b_M_entry 6 "TreeServerModel" t) (hret : meth.sig.returnType = some .int) (p1 : Int32) (p2 : Int32) (hwp : w_M_entry t G a0 p1 p2 K) : kW p l e rm_M_entry s m args below meth c (MQ below (vp_Si K) args s 0 0 (fun _ => False)) 6 t true 0 [(0, va_rf (some a0)), (1, .int p1), (2, .int p2)] [] G := by
  unfold w_M_entry at hwp
  refine kw_iconst (v := -1) (pc := 0) X d_M_entry_0 (by decide) ?_
  refine kw_istore_n (i := 3) (lv' := [(3, .int (-1 : Int32)), (0, va_rf (some a0)), (1, .int p1), (2, .int p2)]) (pc := 1) X d_M_entry_1 rfl (by decide) rfl ?_
  refine kw_iconst (v := 1) (pc := 2) X d_M_entry_2 (by decide) ?_
  refine kw_istore (i := 4) (lv' := [(4, .int (1 : Int32)), (3, .int (-1 : Int32)), (0, va_rf (some a0)), (1, .int p1), (2, .int p2)]) (pc := 3) X d_M_entry_3 (by decide) rfl ?_
  obtain ⟨n, hwp⟩ := hwp
  exact kW.sub [2, 3, 4, 1, 0] rfl (k_M_entry_5 X hret  n _ _ _ _ hwp)
set_option maxRecDepth 100000 in
set_option maxHeartbeats 4000000 in
theorem c_M_entry (l : Launch) (t : TY) (G : GS) (a0 : Nat) (p1 : Int32) (p2 : Int32) (K : Int32 → Prop) : Met l y_M_entry (Cond.code y_M_entry b_M_entry 6 (Option.some Jvm.ClassFile.FieldType.int) :: GW) rm_M_entry (va_Pc [.ref a0, .int p1, .int p2] (fun U => HB t G U.heap ∧ HK t U ∧ w_M_entry t G a0 p1 p2 K)) (vp_Si K) 0 0 (fun _ => False) := by
  refine Met.ofW (cc := b_M_entry) (maxL := 6) (ret := some .int) (by decide) rfl ?_
  intro p e s m args below meth c s₁ B hml hv
  obtain ⟨rfl, hB, hK, hwp⟩ := hv
  have hts := atoms_spec (ws := Cond.code y_M_entry b_M_entry 6 (Option.some Jvm.ClassFile.FieldType.int) :: GW) B.pre
  have X : kX p s m _ meth c b_M_entry 6 "TreeServerModel" t := ⟨B.exec, B.bytes, hml, findClass_of_methodNamed B.named, fun w h => hts w (List.mem_cons_of_mem _ h), B.notSynchronized, hK⟩
  have hZ : kZ t true s G s.heap [] := ⟨hB, va_S.rf, fun _ => ⟨rfl, rfl⟩⟩
  rw [lg_entry_eq]
  have hl := lv_entry ([.ref a0, .int p1, .int p2]) (n := 6) (by simp [lg_sl, rf_cat, cat_i, cat_l, cat_r])
  exact k_M_entry X B.returns _ _ hwp s.heap [] _ hl hZ
abbrev b_M_entries : ByteArray := prog_13_method_8_code
def y_M_entries : MethodName := ⟨"TreeServerModel", "entries", "(I)I"⟩
theorem d_M_entries_0 : decode b_M_entries 0 = .ok (.iconst 0, 1) := by decide +kernel
theorem d_M_entries_1 : decode b_M_entries 1 = .ok (.istore_n 2, 1) := by decide +kernel
theorem d_M_entries_2 : decode b_M_entries 2 = .ok (.iconst 1, 1) := by decide +kernel
theorem d_M_entries_3 : decode b_M_entries 3 = .ok (.istore_n 3, 1) := by decide +kernel
theorem d_M_entries_4 : decode b_M_entries 4 = .ok (.iload_n 3, 1) := by decide +kernel
theorem d_M_entries_5 : decode b_M_entries 5 = .ok (.bipush 21, 2) := by decide +kernel
theorem d_M_entries_7 : decode b_M_entries 7 = .ok (.if_icmp .ge 43, 3) := by decide +kernel
theorem d_M_entries_10 : decode b_M_entries 10 = .ok (.aload_n 0, 1) := by decide +kernel
theorem d_M_entries_11 : decode b_M_entries 11 = .ok (.iload_n 3, 1) := by decide +kernel
theorem d_M_entries_12 : decode b_M_entries 12 = .ok (.iconst 0, 1) := by decide +kernel
theorem d_M_entries_13 : decode b_M_entries 13 = .ok (.invokevirtual 81, 3) := by decide +kernel
theorem d_M_entries_16 : decode b_M_entries 16 = .ok (.iconst 1, 1) := by decide +kernel
theorem d_M_entries_17 : decode b_M_entries 17 = .ok (.if_icmp .ne 25, 3) := by decide +kernel
theorem d_M_entries_20 : decode b_M_entries 20 = .ok (.aload_n 0, 1) := by decide +kernel
theorem d_M_entries_21 : decode b_M_entries 21 = .ok (.iload_n 3, 1) := by decide +kernel
theorem d_M_entries_22 : decode b_M_entries 22 = .ok (.bipush 8, 2) := by decide +kernel
theorem d_M_entries_24 : decode b_M_entries 24 = .ok (.invokevirtual 81, 3) := by decide +kernel
theorem d_M_entries_27 : decode b_M_entries 27 = .ok (.aload_n 0, 1) := by decide +kernel
theorem d_M_entries_28 : decode b_M_entries 28 = .ok (.iload_n 1, 1) := by decide +kernel
theorem d_M_entries_29 : decode b_M_entries 29 = .ok (.iconst 1, 1) := by decide +kernel
theorem d_M_entries_30 : decode b_M_entries 30 = .ok (.invokevirtual 81, 3) := by decide +kernel
theorem d_M_entries_33 : decode b_M_entries 33 = .ok (.if_icmp .ne 9, 3) := by decide +kernel
theorem d_M_entries_36 : decode b_M_entries 36 = .ok (.iload_n 2, 1) := by decide +kernel
theorem d_M_entries_37 : decode b_M_entries 37 = .ok (.iconst 1, 1) := by decide +kernel
theorem d_M_entries_38 : decode b_M_entries 38 = .ok (.iadd, 1) := by decide +kernel
theorem d_M_entries_39 : decode b_M_entries 39 = .ok (.goto 4, 3) := by decide +kernel
theorem d_M_entries_42 : decode b_M_entries 42 = .ok (.iload_n 2, 1) := by decide +kernel
theorem d_M_entries_43 : decode b_M_entries 43 = .ok (.istore_n 2, 1) := by decide +kernel
theorem d_M_entries_44 : decode b_M_entries 44 = .ok (.iinc 3 1, 3) := by decide +kernel
theorem d_M_entries_47 : decode b_M_entries 47 = .ok (.goto (-43), 3) := by decide +kernel
theorem d_M_entries_50 : decode b_M_entries 50 = .ok (.iload_n 2, 1) := by decide +kernel
theorem d_M_entries_51 : decode b_M_entries 51 = .ok (.ireturn, 1) := by decide +kernel
abbrev rm_M_entries : Room := { frames := 1, cells := 0, slots := 0, locals := 22 }
set_option maxRecDepth 100000 in
set_option maxHeartbeats 4000000 in
theorem k_M_entries_43 {p : Program} {l : Launch} {e : Env} {s : State} {m : MethodId} {args : Array Value} {below : List Frame} {meth : Method} {c : Code} {t : TY} {a0 : Nat} {G : GS} {K : Int32 → Prop} {r4 : Int32 → Int32 → Int32 → Prop} (X : kX p s m args meth c b_M_entries 4 "TreeServerModel" t) (hret : meth.sig.returnType = some .int) (hr_4 : ∀ (l1 : Int32) (l2 : Int32) (l3 : Int32), r4 l1 l2 l3 → kW p l e rm_M_entries s m args below meth c (MQ below (vp_Si K) args s 0 0 (fun _ => False)) 4 t true 4 [(0, va_rf (some a0)), (1, .int l1), (2, .int l2), (3, .int l3)] [] G) (l1 : Int32) (l3 : Int32) (s0 : Int32) (hwp : w_M_entries_43 t G a0 K r4 l1 l3 s0) : kW p l e rm_M_entries s m args below meth c (MQ below (vp_Si K) args s 0 0 (fun _ => False)) 4 t true 43 [(0, va_rf (some a0)), (1, .int l1), (3, .int l3)] [.int s0] G := by
  unfold w_M_entries_43 at hwp
  refine kw_istore_n (i := 2) (lv' := [(2, .int s0), (0, va_rf (some a0)), (1, .int l1), (3, .int l3)]) (pc := 43) X d_M_entries_43 rfl (by decide) rfl ?_
  obtain ⟨v1, e_v1⟩ : ∃ z, z = (l3 + (1 : Int32)) := ⟨_, rfl⟩
  have hwp := hwp v1 e_v1
  refine kw_iinc (v := v1) (lv' := [(3, .int v1), (2, .int s0), (0, va_rf (some a0)), (1, .int l1)]) (pc := 44) X d_M_entries_44 3 rfl (by rw [e_v1]; rfl) (by decide) rfl ?_
  refine kw_goto (tgt := 4) (pc := 47) X d_M_entries_47 (by decide) ?_
  exact kW.sub [2, 3, 1, 0] rfl (hr_4 _ _ _ hwp)
set_option maxRecDepth 100000 in
set_option maxHeartbeats 4000000 in
theorem k_M_entries_42 {p : Program} {l : Launch} {e : Env} {s : State} {m : MethodId} {args : Array Value} {below : List Frame} {meth : Method} {c : Code} {t : TY} {a0 : Nat} {G : GS} {K : Int32 → Prop} {r4 : Int32 → Int32 → Int32 → Prop} (X : kX p s m args meth c b_M_entries 4 "TreeServerModel" t) (hret : meth.sig.returnType = some .int) (hr_4 : ∀ (l1 : Int32) (l2 : Int32) (l3 : Int32), r4 l1 l2 l3 → kW p l e rm_M_entries s m args below meth c (MQ below (vp_Si K) args s 0 0 (fun _ => False)) 4 t true 4 [(0, va_rf (some a0)), (1, .int l1), (2, .int l2), (3, .int l3)] [] G) (l1 : Int32) (l2 : Int32) (l3 : Int32) (hwp : w_M_entries_42 t G a0 K r4 l1 l2 l3) : kW p l e rm_M_entries s m args below meth c (MQ below (vp_Si K) args s 0 0 (fun _ => False)) 4 t true 42 [(0, va_rf (some a0)), (1, .int l1), (2, .int l2), (3, .int l3)] [] G := by
  unfold w_M_entries_42 at hwp
  refine kw_iload_n (pc := 42) X d_M_entries_42 rfl 2 rfl ?_
  exact kW.sub [0, 1, 3] rfl (k_M_entries_43 X hret hr_4 _ _ _ hwp)
set_option maxRecDepth 100000 in
set_option maxHeartbeats 4000000 in
theorem k_M_entries_4 {p : Program} {l : Launch} {e : Env} {s : State} {m : MethodId} {args : Array Value} {below : List Frame} {meth : Method} {c : Code} {t : TY} {a0 : Nat} {G : GS} {K : Int32 → Prop} (X : kX p s m args meth c b_M_entries 4 "TreeServerModel" t) (hret : meth.sig.returnType = some .int) : ∀ (n : Nat) (l1 : Int32) (l2 : Int32) (l3 : Int32), w_M_entries_4 t G a0 K n l1 l2 l3 → kW p l e rm_M_entries s m args below meth c (MQ below (vp_Si K) args s 0 0 (fun _ => False)) 4 t true 4 [(0, va_rf (some a0)), (1, .int l1), (2, .int l2), (3, .int l3)] [] G := by
  intro n
  induction n with
  | zero => intro l1 l2 l3 hwp; exact hwp.elim
  | succ n hr_4 =>
    intro l1 l2 l3 hwp
    unfold w_M_entries_4 at hwp
    dsimp only at hwp
    refine kw_iload_n (pc := 4) X d_M_entries_4 rfl 3 rfl ?_
    refine kw_bipush (v := 21) (pc := 5) X d_M_entries_5 (by decide) ?_
    refine kw_icmp_ge (tgt := 50) (pc := 7) X d_M_entries_7 (by decide) (fun h => ?_) (fun h => ?_)
    · have hwp := ite_t h hwp
      refine kw_iload_n (pc := 50) X d_M_entries_50 rfl 2 rfl ?_
      exact krp_i (pc := 51) X hret d_M_entries_51 hwp
    · have hwp := ite_f h hwp
      refine kw_aload_n (pc := 10) X d_M_entries_10 rfl 0 rfl ?_
      refine kw_iload_n (pc := 11) X d_M_entries_11 rfl 3 rfl ?_
      refine kw_iconst (v := 0) (pc := 12) X d_M_entries_12 (by decide) ?_
      obtain ⟨f1, hwp⟩ := hwp
      refine kcVp_i (n := 2) (As := [.int l3, .int (0 : Int32)]) (rest := []) (pc := 13) X (c_M_at l t G a0 l3 (0 : Int32) _) (cwV_of (C := "TreeServerModel") X x_1111 x_1108 x_1110 xp_41 x_13 (by decide +kernel) ⟨rfl, rfl⟩ (by decide)) (rv_10 X f1) rfl rfl (by decide) d_M_entries_13 hwp (fun v2 hwp => ?_)
      refine kw_iconst (v := 1) (pc := 16) X d_M_entries_16 (by decide) ?_
      refine kw_icmp_ne (tgt := 42) (pc := 17) X d_M_entries_17 (by decide) (fun h => ?_) (fun h => ?_)
      · have hwp := ite_t h hwp
        exact kW.sub [0, 1, 2, 3] rfl (k_M_entries_42 X hret hr_4 _ _ _ hwp)
      · have hwp := ite_f (not_not_intro h) hwp
        refine kw_aload_n (pc := 20) X d_M_entries_20 rfl 0 rfl ?_
        refine kw_iload_n (pc := 21) X d_M_entries_21 rfl 3 rfl ?_
        refine kw_bipush (v := 8) (pc := 22) X d_M_entries_22 (by decide) ?_
        refine kcVp_i (n := 2) (As := [.int l3, .int (8 : Int32)]) (rest := []) (pc := 24) X (c_M_at l t G a0 l3 (8 : Int32) _) (cwV_of (C := "TreeServerModel") X x_1111 x_1108 x_1110 xp_41 x_13 (by decide +kernel) ⟨rfl, rfl⟩ (by decide)) (rv_10 X f1) rfl rfl (by decide) d_M_entries_24 hwp (fun v3 hwp => ?_)
        refine kw_aload_n (pc := 27) X d_M_entries_27 rfl 0 rfl ?_
        refine kw_iload_n (pc := 28) X d_M_entries_28 rfl 1 rfl ?_
        refine kw_iconst (v := 1) (pc := 29) X d_M_entries_29 (by decide) ?_
        refine kcVp_i (n := 2) (As := [.int l1, .int (1 : Int32)]) (rest := [.int v3]) (pc := 30) X (c_M_at l t G a0 l1 (1 : Int32) _) (cwV_of (C := "TreeServerModel") X x_1111 x_1108 x_1110 xp_41 x_13 (by decide +kernel) ⟨rfl, rfl⟩ (by decide)) (rv_10 X f1) rfl rfl (by simp [rf_cat, cat_i, cat_l, cat_r]) d_M_entries_30 hwp (fun v4 hwp => ?_)
        refine kw_icmp_ne (tgt := 42) (pc := 33) X d_M_entries_33 (by decide) (fun h => ?_) (fun h => ?_)
        · have hwp := ite_t h hwp
          exact kW.sub [0, 1, 2, 3] rfl (k_M_entries_42 X hret hr_4 _ _ _ hwp)
        · have hwp := ite_f (not_not_intro h) hwp
          refine kw_iload_n (pc := 36) X d_M_entries_36 rfl 2 rfl ?_
          refine kw_iconst (v := 1) (pc := 37) X d_M_entries_37 (by decide) ?_
          refine kw_iadd (pc := 38) X d_M_entries_38 ?_
          refine kw_goto (tgt := 43) (pc := 39) X d_M_entries_39 (by decide) ?_
          exact kW.sub [0, 1, 3] rfl (k_M_entries_43 X hret hr_4 _ _ _ hwp)
set_option maxRecDepth 100000 in
set_option maxHeartbeats 4000000 in
theorem k_M_entries {p : Program} {l : Launch} {e : Env} {s : State} {m : MethodId} {args : Array Value} {below : List Frame} {meth : Method} {c : Code} {t : TY} {a0 : Nat} {G : GS} {K : Int32 → Prop} (X : kX p s m args meth c b_M_entries 4 "TreeServerModel" t) (hret : meth.sig.returnType = some .int) (p1 : Int32) (hwp : w_M_entries t G a0 p1 K) : kW p l e rm_M_entries s m args below meth c (MQ below (vp_Si K) args s 0 0 (fun _ => False)) 4 t true 0 [(0, va_rf (some a0)), (1, .int p1)] [] G := by
  unfold w_M_entries at hwp
  refine kw_iconst (v := 0) (pc := 0) X d_M_entries_0 (by decide) ?_
  refine kw_istore_n (i := 2) (lv' := [(2, .int (0 : Int32)), (0, va_rf (some a0)), (1, .int p1)]) (pc := 1) X d_M_entries_1 rfl (by decide) rfl ?_
  refine kw_iconst (v := 1) (pc := 2) X d_M_entries_2 (by decide) ?_
  refine kw_istore_n (i := 3) (lv' := [(3, .int (1 : Int32)), (2, .int (0 : Int32)), (0, va_rf (some a0)), (1, .int p1)]) (pc := 3) X d_M_entries_3 rfl (by decide) rfl ?_
  obtain ⟨n, hwp⟩ := hwp
  exact kW.sub [2, 3, 1, 0] rfl (k_M_entries_4 X hret  n _ _ _ hwp)
set_option maxRecDepth 100000 in
set_option maxHeartbeats 4000000 in
theorem c_M_entries (l : Launch) (t : TY) (G : GS) (a0 : Nat) (p1 : Int32) (K : Int32 → Prop) : Met l y_M_entries (Cond.code y_M_entries b_M_entries 4 (Option.some Jvm.ClassFile.FieldType.int) :: GW) rm_M_entries (va_Pc [.ref a0, .int p1] (fun U => HB t G U.heap ∧ HK t U ∧ w_M_entries t G a0 p1 K)) (vp_Si K) 0 0 (fun _ => False) := by
  refine Met.ofW (cc := b_M_entries) (maxL := 4) (ret := some .int) (by decide) rfl ?_
  intro p e s m args below meth c s₁ B hml hv
  obtain ⟨rfl, hB, hK, hwp⟩ := hv
  have hts := atoms_spec (ws := Cond.code y_M_entries b_M_entries 4 (Option.some Jvm.ClassFile.FieldType.int) :: GW) B.pre
  have X : kX p s m _ meth c b_M_entries 4 "TreeServerModel" t := ⟨B.exec, B.bytes, hml, findClass_of_methodNamed B.named, fun w h => hts w (List.mem_cons_of_mem _ h), B.notSynchronized, hK⟩
  have hZ : kZ t true s G s.heap [] := ⟨hB, va_S.rf, fun _ => ⟨rfl, rfl⟩⟩
  rw [lg_entry_eq]
  have hl := lv_entry ([.ref a0, .int p1]) (n := 4) (by simp [lg_sl, rf_cat, cat_i, cat_l, cat_r])
  exact k_M_entries X B.returns _ hwp s.heap [] _ hl hZ
abbrev b_M_get : ByteArray := prog_13_method_18_code
def y_M_get : MethodName := ⟨"TreeServerModel", "get", "(II)J"⟩
theorem d_M_get_0 : decode b_M_get 0 = .ok (.lconst 0, 1) := by decide +kernel
theorem d_M_get_1 : decode b_M_get 1 = .ok (.lstore_n 3, 1) := by decide +kernel
theorem d_M_get_2 : decode b_M_get 2 = .ok (.iload_n 2, 1) := by decide +kernel
theorem d_M_get_3 : decode b_M_get 3 = .ok (.iconst 1, 1) := by decide +kernel
theorem d_M_get_4 : decode b_M_get 4 = .ok (.isub, 1) := by decide +kernel
theorem d_M_get_5 : decode b_M_get 5 = .ok (.istore 5, 2) := by decide +kernel
theorem d_M_get_7 : decode b_M_get 7 = .ok (.iload 5, 2) := by decide +kernel
theorem d_M_get_9 : decode b_M_get 9 = .ok (.ifCond .lt 25, 3) := by decide +kernel
theorem d_M_get_12 : decode b_M_get 12 = .ok (.lload_n 3, 1) := by decide +kernel
theorem d_M_get_13 : decode b_M_get 13 = .ok (.bipush 8, 2) := by decide +kernel
theorem d_M_get_15 : decode b_M_get 15 = .ok (.lshl, 1) := by decide +kernel
theorem d_M_get_16 : decode b_M_get 16 = .ok (.aload_n 0, 1) := by decide +kernel
theorem d_M_get_17 : decode b_M_get 17 = .ok (.getfield 70, 3) := by decide +kernel
theorem d_M_get_20 : decode b_M_get 20 = .ok (.iload_n 1, 1) := by decide +kernel
theorem d_M_get_21 : decode b_M_get 21 = .ok (.iload 5, 2) := by decide +kernel
theorem d_M_get_23 : decode b_M_get 23 = .ok (.iadd, 1) := by decide +kernel
theorem d_M_get_24 : decode b_M_get 24 = .ok (.iaload, 1) := by decide +kernel
theorem d_M_get_25 : decode b_M_get 25 = .ok (.i2l, 1) := by decide +kernel
theorem d_M_get_26 : decode b_M_get 26 = .ok (.lor, 1) := by decide +kernel
theorem d_M_get_27 : decode b_M_get 27 = .ok (.lstore_n 3, 1) := by decide +kernel
theorem d_M_get_28 : decode b_M_get 28 = .ok (.iinc 5 (-1), 3) := by decide +kernel
theorem d_M_get_31 : decode b_M_get 31 = .ok (.goto (-24), 3) := by decide +kernel
theorem d_M_get_34 : decode b_M_get 34 = .ok (.lload_n 3, 1) := by decide +kernel
theorem d_M_get_35 : decode b_M_get 35 = .ok (.lreturn, 1) := by decide +kernel
abbrev rm_M_get : Room := { frames := 0, cells := 0, slots := 0, locals := 0 }
set_option maxRecDepth 100000 in
set_option maxHeartbeats 4000000 in
theorem k_M_get_7 {p : Program} {l : Launch} {e : Env} {s : State} {m : MethodId} {args : Array Value} {below : List Frame} {meth : Method} {c : Code} {t : TY} {a0 : Nat} {G : GS} {K : Int64 → Prop} (X : kX p s m args meth c b_M_get 6 "TreeServerModel" t) (hret : meth.sig.returnType = some .long) : ∀ (n : Nat) (l1 : Int32) (l3 : Int64) (l5 : Int32), w_M_get_7 t G a0 K n l1 l3 l5 → kW p l e rm_M_get s m args below meth c (MQ below (vp_Sl K) args s 0 0 (fun _ => False)) 6 t true 7 [(0, va_rf (some a0)), (1, .int l1), (3, .long l3), (5, .int l5)] [] G := by
  intro n
  induction n with
  | zero => intro l1 l3 l5 hwp; exact hwp.elim
  | succ n hr_7 =>
    intro l1 l3 l5 hwp
    unfold w_M_get_7 at hwp
    dsimp only at hwp
    refine kw_iload (pc := 7) X d_M_get_7 3 rfl ?_
    refine kw_if_lt (tgt := 34) (pc := 9) X d_M_get_9 (by decide) (fun h => ?_) (fun h => ?_)
    · have hwp := ite_t h hwp
      refine kw_lload_n (pc := 34) X d_M_get_34 rfl 2 rfl ?_
      exact krp_l (pc := 35) X hret d_M_get_35 hwp
    · have hwp := ite_f h hwp
      refine kw_lload_n (pc := 12) X d_M_get_12 rfl 2 rfl ?_
      refine kw_bipush (v := 8) (pc := 13) X d_M_get_13 (by decide) ?_
      refine kw_lshl (pc := 15) X d_M_get_15 ?_
      refine kw_aload_n (pc := 16) X d_M_get_16 rfl 0 rfl ?_
      obtain ⟨f1, hwp⟩ := hwp
      refine kg_94 (a := a0) (pc := 17) X d_M_get_17 x_1014 rfl f1 ?_
      refine kw_iload_n (pc := 20) X d_M_get_20 rfl 1 rfl ?_
      refine kw_iload (pc := 21) X d_M_get_21 3 rfl ?_
      refine kw_iadd (pc := 23) X d_M_get_23 ?_
      obtain ⟨a2, h_a2, hwp⟩ := hwp
      obtain ⟨f3, hwp⟩ := hwp
      obtain ⟨f4, hwp⟩ := hwp
      refine ka_iald (a := a2) (pc := 24) X d_M_get_24 h_a2 f3 f4 ?_
      refine kw_i2l (pc := 25) X d_M_get_25 ?_
      refine kw_lor (pc := 26) X d_M_get_26 ?_
      obtain ⟨v5, e_v5⟩ : ∃ z, z = ((l3 <<< ((8 : Int32).toInt64 &&& 63)) ||| (ai G a2 (l1 + l5).toNatClampNeg).toInt64) := ⟨_, rfl⟩
      have hwp := hwp v5 e_v5
      refine kW.st (st' := .long v5 :: _) (by rw [e_v5]) ?_
      refine kw_lstore_n (i := 3) (lv' := [(3, .long v5), (0, va_rf (some a0)), (1, .int l1), (5, .int l5)]) (pc := 27) X d_M_get_27 rfl (by decide) rfl ?_
      obtain ⟨v6, e_v6⟩ : ∃ z, z = (l5 + (-1 : Int32)) := ⟨_, rfl⟩
      have hwp := hwp v6 e_v6
      refine kw_iinc (v := v6) (lv' := [(5, .int v6), (3, .long v5), (0, va_rf (some a0)), (1, .int l1)]) (pc := 28) X d_M_get_28 3 rfl (by rw [e_v6]; rfl) (by decide) rfl ?_
      refine kw_goto (tgt := 7) (pc := 31) X d_M_get_31 (by decide) ?_
      exact kW.sub [2, 3, 1, 0] rfl (hr_7 _ _ _ hwp)
set_option maxRecDepth 100000 in
set_option maxHeartbeats 4000000 in
theorem k_M_get {p : Program} {l : Launch} {e : Env} {s : State} {m : MethodId} {args : Array Value} {below : List Frame} {meth : Method} {c : Code} {t : TY} {a0 : Nat} {G : GS} {K : Int64 → Prop} (X : kX p s m args meth c b_M_get 6 "TreeServerModel" t) (hret : meth.sig.returnType = some .long) (p1 : Int32) (p2 : Int32) (hwp : w_M_get t G a0 p1 p2 K) : kW p l e rm_M_get s m args below meth c (MQ below (vp_Sl K) args s 0 0 (fun _ => False)) 6 t true 0 [(0, va_rf (some a0)), (1, .int p1), (2, .int p2)] [] G := by
  unfold w_M_get at hwp
  refine kw_lconst (v := 0) (pc := 0) X d_M_get_0 (by decide) ?_
  refine kw_lstore_n (i := 3) (lv' := [(3, .long (0 : Int64)), (0, va_rf (some a0)), (1, .int p1), (2, .int p2)]) (pc := 1) X d_M_get_1 rfl (by decide) rfl ?_
  refine kw_iload_n (pc := 2) X d_M_get_2 rfl 3 rfl ?_
  refine kw_iconst (v := 1) (pc := 3) X d_M_get_3 (by decide) ?_
  refine kw_isub (pc := 4) X d_M_get_4 ?_
  obtain ⟨v1, e_v1⟩ : ∃ z, z = (p2 - (1 : Int32)) := ⟨_, rfl⟩
  have hwp := hwp v1 e_v1
  refine kW.st (st' := .int v1 :: _) (by rw [e_v1]) ?_
  refine kw_istore (i := 5) (lv' := [(5, .int v1), (3, .long (0 : Int64)), (0, va_rf (some a0)), (1, .int p1), (2, .int p2)]) (pc := 5) X d_M_get_5 (by decide) rfl ?_
  obtain ⟨n, hwp⟩ := hwp
  exact kW.sub [2, 3, 1, 0] rfl (k_M_get_7 X hret  n _ _ _ hwp)
set_option maxRecDepth 100000 in
set_option maxHeartbeats 4000000 in
theorem c_M_get (l : Launch) (t : TY) (G : GS) (a0 : Nat) (p1 : Int32) (p2 : Int32) (K : Int64 → Prop) : Met l y_M_get (Cond.code y_M_get b_M_get 6 (Option.some Jvm.ClassFile.FieldType.long) :: GW) rm_M_get (va_Pc [.ref a0, .int p1, .int p2] (fun U => HB t G U.heap ∧ HK t U ∧ w_M_get t G a0 p1 p2 K)) (vp_Sl K) 0 0 (fun _ => False) := by
  refine Met.ofW (cc := b_M_get) (maxL := 6) (ret := some .long) (by decide) rfl ?_
  intro p e s m args below meth c s₁ B hml hv
  obtain ⟨rfl, hB, hK, hwp⟩ := hv
  have hts := atoms_spec (ws := Cond.code y_M_get b_M_get 6 (Option.some Jvm.ClassFile.FieldType.long) :: GW) B.pre
  have X : kX p s m _ meth c b_M_get 6 "TreeServerModel" t := ⟨B.exec, B.bytes, hml, findClass_of_methodNamed B.named, fun w h => hts w (List.mem_cons_of_mem _ h), B.notSynchronized, hK⟩
  have hZ : kZ t true s G s.heap [] := ⟨hB, va_S.rf, fun _ => ⟨rfl, rfl⟩⟩
  rw [lg_entry_eq]
  have hl := lv_entry ([.ref a0, .int p1, .int p2]) (n := 6) (by simp [lg_sl, rf_cat, cat_i, cat_l, cat_r])
  exact k_M_get X B.returns _ _ hwp s.heap [] _ hl hZ
abbrev b_M_named : ByteArray := prog_13_method_9_code
def y_M_named : MethodName := ⟨"TreeServerModel", "named", "(II)I"⟩
theorem d_M_named_0 : decode b_M_named 0 = .ok (.aload_n 0, 1) := by decide +kernel
theorem d_M_named_1 : decode b_M_named 1 = .ok (.iload_n 2, 1) := by decide +kernel
theorem d_M_named_2 : decode b_M_named 2 = .ok (.iconst 2, 1) := by decide +kernel
theorem d_M_named_3 : decode b_M_named 3 = .ok (.invokevirtual 85, 3) := by decide +kernel
theorem d_M_named_6 : decode b_M_named 6 = .ok (.l2i, 1) := by decide +kernel
theorem d_M_named_7 : decode b_M_named 7 = .ok (.istore_n 3, 1) := by decide +kernel
theorem d_M_named_8 : decode b_M_named 8 = .ok (.iconst 1, 1) := by decide +kernel
theorem d_M_named_9 : decode b_M_named 9 = .ok (.istore 4, 2) := by decide +kernel
theorem d_M_named_11 : decode b_M_named 11 = .ok (.iload 4, 2) := by decide +kernel
theorem d_M_named_13 : decode b_M_named 13 = .ok (.bipush 21, 2) := by decide +kernel
theorem d_M_named_15 : decode b_M_named 15 = .ok (.if_icmp .ge 116, 3) := by decide +kernel
theorem d_M_named_18 : decode b_M_named 18 = .ok (.aload_n 0, 1) := by decide +kernel
theorem d_M_named_19 : decode b_M_named 19 = .ok (.iload 4, 2) := by decide +kernel
theorem d_M_named_21 : decode b_M_named 21 = .ok (.iconst 0, 1) := by decide +kernel
theorem d_M_named_22 : decode b_M_named 22 = .ok (.invokevirtual 81, 3) := by decide +kernel
theorem d_M_named_25 : decode b_M_named 25 = .ok (.iconst 1, 1) := by decide +kernel
theorem d_M_named_26 : decode b_M_named 26 = .ok (.if_icmp .ne 36, 3) := by decide +kernel
theorem d_M_named_29 : decode b_M_named 29 = .ok (.aload_n 0, 1) := by decide +kernel
theorem d_M_named_30 : decode b_M_named 30 = .ok (.iload 4, 2) := by decide +kernel
theorem d_M_named_32 : decode b_M_named 32 = .ok (.bipush 8, 2) := by decide +kernel
theorem d_M_named_34 : decode b_M_named 34 = .ok (.invokevirtual 81, 3) := by decide +kernel
theorem d_M_named_37 : decode b_M_named 37 = .ok (.aload_n 0, 1) := by decide +kernel
theorem d_M_named_38 : decode b_M_named 38 = .ok (.iload_n 1, 1) := by decide +kernel
theorem d_M_named_39 : decode b_M_named 39 = .ok (.iconst 1, 1) := by decide +kernel
theorem d_M_named_40 : decode b_M_named 40 = .ok (.invokevirtual 81, 3) := by decide +kernel
theorem d_M_named_43 : decode b_M_named 43 = .ok (.if_icmp .ne 19, 3) := by decide +kernel
theorem d_M_named_46 : decode b_M_named 46 = .ok (.aload_n 0, 1) := by decide +kernel
theorem d_M_named_47 : decode b_M_named 47 = .ok (.iload 4, 2) := by decide +kernel
theorem d_M_named_49 : decode b_M_named 49 = .ok (.bipush 9, 2) := by decide +kernel
theorem d_M_named_51 : decode b_M_named 51 = .ok (.invokevirtual 81, 3) := by decide +kernel
theorem d_M_named_54 : decode b_M_named 54 = .ok (.iload_n 3, 1) := by decide +kernel
theorem d_M_named_55 : decode b_M_named 55 = .ok (.if_icmp .ne 7, 3) := by decide +kernel
theorem d_M_named_58 : decode b_M_named 58 = .ok (.iconst 1, 1) := by decide +kernel
theorem d_M_named_59 : decode b_M_named 59 = .ok (.goto 4, 3) := by decide +kernel
theorem d_M_named_62 : decode b_M_named 62 = .ok (.iconst 0, 1) := by decide +kernel
theorem d_M_named_63 : decode b_M_named 63 = .ok (.istore 5, 2) := by decide +kernel
theorem d_M_named_65 : decode b_M_named 65 = .ok (.iconst 0, 1) := by decide +kernel
theorem d_M_named_66 : decode b_M_named 66 = .ok (.istore 6, 2) := by decide +kernel
theorem d_M_named_68 : decode b_M_named 68 = .ok (.iload 6, 2) := by decide +kernel
theorem d_M_named_70 : decode b_M_named 70 = .ok (.iload_n 3, 1) := by decide +kernel
theorem d_M_named_71 : decode b_M_named 71 = .ok (.if_icmp .ge 46, 3) := by decide +kernel
theorem d_M_named_74 : decode b_M_named 74 = .ok (.iload 5, 2) := by decide +kernel
theorem d_M_named_76 : decode b_M_named 76 = .ok (.ifCond .eq 41, 3) := by decide +kernel
theorem d_M_named_79 : decode b_M_named 79 = .ok (.aload_n 0, 1) := by decide +kernel
theorem d_M_named_80 : decode b_M_named 80 = .ok (.iload 4, 2) := by decide +kernel
theorem d_M_named_82 : decode b_M_named 82 = .ok (.bipush 10, 2) := by decide +kernel
theorem d_M_named_84 : decode b_M_named 84 = .ok (.iload 6, 2) := by decide +kernel
theorem d_M_named_86 : decode b_M_named 86 = .ok (.iadd, 1) := by decide +kernel
theorem d_M_named_87 : decode b_M_named 87 = .ok (.invokevirtual 81, 3) := by decide +kernel
theorem d_M_named_90 : decode b_M_named 90 = .ok (.aload_n 0, 1) := by decide +kernel
theorem d_M_named_91 : decode b_M_named 91 = .ok (.getfield 70, 3) := by decide +kernel
theorem d_M_named_94 : decode b_M_named 94 = .ok (.iload_n 2, 1) := by decide +kernel
theorem d_M_named_95 : decode b_M_named 95 = .ok (.iconst 2, 1) := by decide +kernel
theorem d_M_named_96 : decode b_M_named 96 = .ok (.iadd, 1) := by decide +kernel
theorem d_M_named_97 : decode b_M_named 97 = .ok (.iload 6, 2) := by decide +kernel
theorem d_M_named_99 : decode b_M_named 99 = .ok (.iadd, 1) := by decide +kernel
theorem d_M_named_100 : decode b_M_named 100 = .ok (.iaload, 1) := by decide +kernel
theorem d_M_named_101 : decode b_M_named 101 = .ok (.if_icmp .ne 7, 3) := by decide +kernel
theorem d_M_named_104 : decode b_M_named 104 = .ok (.iconst 1, 1) := by decide +kernel
theorem d_M_named_105 : decode b_M_named 105 = .ok (.goto 4, 3) := by decide +kernel
theorem d_M_named_108 : decode b_M_named 108 = .ok (.iconst 0, 1) := by decide +kernel
theorem d_M_named_109 : decode b_M_named 109 = .ok (.istore 5, 2) := by decide +kernel
theorem d_M_named_111 : decode b_M_named 111 = .ok (.iinc 6 1, 3) := by decide +kernel
theorem d_M_named_114 : decode b_M_named 114 = .ok (.goto (-46), 3) := by decide +kernel
theorem d_M_named_117 : decode b_M_named 117 = .ok (.iload 5, 2) := by decide +kernel
theorem d_M_named_119 : decode b_M_named 119 = .ok (.ifCond .eq 6, 3) := by decide +kernel
theorem d_M_named_122 : decode b_M_named 122 = .ok (.iload 4, 2) := by decide +kernel
theorem d_M_named_124 : decode b_M_named 124 = .ok (.ireturn, 1) := by decide +kernel
theorem d_M_named_125 : decode b_M_named 125 = .ok (.iinc 4 1, 3) := by decide +kernel
theorem d_M_named_128 : decode b_M_named 128 = .ok (.goto (-117), 3) := by decide +kernel
theorem d_M_named_131 : decode b_M_named 131 = .ok (.iconst (-1), 1) := by decide +kernel
theorem d_M_named_132 : decode b_M_named 132 = .ok (.ireturn, 1) := by decide +kernel
abbrev rm_M_named : Room := { frames := 1, cells := 0, slots := 0, locals := 25 }
set_option maxRecDepth 100000 in
set_option maxHeartbeats 4000000 in
theorem k_M_named_117 {p : Program} {l : Launch} {e : Env} {s : State} {m : MethodId} {args : Array Value} {below : List Frame} {meth : Method} {c : Code} {t : TY} {a0 : Nat} {G : GS} {K : Int32 → Prop} {r11 : Int32 → Int32 → Int32 → Int32 → Prop} (X : kX p s m args meth c b_M_named 7 "TreeServerModel" t) (hret : meth.sig.returnType = some .int) (hr_11 : ∀ (l1 : Int32) (l2 : Int32) (l3 : Int32) (l4 : Int32), r11 l1 l2 l3 l4 → kW p l e rm_M_named s m args below meth c (MQ below (vp_Si K) args s 0 0 (fun _ => False)) 7 t true 11 [(0, va_rf (some a0)), (1, .int l1), (2, .int l2), (3, .int l3), (4, .int l4)] [] G) (l1 : Int32) (l2 : Int32) (l3 : Int32) (l4 : Int32) (l5 : Int32) (hwp : w_M_named_117 t G a0 K r11 l1 l2 l3 l4 l5) : kW p l e rm_M_named s m args below meth c (MQ below (vp_Si K) args s 0 0 (fun _ => False)) 7 t true 117 [(0, va_rf (some a0)), (1, .int l1), (2, .int l2), (3, .int l3), (4, .int l4), (5, .int l5)] [] G := by
  unfold w_M_named_117 at hwp
  refine kw_iload (pc := 117) X d_M_named_117 5 rfl ?_
  refine kw_if_eq (tgt := 125) (pc := 119) X d_M_named_119 (by decide) (fun h => ?_) (fun h => ?_)
  · have hwp := ite_t h hwp
    obtain ⟨v1, e_v1⟩ : ∃ z, z = (l4 + (1 : Int32)) := ⟨_, rfl⟩
    have hwp := hwp v1 e_v1
    refine kw_iinc (v := v1) (lv' := [(4, .int v1), (0, va_rf (some a0)), (1, .int l1), (2, .int l2), (3, .int l3), (5, .int l5)]) (pc := 125) X d_M_named_125 4 rfl (by rw [e_v1]; rfl) (by decide) rfl ?_
    refine kw_goto (tgt := 11) (pc := 128) X d_M_named_128 (by decide) ?_
    exact kW.sub [1, 2, 3, 4, 0] rfl (hr_11 _ _ _ _ hwp)
  · have hwp := ite_f h hwp
    refine kw_iload (pc := 122) X d_M_named_122 4 rfl ?_
    exact krp_i (pc := 124) X hret d_M_named_124 hwp
set_option maxRecDepth 100000 in
set_option maxHeartbeats 4000000 in
theorem k_M_named_109 {p : Program} {l : Launch} {e : Env} {s : State} {m : MethodId} {args : Array Value} {below : List Frame} {meth : Method} {c : Code} {t : TY} {a0 : Nat} {G : GS} {K : Int32 → Prop} {r11 : Int32 → Int32 → Int32 → Int32 → Prop} {r68 : Int32 → Int32 → Int32 → Int32 → Int32 → Int32 → Prop} (X : kX p s m args meth c b_M_named 7 "TreeServerModel" t) (hret : meth.sig.returnType = some .int) (hr_11 : ∀ (l1 : Int32) (l2 : Int32) (l3 : Int32) (l4 : Int32), r11 l1 l2 l3 l4 → kW p l e rm_M_named s m args below meth c (MQ below (vp_Si K) args s 0 0 (fun _ => False)) 7 t true 11 [(0, va_rf (some a0)), (1, .int l1), (2, .int l2), (3, .int l3), (4, .int l4)] [] G) (hr_68 : ∀ (l1 : Int32) (l2 : Int32) (l3 : Int32) (l4 : Int32) (l5 : Int32) (l6 : Int32), r68 l1 l2 l3 l4 l5 l6 → kW p l e rm_M_named s m args below meth c (MQ below (vp_Si K) args s 0 0 (fun _ => False)) 7 t true 68 [(0, va_rf (some a0)), (1, .int l1), (2, .int l2), (3, .int l3), (4, .int l4), (5, .int l5), (6, .int l6)] [] G) (l1 : Int32) (l2 : Int32) (l3 : Int32) (l4 : Int32) (l6 : Int32) (s0 : Int32) (hwp : w_M_named_109 t G a0 K r11 r68 l1 l2 l3 l4 l6 s0) : kW p l e rm_M_named s m args below meth c (MQ below (vp_Si K) args s 0 0 (fun _ => False)) 7 t true 109 [(0, va_rf (some a0)), (1, .int l1), (2, .int l2), (3, .int l3), (4, .int l4), (6, .int l6)] [.int s0] G := by
  unfold w_M_named_109 at hwp
  refine kw_istore (i := 5) (lv' := [(5, .int s0), (0, va_rf (some a0)), (1, .int l1), (2, .int l2), (3, .int l3), (4, .int l4), (6, .int l6)]) (pc := 109) X d_M_named_109 (by decide) rfl ?_
  obtain ⟨v1, e_v1⟩ : ∃ z, z = (l6 + (1 : Int32)) := ⟨_, rfl⟩
  have hwp := hwp v1 e_v1
  refine kw_iinc (v := v1) (lv' := [(6, .int v1), (5, .int s0), (0, va_rf (some a0)), (1, .int l1), (2, .int l2), (3, .int l3), (4, .int l4)]) (pc := 111) X d_M_named_111 6 rfl (by rw [e_v1]; rfl) (by decide) rfl ?_
  refine kw_goto (tgt := 68) (pc := 114) X d_M_named_114 (by decide) ?_
  exact kW.sub [2, 3, 4, 5, 6, 1, 0] rfl (hr_68 _ _ _ _ _ _ hwp)
set_option maxRecDepth 100000 in
set_option maxHeartbeats 4000000 in
theorem k_M_named_68 {p : Program} {l : Launch} {e : Env} {s : State} {m : MethodId} {args : Array Value} {below : List Frame} {meth : Method} {c : Code} {t : TY} {a0 : Nat} {G : GS} {K : Int32 → Prop} {r11 : Int32 → Int32 → Int32 → Int32 → Prop} (X : kX p s m args meth c b_M_named 7 "TreeServerModel" t) (hret : meth.sig.returnType = some .int) (hr_11 : ∀ (l1 : Int32) (l2 : Int32) (l3 : Int32) (l4 : Int32), r11 l1 l2 l3 l4 → kW p l e rm_M_named s m args below meth c (MQ below (vp_Si K) args s 0 0 (fun _ => False)) 7 t true 11 [(0, va_rf (some a0)), (1, .int l1), (2, .int l2), (3, .int l3), (4, .int l4)] [] G) : ∀ (n : Nat) (l1 : Int32) (l2 : Int32) (l3 : Int32) (l4 : Int32) (l5 : Int32) (l6 : Int32), w_M_named_68 t G a0 K r11 n l1 l2 l3 l4 l5 l6 → kW p l e rm_M_named s m args below meth c (MQ below (vp_Si K) args s 0 0 (fun _ => False)) 7 t true 68 [(0, va_rf (some a0)), (1, .int l1), (2, .int l2), (3, .int l3), (4, .int l4), (5, .int l5), (6, .int l6)] [] G := by
  intro n
  induction n with
  | zero => intro l1 l2 l3 l4 l5 l6 hwp; exact hwp.elim
  | succ n hr_68 =>
    intro l1 l2 l3 l4 l5 l6 hwp
    unfold w_M_named_68 at hwp
    dsimp only at hwp
    refine kw_iload (pc := 68) X d_M_named_68 6 rfl ?_
    refine kw_iload_n (pc := 70) X d_M_named_70 rfl 3 rfl ?_
    refine kw_icmp_ge (tgt := 117) (pc := 71) X d_M_named_71 (by decide) (fun h => ?_) (fun h => ?_)
    · have hwp := ite_t h hwp
      exact kW.sub [0, 1, 2, 3, 4, 5] rfl (k_M_named_117 X hret hr_11 _ _ _ _ _ hwp)
    · have hwp := ite_f h hwp
      refine kw_iload (pc := 74) X d_M_named_74 5 rfl ?_
      refine kw_if_eq (tgt := 117) (pc := 76) X d_M_named_76 (by decide) (fun h => ?_) (fun h => ?_)
      · have hwp := ite_t h hwp
        exact kW.sub [0, 1, 2, 3, 4, 5] rfl (k_M_named_117 X hret hr_11 _ _ _ _ _ hwp)
      · have hwp := ite_f h hwp
        refine kw_aload_n (pc := 79) X d_M_named_79 rfl 0 rfl ?_
        refine kw_iload (pc := 80) X d_M_named_80 4 rfl ?_
        refine kw_bipush (v := 10) (pc := 82) X d_M_named_82 (by decide) ?_
        refine kw_iload (pc := 84) X d_M_named_84 6 rfl ?_
        refine kw_iadd (pc := 86) X d_M_named_86 ?_
        obtain ⟨f1, hwp⟩ := hwp
        refine kcVp_i (n := 2) (As := [.int l4, .int ((10 : Int32) + l6)]) (rest := []) (pc := 87) X (c_M_at l t G a0 l4 ((10 : Int32) + l6) _) (cwV_of (C := "TreeServerModel") X x_1111 x_1108 x_1110 xp_41 x_13 (by decide +kernel) ⟨rfl, rfl⟩ (by decide)) (rv_10 X f1) rfl rfl (by decide) d_M_named_87 hwp (fun v2 hwp => ?_)
        refine kw_aload_n (pc := 90) X d_M_named_90 rfl 0 rfl ?_
        refine kg_94 (a := a0) (pc := 91) X d_M_named_91 x_1014 rfl f1 ?_
        refine kw_iload_n (pc := 94) X d_M_named_94 rfl 2 rfl ?_
        refine kw_iconst (v := 2) (pc := 95) X d_M_named_95 (by decide) ?_
        refine kw_iadd (pc := 96) X d_M_named_96 ?_
        refine kw_iload (pc := 97) X d_M_named_97 6 rfl ?_
        refine kw_iadd (pc := 99) X d_M_named_99 ?_
        obtain ⟨a3, h_a3, hwp⟩ := hwp
        obtain ⟨f4, hwp⟩ := hwp
        obtain ⟨f5, hwp⟩ := hwp
        refine ka_iald (a := a3) (pc := 100) X d_M_named_100 h_a3 f4 f5 ?_
        refine kw_icmp_ne (tgt := 108) (pc := 101) X d_M_named_101 (by decide) (fun h => ?_) (fun h => ?_)
        · have hwp := ite_t h hwp
          refine kw_iconst (v := 0) (pc := 108) X d_M_named_108 (by decide) ?_
          exact kW.sub [0, 1, 2, 3, 4, 6] rfl (k_M_named_109 X hret hr_11 hr_68 _ _ _ _ _ _ hwp)
        · have hwp := ite_f (not_not_intro h) hwp
          refine kw_iconst (v := 1) (pc := 104) X d_M_named_104 (by decide) ?_
          refine kw_goto (tgt := 109) (pc := 105) X d_M_named_105 (by decide) ?_
          exact kW.sub [0, 1, 2, 3, 4, 6] rfl (k_M_named_109 X hret hr_11 hr_68 _ _ _ _ _ _ hwp)
set_option maxRecDepth 100000 in
set_option maxHeartbeats 4000000 in
theorem k_M_named_63 {p : Program} {l : Launch} {e : Env} {s : State} {m : MethodId} {args : Array Value} {below : List Frame} {meth : Method} {c : Code} {t : TY} {a0 : Nat} {G : GS} {K : Int32 → Prop} {r11 : Int32 → Int32 → Int32 → Int32 → Prop} (X : kX p s m args meth c b_M_named 7 "TreeServerModel" t) (hret : meth.sig.returnType = some .int) (hr_11 : ∀ (l1 : Int32) (l2 : Int32) (l3 : Int32) (l4 : Int32), r11 l1 l2 l3 l4 → kW p l e rm_M_named s m args below meth c (MQ below (vp_Si K) args s 0 0 (fun _ => False)) 7 t true 11 [(0, va_rf (some a0)), (1, .int l1), (2, .int l2), (3, .int l3), (4, .int l4)] [] G) (l1 : Int32) (l2 : Int32) (l3 : Int32) (l4 : Int32) (s0 : Int32) (hwp : w_M_named_63 t G a0 K r11 l1 l2 l3 l4 s0) : kW p l e rm_M_named s m args below meth c (MQ below (vp_Si K) args s 0 0 (fun _ => False)) 7 t true 63 [(0, va_rf (some a0)), (1, .int l1), (2, .int l2), (3, .int l3), (4, .int l4)] [.int s0] G := by
  unfold w_M_named_63 at hwp
  refine kw_istore (i := 5) (lv' := [(5, .int s0), (0, va_rf (some a0)), (1, .int l1), (2, .int l2), (3, .int l3), (4, .int l4)]) (pc := 63) X d_M_named_63 (by decide) rfl ?_
  refine kw_iconst (v := 0) (pc := 65) X d_M_named_65 (by decide) ?_
  refine kw_istore (i := 6) (lv' := [(6, .int (0 : Int32)), (5, .int s0), (0, va_rf (some a0)), (1, .int l1), (2, .int l2), (3, .int l3), (4, .int l4)]) (pc := 66) X d_M_named_66 (by decide) rfl ?_
  obtain ⟨n, hwp⟩ := hwp
  exact kW.sub [2, 3, 4, 5, 6, 1, 0] rfl (k_M_named_68 X hret hr_11 n _ _ _ _ _ _ hwp)
set_option maxRecDepth 100000 in
set_option maxHeartbeats 4000000 in
theorem k_M_named_62 {p : Program} {l : Launch} {e : Env} {s : State} {m : MethodId} {args : Array Value} {below : List Frame} {meth : Method} {c : Code} {t : TY} {a0 : Nat} {G : GS} {K : Int32 → Prop} {r11 : Int32 → Int32 → Int32 → Int32 → Prop} (X : kX p s m args meth c b_M_named 7 "TreeServerModel" t) (hret : meth.sig.returnType = some .int) (hr_11 : ∀ (l1 : Int32) (l2 : Int32) (l3 : Int32) (l4 : Int32), r11 l1 l2 l3 l4 → kW p l e rm_M_named s m args below meth c (MQ below (vp_Si K) args s 0 0 (fun _ => False)) 7 t true 11 [(0, va_rf (some a0)), (1, .int l1), (2, .int l2), (3, .int l3), (4, .int l4)] [] G) (l1 : Int32) (l2 : Int32) (l3 : Int32) (l4 : Int32) (hwp : w_M_named_62 t G a0 K r11 l1 l2 l3 l4) : kW p l e rm_M_named s m args below meth c (MQ below (vp_Si K) args s 0 0 (fun _ => False)) 7 t true 62 [(0, va_rf (some a0)), (1, .int l1), (2, .int l2), (3, .int l3), (4, .int l4)] [] G := by
  unfold w_M_named_62 at hwp
  refine kw_iconst (v := 0) (pc := 62) X d_M_named_62 (by decide) ?_
  exact kW.sub [0, 1, 2, 3, 4] rfl (k_M_named_63 X hret hr_11 _ _ _ _ _ hwp)
set_option maxRecDepth 100000 in
set_option maxHeartbeats 4000000 in
theorem k_M_named_11 {p : Program} {l : Launch} {e : Env} {s : State} {m : MethodId} {args : Array Value} {below : List Frame} {meth : Method} {c : Code} {t : TY} {a0 : Nat} {G : GS} {K : Int32 → Prop} (X : kX p s m args meth c b_M_named 7 "TreeServerModel" t) (hret : meth.sig.returnType = some .int) : ∀ (n : Nat) (l1 : Int32) (l2 : Int32) (l3 : Int32) (l4 : Int32), w_M_named_11 t G a0 K n l1 l2 l3 l4 → kW p l e rm_M_named s m args below meth c (MQ below (vp_Si K) args s 0 0 (fun _ => False)) 7 t true 11 [(0, va_rf (some a0)), (1, .int l1), (2, .int l2), (3, .int l3), (4, .int l4)] [] G := by
  intro n
  induction n with
  | zero => intro l1 l2 l3 l4 hwp; exact hwp.elim
  | succ n hr_11 =>
    intro l1 l2 l3 l4 hwp
    unfold w_M_named_11 at hwp
    dsimp only at hwp
    refine kw_iload (pc := 11) X d_M_named_11 4 rfl ?_
    refine kw_bipush (v := 21) (pc := 13) X d_M_named_13 (by decide) ?_
    refine kw_icmp_ge (tgt := 131) (pc := 15) X d_M_named_15 (by decide) (fun h => ?_) (fun h => ?_)
    · have hwp := ite_t h hwp
      refine kw_iconst (v := -1) (pc := 131) X d_M_named_131 (by decide) ?_
      exact krp_i (pc := 132) X hret d_M_named_132 hwp
    · have hwp := ite_f h hwp
      refine kw_aload_n (pc := 18) X d_M_named_18 rfl 0 rfl ?_
      refine kw_iload (pc := 19) X d_M_named_19 4 rfl ?_
      refine kw_iconst (v := 0) (pc := 21) X d_M_named_21 (by decide) ?_
      obtain ⟨f1, hwp⟩ := hwp
      refine kcVp_i (n := 2) (As := [.int l4, .int (0 : Int32)]) (rest := []) (pc := 22) X (c_M_at l t G a0 l4 (0 : Int32) _) (cwV_of (C := "TreeServerModel") X x_1111 x_1108 x_1110 xp_41 x_13 (by decide +kernel) ⟨rfl, rfl⟩ (by decide)) (rv_10 X f1) rfl rfl (by decide) d_M_named_22 hwp (fun v2 hwp => ?_)
      refine kw_iconst (v := 1) (pc := 25) X d_M_named_25 (by decide) ?_
      refine kw_icmp_ne (tgt := 62) (pc := 26) X d_M_named_26 (by decide) (fun h => ?_) (fun h => ?_)
      · have hwp := ite_t h hwp
        exact kW.sub [0, 1, 2, 3, 4] rfl (k_M_named_62 X hret hr_11 _ _ _ _ hwp)
      · have hwp := ite_f (not_not_intro h) hwp
        refine kw_aload_n (pc := 29) X d_M_named_29 rfl 0 rfl ?_
        refine kw_iload (pc := 30) X d_M_named_30 4 rfl ?_
        refine kw_bipush (v := 8) (pc := 32) X d_M_named_32 (by decide) ?_
        refine kcVp_i (n := 2) (As := [.int l4, .int (8 : Int32)]) (rest := []) (pc := 34) X (c_M_at l t G a0 l4 (8 : Int32) _) (cwV_of (C := "TreeServerModel") X x_1111 x_1108 x_1110 xp_41 x_13 (by decide +kernel) ⟨rfl, rfl⟩ (by decide)) (rv_10 X f1) rfl rfl (by decide) d_M_named_34 hwp (fun v3 hwp => ?_)
        refine kw_aload_n (pc := 37) X d_M_named_37 rfl 0 rfl ?_
        refine kw_iload_n (pc := 38) X d_M_named_38 rfl 1 rfl ?_
        refine kw_iconst (v := 1) (pc := 39) X d_M_named_39 (by decide) ?_
        refine kcVp_i (n := 2) (As := [.int l1, .int (1 : Int32)]) (rest := [.int v3]) (pc := 40) X (c_M_at l t G a0 l1 (1 : Int32) _) (cwV_of (C := "TreeServerModel") X x_1111 x_1108 x_1110 xp_41 x_13 (by decide +kernel) ⟨rfl, rfl⟩ (by decide)) (rv_10 X f1) rfl rfl (by simp [rf_cat, cat_i, cat_l, cat_r]) d_M_named_40 hwp (fun v4 hwp => ?_)
        refine kw_icmp_ne (tgt := 62) (pc := 43) X d_M_named_43 (by decide) (fun h => ?_) (fun h => ?_)
        · have hwp := ite_t h hwp
          exact kW.sub [0, 1, 2, 3, 4] rfl (k_M_named_62 X hret hr_11 _ _ _ _ hwp)
        · have hwp := ite_f (not_not_intro h) hwp
          refine kw_aload_n (pc := 46) X d_M_named_46 rfl 0 rfl ?_
          refine kw_iload (pc := 47) X d_M_named_47 4 rfl ?_
          refine kw_bipush (v := 9) (pc := 49) X d_M_named_49 (by decide) ?_
          refine kcVp_i (n := 2) (As := [.int l4, .int (9 : Int32)]) (rest := []) (pc := 51) X (c_M_at l t G a0 l4 (9 : Int32) _) (cwV_of (C := "TreeServerModel") X x_1111 x_1108 x_1110 xp_41 x_13 (by decide +kernel) ⟨rfl, rfl⟩ (by decide)) (rv_10 X f1) rfl rfl (by decide) d_M_named_51 hwp (fun v5 hwp => ?_)
          refine kw_iload_n (pc := 54) X d_M_named_54 rfl 3 rfl ?_
          refine kw_icmp_ne (tgt := 62) (pc := 55) X d_M_named_55 (by decide) (fun h => ?_) (fun h => ?_)
          · have hwp := ite_t h hwp
            exact kW.sub [0, 1, 2, 3, 4] rfl (k_M_named_62 X hret hr_11 _ _ _ _ hwp)
          · have hwp := ite_f (not_not_intro h) hwp
            refine kw_iconst (v := 1) (pc := 58) X d_M_named_58 (by decide) ?_
            refine kw_goto (tgt := 63) (pc := 59) X d_M_named_59 (by decide) ?_
            exact kW.sub [0, 1, 2, 3, 4] rfl (k_M_named_63 X hret hr_11 _ _ _ _ _ hwp)
set_option maxRecDepth 100000 in
set_option maxHeartbeats 4000000 in
theorem k_M_named {p : Program} {l : Launch} {e : Env} {s : State} {m : MethodId} {args : Array Value} {below : List Frame} {meth : Method} {c : Code} {t : TY} {a0 : Nat} {G : GS} {K : Int32 → Prop} (X : kX p s m args meth c b_M_named 7 "TreeServerModel" t) (hret : meth.sig.returnType = some .int) (p1 : Int32) (p2 : Int32) (hwp : w_M_named t G a0 p1 p2 K) : kW p l e rm_M_named s m args below meth c (MQ below (vp_Si K) args s 0 0 (fun _ => False)) 7 t true 0 [(0, va_rf (some a0)), (1, .int p1), (2, .int p2)] [] G := by
  unfold w_M_named at hwp
  refine kw_aload_n (pc := 0) X d_M_named_0 rfl 0 rfl ?_
  refine kw_iload_n (pc := 1) X d_M_named_1 rfl 2 rfl ?_
  refine kw_iconst (v := 2) (pc := 2) X d_M_named_2 (by decide) ?_
  obtain ⟨f1, hwp⟩ := hwp
  refine kcVp_l (n := 2) (As := [.int p2, .int (2 : Int32)]) (rest := []) (pc := 3) X (c_M_get l t G a0 p2 (2 : Int32) _) (cwV_of (C := "TreeServerModel") X x_1175 x_1172 x_1174 xp_56 x_13 (by decide +kernel) ⟨rfl, rfl⟩ (by decide)) (rv_10 X f1) rfl rfl (by decide) d_M_named_3 hwp (fun v2 hwp => ?_)
  refine kw_l2i (pc := 6) X d_M_named_6 ?_
  obtain ⟨v3, e_v3⟩ : ∃ z, z = v2.toInt32 := ⟨_, rfl⟩
  have hwp := hwp v3 e_v3
  refine kW.st (st' := .int v3 :: _) (by rw [e_v3]) ?_
  refine kw_istore_n (i := 3) (lv' := [(3, .int v3), (0, va_rf (some a0)), (1, .int p1), (2, .int p2)]) (pc := 7) X d_M_named_7 rfl (by decide) rfl ?_
  refine kw_iconst (v := 1) (pc := 8) X d_M_named_8 (by decide) ?_
  refine kw_istore (i := 4) (lv' := [(4, .int (1 : Int32)), (3, .int v3), (0, va_rf (some a0)), (1, .int p1), (2, .int p2)]) (pc := 9) X d_M_named_9 (by decide) rfl ?_
  obtain ⟨n, hwp⟩ := hwp
  exact kW.sub [2, 3, 4, 1, 0] rfl (k_M_named_11 X hret  n _ _ _ _ hwp)
set_option maxRecDepth 100000 in
set_option maxHeartbeats 4000000 in
theorem c_M_named (l : Launch) (t : TY) (G : GS) (a0 : Nat) (p1 : Int32) (p2 : Int32) (K : Int32 → Prop) : Met l y_M_named (Cond.code y_M_named b_M_named 7 (Option.some Jvm.ClassFile.FieldType.int) :: GW) rm_M_named (va_Pc [.ref a0, .int p1, .int p2] (fun U => HB t G U.heap ∧ HK t U ∧ w_M_named t G a0 p1 p2 K)) (vp_Si K) 0 0 (fun _ => False) := by
  refine Met.ofW (cc := b_M_named) (maxL := 7) (ret := some .int) (by decide) rfl ?_
  intro p e s m args below meth c s₁ B hml hv
  obtain ⟨rfl, hB, hK, hwp⟩ := hv
  have hts := atoms_spec (ws := Cond.code y_M_named b_M_named 7 (Option.some Jvm.ClassFile.FieldType.int) :: GW) B.pre
  have X : kX p s m _ meth c b_M_named 7 "TreeServerModel" t := ⟨B.exec, B.bytes, hml, findClass_of_methodNamed B.named, fun w h => hts w (List.mem_cons_of_mem _ h), B.notSynchronized, hK⟩
  have hZ : kZ t true s G s.heap [] := ⟨hB, va_S.rf, fun _ => ⟨rfl, rfl⟩⟩
  rw [lg_entry_eq]
  have hl := lv_entry ([.ref a0, .int p1, .int p2]) (n := 7) (by simp [lg_sl, rf_cat, cat_i, cat_l, cat_r])
  exact k_M_named X B.returns _ _ hwp s.heap [] _ hl hZ
abbrev b_M_may : ByteArray := prog_13_method_10_code
def y_M_may : MethodName := ⟨"TreeServerModel", "may", "(III)Z"⟩
theorem d_M_may_0 : decode b_M_may 0 = .ok (.aload_n 0, 1) := by decide +kernel
theorem d_M_may_1 : decode b_M_may 1 = .ok (.iload_n 1, 1) := by decide +kernel
theorem d_M_may_2 : decode b_M_may 2 = .ok (.iconst 3, 1) := by decide +kernel
theorem d_M_may_3 : decode b_M_may 3 = .ok (.invokevirtual 81, 3) := by decide +kernel
theorem d_M_may_6 : decode b_M_may 6 = .ok (.istore 4, 2) := by decide +kernel
theorem d_M_may_8 : decode b_M_may 8 = .ok (.iload_n 2, 1) := by decide +kernel
theorem d_M_may_9 : decode b_M_may 9 = .ok (.aload_n 0, 1) := by decide +kernel
theorem d_M_may_10 : decode b_M_may 10 = .ok (.iload_n 1, 1) := by decide +kernel
theorem d_M_may_11 : decode b_M_may 11 = .ok (.bipush 6, 2) := by decide +kernel
theorem d_M_may_13 : decode b_M_may 13 = .ok (.invokevirtual 81, 3) := by decide +kernel
theorem d_M_may_16 : decode b_M_may 16 = .ok (.if_icmp .eq 18, 3) := by decide +kernel
theorem d_M_may_19 : decode b_M_may 19 = .ok (.iload_n 2, 1) := by decide +kernel
theorem d_M_may_20 : decode b_M_may 20 = .ok (.iconst 1, 1) := by decide +kernel
theorem d_M_may_21 : decode b_M_may 21 = .ok (.if_icmp .ne 17, 3) := by decide +kernel
theorem d_M_may_24 : decode b_M_may 24 = .ok (.aload_n 0, 1) := by decide +kernel
theorem d_M_may_25 : decode b_M_may 25 = .ok (.iload_n 1, 1) := by decide +kernel
theorem d_M_may_26 : decode b_M_may 26 = .ok (.bipush 6, 2) := by decide +kernel
theorem d_M_may_28 : decode b_M_may 28 = .ok (.invokevirtual 81, 3) := by decide +kernel
theorem d_M_may_31 : decode b_M_may 31 = .ok (.ifCond .ne 7, 3) := by decide +kernel
theorem d_M_may_34 : decode b_M_may 34 = .ok (.iconst 1, 1) := by decide +kernel
theorem d_M_may_35 : decode b_M_may 35 = .ok (.goto 4, 3) := by decide +kernel
theorem d_M_may_38 : decode b_M_may 38 = .ok (.iconst 0, 1) := by decide +kernel
theorem d_M_may_39 : decode b_M_may 39 = .ok (.istore 5, 2) := by decide +kernel
theorem d_M_may_41 : decode b_M_may 41 = .ok (.iload 4, 2) := by decide +kernel
theorem d_M_may_43 : decode b_M_may 43 = .ok (.iload_n 3, 1) := by decide +kernel
theorem d_M_may_44 : decode b_M_may 44 = .ok (.iand, 1) := by decide +kernel
theorem d_M_may_45 : decode b_M_may 45 = .ok (.ifCond .ne 37, 3) := by decide +kernel
theorem d_M_may_48 : decode b_M_may 48 = .ok (.iload 5, 2) := by decide +kernel
theorem d_M_may_50 : decode b_M_may 50 = .ok (.ifCond .eq 12, 3) := by decide +kernel
theorem d_M_may_53 : decode b_M_may 53 = .ok (.iload 4, 2) := by decide +kernel
theorem d_M_may_55 : decode b_M_may 55 = .ok (.iconst 3, 1) := by decide +kernel
theorem d_M_may_56 : decode b_M_may 56 = .ok (.ishr, 1) := by decide +kernel
theorem d_M_may_57 : decode b_M_may 57 = .ok (.iload_n 3, 1) := by decide +kernel
theorem d_M_may_58 : decode b_M_may 58 = .ok (.iand, 1) := by decide +kernel
theorem d_M_may_59 : decode b_M_may 59 = .ok (.ifCond .ne 23, 3) := by decide +kernel
theorem d_M_may_62 : decode b_M_may 62 = .ok (.iload_n 2, 1) := by decide +kernel
theorem d_M_may_63 : decode b_M_may 63 = .ok (.aload_n 0, 1) := by decide +kernel
theorem d_M_may_64 : decode b_M_may 64 = .ok (.iload_n 1, 1) := by decide +kernel
theorem d_M_may_65 : decode b_M_may 65 = .ok (.iconst 5, 1) := by decide +kernel
theorem d_M_may_66 : decode b_M_may 66 = .ok (.invokevirtual 81, 3) := by decide +kernel
theorem d_M_may_69 : decode b_M_may 69 = .ok (.if_icmp .ne 17, 3) := by decide +kernel
theorem d_M_may_72 : decode b_M_may 72 = .ok (.iload 4, 2) := by decide +kernel
theorem d_M_may_74 : decode b_M_may 74 = .ok (.bipush 6, 2) := by decide +kernel
theorem d_M_may_76 : decode b_M_may 76 = .ok (.ishr, 1) := by decide +kernel
theorem d_M_may_77 : decode b_M_may 77 = .ok (.iload_n 3, 1) := by decide +kernel
theorem d_M_may_78 : decode b_M_may 78 = .ok (.iand, 1) := by decide +kernel
theorem d_M_may_79 : decode b_M_may 79 = .ok (.ifCond .eq 7, 3) := by decide +kernel
theorem d_M_may_82 : decode b_M_may 82 = .ok (.iconst 1, 1) := by decide +kernel
theorem d_M_may_83 : decode b_M_may 83 = .ok (.goto 4, 3) := by decide +kernel
theorem d_M_may_86 : decode b_M_may 86 = .ok (.iconst 0, 1) := by decide +kernel
theorem d_M_may_87 : decode b_M_may 87 = .ok (.ireturn, 1) := by decide +kernel
abbrev rm_M_may : Room := { frames := 1, cells := 0, slots := 0, locals := 22 }
set_option maxRecDepth 100000 in
set_option maxHeartbeats 4000000 in
theorem k_M_may_62 {p : Program} {l : Launch} {e : Env} {s : State} {m : MethodId} {args : Array Value} {below : List Frame} {meth : Method} {c : Code} {t : TY} {a0 : Nat} {G : GS} {K : Int32 → Prop} (X : kX p s m args meth c b_M_may 6 "TreeServerModel" t) (hret : meth.sig.returnType = some .boolean) (l1 : Int32) (l2 : Int32) (l3 : Int32) (l4 : Int32) (hwp : w_M_may_62 t G a0 K l1 l2 l3 l4) : kW p l e rm_M_may s m args below meth c (MQ below (vp_Si (fun r => isB r ∧ K r)) args s 0 0 (fun _ => False)) 6 t true 62 [(0, va_rf (some a0)), (1, .int l1), (2, .int l2), (3, .int l3), (4, .int l4)] [] G := by
  unfold w_M_may_62 at hwp
  refine kw_iload_n (pc := 62) X d_M_may_62 rfl 2 rfl ?_
  refine kw_aload_n (pc := 63) X d_M_may_63 rfl 0 rfl ?_
  refine kw_iload_n (pc := 64) X d_M_may_64 rfl 1 rfl ?_
  refine kw_iconst (v := 5) (pc := 65) X d_M_may_65 (by decide) ?_
  obtain ⟨f1, hwp⟩ := hwp
  refine kcVp_i (n := 2) (As := [.int l1, .int (5 : Int32)]) (rest := [.int l2]) (pc := 66) X (c_M_at l t G a0 l1 (5 : Int32) _) (cwV_of (C := "TreeServerModel") X x_1111 x_1108 x_1110 xp_41 x_13 (by decide +kernel) ⟨rfl, rfl⟩ (by decide)) (rv_10 X f1) rfl rfl (by simp [rf_cat, cat_i, cat_l, cat_r]) d_M_may_66 hwp (fun v2 hwp => ?_)
  refine kw_icmp_ne (tgt := 86) (pc := 69) X d_M_may_69 (by decide) (fun h => ?_) (fun h => ?_)
  · have hwp := ite_t h hwp
    refine kw_iconst (v := 0) (pc := 86) X d_M_may_86 (by decide) ?_
    exact krp_z (pc := 87) X hret d_M_may_87 (Or.inl rfl) hwp
  · have hwp := ite_f (not_not_intro h) hwp
    refine kw_iload (pc := 72) X d_M_may_72 4 rfl ?_
    refine kw_bipush (v := 6) (pc := 74) X d_M_may_74 (by decide) ?_
    refine kw_ishr (pc := 76) X d_M_may_76 ?_
    refine kw_iload_n (pc := 77) X d_M_may_77 rfl 3 rfl ?_
    refine kw_iand (pc := 78) X d_M_may_78 ?_
    refine kw_if_eq (tgt := 86) (pc := 79) X d_M_may_79 (by decide) (fun h => ?_) (fun h => ?_)
    · have hwp := ite_t h hwp
      refine kw_iconst (v := 0) (pc := 86) X d_M_may_86 (by decide) ?_
      exact krp_z (pc := 87) X hret d_M_may_87 (Or.inl rfl) hwp
    · have hwp := ite_f h hwp
      refine kw_iconst (v := 1) (pc := 82) X d_M_may_82 (by decide) ?_
      refine kw_goto (tgt := 87) (pc := 83) X d_M_may_83 (by decide) ?_
      exact krp_z (pc := 87) X hret d_M_may_87 (Or.inr rfl) hwp
set_option maxRecDepth 100000 in
set_option maxHeartbeats 4000000 in
theorem k_M_may_39 {p : Program} {l : Launch} {e : Env} {s : State} {m : MethodId} {args : Array Value} {below : List Frame} {meth : Method} {c : Code} {t : TY} {a0 : Nat} {G : GS} {K : Int32 → Prop} (X : kX p s m args meth c b_M_may 6 "TreeServerModel" t) (hret : meth.sig.returnType = some .boolean) (l1 : Int32) (l2 : Int32) (l3 : Int32) (l4 : Int32) (s0 : Int32) (hwp : w_M_may_39 t G a0 K l1 l2 l3 l4 s0) : kW p l e rm_M_may s m args below meth c (MQ below (vp_Si (fun r => isB r ∧ K r)) args s 0 0 (fun _ => False)) 6 t true 39 [(0, va_rf (some a0)), (1, .int l1), (2, .int l2), (3, .int l3), (4, .int l4)] [.int s0] G := by
  unfold w_M_may_39 at hwp
  refine kw_istore (i := 5) (lv' := [(5, .int s0), (0, va_rf (some a0)), (1, .int l1), (2, .int l2), (3, .int l3), (4, .int l4)]) (pc := 39) X d_M_may_39 (by decide) rfl ?_
  refine kw_iload (pc := 41) X d_M_may_41 5 rfl ?_
  refine kw_iload_n (pc := 43) X d_M_may_43 rfl 4 rfl ?_
  refine kw_iand (pc := 44) X d_M_may_44 ?_
  refine kw_if_ne (tgt := 82) (pc := 45) X d_M_may_45 (by decide) (fun h => ?_) (fun h => ?_)
  · have hwp := ite_t h hwp
    refine kw_iconst (v := 1) (pc := 82) X d_M_may_82 (by decide) ?_
    refine kw_goto (tgt := 87) (pc := 83) X d_M_may_83 (by decide) ?_
    exact krp_z (pc := 87) X hret d_M_may_87 (Or.inr rfl) hwp
  · have hwp := ite_f (not_not_intro h) hwp
    refine kw_iload (pc := 48) X d_M_may_48 0 rfl ?_
    refine kw_if_eq (tgt := 62) (pc := 50) X d_M_may_50 (by decide) (fun h => ?_) (fun h => ?_)
    · have hwp := ite_t h hwp
      exact kW.sub [1, 2, 3, 4, 5] rfl (k_M_may_62 X hret  _ _ _ _ hwp)
    · have hwp := ite_f h hwp
      refine kw_iload (pc := 53) X d_M_may_53 5 rfl ?_
      refine kw_iconst (v := 3) (pc := 55) X d_M_may_55 (by decide) ?_
      refine kw_ishr (pc := 56) X d_M_may_56 ?_
      refine kw_iload_n (pc := 57) X d_M_may_57 rfl 4 rfl ?_
      refine kw_iand (pc := 58) X d_M_may_58 ?_
      refine kw_if_ne (tgt := 82) (pc := 59) X d_M_may_59 (by decide) (fun h => ?_) (fun h => ?_)
      · have hwp := ite_t h hwp
        refine kw_iconst (v := 1) (pc := 82) X d_M_may_82 (by decide) ?_
        refine kw_goto (tgt := 87) (pc := 83) X d_M_may_83 (by decide) ?_
        exact krp_z (pc := 87) X hret d_M_may_87 (Or.inr rfl) hwp
      · have hwp := ite_f (not_not_intro h) hwp
        exact kW.sub [1, 2, 3, 4, 5] rfl (k_M_may_62 X hret  _ _ _ _ hwp)
set_option maxRecDepth 100000 in
set_option maxHeartbeats 4000000 in
theorem k_M_may_34 {p : Program} {l : Launch} {e : Env} {s : State} {m : MethodId} {args : Array Value} {below : List Frame} {meth : Method} {c : Code} {t : TY} {a0 : Nat} {G : GS} {K : Int32 → Prop} (X : kX p s m args meth c b_M_may 6 "TreeServerModel" t) (hret : meth.sig.returnType = some .boolean) (l1 : Int32) (l2 : Int32) (l3 : Int32) (l4 : Int32) (hwp : w_M_may_34 t G a0 K l1 l2 l3 l4) : kW p l e rm_M_may s m args below meth c (MQ below (vp_Si (fun r => isB r ∧ K r)) args s 0 0 (fun _ => False)) 6 t true 34 [(0, va_rf (some a0)), (1, .int l1), (2, .int l2), (3, .int l3), (4, .int l4)] [] G := by
  unfold w_M_may_34 at hwp
  refine kw_iconst (v := 1) (pc := 34) X d_M_may_34 (by decide) ?_
  refine kw_goto (tgt := 39) (pc := 35) X d_M_may_35 (by decide) ?_
  exact kW.sub [0, 1, 2, 3, 4] rfl (k_M_may_39 X hret  _ _ _ _ _ hwp)
set_option maxRecDepth 100000 in
set_option maxHeartbeats 4000000 in
theorem k_M_may_38 {p : Program} {l : Launch} {e : Env} {s : State} {m : MethodId} {args : Array Value} {below : List Frame} {meth : Method} {c : Code} {t : TY} {a0 : Nat} {G : GS} {K : Int32 → Prop} (X : kX p s m args meth c b_M_may 6 "TreeServerModel" t) (hret : meth.sig.returnType = some .boolean) (l1 : Int32) (l2 : Int32) (l3 : Int32) (l4 : Int32) (hwp : w_M_may_38 t G a0 K l1 l2 l3 l4) : kW p l e rm_M_may s m args below meth c (MQ below (vp_Si (fun r => isB r ∧ K r)) args s 0 0 (fun _ => False)) 6 t true 38 [(0, va_rf (some a0)), (1, .int l1), (2, .int l2), (3, .int l3), (4, .int l4)] [] G := by
  unfold w_M_may_38 at hwp
  refine kw_iconst (v := 0) (pc := 38) X d_M_may_38 (by decide) ?_
  exact kW.sub [0, 1, 2, 3, 4] rfl (k_M_may_39 X hret  _ _ _ _ _ hwp)
set_option maxRecDepth 100000 in
set_option maxHeartbeats 4000000 in
theorem k_M_may {p : Program} {l : Launch} {e : Env} {s : State} {m : MethodId} {args : Array Value} {below : List Frame} {meth : Method} {c : Code} {t : TY} {a0 : Nat} {G : GS} {K : Int32 → Prop} (X : kX p s m args meth c b_M_may 6 "TreeServerModel" t) (hret : meth.sig.returnType = some .boolean) (p1 : Int32) (p2 : Int32) (p3 : Int32) (hwp : w_M_may t G a0 p1 p2 p3 K) : kW p l e rm_M_may s m args below meth c (MQ below (vp_Si (fun r => isB r ∧ K r)) args s 0 0 (fun _ => False)) 6 t true 0 [(0, va_rf (some a0)), (1, .int p1), (2, .int p2), (3, .int p3)] [] G := by
  unfold w_M_may at hwp
  refine kw_aload_n (pc := 0) X d_M_may_0 rfl 0 rfl ?_
  refine kw_iload_n (pc := 1) X d_M_may_1 rfl 1 rfl ?_
  refine kw_iconst (v := 3) (pc := 2) X d_M_may_2 (by decide) ?_
  obtain ⟨f1, hwp⟩ := hwp
  refine kcVp_i (n := 2) (As := [.int p1, .int (3 : Int32)]) (rest := []) (pc := 3) X (c_M_at l t G a0 p1 (3 : Int32) _) (cwV_of (C := "TreeServerModel") X x_1111 x_1108 x_1110 xp_41 x_13 (by decide +kernel) ⟨rfl, rfl⟩ (by decide)) (rv_10 X f1) rfl rfl (by decide) d_M_may_3 hwp (fun v2 hwp => ?_)
  refine kw_istore (i := 4) (lv' := [(4, .int v2), (0, va_rf (some a0)), (1, .int p1), (2, .int p2), (3, .int p3)]) (pc := 6) X d_M_may_6 (by decide) rfl ?_
  refine kw_iload_n (pc := 8) X d_M_may_8 rfl 3 rfl ?_
  refine kw_aload_n (pc := 9) X d_M_may_9 rfl 1 rfl ?_
  refine kw_iload_n (pc := 10) X d_M_may_10 rfl 2 rfl ?_
  refine kw_bipush (v := 6) (pc := 11) X d_M_may_11 (by decide) ?_
  refine kcVp_i (n := 2) (As := [.int p1, .int (6 : Int32)]) (rest := [.int p2]) (pc := 13) X (c_M_at l t G a0 p1 (6 : Int32) _) (cwV_of (C := "TreeServerModel") X x_1111 x_1108 x_1110 xp_41 x_13 (by decide +kernel) ⟨rfl, rfl⟩ (by decide)) (rv_10 X f1) rfl rfl (by simp [rf_cat, cat_i, cat_l, cat_r]) d_M_may_13 hwp (fun v3 hwp => ?_)
  refine kw_icmp_eq (tgt := 34) (pc := 16) X d_M_may_16 (by decide) (fun h => ?_) (fun h => ?_)
  · have hwp := ite_t h hwp
    exact kW.sub [1, 2, 3, 4, 0] rfl (k_M_may_34 X hret  _ _ _ _ hwp)
  · have hwp := ite_f h hwp
    refine kw_iload_n (pc := 19) X d_M_may_19 rfl 3 rfl ?_
    refine kw_iconst (v := 1) (pc := 20) X d_M_may_20 (by decide) ?_
    refine kw_icmp_ne (tgt := 38) (pc := 21) X d_M_may_21 (by decide) (fun h => ?_) (fun h => ?_)
    · have hwp := ite_t h hwp
      exact kW.sub [1, 2, 3, 4, 0] rfl (k_M_may_38 X hret  _ _ _ _ hwp)
    · have hwp := ite_f (not_not_intro h) hwp
      refine kw_aload_n (pc := 24) X d_M_may_24 rfl 1 rfl ?_
      refine kw_iload_n (pc := 25) X d_M_may_25 rfl 2 rfl ?_
      refine kw_bipush (v := 6) (pc := 26) X d_M_may_26 (by decide) ?_
      refine kcVp_i (n := 2) (As := [.int p1, .int (6 : Int32)]) (rest := []) (pc := 28) X (c_M_at l t G a0 p1 (6 : Int32) _) (cwV_of (C := "TreeServerModel") X x_1111 x_1108 x_1110 xp_41 x_13 (by decide +kernel) ⟨rfl, rfl⟩ (by decide)) (rv_10 X f1) rfl rfl (by decide) d_M_may_28 hwp (fun v4 hwp => ?_)
      refine kw_if_ne (tgt := 38) (pc := 31) X d_M_may_31 (by decide) (fun h => ?_) (fun h => ?_)
      · have hwp := ite_t h hwp
        exact kW.sub [1, 2, 3, 4, 0] rfl (k_M_may_38 X hret  _ _ _ _ hwp)
      · have hwp := ite_f (not_not_intro h) hwp
        exact kW.sub [1, 2, 3, 4, 0] rfl (k_M_may_34 X hret  _ _ _ _ hwp)
set_option maxRecDepth 100000 in
set_option maxHeartbeats 4000000 in
theorem c_M_may (l : Launch) (t : TY) (G : GS) (a0 : Nat) (p1 : Int32) (p2 : Int32) (p3 : Int32) (K : Int32 → Prop) : Met l y_M_may (Cond.code y_M_may b_M_may 6 (Option.some Jvm.ClassFile.FieldType.boolean) :: GW) rm_M_may (va_Pc [.ref a0, .int p1, .int p2, .int p3] (fun U => HB t G U.heap ∧ HK t U ∧ w_M_may t G a0 p1 p2 p3 K)) (vp_Si (fun r => isB r ∧ K r)) 0 0 (fun _ => False) := by
  refine Met.ofW (cc := b_M_may) (maxL := 6) (ret := some .boolean) (by decide) rfl ?_
  intro p e s m args below meth c s₁ B hml hv
  obtain ⟨rfl, hB, hK, hwp⟩ := hv
  have hts := atoms_spec (ws := Cond.code y_M_may b_M_may 6 (Option.some Jvm.ClassFile.FieldType.boolean) :: GW) B.pre
  have X : kX p s m _ meth c b_M_may 6 "TreeServerModel" t := ⟨B.exec, B.bytes, hml, findClass_of_methodNamed B.named, fun w h => hts w (List.mem_cons_of_mem _ h), B.notSynchronized, hK⟩
  have hZ : kZ t true s G s.heap [] := ⟨hB, va_S.rf, fun _ => ⟨rfl, rfl⟩⟩
  rw [lg_entry_eq]
  have hl := lv_entry ([.ref a0, .int p1, .int p2, .int p3]) (n := 6) (by simp [lg_sl, rf_cat, cat_i, cat_l, cat_r])
  exact k_M_may X B.returns _ _ _ hwp s.heap [] _ hl hZ
