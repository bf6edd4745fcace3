section KSTR
variable {p : Program} {l : Launch} {e : Env} {R : Room} {s : State} {m : MethodId} {args : Array Value} {below : List Frame} {meth : Method} {c : Code} {Q : State → Prop}
variable {cc : ByteArray} {nL : Nat} {own : String} {t : TY} {pu : Bool} {G : GS} {pc : Nat} {lv lv' : List (Nat × Value)} {rest : List Value}
theorem ks_usersat {j : Int32} (X : kX p s m args meth c cc nL own t) (hd : decode cc pc = .ok (.aaload, 1)) (hj : vp_in j 3) (k : kW p l e R s m args below meth c Q nL t pu (pc + 1) lv (va_rf (some (tad t j.toNatClampNeg)) :: rest) G) : kW p l e R s m args below meth c Q nL t pu pc lv (.int j :: va_rf (some (tus t)) :: rest) G := fun H locs ls hl hz => vb_tq X.1 X.2.1 X.h.2.2.2.2.2.2.2.1.2.1 hz.2.1 hj rfl hd (k H locs ls hl hz)
theorem kg_sval {j idx : Nat} (X : kX p s m args meth c cc nL own t) (hd : decode cc pc = .ok (.getfield idx, 3)) (hw : Cond.fieldLink own idx "java/lang/String" "value" "[B" ∈ GW) (hj : j < 29) (k : kW p l e R s m args below meth c Q nL t pu (pc + 3) lv (va_rf (some (tkv t j)) :: rest) G) : kW p l e R s m args below meth c Q nL t pu pc lv (va_rf (some (tks t j)) :: rest) G := fun H locs ls hl hz => vk_getf X.1 X.2.1 (X.h.2.2.2.2.2.1.1 j hj).2.2.1 hz.2.1 X.o (X.w hw) (fun _ h => h) hd (k H locs ls hl hz)
theorem kg_scod {j idx : Nat} (X : kX p s m args meth c cc nL own t) (hd : decode cc pc = .ok (.getfield idx, 3)) (hw : Cond.fieldLink own idx "java/lang/String" "coder" "B" ∈ GW) (hj : j < 29) (k : kW p l e R s m args below meth c Q nL t pu (pc + 3) lv (.int 0 :: rest) G) : kW p l e R s m args below meth c Q nL t pu pc lv (va_rf (some (tks t j)) :: rest) G := fun H locs ls hl hz => vk_getf X.1 X.2.1 (X.h.2.2.2.2.2.1.1 j hj).2.1 hz.2.1 X.o (X.w hw) (fun _ h => h) hd (k H locs ls hl hz)
theorem ks_slen {j : Nat} (X : kX p s m args meth c cc nL own t) (hd : decode cc pc = .ok (.arraylength, 1)) (hj : j < 29) (k : kW p l e R s m args below meth c Q nL t pu (pc + 1) lv (.int (nI (slen j)) :: rest) G) : kW p l e R s m args below meth c Q nL t pu pc lv (va_rf (some (tkv t j)) :: rest) G := fun H locs ls hl hz => va_tlen X.1 X.2.1 (X.h.2.2.2.2.2.1.1 j hj).2.2.2 hz.2.1 rfl hd (k H locs ls hl hz)
theorem ks_sat {j : Nat} {i : Int32} (X : kX p s m args meth c cc nL own t) (hd : decode cc pc = .ok (.baload, 1)) (hj : j < 29) (hi : vp_in i (slen j)) (k : kW p l e R s m args below meth c Q nL t pu (pc + 1) lv (.int (sch j i.toNatClampNeg) :: rest) G) : kW p l e R s m args below meth c Q nL t pu pc lv (.int i :: va_rf (some (tkv t j)) :: rest) G := fun H locs ls hl hz => va_tb X.1 X.2.1 (X.h.2.2.2.2.2.1.1 j hj).2.2.2 hz.2.1 hi rfl hd (k H locs ls hl hz)
theorem ks_compact {idx : Nat} (X : kX p s m args meth c cc nL own t) (hd : decode cc pc = .ok (.getstatic idx, 3)) (hw : Cond.fieldLink own idx "java/lang/String" "COMPACT_STRINGS" "Z" ∈ GW) (k : kW p l e R s m args below meth c Q nL t pu (pc + 3) lv (.int 1 :: rest) G) : kW p l e R s m args below meth c Q nL t pu pc lv rest G := fun H locs ls hl hz => va_gets X.1 X.2.1 X.h.2.2.2.2.2.2.2.2.1 hz.2.1 X.o (X.w hw) (fun _ h => h) hd (k H locs ls hl hz)
theorem ks_sioobe {idx : Nat} (X : kX p s m args meth c cc nL own t) (hd : decode cc pc = .ok (.getstatic idx, 3)) (hw : Cond.fieldLink own idx "jdk/internal/util/Preconditions" "SIOOBE_FORMATTER" "Ljava/util/function/BiFunction;" ∈ GW) (k : ∀ r : Option Nat, kW p l e R s m args below meth c Q nL t pu (pc + 3) lv (va_rf r :: rest) G) : kW p l e R s m args below meth c Q nL t pu pc lv rest G := fun H locs ls hl hz => by
  obtain ⟨r, hr⟩ := X.h.2.2.2.2.2.2.2.2.2.1
  exact va_gets X.1 X.2.1 hr hz.2.1 X.o (X.w hw) (fun _ h => h) hd (k r H locs ls hl hz)
theorem krp_n {ty : FieldType} {v : Int32} {K : Int32 → Prop} (X : kX p s m args meth c cc nL own t) (hr : meth.sig.returnType = some ty) (hd : decode cc pc = .ok (.ireturn, 1)) (hn : narrow ty (.int v) = .int v) (hk : K v) : kW p l e R s m args below meth c (MQ below (vp_Si K) args s 0 0 (fun _ => False)) nL t true pc lv [.int v] G := fun H locs ls hl hz => W.zret X.1 X.2.1 hr hn (fun T hT hW => ⟨v, rfl, hk, by rw [hT]; exact (hz.2.2 rfl).1⟩) (fun q hq => by rw [(hz.2.2 rfl).2] at hq; cases hq) hd X.2.2.2.2.2.1
def kSv (post : Prop) : Array Value → State → Outcome → State → Prop := fun _ st o t => o = .returned none ∧ post ∧ t.heap = st.heap
theorem krp_v {K : Prop} (X : kX p s m args meth c cc nL own t) (hr : meth.sig.returnType = none) (hd : decode cc pc = .ok (.return_, 1)) (hk : K) : kW p l e R s m args below meth c (MQ below (kSv K) args s 0 0 (fun _ => False)) nL t true pc lv [] G := fun H locs ls hl hz => W.vret X.1 X.2.1 hr (fun T hT hW => ⟨rfl, hk, by rw [hT]; exact (hz.2.2 rfl).1⟩) (fun q hq => by rw [(hz.2.2 rfl).2] at hq; cases hq) hd X.2.2.2.2.2.1
theorem k_callSv {H : Heap} {locs : List Loc} {cells slots : Nat} {ls : Array Slot} {post : Prop} {a : Array Value} {st0 : List Value} (hr : CallRun p l e R s m args below meth c H locs cells slots 0 0 (F0 m pc ls st0) rest (kSv post a) (fun _ => False))
    (kk : post → W p l e R s m args below meth c H locs cells slots Q (F0 m (pc + 3) ls rest)) : W p l e R s m args below meth c H locs cells slots Q (F0 m pc ls st0) := by
  intro T hT X
  obtain ⟨v, st₀, t, T', L, h0, X', hL, e1, ⟨hv, hp, hh⟩, st⟩ := hr T hT X
  cases hv
  obtain ⟨t2, a1, b1⟩ := kk hp T' (by rw [e1, hh, h0]) (Stand.forget X' (fun q h => (hL q h).elim))
  exact ⟨t2, st t2 a1, b1⟩
theorem kcSp_v {y : MethodName} {bytes : ByteArray} {maxL n idx : Nat} {ret : Option FieldType} {rm : Room} {As st : List Value} {wp : Prop} {K : Prop} (X : kX p s m args meth c cc nL own t) (hM : Met l y (Cond.code y bytes maxL ret :: GW) rm (va_Pc As (fun U => HB t G U.heap ∧ HK t U ∧ wp)) (kSv K) 0 0 (fun _ => False)) (cw : CallB R s args own idx y bytes maxL ret (Cond.code y bytes maxL ret :: GW) rm 0 0 n ∧ (Cond.static y).before args s = true) (hn : As.length = n) (hst : st = As.reverse ++ rest) (hroom : (rest.map fun v => v.category).sum ≤ 8) (hd : decode cc pc = .ok (.invokestatic idx, 3)) (hwp : wp) (k : K → kW p l e R s m args below meth c Q nL t pu (pc + 3) lv rest G) : kW p l e R s m args below meth c Q nL t pu pc lv st G := by
  subst hst
  intro H locs ls hl hz
  exact k_callSv (W.runS (As := As) (rest := rest) (Ts := GW) ⟨X.1, X.2.1, X.2.2.1, X.o, X.ws⟩ hM cw ⟨HP_blind, fun U hU hW => ⟨rfl, by rw [hU]; exact hz.1, X.h.to hz.2.1 hU hW, hwp⟩⟩ rfl hn hl.1 rfl (lv_room hroom) hd ⟨Nat.zero_le _, Nat.zero_le _⟩) (fun h => k h H locs ls hl hz)
theorem rv_S {j : Nat} (X : kX p s m args meth c cc nL own t) (hj : j < 29) : ∀ (H : Heap) (locs : List Loc), HB t G H → va_S (tA t) s.heap H locs → ∃ cell : Cell, H[tks t j]? = some cell ∧ cell.vm.isStatics = false ∧ s.vm.findClass "java/lang/String" = some cell.cls := fun H locs _ hS => by
  obtain ⟨cell, h1, h2, h3, -⟩ := (X.h.2.2.2.2.2.1.1 j hj).1.kept hS.2.1
  exact ⟨cell, h1, h2, h3⟩
theorem kw_i2c {x : Int32} (X : kX p s m args meth c cc nL own t) (hd : decode cc pc = .ok (.i2c, 1)) (k : kW p l e R s m args below meth c Q nL t pu (pc + 1) lv (.int (x.toUInt32 % 65536).toInt32 :: rest) G) : kW p l e R s m args below meth c Q nL t pu pc lv (.int x :: rest) G := fun H locs ls hl hz => lv_i2c X.1 X.2.1 hd rfl (k H locs ls hl hz)
theorem kw_tableDef {dflt lo hi : Int} {offs : Array Int} {len : Nat} {x : Int32} {tgt : Nat} (keys : List Int32) (X : kX p s m args meth c cc nL own t) (hd : decode cc pc = .ok (.tableswitch dflt lo hi offs, len)) (ha : ∀ n : Nat, n < (hi - lo + 1).toNat → offs[n]? = some dflt ∨ Int32.ofInt (lo + n) ∈ keys) (hx : x ∉ keys) (ht : (pc : Int) + dflt = (tgt : Int)) (k : kW p l e R s m args below meth c Q nL t pu tgt lv rest G) : kW p l e R s m args below meth c Q nL t pu pc lv (.int x :: rest) G := by
  by_cases h : x.toInt < lo ∨ hi < x.toInt
  · exact kw_tableOut X hd h ht k
  · have h1 : ¬ x.toInt < lo := fun q => h (Or.inl q)
    have h2 : ¬ hi < x.toInt := fun q => h (Or.inr q)
    have hn : lo + ((x.toInt - lo).toNat : Nat) = x.toInt := by omega
    rcases ha (x.toInt - lo).toNat (by omega) with q | q
    · exact kw_tableIn X hd h1 h2 q ht k
    · rw [hn, Int32.ofInt_toInt] at q
      exact absurd q hx
theorem lookup_def : ∀ (ps : List (Int × Int)) (d x : Int), (∀ q ∈ ps, q.1 ≠ x) → Op.lookupswitch.offset ps d x = d
  | [], _, _, _ => rfl
  | (a, o) :: r, d, x, h => by
    rw [Op.lookupswitch.offset_cons, if_neg (h (a, o) List.mem_cons_self)]
    exact lookup_def r d x (fun q hq => h q (List.mem_cons_of_mem _ hq))
theorem kw_lookupDef {dflt : Int} {ps : Array (Int × Int)} {len : Nat} {x : Int32} {tgt : Nat} (keys : List Int32) (X : kX p s m args meth c cc nL own t) (hd : decode cc pc = .ok (.lookupswitch dflt ps, len)) (hp : (ps.toList.zip (ps.toList.drop 1)).all (fun (a, next) => a.1 < next.1) = true) (ha : ∀ q ∈ ps.toList, Int32.ofInt q.1 ∈ keys) (hx : x ∉ keys) (ht : (pc : Int) + dflt = (tgt : Int)) (k : kW p l e R s m args below meth c Q nL t pu tgt lv rest G) : kW p l e R s m args below meth c Q nL t pu pc lv (.int x :: rest) G :=
  kw_lookup X hd hp (lookup_def _ _ _ (fun q hq e => hx (by have := ha q hq; rw [e, Int32.ofInt_toInt] at this; exact this))) ht k
end KSTR
theorem sch_and : ∀ j, j < 29 → ∀ k, k < slen j → sch j k &&& 255 = sch j k := by decide +kernel
theorem slen_small : ∀ j, j < 29 → slen j < 2 ^ 31 := by decide +kernel
abbrev b_str_coder : ByteArray := prog_16_method_152_code
def y_str_coder : MethodName := ⟨"java/lang/String", "coder", "()B"⟩
theorem d_str_coder_0 : decode b_str_coder 0 = .ok (.getstatic 38, 3) := by decide +kernel
theorem d_str_coder_3 : decode b_str_coder 3 = .ok (.ifCond .eq 10, 3) := by decide +kernel
theorem d_str_coder_6 : decode b_str_coder 6 = .ok (.aload_n 0, 1) := by decide +kernel
theorem d_str_coder_7 : decode b_str_coder 7 = .ok (.getfield 15, 3) := by decide +kernel
theorem d_str_coder_10 : decode b_str_coder 10 = .ok (.goto 4, 3) := by decide +kernel
theorem d_str_coder_14 : decode b_str_coder 14 = .ok (.ireturn, 1) := by decide +kernel
abbrev rm_str_coder : Room := { frames := 0, cells := 0, slots := 0, locals := 0 }
set_option maxRecDepth 100000 in
set_option maxHeartbeats 4000000 in
theorem k_str_coder {p : Program} {l : Launch} {e : Env} {s : State} {m : MethodId} {args : Array Value} {below : List Frame} {meth : Method} {c : Code} {t : TY} {G : GS} {K : Int32 → Prop} (X : kX p s m args meth c b_str_coder 1 "java/lang/String" t) (hret : meth.sig.returnType = some .byte) (a0 : Nat) (hwp : (∃ j, j < 29 ∧ a0 = tks t j) ∧ K 0) : kW p l e rm_str_coder s m args below meth c (MQ below (vp_Si K) args s 0 0 (fun _ => False)) 1 t true 0 [(0, va_rf (some a0))] [] G := by
  obtain ⟨⟨j, hj, rfl⟩, hwp⟩ := hwp
  refine ks_compact (pc := 0) X d_str_coder_0 x_600 ?_
  refine kw_if_eq (tgt := 13) (pc := 3) X d_str_coder_3 (by decide) (fun h => absurd h (by decide)) (fun h => ?_)
  refine kw_aload_n (pc := 6) X d_str_coder_6 rfl 0 rfl ?_
  refine kg_scod (pc := 7) X d_str_coder_7 x_1423 hj ?_
  refine kw_goto (tgt := 14) (pc := 10) X d_str_coder_10 (by decide) ?_
  exact krp_n (pc := 14) X hret d_str_coder_14 (by decide) hwp
set_option maxRecDepth 100000 in
set_option maxHeartbeats 4000000 in
theorem c_str_coder (l : Launch) (t : TY) (G : GS) (a0 : Nat) (K : Int32 → Prop) : Met l y_str_coder (Cond.code y_str_coder b_str_coder 1 (Option.some Jvm.ClassFile.FieldType.byte) :: GW) rm_str_coder (va_Pc [.ref a0] (fun U => HB t G U.heap ∧ HK t U ∧ (∃ j, j < 29 ∧ a0 = tks t j) ∧ K 0)) (vp_Si K) 0 0 (fun _ => False) := by
  refine Met.ofW (cc := b_str_coder) (maxL := 1) (ret := some .byte) (by decide) rfl ?_
  intro p e s m args below meth c s₁ B hml hv
  obtain ⟨rfl, hB, hK, hwp⟩ := hv
  have hts := atoms_spec (ws := Cond.code y_str_coder b_str_coder 1 (Option.some Jvm.ClassFile.FieldType.byte) :: GW) B.pre
  have X : kX p s m _ meth c b_str_coder 1 "java/lang/String" t := ⟨B.exec, B.bytes, hml, findClass_of_methodNamed B.named, fun w h => hts w (List.mem_cons_of_mem _ h), B.notSynchronized, hK⟩
  have hZ : kZ t true s G s.heap [] := ⟨hB, va_S.rf, fun _ => ⟨rfl, rfl⟩⟩
  rw [lg_entry_eq]
  have hl := lv_entry ([.ref a0]) (n := 1) (by simp [lg_sl, rf_cat, cat_i, cat_l, cat_r])
  rw [show lv_args 0 [.ref a0] = [(0, .ref a0)] from by simp [lv_args, rf_cat, cat_i, cat_l, cat_r]] at hl
  exact k_str_coder X B.returns _ hwp s.heap [] _ hl hZ
abbrev b_str_isLatin1 : ByteArray := prog_16_method_154_code
def y_str_isLatin1 : MethodName := ⟨"java/lang/String", "isLatin1", "()Z"⟩
theorem d_str_isLatin1_0 : decode b_str_isLatin1 0 = .ok (.getstatic 38, 3) := by decide +kernel
theorem d_str_isLatin1_3 : decode b_str_isLatin1 3 = .ok (.ifCond .eq 14, 3) := by decide +kernel
theorem d_str_isLatin1_6 : decode b_str_isLatin1 6 = .ok (.aload_n 0, 1) := by decide +kernel
theorem d_str_isLatin1_7 : decode b_str_isLatin1 7 = .ok (.getfield 15, 3) := by decide +kernel
theorem d_str_isLatin1_10 : decode b_str_isLatin1 10 = .ok (.ifCond .ne 7, 3) := by decide +kernel
theorem d_str_isLatin1_13 : decode b_str_isLatin1 13 = .ok (.iconst 1, 1) := by decide +kernel
theorem d_str_isLatin1_14 : decode b_str_isLatin1 14 = .ok (.goto 4, 3) := by decide +kernel
theorem d_str_isLatin1_18 : decode b_str_isLatin1 18 = .ok (.ireturn, 1) := by decide +kernel
abbrev rm_str_isLatin1 : Room := { frames := 0, cells := 0, slots := 0, locals := 0 }
set_option maxRecDepth 100000 in
set_option maxHeartbeats 4000000 in
theorem k_str_isLatin1 {p : Program} {l : Launch} {e : Env} {s : State} {m : MethodId} {args : Array Value} {below : List Frame} {meth : Method} {c : Code} {t : TY} {G : GS} {K : Int32 → Prop} (X : kX p s m args meth c b_str_isLatin1 1 "java/lang/String" t) (hret : meth.sig.returnType = some .boolean) (a0 : Nat) (hwp : (∃ j, j < 29 ∧ a0 = tks t j) ∧ K 1) : kW p l e rm_str_isLatin1 s m args below meth c (MQ below (vp_Si K) args s 0 0 (fun _ => False)) 1 t true 0 [(0, va_rf (some a0))] [] G := by
  obtain ⟨⟨j, hj, rfl⟩, hwp⟩ := hwp
  refine ks_compact (pc := 0) X d_str_isLatin1_0 x_600 ?_
  refine kw_if_eq (tgt := 17) (pc := 3) X d_str_isLatin1_3 (by decide) (fun h => absurd h (by decide)) (fun h => ?_)
  refine kw_aload_n (pc := 6) X d_str_isLatin1_6 rfl 0 rfl ?_
  refine kg_scod (pc := 7) X d_str_isLatin1_7 x_1423 hj ?_
  refine kw_if_ne (tgt := 17) (pc := 10) X d_str_isLatin1_10 (by decide) (fun h => absurd rfl h) (fun h => ?_)
  refine kw_iconst (v := 1) (pc := 13) X d_str_isLatin1_13 (by decide) ?_
  refine kw_goto (tgt := 18) (pc := 14) X d_str_isLatin1_14 (by decide) ?_
  exact krp_n (pc := 18) X hret d_str_isLatin1_18 (by decide) hwp
set_option maxRecDepth 100000 in
set_option maxHeartbeats 4000000 in
theorem c_str_isLatin1 (l : Launch) (t : TY) (G : GS) (a0 : Nat) (K : Int32 → Prop) : Met l y_str_isLatin1 (Cond.code y_str_isLatin1 b_str_isLatin1 1 (Option.some Jvm.ClassFile.FieldType.boolean) :: GW) rm_str_isLatin1 (va_Pc [.ref a0] (fun U => HB t G U.heap ∧ HK t U ∧ (∃ j, j < 29 ∧ a0 = tks t j) ∧ K 1)) (vp_Si K) 0 0 (fun _ => False) := by
  refine Met.ofW (cc := b_str_isLatin1) (maxL := 1) (ret := some .boolean) (by decide) rfl ?_
  intro p e s m args below meth c s₁ B hml hv
  obtain ⟨rfl, hB, hK, hwp⟩ := hv
  have hts := atoms_spec (ws := Cond.code y_str_isLatin1 b_str_isLatin1 1 (Option.some Jvm.ClassFile.FieldType.boolean) :: GW) B.pre
  have X : kX p s m _ meth c b_str_isLatin1 1 "java/lang/String" t := ⟨B.exec, B.bytes, hml, findClass_of_methodNamed B.named, fun w h => hts w (List.mem_cons_of_mem _ h), B.notSynchronized, hK⟩
  have hZ : kZ t true s G s.heap [] := ⟨hB, va_S.rf, fun _ => ⟨rfl, rfl⟩⟩
  rw [lg_entry_eq]
  have hl := lv_entry ([.ref a0]) (n := 1) (by simp [lg_sl, rf_cat, cat_i, cat_l, cat_r])
  rw [show lv_args 0 [.ref a0] = [(0, .ref a0)] from by simp [lv_args, rf_cat, cat_i, cat_l, cat_r]] at hl
  exact k_str_isLatin1 X B.returns _ hwp s.heap [] _ hl hZ
abbrev b_str_length : ByteArray := prog_16_method_54_code
def y_str_length : MethodName := ⟨"java/lang/String", "length", "()I"⟩
theorem d_str_length_0 : decode b_str_length 0 = .ok (.aload_n 0, 1) := by decide +kernel
theorem d_str_length_1 : decode b_str_length 1 = .ok (.getfield 9, 3) := by decide +kernel
theorem d_str_length_4 : decode b_str_length 4 = .ok (.arraylength, 1) := by decide +kernel
theorem d_str_length_5 : decode b_str_length 5 = .ok (.aload_n 0, 1) := by decide +kernel
theorem d_str_length_6 : decode b_str_length 6 = .ok (.invokevirtual 335, 3) := by decide +kernel
theorem d_str_length_9 : decode b_str_length 9 = .ok (.ishr, 1) := by decide +kernel
theorem d_str_length_10 : decode b_str_length 10 = .ok (.ireturn, 1) := by decide +kernel
abbrev rm_str_length : Room := { frames := 1, cells := 0, slots := 0, locals := 20 }
set_option maxRecDepth 100000 in
set_option maxHeartbeats 4000000 in
theorem k_str_length {p : Program} {l : Launch} {e : Env} {s : State} {m : MethodId} {args : Array Value} {below : List Frame} {meth : Method} {c : Code} {t : TY} {G : GS} {K : Int32 → Prop} (X : kX p s m args meth c b_str_length 1 "java/lang/String" t) (hret : meth.sig.returnType = some .int) (a0 : Nat) (hwp : w_str_length t (some a0) K) : kW p l e rm_str_length s m args below meth c (MQ below (vp_Si K) args s 0 0 (fun _ => False)) 1 t true 0 [(0, va_rf (some a0))] [] G := by
  obtain ⟨j, hj, ha, hwp⟩ := hwp
  cases ha
  refine kw_aload_n (pc := 0) X d_str_length_0 rfl 0 rfl ?_
  refine kg_sval (pc := 1) X d_str_length_1 x_1422 hj ?_
  refine ks_slen (pc := 4) X d_str_length_4 hj ?_
  refine kw_aload_n (pc := 5) X d_str_length_5 rfl 0 rfl ?_
  refine kcVp_i (n := 0) (As := []) (rest := [.int (nI (slen j))]) (pc := 6) X (c_str_coder l t G (tks t j) (fun r => r = 0)) (cwV_of (C := "java/lang/String") X x_599 x_596 x_597 x_598 x_16 (by decide +kernel) ⟨rfl, rfl⟩ (by decide)) (rv_S X hj) rfl rfl (by simp [rf_cat, cat_i, cat_l, cat_r]) d_str_length_6 ⟨⟨j, hj, rfl⟩, rfl⟩ (fun r hr => ?_)
  subst hr
  refine kw_ishr (pc := 9) X d_str_length_9 ?_
  rw [sc_shr0 (slen_small j hj)]
  exact krp_i (pc := 10) X hret d_str_length_10 hwp
set_option maxRecDepth 100000 in
set_option maxHeartbeats 4000000 in
theorem c_str_length (l : Launch) (t : TY) (G : GS) (a0 : Nat) (K : Int32 → Prop) : Met l y_str_length (Cond.code y_str_length b_str_length 1 (Option.some Jvm.ClassFile.FieldType.int) :: GW) rm_str_length (va_Pc [.ref a0] (fun U => HB t G U.heap ∧ HK t U ∧ w_str_length t (some a0) K)) (vp_Si K) 0 0 (fun _ => False) := by
  refine Met.ofW (cc := b_str_length) (maxL := 1) (ret := some .int) (by decide) rfl ?_
  intro p e s m args below meth c s₁ B hml hv
  obtain ⟨rfl, hB, hK, hwp⟩ := hv
  have hts := atoms_spec (ws := Cond.code y_str_length b_str_length 1 (Option.some Jvm.ClassFile.FieldType.int) :: GW) B.pre
  have X : kX p s m _ meth c b_str_length 1 "java/lang/String" t := ⟨B.exec, B.bytes, hml, findClass_of_methodNamed B.named, fun w h => hts w (List.mem_cons_of_mem _ h), B.notSynchronized, hK⟩
  have hZ : kZ t true s G s.heap [] := ⟨hB, va_S.rf, fun _ => ⟨rfl, rfl⟩⟩
  rw [lg_entry_eq]
  have hl := lv_entry ([.ref a0]) (n := 1) (by simp [lg_sl, rf_cat, cat_i, cat_l, cat_r])
  rw [show lv_args 0 [.ref a0] = [(0, .ref a0)] from by simp [lv_args, rf_cat, cat_i, cat_l, cat_r]] at hl
  exact k_str_length X B.returns _ hwp s.heap [] _ hl hZ
abbrev b_str_isEmpty : ByteArray := prog_16_method_55_code
def y_str_isEmpty : MethodName := ⟨"java/lang/String", "isEmpty", "()Z"⟩
theorem d_str_isEmpty_0 : decode b_str_isEmpty 0 = .ok (.aload_n 0, 1) := by decide +kernel
theorem d_str_isEmpty_1 : decode b_str_isEmpty 1 = .ok (.getfield 9, 3) := by decide +kernel
theorem d_str_isEmpty_4 : decode b_str_isEmpty 4 = .ok (.arraylength, 1) := by decide +kernel
theorem d_str_isEmpty_5 : decode b_str_isEmpty 5 = .ok (.ifCond .ne 7, 3) := by decide +kernel
theorem d_str_isEmpty_8 : decode b_str_isEmpty 8 = .ok (.iconst 1, 1) := by decide +kernel
theorem d_str_isEmpty_9 : decode b_str_isEmpty 9 = .ok (.goto 4, 3) := by decide +kernel
theorem d_str_isEmpty_12 : decode b_str_isEmpty 12 = .ok (.iconst 0, 1) := by decide +kernel
theorem d_str_isEmpty_13 : decode b_str_isEmpty 13 = .ok (.ireturn, 1) := by decide +kernel
abbrev rm_str_isEmpty : Room := { frames := 0, cells := 0, slots := 0, locals := 0 }
set_option maxRecDepth 100000 in
set_option maxHeartbeats 4000000 in
theorem k_str_isEmpty {p : Program} {l : Launch} {e : Env} {s : State} {m : MethodId} {args : Array Value} {below : List Frame} {meth : Method} {c : Code} {t : TY} {G : GS} {K : Int32 → Prop} (X : kX p s m args meth c b_str_isEmpty 1 "java/lang/String" t) (hret : meth.sig.returnType = some .boolean) (a0 : Nat) (hwp : w_str_isEmpty t (some a0) K) : kW p l e rm_str_isEmpty s m args below meth c (MQ below (vp_Si K) args s 0 0 (fun _ => False)) 1 t true 0 [(0, va_rf (some a0))] [] G := by
  obtain ⟨j, hj, ha, hwp⟩ := hwp
  cases ha
  refine kw_aload_n (pc := 0) X d_str_isEmpty_0 rfl 0 rfl ?_
  refine kg_sval (pc := 1) X d_str_isEmpty_1 x_1422 hj ?_
  refine ks_slen (pc := 4) X d_str_isEmpty_4 hj ?_
  refine kw_if_ne (tgt := 12) (pc := 5) X d_str_isEmpty_5 (by decide) (fun h => ?_) (fun h => ?_)
  · rw [if_neg (fun q => h (by rw [q]; rfl))] at hwp
    refine kw_iconst (v := 0) (pc := 12) X d_str_isEmpty_12 (by decide) ?_
    exact krp_n (pc := 13) X hret d_str_isEmpty_13 (by decide) hwp
  · have hz : slen j = 0 := by
      by_cases q : slen j = 0
      · exact q
      · exact absurd h (nI_ne0 (Nat.pos_of_ne_zero q) (slen_small j hj))
    rw [if_pos hz] at hwp
    refine kw_iconst (v := 1) (pc := 8) X d_str_isEmpty_8 (by decide) ?_
    refine kw_goto (tgt := 13) (pc := 9) X d_str_isEmpty_9 (by decide) ?_
    exact krp_n (pc := 13) X hret d_str_isEmpty_13 (by decide) hwp
set_option maxRecDepth 100000 in
set_option maxHeartbeats 4000000 in
theorem c_str_isEmpty (l : Launch) (t : TY) (G : GS) (a0 : Nat) (K : Int32 → Prop) : Met l y_str_isEmpty (Cond.code y_str_isEmpty b_str_isEmpty 1 (Option.some Jvm.ClassFile.FieldType.boolean) :: GW) rm_str_isEmpty (va_Pc [.ref a0] (fun U => HB t G U.heap ∧ HK t U ∧ w_str_isEmpty t (some a0) K)) (vp_Si K) 0 0 (fun _ => False) := by
  refine Met.ofW (cc := b_str_isEmpty) (maxL := 1) (ret := some .boolean) (by decide) rfl ?_
  intro p e s m args below meth c s₁ B hml hv
  obtain ⟨rfl, hB, hK, hwp⟩ := hv
  have hts := atoms_spec (ws := Cond.code y_str_isEmpty b_str_isEmpty 1 (Option.some Jvm.ClassFile.FieldType.boolean) :: GW) B.pre
  have X : kX p s m _ meth c b_str_isEmpty 1 "java/lang/String" t := ⟨B.exec, B.bytes, hml, findClass_of_methodNamed B.named, fun w h => hts w (List.mem_cons_of_mem _ h), B.notSynchronized, hK⟩
  have hZ : kZ t true s G s.heap [] := ⟨hB, va_S.rf, fun _ => ⟨rfl, rfl⟩⟩
  rw [lg_entry_eq]
  have hl := lv_entry ([.ref a0]) (n := 1) (by simp [lg_sl, rf_cat, cat_i, cat_l, cat_r])
  rw [show lv_args 0 [.ref a0] = [(0, .ref a0)] from by simp [lv_args, rf_cat, cat_i, cat_l, cat_r]] at hl
  exact k_str_isEmpty X B.returns _ hwp s.heap [] _ hl hZ
abbrev b_pre_checkIndex : ByteArray := prog_20_method_11_code
def y_pre_checkIndex : MethodName := ⟨"jdk/internal/util/Preconditions", "checkIndex", "(IILjava/util/function/BiFunction;)I"⟩
theorem d_pre_checkIndex_0 : decode b_pre_checkIndex 0 = .ok (.iload_n 0, 1) := by decide +kernel
theorem d_pre_checkIndex_1 : decode b_pre_checkIndex 1 = .ok (.ifCond .lt 8, 3) := by decide +kernel
theorem d_pre_checkIndex_4 : decode b_pre_checkIndex 4 = .ok (.iload_n 0, 1) := by decide +kernel
theorem d_pre_checkIndex_5 : decode b_pre_checkIndex 5 = .ok (.iload_n 1, 1) := by decide +kernel
theorem d_pre_checkIndex_6 : decode b_pre_checkIndex 6 = .ok (.if_icmp .lt 10, 3) := by decide +kernel
theorem d_pre_checkIndex_16 : decode b_pre_checkIndex 16 = .ok (.iload_n 0, 1) := by decide +kernel
theorem d_pre_checkIndex_17 : decode b_pre_checkIndex 17 = .ok (.ireturn, 1) := by decide +kernel
abbrev rm_pre_checkIndex : Room := { frames := 0, cells := 0, slots := 0, locals := 0 }
set_option maxRecDepth 100000 in
set_option maxHeartbeats 4000000 in
theorem k_pre_checkIndex {p : Program} {l : Launch} {e : Env} {s : State} {m : MethodId} {args : Array Value} {below : List Frame} {meth : Method} {c : Code} {t : TY} {G : GS} {K : Int32 → Prop} (X : kX p s m args meth c b_pre_checkIndex 3 "jdk/internal/util/Preconditions" t) (hret : meth.sig.returnType = some .int) (x : Int32) (n : Int32) (r : Option Nat) (hwp : ¬ x < 0 ∧ x < n ∧ K x) : kW p l e rm_pre_checkIndex s m args below meth c (MQ below (vp_Si K) args s 0 0 (fun _ => False)) 3 t true 0 [(0, .int x), (1, .int n), (2, va_rf r)] [] G := by
  obtain ⟨h1, h2, hwp⟩ := hwp
  refine kw_iload_n (pc := 0) X d_pre_checkIndex_0 rfl 0 rfl ?_
  refine kw_if_lt (tgt := 9) (pc := 1) X d_pre_checkIndex_1 (by decide) (fun h => absurd h h1) (fun h => ?_)
  refine kw_iload_n (pc := 4) X d_pre_checkIndex_4 rfl 0 rfl ?_
  refine kw_iload_n (pc := 5) X d_pre_checkIndex_5 rfl 1 rfl ?_
  refine kw_icmp_lt (tgt := 16) (pc := 6) X d_pre_checkIndex_6 (by decide) (fun h => ?_) (fun h => absurd h2 h)
  refine kw_iload_n (pc := 16) X d_pre_checkIndex_16 rfl 0 rfl ?_
  exact krp_i (pc := 17) X hret d_pre_checkIndex_17 hwp
set_option maxRecDepth 100000 in
set_option maxHeartbeats 4000000 in
theorem c_pre_checkIndex (l : Launch) (t : TY) (G : GS) (x : Int32) (n : Int32) (r : Option Nat) (K : Int32 → Prop) : Met l y_pre_checkIndex (Cond.code y_pre_checkIndex b_pre_checkIndex 3 (Option.some Jvm.ClassFile.FieldType.int) :: GW) rm_pre_checkIndex (va_Pc [.int x, .int n, va_rf r] (fun U => HB t G U.heap ∧ HK t U ∧ ¬ x < 0 ∧ x < n ∧ K x)) (vp_Si K) 0 0 (fun _ => False) := by
  refine Met.ofW (cc := b_pre_checkIndex) (maxL := 3) (ret := some .int) (by decide) rfl ?_
  intro p e s m args below meth c s₁ B hml hv
  obtain ⟨rfl, hB, hK, hwp⟩ := hv
  have hts := atoms_spec (ws := Cond.code y_pre_checkIndex b_pre_checkIndex 3 (Option.some Jvm.ClassFile.FieldType.int) :: GW) B.pre
  have X : kX p s m _ meth c b_pre_checkIndex 3 "jdk/internal/util/Preconditions" t := ⟨B.exec, B.bytes, hml, findClass_of_methodNamed B.named, fun w h => hts w (List.mem_cons_of_mem _ h), B.notSynchronized, hK⟩
  have hZ : kZ t true s G s.heap [] := ⟨hB, va_S.rf, fun _ => ⟨rfl, rfl⟩⟩
  rw [lg_entry_eq]
  have hl := lv_entry ([.int x, .int n, va_rf r]) (n := 3) (by simp [lg_sl, rf_cat, cat_i, cat_l, cat_r])
  rw [show lv_args 0 [.int x, .int n, va_rf r] = [(0, .int x), (1, .int n), (2, va_rf r)] from by simp [lv_args, rf_cat, cat_i, cat_l, cat_r]] at hl
  exact k_pre_checkIndex X B.returns _ _ _ hwp s.heap [] _ hl hZ
abbrev b_str_checkIndex : ByteArray := prog_16_method_155_code
def y_str_checkIndex : MethodName := ⟨"java/lang/String", "checkIndex", "(II)V"⟩
theorem d_str_checkIndex_0 : decode b_str_checkIndex 0 = .ok (.iload_n 0, 1) := by decide +kernel
theorem d_str_checkIndex_1 : decode b_str_checkIndex 1 = .ok (.iload_n 1, 1) := by decide +kernel
theorem d_str_checkIndex_2 : decode b_str_checkIndex 2 = .ok (.getstatic 1053, 3) := by decide +kernel
theorem d_str_checkIndex_5 : decode b_str_checkIndex 5 = .ok (.invokestatic 1059, 3) := by decide +kernel
theorem d_str_checkIndex_8 : decode b_str_checkIndex 8 = .ok (.pop, 1) := by decide +kernel
theorem d_str_checkIndex_9 : decode b_str_checkIndex 9 = .ok (.return_, 1) := by decide +kernel
abbrev rm_str_checkIndex : Room := { frames := 1, cells := 0, slots := 0, locals := 22 }
set_option maxRecDepth 100000 in
set_option maxHeartbeats 4000000 in
theorem k_str_checkIndex {p : Program} {l : Launch} {e : Env} {s : State} {m : MethodId} {args : Array Value} {below : List Frame} {meth : Method} {c : Code} {t : TY} {G : GS} {K : Prop} (X : kX p s m args meth c b_str_checkIndex 2 "java/lang/String" t) (hret : meth.sig.returnType = none) (x : Int32) (n : Int32) (hwp : ¬ x < 0 ∧ x < n ∧ K) : kW p l e rm_str_checkIndex s m args below meth c (MQ below (kSv K) args s 0 0 (fun _ => False)) 2 t true 0 [(0, .int x), (1, .int n)] [] G := by
  obtain ⟨h1, h2, hwp⟩ := hwp
  refine kw_iload_n (pc := 0) X d_str_checkIndex_0 rfl 0 rfl ?_
  refine kw_iload_n (pc := 1) X d_str_checkIndex_1 rfl 1 rfl ?_
  refine ks_sioobe (pc := 2) X d_str_checkIndex_2 x_616 (fun r => ?_)
  refine kcSp_i (n := 3) (As := [.int x, .int n, va_rf r]) (rest := []) (pc := 5) X (c_pre_checkIndex l t G x n r (fun _ => True)) (cwS_of X x_620 x_618 x_619 x_18 (by decide +kernel) ⟨rfl, rfl⟩ (by decide)) rfl rfl (by decide) d_str_checkIndex_5 ⟨h1, h2, trivial⟩ (fun _ _ => ?_)
  refine kw_pop (pc := 8) X d_str_checkIndex_8 rfl ?_
  exact krp_v (pc := 9) X hret d_str_checkIndex_9 hwp
set_option maxRecDepth 100000 in
set_option maxHeartbeats 4000000 in
theorem c_str_checkIndex (l : Launch) (t : TY) (G : GS) (x : Int32) (n : Int32) (K : Prop) : Met l y_str_checkIndex (Cond.code y_str_checkIndex b_str_checkIndex 2 (Option.none : Option Jvm.ClassFile.FieldType) :: GW) rm_str_checkIndex (va_Pc [.int x, .int n] (fun U => HB t G U.heap ∧ HK t U ∧ ¬ x < 0 ∧ x < n ∧ K)) (kSv K) 0 0 (fun _ => False) := by
  refine Met.ofW (cc := b_str_checkIndex) (maxL := 2) (ret := none) (by decide) rfl ?_
  intro p e s m args below meth c s₁ B hml hv
  obtain ⟨rfl, hB, hK, hwp⟩ := hv
  have hts := atoms_spec (ws := Cond.code y_str_checkIndex b_str_checkIndex 2 (Option.none : Option Jvm.ClassFile.FieldType) :: GW) B.pre
  have X : kX p s m _ meth c b_str_checkIndex 2 "java/lang/String" t := ⟨B.exec, B.bytes, hml, findClass_of_methodNamed B.named, fun w h => hts w (List.mem_cons_of_mem _ h), B.notSynchronized, hK⟩
  have hZ : kZ t true s G s.heap [] := ⟨hB, va_S.rf, fun _ => ⟨rfl, rfl⟩⟩
  rw [lg_entry_eq]
  have hl := lv_entry ([.int x, .int n]) (n := 2) (by simp [lg_sl, rf_cat, cat_i, cat_l, cat_r])
  rw [show lv_args 0 [.int x, .int n] = [(0, .int x), (1, .int n)] from by simp [lv_args, rf_cat, cat_i, cat_l, cat_r]] at hl
  exact k_str_checkIndex X B.returns _ _ hwp s.heap [] _ hl hZ
abbrev b_lat_charAt : ByteArray := prog_17_method_2_code
def y_lat_charAt : MethodName := ⟨"java/lang/StringLatin1", "charAt", "([BI)C"⟩
theorem d_lat_charAt_0 : decode b_lat_charAt 0 = .ok (.iload_n 1, 1) := by decide +kernel
theorem d_lat_charAt_1 : decode b_lat_charAt 1 = .ok (.aload_n 0, 1) := by decide +kernel
theorem d_lat_charAt_2 : decode b_lat_charAt 2 = .ok (.arraylength, 1) := by decide +kernel
theorem d_lat_charAt_3 : decode b_lat_charAt 3 = .ok (.invokestatic 9, 3) := by decide +kernel
theorem d_lat_charAt_6 : decode b_lat_charAt 6 = .ok (.aload_n 0, 1) := by decide +kernel
theorem d_lat_charAt_7 : decode b_lat_charAt 7 = .ok (.iload_n 1, 1) := by decide +kernel
theorem d_lat_charAt_8 : decode b_lat_charAt 8 = .ok (.baload, 1) := by decide +kernel
theorem d_lat_charAt_9 : decode b_lat_charAt 9 = .ok (.sipush 255, 3) := by decide +kernel
theorem d_lat_charAt_12 : decode b_lat_charAt 12 = .ok (.iand, 1) := by decide +kernel
theorem d_lat_charAt_13 : decode b_lat_charAt 13 = .ok (.i2c, 1) := by decide +kernel
theorem d_lat_charAt_14 : decode b_lat_charAt 14 = .ok (.ireturn, 1) := by decide +kernel
abbrev rm_lat_charAt : Room := { frames := 2, cells := 0, slots := 0, locals := 43 }
set_option maxRecDepth 100000 in
set_option maxHeartbeats 4000000 in
theorem k_lat_charAt {p : Program} {l : Launch} {e : Env} {s : State} {m : MethodId} {args : Array Value} {below : List Frame} {meth : Method} {c : Code} {t : TY} {G : GS} {K : Int32 → Prop} (X : kX p s m args meth c b_lat_charAt 2 "java/lang/StringLatin1" t) (hret : meth.sig.returnType = some .char) (a0 : Nat) (i : Int32) (hwp : ∃ j, j < 29 ∧ a0 = tkv t j ∧ vp_in i (slen j) ∧ K (sch j i.toNatClampNeg)) : kW p l e rm_lat_charAt s m args below meth c (MQ below (vp_Si K) args s 0 0 (fun _ => False)) 2 t true 0 [(0, va_rf (some a0)), (1, .int i)] [] G := by
  obtain ⟨j, hj, rfl, hi, hwp⟩ := hwp
  have hi2 := vp_in_iff.mp hi
  have g1 : ¬ i < 0 := fun h => hi (Or.inl h)
  have g2 : i < nI (slen j) := by rw [Int32.lt_iff_toInt_lt, nI_toInt (slen_small j hj)]; exact hi2.2
  refine kw_iload_n (pc := 0) X d_lat_charAt_0 rfl 1 rfl ?_
  refine kw_aload_n (pc := 1) X d_lat_charAt_1 rfl 0 rfl ?_
  refine ks_slen (pc := 2) X d_lat_charAt_2 hj ?_
  refine kcSp_v (n := 2) (As := [.int i, .int (nI (slen j))]) (rest := []) (pc := 3) X (c_str_checkIndex l t G i (nI (slen j)) True) (cwS_of X x_615 x_613 x_614 x_16 (by decide +kernel) ⟨rfl, rfl⟩ (by decide)) rfl rfl (by decide) d_lat_charAt_3 ⟨g1, g2, trivial⟩ (fun _ => ?_)
  refine kw_aload_n (pc := 6) X d_lat_charAt_6 rfl 0 rfl ?_
  refine kw_iload_n (pc := 7) X d_lat_charAt_7 rfl 1 rfl ?_
  refine ks_sat (pc := 8) X d_lat_charAt_8 hj hi ?_
  refine kw_sipush (v := 255) (pc := 9) X d_lat_charAt_9 (by decide) ?_
  refine kw_iand (pc := 12) X d_lat_charAt_12 ?_
  refine kw_i2c (pc := 13) X d_lat_charAt_13 ?_
  have hlt : i.toNatClampNeg < slen j := Nat.not_le.mp fun q => hi (Or.inr q)
  rw [sc_c2]
  exact krp_n (pc := 14) X hret d_lat_charAt_14 (sc_nar _) (by rw [sch_and j hj _ hlt]; exact hwp)
set_option maxRecDepth 100000 in
set_option maxHeartbeats 4000000 in
theorem c_lat_charAt (l : Launch) (t : TY) (G : GS) (a0 : Nat) (i : Int32) (K : Int32 → Prop) : Met l y_lat_charAt (Cond.code y_lat_charAt b_lat_charAt 2 (Option.some Jvm.ClassFile.FieldType.char) :: GW) rm_lat_charAt (va_Pc [.ref a0, .int i] (fun U => HB t G U.heap ∧ HK t U ∧ ∃ j, j < 29 ∧ a0 = tkv t j ∧ vp_in i (slen j) ∧ K (sch j i.toNatClampNeg))) (vp_Si K) 0 0 (fun _ => False) := by
  refine Met.ofW (cc := b_lat_charAt) (maxL := 2) (ret := some .char) (by decide) rfl ?_
  intro p e s m args below meth c s₁ B hml hv
  obtain ⟨rfl, hB, hK, hwp⟩ := hv
  have hts := atoms_spec (ws := Cond.code y_lat_charAt b_lat_charAt 2 (Option.some Jvm.ClassFile.FieldType.char) :: GW) B.pre
  have X : kX p s m _ meth c b_lat_charAt 2 "java/lang/StringLatin1" t := ⟨B.exec, B.bytes, hml, findClass_of_methodNamed B.named, fun w h => hts w (List.mem_cons_of_mem _ h), B.notSynchronized, hK⟩
  have hZ : kZ t true s G s.heap [] := ⟨hB, va_S.rf, fun _ => ⟨rfl, rfl⟩⟩
  rw [lg_entry_eq]
  have hl := lv_entry ([.ref a0, .int i]) (n := 2) (by simp [lg_sl, rf_cat, cat_i, cat_l, cat_r])
  rw [show lv_args 0 [.ref a0, .int i] = [(0, .ref a0), (1, .int i)] from by simp [lv_args, rf_cat, cat_i, cat_l, cat_r]] at hl
  exact k_lat_charAt X B.returns _ _ hwp s.heap [] _ hl hZ
abbrev b_str_charAt : ByteArray := prog_16_method_56_code
def y_str_charAt : MethodName := ⟨"java/lang/String", "charAt", "(I)C"⟩
theorem d_str_charAt_0 : decode b_str_charAt 0 = .ok (.aload_n 0, 1) := by decide +kernel
theorem d_str_charAt_1 : decode b_str_charAt 1 = .ok (.invokevirtual 492, 3) := by decide +kernel
theorem d_str_charAt_4 : decode b_str_charAt 4 = .ok (.ifCond .eq 12, 3) := by decide +kernel
theorem d_str_charAt_7 : decode b_str_charAt 7 = .ok (.aload_n 0, 1) := by decide +kernel
theorem d_str_charAt_8 : decode b_str_charAt 8 = .ok (.getfield 9, 3) := by decide +kernel
theorem d_str_charAt_11 : decode b_str_charAt 11 = .ok (.iload_n 1, 1) := by decide +kernel
theorem d_str_charAt_12 : decode b_str_charAt 12 = .ok (.invokestatic 495, 3) := by decide +kernel
theorem d_str_charAt_15 : decode b_str_charAt 15 = .ok (.ireturn, 1) := by decide +kernel
abbrev rm_str_charAt : Room := { frames := 3, cells := 0, slots := 0, locals := 64 }
set_option maxRecDepth 100000 in
set_option maxHeartbeats 4000000 in
theorem k_str_charAt {p : Program} {l : Launch} {e : Env} {s : State} {m : MethodId} {args : Array Value} {below : List Frame} {meth : Method} {c : Code} {t : TY} {G : GS} {K : Int32 → Prop} (X : kX p s m args meth c b_str_charAt 2 "java/lang/String" t) (hret : meth.sig.returnType = some .char) (a0 : Nat) (i : Int32) (hwp : w_str_charAt t (some a0) i K) : kW p l e rm_str_charAt s m args below meth c (MQ below (vp_Si K) args s 0 0 (fun _ => False)) 2 t true 0 [(0, va_rf (some a0)), (1, .int i)] [] G := by
  obtain ⟨j, hj, ha, hi, hwp⟩ := hwp
  cases ha
  have hlt : i.toNatClampNeg < slen j := Nat.not_le.mp fun q => hi (Or.inr q)
  refine kw_aload_n (pc := 0) X d_str_charAt_0 rfl 0 rfl ?_
  refine kcVp_i (n := 0) (As := []) (rest := []) (pc := 1) X (c_str_isLatin1 l t G (tks t j) (fun r => r = 1)) (cwV_of (C := "java/lang/String") X x_609 x_606 x_607 x_608 x_16 (by decide +kernel) ⟨rfl, rfl⟩ (by decide)) (rv_S X hj) rfl rfl (by decide) d_str_charAt_1 ⟨⟨j, hj, rfl⟩, rfl⟩ (fun r hr => ?_)
  subst hr
  refine kw_if_eq (tgt := 16) (pc := 4) X d_str_charAt_4 (by decide) (fun h => absurd h (by decide)) (fun h => ?_)
  refine kw_aload_n (pc := 7) X d_str_charAt_7 rfl 0 rfl ?_
  refine kg_sval (pc := 8) X d_str_charAt_8 x_1422 hj ?_
  refine kw_iload_n (pc := 11) X d_str_charAt_11 rfl 1 rfl ?_
  refine kcSp_i (n := 2) (As := [va_rf (some (tkv t j)), .int i]) (rest := []) (pc := 12) X (c_lat_charAt l t G (tkv t j) i (fun r => r = sch j i.toNatClampNeg)) (cwS_of X x_612 x_610 x_611 x_17 (by decide +kernel) ⟨rfl, rfl⟩ (by decide)) rfl rfl (by decide) d_str_charAt_12 ⟨j, hj, rfl, hi, rfl⟩ (fun r hr => ?_)
  subst hr
  exact krp_n (pc := 15) X hret d_str_charAt_15 (by rw [← sch_and j hj _ hlt]; exact sc_nar _) hwp
set_option maxRecDepth 100000 in
set_option maxHeartbeats 4000000 in
theorem c_str_charAt (l : Launch) (t : TY) (G : GS) (a0 : Nat) (i : Int32) (K : Int32 → Prop) : Met l y_str_charAt (Cond.code y_str_charAt b_str_charAt 2 (Option.some Jvm.ClassFile.FieldType.char) :: GW) rm_str_charAt (va_Pc [.ref a0, .int i] (fun U => HB t G U.heap ∧ HK t U ∧ w_str_charAt t (some a0) i K)) (vp_Si K) 0 0 (fun _ => False) := by
  refine Met.ofW (cc := b_str_charAt) (maxL := 2) (ret := some .char) (by decide) rfl ?_
  intro p e s m args below meth c s₁ B hml hv
  obtain ⟨rfl, hB, hK, hwp⟩ := hv
  have hts := atoms_spec (ws := Cond.code y_str_charAt b_str_charAt 2 (Option.some Jvm.ClassFile.FieldType.char) :: GW) B.pre
  have X : kX p s m _ meth c b_str_charAt 2 "java/lang/String" t := ⟨B.exec, B.bytes, hml, findClass_of_methodNamed B.named, fun w h => hts w (List.mem_cons_of_mem _ h), B.notSynchronized, hK⟩
  have hZ : kZ t true s G s.heap [] := ⟨hB, va_S.rf, fun _ => ⟨rfl, rfl⟩⟩
  rw [lg_entry_eq]
  have hl := lv_entry ([.ref a0, .int i]) (n := 2) (by simp [lg_sl, rf_cat, cat_i, cat_l, cat_r])
  rw [show lv_args 0 [.ref a0, .int i] = [(0, .ref a0), (1, .int i)] from by simp [lv_args, rf_cat, cat_i, cat_l, cat_r]] at hl
  exact k_str_charAt X B.returns _ _ hwp s.heap [] _ hl hZ
section KSTR2
variable {p : Program} {l : Launch} {e : Env} {R : Room} {s : State} {m : MethodId} {args : Array Value} {below : List Frame} {meth : Method} {c : Code} {Q : State → Prop}
variable {cc : ByteArray} {nL : Nat} {own : String} {t : TY} {pu : Bool} {G : GS} {pc : Nat} {lv lv' : List (Nat × Value)} {rest : List Value}
theorem kc_str_length {j idx : Nat} {r : Option Nat} (X : kX p s m args meth c cc nL own t) (hd : decode cc pc = .ok (.invokevirtual idx, 3)) (hw : Cond.methodLink own idx ({ cls := "java/lang/String", name := "length", desc := "()I" } : Jvm.MethodName) ∈ GW) (hj : j < 29) (hr : r = some (tks t j)) (hf : 4 ≤ R.frames ∧ 92 ≤ R.locals) (hlo : (rest.map fun v => v.category).sum ≤ 8) (k : kW p l e R s m args below meth c Q nL t pu (pc + 3) lv (.int (nI (slen j)) :: rest) G) : kW p l e R s m args below meth c Q nL t pu pc lv (va_rf r :: rest) G := by
  subst hr
  refine kcVp_i (n := 0) (As := []) (rest := rest) X (c_str_length l t G (tks t j) (fun r => r = nI (slen j))) (cwV_of (C := "java/lang/String") X x_595 hw x_593 x_594 x_16 (by decide +kernel) ⟨rfl, rfl⟩ ⟨by show 1 + 1 ≤ R.frames; omega, by show 8 + (1 + 11) + 20 ≤ R.locals; omega⟩) (rv_S X hj) rfl rfl hlo hd ⟨j, hj, rfl, rfl⟩ (fun r hr => ?_)
  subst hr
  exact k
theorem kc_str_isEmpty {j idx : Nat} {r : Option Nat} (X : kX p s m args meth c cc nL own t) (hd : decode cc pc = .ok (.invokevirtual idx, 3)) (hw : Cond.methodLink own idx ({ cls := "java/lang/String", name := "isEmpty", desc := "()Z" } : Jvm.MethodName) ∈ GW) (hj : j < 29) (hr : r = some (tks t j)) (hf : 4 ≤ R.frames ∧ 92 ≤ R.locals) (hlo : (rest.map fun v => v.category).sum ≤ 8) (k : kW p l e R s m args below meth c Q nL t pu (pc + 3) lv (.int ((if slen j = 0 then 1 else 0)) :: rest) G) : kW p l e R s m args below meth c Q nL t pu pc lv (va_rf r :: rest) G := by
  subst hr
  refine kcVp_i (n := 0) (As := []) (rest := rest) X (c_str_isEmpty l t G (tks t j) (fun r => r = (if slen j = 0 then 1 else 0))) (cwV_of (C := "java/lang/String") X x_573 hw x_571 x_572 x_16 (by decide +kernel) ⟨rfl, rfl⟩ ⟨by show 0 + 1 ≤ R.frames; omega, by show 8 + (1 + 11) + 0 ≤ R.locals; omega⟩) (rv_S X hj) rfl rfl hlo hd ⟨j, hj, rfl, rfl⟩ (fun r hr => ?_)
  subst hr
  exact k
theorem kc_str_charAt {j idx : Nat} {r : Option Nat} {i : Int32} (X : kX p s m args meth c cc nL own t) (hd : decode cc pc = .ok (.invokevirtual idx, 3)) (hw : Cond.methodLink own idx ({ cls := "java/lang/String", name := "charAt", desc := "(I)C" } : Jvm.MethodName) ∈ GW) (hj : j < 29) (hr : r = some (tks t j)) (hi : vp_in i (slen j)) (hf : 4 ≤ R.frames ∧ 92 ≤ R.locals) (hlo : (rest.map fun v => v.category).sum ≤ 8) (k : kW p l e R s m args below meth c Q nL t pu (pc + 3) lv (.int (sch j i.toNatClampNeg) :: rest) G) : kW p l e R s m args below meth c Q nL t pu pc lv (.int i :: va_rf r :: rest) G := by
  subst hr
  refine kcVp_i (n := 1) (As := [.int i]) (rest := rest) X (c_str_charAt l t G (tks t j) i (fun r => r = sch j i.toNatClampNeg)) (cwV_of (C := "java/lang/String") X x_605 hw x_603 x_604 x_16 (by decide +kernel) ⟨rfl, rfl⟩ ⟨by show 3 + 1 ≤ R.frames; omega, by show 8 + (2 + 11) + 64 ≤ R.locals; omega⟩) (rv_S X hj) rfl rfl hlo hd ⟨j, hj, rfl, hi, rfl⟩ (fun r hr => ?_)
  subst hr
  exact k
end KSTR2
