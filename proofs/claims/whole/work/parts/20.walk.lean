abbrev b_M_serve : ByteArray := prog_13_method_37_code
def y_M_serve : MethodName := ⟨"TreeServerModel", "serve", "(I)V"⟩
theorem d_M_serve_0 : decode b_M_serve 0 = .ok (.iconst 0, 1) := by decide +kernel
theorem d_M_serve_1 : decode b_M_serve 1 = .ok (.istore_n 2, 1) := by decide +kernel
theorem d_M_serve_2 : decode b_M_serve 2 = .ok (.iload_n 2, 1) := by decide +kernel
theorem d_M_serve_3 : decode b_M_serve 3 = .ok (.bipush 100, 2) := by decide +kernel
theorem d_M_serve_5 : decode b_M_serve 5 = .ok (.if_icmp .ge 287, 3) := by decide +kernel
theorem d_M_serve_8 : decode b_M_serve 8 = .ok (.aload_n 0, 1) := by decide +kernel
theorem d_M_serve_9 : decode b_M_serve 9 = .ok (.getfield 125, 3) := by decide +kernel
theorem d_M_serve_12 : decode b_M_serve 12 = .ok (.ifCond .ne 280, 3) := by decide +kernel
theorem d_M_serve_15 : decode b_M_serve 15 = .ok (.aload_n 0, 1) := by decide +kernel
theorem d_M_serve_16 : decode b_M_serve 16 = .ok (.getfield 42, 3) := by decide +kernel
theorem d_M_serve_19 : decode b_M_serve 19 = .ok (.iload_n 1, 1) := by decide +kernel
theorem d_M_serve_20 : decode b_M_serve 20 = .ok (.baload, 1) := by decide +kernel
theorem d_M_serve_21 : decode b_M_serve 21 = .ok (.ifCond .ne 271, 3) := by decide +kernel
theorem d_M_serve_24 : decode b_M_serve 24 = .ok (.lconst 0, 1) := by decide +kernel
theorem d_M_serve_25 : decode b_M_serve 25 = .ok (.lstore_n 3, 1) := by decide +kernel
theorem d_M_serve_26 : decode b_M_serve 26 = .ok (.iconst 3, 1) := by decide +kernel
theorem d_M_serve_27 : decode b_M_serve 27 = .ok (.istore 5, 2) := by decide +kernel
theorem d_M_serve_29 : decode b_M_serve 29 = .ok (.iload 5, 2) := by decide +kernel
theorem d_M_serve_31 : decode b_M_serve 31 = .ok (.ifCond .lt 39, 3) := by decide +kernel
theorem d_M_serve_34 : decode b_M_serve 34 = .ok (.aload_n 0, 1) := by decide +kernel
theorem d_M_serve_35 : decode b_M_serve 35 = .ok (.getfield 26, 3) := by decide +kernel
theorem d_M_serve_38 : decode b_M_serve 38 = .ok (.iload_n 1, 1) := by decide +kernel
theorem d_M_serve_39 : decode b_M_serve 39 = .ok (.iaload, 1) := by decide +kernel
theorem d_M_serve_40 : decode b_M_serve 40 = .ok (.iconst 3, 1) := by decide +kernel
theorem d_M_serve_41 : decode b_M_serve 41 = .ok (.if_icmp .le 29, 3) := by decide +kernel
theorem d_M_serve_44 : decode b_M_serve 44 = .ok (.lload_n 3, 1) := by decide +kernel
theorem d_M_serve_45 : decode b_M_serve 45 = .ok (.bipush 8, 2) := by decide +kernel
theorem d_M_serve_47 : decode b_M_serve 47 = .ok (.lshl, 1) := by decide +kernel
theorem d_M_serve_48 : decode b_M_serve 48 = .ok (.aload_n 0, 1) := by decide +kernel
theorem d_M_serve_49 : decode b_M_serve 49 = .ok (.getfield 23, 3) := by decide +kernel
theorem d_M_serve_52 : decode b_M_serve 52 = .ok (.sipush 160, 3) := by decide +kernel
theorem d_M_serve_55 : decode b_M_serve 55 = .ok (.iload_n 1, 1) := by decide +kernel
theorem d_M_serve_56 : decode b_M_serve 56 = .ok (.imul, 1) := by decide +kernel
theorem d_M_serve_57 : decode b_M_serve 57 = .ok (.iload 5, 2) := by decide +kernel
theorem d_M_serve_59 : decode b_M_serve 59 = .ok (.iadd, 1) := by decide +kernel
theorem d_M_serve_60 : decode b_M_serve 60 = .ok (.iaload, 1) := by decide +kernel
theorem d_M_serve_61 : decode b_M_serve 61 = .ok (.i2l, 1) := by decide +kernel
theorem d_M_serve_62 : decode b_M_serve 62 = .ok (.lor, 1) := by decide +kernel
theorem d_M_serve_63 : decode b_M_serve 63 = .ok (.lstore_n 3, 1) := by decide +kernel
theorem d_M_serve_64 : decode b_M_serve 64 = .ok (.iinc 5 (-1), 3) := by decide +kernel
theorem d_M_serve_67 : decode b_M_serve 67 = .ok (.goto (-38), 3) := by decide +kernel
theorem d_M_serve_70 : decode b_M_serve 70 = .ok (.aload_n 0, 1) := by decide +kernel
theorem d_M_serve_71 : decode b_M_serve 71 = .ok (.getfield 26, 3) := by decide +kernel
theorem d_M_serve_74 : decode b_M_serve 74 = .ok (.iload_n 1, 1) := by decide +kernel
theorem d_M_serve_75 : decode b_M_serve 75 = .ok (.iaload, 1) := by decide +kernel
theorem d_M_serve_76 : decode b_M_serve 76 = .ok (.iconst 3, 1) := by decide +kernel
theorem d_M_serve_77 : decode b_M_serve 77 = .ok (.if_icmp .le 61, 3) := by decide +kernel
theorem d_M_serve_80 : decode b_M_serve 80 = .ok (.lload_n 3, 1) := by decide +kernel
theorem d_M_serve_81 : decode b_M_serve 81 = .ok (.ldc2_w 182, 3) := by decide +kernel
theorem d_M_serve_84 : decode b_M_serve 84 = .ok (.lcmp, 1) := by decide +kernel
theorem d_M_serve_85 : decode b_M_serve 85 = .ok (.ifCond .lt 15, 3) := by decide +kernel
theorem d_M_serve_88 : decode b_M_serve 88 = .ok (.lload_n 3, 1) := by decide +kernel
theorem d_M_serve_89 : decode b_M_serve 89 = .ok (.aload_n 0, 1) := by decide +kernel
theorem d_M_serve_90 : decode b_M_serve 90 = .ok (.getfield 35, 3) := by decide +kernel
theorem d_M_serve_93 : decode b_M_serve 93 = .ok (.iload_n 1, 1) := by decide +kernel
theorem d_M_serve_94 : decode b_M_serve 94 = .ok (.iaload, 1) := by decide +kernel
theorem d_M_serve_95 : decode b_M_serve 95 = .ok (.i2l, 1) := by decide +kernel
theorem d_M_serve_96 : decode b_M_serve 96 = .ok (.lcmp, 1) := by decide +kernel
theorem d_M_serve_97 : decode b_M_serve 97 = .ok (.ifCond .le 41, 3) := by decide +kernel
theorem d_M_serve_100 : decode b_M_serve 100 = .ok (.aload_n 0, 1) := by decide +kernel
theorem d_M_serve_101 : decode b_M_serve 101 = .ok (.iload_n 1, 1) := by decide +kernel
theorem d_M_serve_102 : decode b_M_serve 102 = .ok (.invokevirtual 184, 3) := by decide +kernel
theorem d_M_serve_105 : decode b_M_serve 105 = .ok (.aload_n 0, 1) := by decide +kernel
theorem d_M_serve_106 : decode b_M_serve 106 = .ok (.getfield 42, 3) := by decide +kernel
theorem d_M_serve_109 : decode b_M_serve 109 = .ok (.iload_n 1, 1) := by decide +kernel
theorem d_M_serve_110 : decode b_M_serve 110 = .ok (.aload_n 0, 1) := by decide +kernel
theorem d_M_serve_111 : decode b_M_serve 111 = .ok (.getfield 125, 3) := by decide +kernel
theorem d_M_serve_114 : decode b_M_serve 114 = .ok (.ifCond .ne 7, 3) := by decide +kernel
theorem d_M_serve_117 : decode b_M_serve 117 = .ok (.iconst 1, 1) := by decide +kernel
theorem d_M_serve_118 : decode b_M_serve 118 = .ok (.goto 4, 3) := by decide +kernel
theorem d_M_serve_121 : decode b_M_serve 121 = .ok (.iconst 0, 1) := by decide +kernel
theorem d_M_serve_122 : decode b_M_serve 122 = .ok (.bastore, 1) := by decide +kernel
theorem d_M_serve_123 : decode b_M_serve 123 = .ok (.aload_n 0, 1) := by decide +kernel
theorem d_M_serve_124 : decode b_M_serve 124 = .ok (.getfield 26, 3) := by decide +kernel
theorem d_M_serve_127 : decode b_M_serve 127 = .ok (.iload_n 1, 1) := by decide +kernel
theorem d_M_serve_128 : decode b_M_serve 128 = .ok (.iconst 0, 1) := by decide +kernel
theorem d_M_serve_129 : decode b_M_serve 129 = .ok (.iastore, 1) := by decide +kernel
theorem d_M_serve_130 : decode b_M_serve 130 = .ok (.aload_n 0, 1) := by decide +kernel
theorem d_M_serve_131 : decode b_M_serve 131 = .ok (.getfield 32, 3) := by decide +kernel
theorem d_M_serve_134 : decode b_M_serve 134 = .ok (.iload_n 1, 1) := by decide +kernel
theorem d_M_serve_135 : decode b_M_serve 135 = .ok (.iconst 0, 1) := by decide +kernel
theorem d_M_serve_136 : decode b_M_serve 136 = .ok (.iastore, 1) := by decide +kernel
theorem d_M_serve_137 : decode b_M_serve 137 = .ok (.return_, 1) := by decide +kernel
theorem d_M_serve_138 : decode b_M_serve 138 = .ok (.aload_n 0, 1) := by decide +kernel
theorem d_M_serve_139 : decode b_M_serve 139 = .ok (.getfield 32, 3) := by decide +kernel
theorem d_M_serve_142 : decode b_M_serve 142 = .ok (.iload_n 1, 1) := by decide +kernel
theorem d_M_serve_143 : decode b_M_serve 143 = .ok (.iaload, 1) := by decide +kernel
theorem d_M_serve_144 : decode b_M_serve 144 = .ok (.sipush 128, 3) := by decide +kernel
theorem d_M_serve_147 : decode b_M_serve 147 = .ok (.if_icmp .gt 25, 3) := by decide +kernel
theorem d_M_serve_150 : decode b_M_serve 150 = .ok (.aload_n 0, 1) := by decide +kernel
theorem d_M_serve_151 : decode b_M_serve 151 = .ok (.getfield 26, 3) := by decide +kernel
theorem d_M_serve_154 : decode b_M_serve 154 = .ok (.iload_n 1, 1) := by decide +kernel
theorem d_M_serve_155 : decode b_M_serve 155 = .ok (.iaload, 1) := by decide +kernel
theorem d_M_serve_156 : decode b_M_serve 156 = .ok (.iconst 4, 1) := by decide +kernel
theorem d_M_serve_157 : decode b_M_serve 157 = .ok (.if_icmp .lt 15, 3) := by decide +kernel
theorem d_M_serve_160 : decode b_M_serve 160 = .ok (.aload_n 0, 1) := by decide +kernel
theorem d_M_serve_161 : decode b_M_serve 161 = .ok (.getfield 26, 3) := by decide +kernel
theorem d_M_serve_164 : decode b_M_serve 164 = .ok (.iload_n 1, 1) := by decide +kernel
theorem d_M_serve_165 : decode b_M_serve 165 = .ok (.iaload, 1) := by decide +kernel
theorem d_M_serve_166 : decode b_M_serve 166 = .ok (.i2l, 1) := by decide +kernel
theorem d_M_serve_167 : decode b_M_serve 167 = .ok (.lload_n 3, 1) := by decide +kernel
theorem d_M_serve_168 : decode b_M_serve 168 = .ok (.lcmp, 1) := by decide +kernel
theorem d_M_serve_169 : decode b_M_serve 169 = .ok (.ifCond .ge 4, 3) := by decide +kernel
theorem d_M_serve_172 : decode b_M_serve 172 = .ok (.return_, 1) := by decide +kernel
theorem d_M_serve_173 : decode b_M_serve 173 = .ok (.aload_n 0, 1) := by decide +kernel
theorem d_M_serve_174 : decode b_M_serve 174 = .ok (.lload_n 3, 1) := by decide +kernel
theorem d_M_serve_175 : decode b_M_serve 175 = .ok (.l2i, 1) := by decide +kernel
theorem d_M_serve_176 : decode b_M_serve 176 = .ok (.putfield 187, 3) := by decide +kernel
theorem d_M_serve_179 : decode b_M_serve 179 = .ok (.iconst 0, 1) := by decide +kernel
theorem d_M_serve_180 : decode b_M_serve 180 = .ok (.istore 5, 2) := by decide +kernel
theorem d_M_serve_182 : decode b_M_serve 182 = .ok (.iload 5, 2) := by decide +kernel
theorem d_M_serve_184 : decode b_M_serve 184 = .ok (.aload_n 0, 1) := by decide +kernel
theorem d_M_serve_185 : decode b_M_serve 185 = .ok (.getfield 187, 3) := by decide +kernel
theorem d_M_serve_188 : decode b_M_serve 188 = .ok (.if_icmp .ge 29, 3) := by decide +kernel
theorem d_M_serve_191 : decode b_M_serve 191 = .ok (.aload_n 0, 1) := by decide +kernel
theorem d_M_serve_192 : decode b_M_serve 192 = .ok (.getfield 70, 3) := by decide +kernel
theorem d_M_serve_195 : decode b_M_serve 195 = .ok (.iload 5, 2) := by decide +kernel
theorem d_M_serve_197 : decode b_M_serve 197 = .ok (.aload_n 0, 1) := by decide +kernel
theorem d_M_serve_198 : decode b_M_serve 198 = .ok (.getfield 23, 3) := by decide +kernel
theorem d_M_serve_201 : decode b_M_serve 201 = .ok (.sipush 160, 3) := by decide +kernel
theorem d_M_serve_204 : decode b_M_serve 204 = .ok (.iload_n 1, 1) := by decide +kernel
theorem d_M_serve_205 : decode b_M_serve 205 = .ok (.imul, 1) := by decide +kernel
theorem d_M_serve_206 : decode b_M_serve 206 = .ok (.iload 5, 2) := by decide +kernel
theorem d_M_serve_208 : decode b_M_serve 208 = .ok (.iadd, 1) := by decide +kernel
theorem d_M_serve_209 : decode b_M_serve 209 = .ok (.iaload, 1) := by decide +kernel
theorem d_M_serve_210 : decode b_M_serve 210 = .ok (.iastore, 1) := by decide +kernel
theorem d_M_serve_211 : decode b_M_serve 211 = .ok (.iinc 5 1, 3) := by decide +kernel
theorem d_M_serve_214 : decode b_M_serve 214 = .ok (.goto (-32), 3) := by decide +kernel
theorem d_M_serve_217 : decode b_M_serve 217 = .ok (.aload_n 0, 1) := by decide +kernel
theorem d_M_serve_218 : decode b_M_serve 218 = .ok (.getfield 26, 3) := by decide +kernel
theorem d_M_serve_221 : decode b_M_serve 221 = .ok (.iload_n 1, 1) := by decide +kernel
theorem d_M_serve_222 : decode b_M_serve 222 = .ok (.dup2, 1) := by decide +kernel
theorem d_M_serve_223 : decode b_M_serve 223 = .ok (.iaload, 1) := by decide +kernel
theorem d_M_serve_224 : decode b_M_serve 224 = .ok (.aload_n 0, 1) := by decide +kernel
theorem d_M_serve_225 : decode b_M_serve 225 = .ok (.getfield 187, 3) := by decide +kernel
theorem d_M_serve_228 : decode b_M_serve 228 = .ok (.isub, 1) := by decide +kernel
theorem d_M_serve_229 : decode b_M_serve 229 = .ok (.iastore, 1) := by decide +kernel
theorem d_M_serve_230 : decode b_M_serve 230 = .ok (.iconst 0, 1) := by decide +kernel
theorem d_M_serve_231 : decode b_M_serve 231 = .ok (.istore 5, 2) := by decide +kernel
theorem d_M_serve_233 : decode b_M_serve 233 = .ok (.iload 5, 2) := by decide +kernel
theorem d_M_serve_235 : decode b_M_serve 235 = .ok (.aload_n 0, 1) := by decide +kernel
theorem d_M_serve_236 : decode b_M_serve 236 = .ok (.getfield 26, 3) := by decide +kernel
theorem d_M_serve_239 : decode b_M_serve 239 = .ok (.iload_n 1, 1) := by decide +kernel
theorem d_M_serve_240 : decode b_M_serve 240 = .ok (.iaload, 1) := by decide +kernel
theorem d_M_serve_241 : decode b_M_serve 241 = .ok (.if_icmp .ge 40, 3) := by decide +kernel
theorem d_M_serve_244 : decode b_M_serve 244 = .ok (.aload_n 0, 1) := by decide +kernel
theorem d_M_serve_245 : decode b_M_serve 245 = .ok (.getfield 23, 3) := by decide +kernel
theorem d_M_serve_248 : decode b_M_serve 248 = .ok (.sipush 160, 3) := by decide +kernel
theorem d_M_serve_251 : decode b_M_serve 251 = .ok (.iload_n 1, 1) := by decide +kernel
theorem d_M_serve_252 : decode b_M_serve 252 = .ok (.imul, 1) := by decide +kernel
theorem d_M_serve_253 : decode b_M_serve 253 = .ok (.iload 5, 2) := by decide +kernel
theorem d_M_serve_255 : decode b_M_serve 255 = .ok (.iadd, 1) := by decide +kernel
theorem d_M_serve_256 : decode b_M_serve 256 = .ok (.aload_n 0, 1) := by decide +kernel
theorem d_M_serve_257 : decode b_M_serve 257 = .ok (.getfield 23, 3) := by decide +kernel
theorem d_M_serve_260 : decode b_M_serve 260 = .ok (.sipush 160, 3) := by decide +kernel
theorem d_M_serve_263 : decode b_M_serve 263 = .ok (.iload_n 1, 1) := by decide +kernel
theorem d_M_serve_264 : decode b_M_serve 264 = .ok (.imul, 1) := by decide +kernel
theorem d_M_serve_265 : decode b_M_serve 265 = .ok (.aload_n 0, 1) := by decide +kernel
theorem d_M_serve_266 : decode b_M_serve 266 = .ok (.getfield 187, 3) := by decide +kernel
theorem d_M_serve_269 : decode b_M_serve 269 = .ok (.iadd, 1) := by decide +kernel
theorem d_M_serve_270 : decode b_M_serve 270 = .ok (.iload 5, 2) := by decide +kernel
theorem d_M_serve_272 : decode b_M_serve 272 = .ok (.iadd, 1) := by decide +kernel
theorem d_M_serve_273 : decode b_M_serve 273 = .ok (.iaload, 1) := by decide +kernel
theorem d_M_serve_274 : decode b_M_serve 274 = .ok (.iastore, 1) := by decide +kernel
theorem d_M_serve_275 : decode b_M_serve 275 = .ok (.iinc 5 1, 3) := by decide +kernel
theorem d_M_serve_278 : decode b_M_serve 278 = .ok (.goto (-45), 3) := by decide +kernel
theorem d_M_serve_281 : decode b_M_serve 281 = .ok (.aload_n 0, 1) := by decide +kernel
theorem d_M_serve_282 : decode b_M_serve 282 = .ok (.iload_n 1, 1) := by decide +kernel
theorem d_M_serve_283 : decode b_M_serve 283 = .ok (.invokevirtual 190, 3) := by decide +kernel
theorem d_M_serve_286 : decode b_M_serve 286 = .ok (.iinc 2 1, 3) := by decide +kernel
theorem d_M_serve_289 : decode b_M_serve 289 = .ok (.goto (-287), 3) := by decide +kernel
theorem d_M_serve_292 : decode b_M_serve 292 = .ok (.return_, 1) := by decide +kernel
abbrev rm_M_serve : Room := { frames := 8, cells := 0, slots := 0, locals := 194 }
set_option maxRecDepth 100000 in
set_option maxHeartbeats 4000000 in
theorem k_M_serve_233 {p : Program} {l : Launch} {e : Env} {s : State} {m : MethodId} {args : Array Value} {below : List Frame} {meth : Method} {c : Code} {t : TY} {a0 : Nat} {K : GS → Prop} {r2 : Int32 → Int32 → GS → Prop} (X : kX p s m args meth c b_M_serve 6 "TreeServerModel" t) (hret : meth.sig.returnType = none) (hr_2 : ∀ (l1 : Int32) (l2 : Int32) (G : GS), r2 l1 l2 G → kW p l e rm_M_serve s m args below meth c (MQ below (va_Qv (fun u : GS => K u) (fun u T => HB t u T.heap) (tA t)) args s 0 0 (tA t)) 6 t false 2 [(0, va_rf (some a0)), (1, .int l1), (2, .int l2)] [] G) : ∀ (n : Nat) (l1 : Int32) (l2 : Int32) (l5 : Int32) (G : GS), w_M_serve_233 t a0 K r2 n l1 l2 l5 G → kW p l e rm_M_serve s m args below meth c (MQ below (va_Qv (fun u : GS => K u) (fun u T => HB t u T.heap) (tA t)) args s 0 0 (tA t)) 6 t false 233 [(0, va_rf (some a0)), (1, .int l1), (2, .int l2), (5, .int l5)] [] G := by
  intro n
  induction n with
  | zero => intro l1 l2 l5 G hwp; exact hwp.elim
  | succ n hr_233 =>
    intro l1 l2 l5 G hwp
    unfold w_M_serve_233 at hwp
    dsimp only at hwp
    refine kw_iload (pc := 233) X d_M_serve_233 3 rfl ?_
    refine kw_aload_n (pc := 235) X d_M_serve_235 rfl 0 rfl ?_
    obtain ⟨f1, hwp⟩ := hwp
    refine kg_80 (a := a0) (pc := 236) X d_M_serve_236 x_1000 rfl f1 ?_
    refine kw_iload_n (pc := 239) X d_M_serve_239 rfl 1 rfl ?_
    obtain ⟨a2, h_a2, hwp⟩ := hwp
    obtain ⟨f3, hwp⟩ := hwp
    obtain ⟨f4, hwp⟩ := hwp
    refine ka_iald (a := a2) (pc := 240) X d_M_serve_240 h_a2 f3 f4 ?_
    refine kw_icmp_ge (tgt := 281) (pc := 241) X d_M_serve_241 (by decide) (fun h => ?_) (fun h => ?_)
    · have hwp := ite_t h hwp
      refine kw_aload_n (pc := 281) X d_M_serve_281 rfl 0 rfl ?_
      refine kw_iload_n (pc := 282) X d_M_serve_282 rfl 1 rfl ?_
      refine kcV_v (n := 1) (As := [.int l1]) (rest := []) (pc := 283) X rfl (c_M_reply l t G a0 l1 _) (cwV_of (C := "TreeServerModel") X x_1155 x_1152 x_1154 xp_52 x_13 (by decide +kernel) ⟨rfl, rfl⟩ (by decide)) (rv_10 X f1) rfl rfl (by decide) d_M_serve_283 hwp (fun G5 hwp => ?_)
      obtain ⟨v6, e_v6⟩ : ∃ z, z = (l2 + (1 : Int32)) := ⟨_, rfl⟩
      have hwp := hwp v6 e_v6
      refine kw_iinc (v := v6) (lv' := [(2, .int v6), (0, va_rf (some a0)), (1, .int l1), (5, .int l5)]) (pc := 286) X d_M_serve_286 2 rfl (by rw [e_v6]; rfl) (by decide) rfl ?_
      refine kw_goto (tgt := 2) (pc := 289) X d_M_serve_289 (by decide) ?_
      exact kW.sub [1, 2, 0] rfl (hr_2 _ _ _ hwp)
    · have hwp := ite_f h hwp
      refine kw_aload_n (pc := 244) X d_M_serve_244 rfl 0 rfl ?_
      refine kg_79 (a := a0) (pc := 245) X d_M_serve_245 x_999 rfl f1 ?_
      refine kw_sipush (v := 160) (pc := 248) X d_M_serve_248 (by decide) ?_
      refine kw_iload_n (pc := 251) X d_M_serve_251 rfl 1 rfl ?_
      refine kw_imul (pc := 252) X d_M_serve_252 ?_
      refine kw_iload (pc := 253) X d_M_serve_253 3 rfl ?_
      refine kw_iadd (pc := 255) X d_M_serve_255 ?_
      refine kw_aload_n (pc := 256) X d_M_serve_256 rfl 0 rfl ?_
      refine kg_79 (a := a0) (pc := 257) X d_M_serve_257 x_999 rfl f1 ?_
      refine kw_sipush (v := 160) (pc := 260) X d_M_serve_260 (by decide) ?_
      refine kw_iload_n (pc := 263) X d_M_serve_263 rfl 1 rfl ?_
      refine kw_imul (pc := 264) X d_M_serve_264 ?_
      refine kw_aload_n (pc := 265) X d_M_serve_265 rfl 0 rfl ?_
      refine kg_95 (a := a0) (pc := 266) X d_M_serve_266 x_1015 rfl f1 ?_
      refine kw_iadd (pc := 269) X d_M_serve_269 ?_
      refine kw_iload (pc := 270) X d_M_serve_270 3 rfl ?_
      refine kw_iadd (pc := 272) X d_M_serve_272 ?_
      obtain ⟨a7, h_a7, hwp⟩ := hwp
      obtain ⟨f8, hwp⟩ := hwp
      obtain ⟨f9, hwp⟩ := hwp
      refine ka_iald (a := a7) (pc := 273) X d_M_serve_273 h_a7 f8 f9 ?_
      obtain ⟨f10, hwp⟩ := hwp
      refine ka_iast (a := a7) (pc := 274) X rfl d_M_serve_274 h_a7 f8 f10 ?_
      obtain ⟨G11, e_G11⟩ : ∃ g, g = ais G a7 (((160 : Int32) * l1) + l5).toNatClampNeg (ai G a7 ((((160 : Int32) * l1) + (gi G 95 a0)) + l5).toNatClampNeg) := ⟨_, rfl⟩
      have hwp := hwp G11 e_G11
      refine kW.g e_G11.symm ?_
      obtain ⟨v12, e_v12⟩ : ∃ z, z = (l5 + (1 : Int32)) := ⟨_, rfl⟩
      have hwp := hwp v12 e_v12
      refine kw_iinc (v := v12) (lv' := [(5, .int v12), (0, va_rf (some a0)), (1, .int l1), (2, .int l2)]) (pc := 275) X d_M_serve_275 3 rfl (by rw [e_v12]; rfl) (by decide) rfl ?_
      refine kw_goto (tgt := 233) (pc := 278) X d_M_serve_278 (by decide) ?_
      exact kW.sub [1, 2, 3, 0] rfl (hr_233 _ _ _ _ hwp)
set_option maxRecDepth 100000 in
set_option maxHeartbeats 4000000 in
theorem k_M_serve_182 {p : Program} {l : Launch} {e : Env} {s : State} {m : MethodId} {args : Array Value} {below : List Frame} {meth : Method} {c : Code} {t : TY} {a0 : Nat} {K : GS → Prop} {r2 : Int32 → Int32 → GS → Prop} (X : kX p s m args meth c b_M_serve 6 "TreeServerModel" t) (hret : meth.sig.returnType = none) (hr_2 : ∀ (l1 : Int32) (l2 : Int32) (G : GS), r2 l1 l2 G → kW p l e rm_M_serve s m args below meth c (MQ below (va_Qv (fun u : GS => K u) (fun u T => HB t u T.heap) (tA t)) args s 0 0 (tA t)) 6 t false 2 [(0, va_rf (some a0)), (1, .int l1), (2, .int l2)] [] G) : ∀ (n : Nat) (l1 : Int32) (l2 : Int32) (l5 : Int32) (G : GS), w_M_serve_182 t a0 K r2 n l1 l2 l5 G → kW p l e rm_M_serve s m args below meth c (MQ below (va_Qv (fun u : GS => K u) (fun u T => HB t u T.heap) (tA t)) args s 0 0 (tA t)) 6 t false 182 [(0, va_rf (some a0)), (1, .int l1), (2, .int l2), (5, .int l5)] [] G := by
  intro n
  induction n with
  | zero => intro l1 l2 l5 G hwp; exact hwp.elim
  | succ n hr_182 =>
    intro l1 l2 l5 G hwp
    unfold w_M_serve_182 at hwp
    dsimp only at hwp
    refine kw_iload (pc := 182) X d_M_serve_182 3 rfl ?_
    refine kw_aload_n (pc := 184) X d_M_serve_184 rfl 0 rfl ?_
    obtain ⟨f1, hwp⟩ := hwp
    refine kg_95 (a := a0) (pc := 185) X d_M_serve_185 x_1015 rfl f1 ?_
    refine kw_icmp_ge (tgt := 217) (pc := 188) X d_M_serve_188 (by decide) (fun h => ?_) (fun h => ?_)
    · have hwp := ite_t h hwp
      refine kw_aload_n (pc := 217) X d_M_serve_217 rfl 0 rfl ?_
      refine kg_80 (a := a0) (pc := 218) X d_M_serve_218 x_1000 rfl f1 ?_
      refine kw_iload_n (pc := 221) X d_M_serve_221 rfl 1 rfl ?_
      refine kw_dup2 (pc := 222) X d_M_serve_222 rfl (rf_cat _) ?_
      obtain ⟨a2, h_a2, hwp⟩ := hwp
      obtain ⟨f3, hwp⟩ := hwp
      obtain ⟨f4, hwp⟩ := hwp
      refine ka_iald (a := a2) (pc := 223) X d_M_serve_223 h_a2 f3 f4 ?_
      refine kw_aload_n (pc := 224) X d_M_serve_224 rfl 0 rfl ?_
      refine kg_95 (a := a0) (pc := 225) X d_M_serve_225 x_1015 rfl f1 ?_
      refine kw_isub (pc := 228) X d_M_serve_228 ?_
      refine ka_iast (a := a2) (pc := 229) X rfl d_M_serve_229 h_a2 f3 f4 ?_
      obtain ⟨G5, e_G5⟩ : ∃ g, g = ais G a2 l1.toNatClampNeg ((ai G a2 l1.toNatClampNeg) - (gi G 95 a0)) := ⟨_, rfl⟩
      have hwp := hwp G5 e_G5
      refine kW.g e_G5.symm ?_
      refine kw_iconst (v := 0) (pc := 230) X d_M_serve_230 (by decide) ?_
      refine kw_istore (i := 5) (lv' := [(5, .int (0 : Int32)), (0, va_rf (some a0)), (1, .int l1), (2, .int l2)]) (pc := 231) X d_M_serve_231 (by decide) rfl ?_
      obtain ⟨n, hwp⟩ := hwp
      exact kW.sub [1, 2, 3, 0] rfl (k_M_serve_233 X hret hr_2 n _ _ _ _ hwp)
    · have hwp := ite_f h hwp
      refine kw_aload_n (pc := 191) X d_M_serve_191 rfl 0 rfl ?_
      refine kg_94 (a := a0) (pc := 192) X d_M_serve_192 x_1014 rfl f1 ?_
      refine kw_iload (pc := 195) X d_M_serve_195 3 rfl ?_
      refine kw_aload_n (pc := 197) X d_M_serve_197 rfl 0 rfl ?_
      refine kg_79 (a := a0) (pc := 198) X d_M_serve_198 x_999 rfl f1 ?_
      refine kw_sipush (v := 160) (pc := 201) X d_M_serve_201 (by decide) ?_
      refine kw_iload_n (pc := 204) X d_M_serve_204 rfl 1 rfl ?_
      refine kw_imul (pc := 205) X d_M_serve_205 ?_
      refine kw_iload (pc := 206) X d_M_serve_206 3 rfl ?_
      refine kw_iadd (pc := 208) X d_M_serve_208 ?_
      obtain ⟨a6, h_a6, hwp⟩ := hwp
      obtain ⟨f7, hwp⟩ := hwp
      obtain ⟨f8, hwp⟩ := hwp
      refine ka_iald (a := a6) (pc := 209) X d_M_serve_209 h_a6 f7 f8 ?_
      obtain ⟨a9, h_a9, hwp⟩ := hwp
      obtain ⟨f10, hwp⟩ := hwp
      obtain ⟨f11, hwp⟩ := hwp
      refine ka_iast (a := a9) (pc := 210) X rfl d_M_serve_210 h_a9 f10 f11 ?_
      obtain ⟨G12, e_G12⟩ : ∃ g, g = ais G a9 l5.toNatClampNeg (ai G a6 (((160 : Int32) * l1) + l5).toNatClampNeg) := ⟨_, rfl⟩
      have hwp := hwp G12 e_G12
      refine kW.g e_G12.symm ?_
      obtain ⟨v13, e_v13⟩ : ∃ z, z = (l5 + (1 : Int32)) := ⟨_, rfl⟩
      have hwp := hwp v13 e_v13
      refine kw_iinc (v := v13) (lv' := [(5, .int v13), (0, va_rf (some a0)), (1, .int l1), (2, .int l2)]) (pc := 211) X d_M_serve_211 3 rfl (by rw [e_v13]; rfl) (by decide) rfl ?_
      refine kw_goto (tgt := 182) (pc := 214) X d_M_serve_214 (by decide) ?_
      exact kW.sub [1, 2, 3, 0] rfl (hr_182 _ _ _ _ hwp)
set_option maxRecDepth 100000 in
set_option maxHeartbeats 4000000 in
theorem k_M_serve_138 {p : Program} {l : Launch} {e : Env} {s : State} {m : MethodId} {args : Array Value} {below : List Frame} {meth : Method} {c : Code} {t : TY} {a0 : Nat} {K : GS → Prop} {r2 : Int32 → Int32 → GS → Prop} (X : kX p s m args meth c b_M_serve 6 "TreeServerModel" t) (hret : meth.sig.returnType = none) (hr_2 : ∀ (l1 : Int32) (l2 : Int32) (G : GS), r2 l1 l2 G → kW p l e rm_M_serve s m args below meth c (MQ below (va_Qv (fun u : GS => K u) (fun u T => HB t u T.heap) (tA t)) args s 0 0 (tA t)) 6 t false 2 [(0, va_rf (some a0)), (1, .int l1), (2, .int l2)] [] G) (l1 : Int32) (l2 : Int32) (l3 : Int64) (G : GS) (hwp : w_M_serve_138 t a0 K r2 l1 l2 l3 G) : kW p l e rm_M_serve s m args below meth c (MQ below (va_Qv (fun u : GS => K u) (fun u T => HB t u T.heap) (tA t)) args s 0 0 (tA t)) 6 t false 138 [(0, va_rf (some a0)), (1, .int l1), (2, .int l2), (3, .long l3)] [] G := by
  unfold w_M_serve_138 at hwp
  refine kw_aload_n (pc := 138) X d_M_serve_138 rfl 0 rfl ?_
  obtain ⟨f1, hwp⟩ := hwp
  refine kg_82 (a := a0) (pc := 139) X d_M_serve_139 x_1002 rfl f1 ?_
  refine kw_iload_n (pc := 142) X d_M_serve_142 rfl 1 rfl ?_
  obtain ⟨a2, h_a2, hwp⟩ := hwp
  obtain ⟨f3, hwp⟩ := hwp
  obtain ⟨f4, hwp⟩ := hwp
  refine ka_iald (a := a2) (pc := 143) X d_M_serve_143 h_a2 f3 f4 ?_
  refine kw_sipush (v := 128) (pc := 144) X d_M_serve_144 (by decide) ?_
  refine kw_icmp_gt (tgt := 172) (pc := 147) X d_M_serve_147 (by decide) (fun h => ?_) (fun h => ?_)
  · have hwp := ite_t h hwp
    exact kr_v (pc := 172) X hret d_M_serve_172 hwp
  · have hwp := ite_f h hwp
    refine kw_aload_n (pc := 150) X d_M_serve_150 rfl 0 rfl ?_
    refine kg_80 (a := a0) (pc := 151) X d_M_serve_151 x_1000 rfl f1 ?_
    refine kw_iload_n (pc := 154) X d_M_serve_154 rfl 1 rfl ?_
    obtain ⟨a5, h_a5, hwp⟩ := hwp
    obtain ⟨f6, hwp⟩ := hwp
    obtain ⟨f7, hwp⟩ := hwp
    refine ka_iald (a := a5) (pc := 155) X d_M_serve_155 h_a5 f6 f7 ?_
    refine kw_iconst (v := 4) (pc := 156) X d_M_serve_156 (by decide) ?_
    refine kw_icmp_lt (tgt := 172) (pc := 157) X d_M_serve_157 (by decide) (fun h => ?_) (fun h => ?_)
    · have hwp := ite_t h hwp
      exact kr_v (pc := 172) X hret d_M_serve_172 hwp
    · have hwp := ite_f h hwp
      refine kw_aload_n (pc := 160) X d_M_serve_160 rfl 0 rfl ?_
      refine kg_80 (a := a0) (pc := 161) X d_M_serve_161 x_1000 rfl f1 ?_
      refine kw_iload_n (pc := 164) X d_M_serve_164 rfl 1 rfl ?_
      refine ka_iald (a := a5) (pc := 165) X d_M_serve_165 h_a5 f6 f7 ?_
      refine kw_i2l (pc := 166) X d_M_serve_166 ?_
      refine kw_lload_n (pc := 167) X d_M_serve_167 rfl 3 rfl ?_
      refine kw_lcmp_ge (tgt := 173) (pc := 168) X d_M_serve_168 d_M_serve_169 (by decide) (fun h => ?_) (fun h => ?_)
      · have hwp := ite_t h hwp
        refine kw_aload_n (pc := 173) X d_M_serve_173 rfl 0 rfl ?_
        refine kw_lload_n (pc := 174) X d_M_serve_174 rfl 3 rfl ?_
        refine kw_l2i (pc := 175) X d_M_serve_175 ?_
        refine kp_95 (a := a0) (x := l3.toInt32) (pc := 176) X rfl d_M_serve_176 x_1015 rfl f1 ?_
        obtain ⟨G8, e_G8⟩ : ∃ g, g = si G 95 a0 l3.toInt32 := ⟨_, rfl⟩
        have hwp := hwp G8 e_G8
        refine kW.g e_G8.symm ?_
        refine kw_iconst (v := 0) (pc := 179) X d_M_serve_179 (by decide) ?_
        refine kw_istore (i := 5) (lv' := [(5, .int (0 : Int32)), (0, va_rf (some a0)), (1, .int l1), (2, .int l2), (3, .long l3)]) (pc := 180) X d_M_serve_180 (by decide) rfl ?_
        obtain ⟨n, hwp⟩ := hwp
        exact kW.sub [1, 2, 3, 0] rfl (k_M_serve_182 X hret hr_2 n _ _ _ _ hwp)
      · have hwp := ite_f h hwp
        exact kr_v (pc := 172) X hret d_M_serve_172 hwp
set_option maxRecDepth 100000 in
set_option maxHeartbeats 4000000 in
theorem k_M_serve_122 {p : Program} {l : Launch} {e : Env} {s : State} {m : MethodId} {args : Array Value} {below : List Frame} {meth : Method} {c : Code} {t : TY} {a0 : Nat} {K : GS → Prop} (X : kX p s m args meth c b_M_serve 6 "TreeServerModel" t) (hret : meth.sig.returnType = none) (l1 : Int32) (s0 : Option Nat) (s1 : Int32) (s2 : Int32) (G : GS) (hwp : w_M_serve_122 t a0 K l1 s0 s1 s2 G) : kW p l e rm_M_serve s m args below meth c (MQ below (va_Qv (fun u : GS => K u) (fun u T => HB t u T.heap) (tA t)) args s 0 0 (tA t)) 6 t false 122 [(0, va_rf (some a0)), (1, .int l1)] [.int s2, .int s1, va_rf s0] G := by
  unfold w_M_serve_122 at hwp
  obtain ⟨a1, h_a1, hwp⟩ := hwp
  obtain ⟨f2, hwp⟩ := hwp
  obtain ⟨f3, hwp⟩ := hwp
  refine ka_zast (a := a1) (pc := 122) X rfl d_M_serve_122 h_a1 f2 f3 ?_
  obtain ⟨G4, e_G4⟩ : ∃ g, g = ais G a1 s1.toNatClampNeg (vp_nar .boolean s2) := ⟨_, rfl⟩
  have hwp := hwp G4 e_G4
  refine kW.g e_G4.symm ?_
  refine kw_aload_n (pc := 123) X d_M_serve_123 rfl 0 rfl ?_
  obtain ⟨f5, hwp⟩ := hwp
  refine kg_80 (a := a0) (pc := 124) X d_M_serve_124 x_1000 rfl f5 ?_
  refine kw_iload_n (pc := 127) X d_M_serve_127 rfl 1 rfl ?_
  refine kw_iconst (v := 0) (pc := 128) X d_M_serve_128 (by decide) ?_
  obtain ⟨a6, h_a6, hwp⟩ := hwp
  obtain ⟨f7, hwp⟩ := hwp
  obtain ⟨f8, hwp⟩ := hwp
  refine ka_iast (a := a6) (pc := 129) X rfl d_M_serve_129 h_a6 f7 f8 ?_
  obtain ⟨G9, e_G9⟩ : ∃ g, g = ais G4 a6 l1.toNatClampNeg (0 : Int32) := ⟨_, rfl⟩
  have hwp := hwp G9 e_G9
  refine kW.g e_G9.symm ?_
  refine kw_aload_n (pc := 130) X d_M_serve_130 rfl 0 rfl ?_
  refine kg_82 (a := a0) (pc := 131) X d_M_serve_131 x_1002 rfl f5 ?_
  refine kw_iload_n (pc := 134) X d_M_serve_134 rfl 1 rfl ?_
  refine kw_iconst (v := 0) (pc := 135) X d_M_serve_135 (by decide) ?_
  obtain ⟨a10, h_a10, hwp⟩ := hwp
  obtain ⟨f11, hwp⟩ := hwp
  obtain ⟨f12, hwp⟩ := hwp
  refine ka_iast (a := a10) (pc := 136) X rfl d_M_serve_136 h_a10 f11 f12 ?_
  obtain ⟨G13, e_G13⟩ : ∃ g, g = ais G9 a10 l1.toNatClampNeg (0 : Int32) := ⟨_, rfl⟩
  have hwp := hwp G13 e_G13
  refine kW.g e_G13.symm ?_
  exact kr_v (pc := 137) X hret d_M_serve_137 hwp
set_option maxRecDepth 100000 in
set_option maxHeartbeats 4000000 in
theorem k_M_serve_100 {p : Program} {l : Launch} {e : Env} {s : State} {m : MethodId} {args : Array Value} {below : List Frame} {meth : Method} {c : Code} {t : TY} {a0 : Nat} {K : GS → Prop} (X : kX p s m args meth c b_M_serve 6 "TreeServerModel" t) (hret : meth.sig.returnType = none) (l1 : Int32) (G : GS) (hwp : w_M_serve_100 t a0 K l1 G) : kW p l e rm_M_serve s m args below meth c (MQ below (va_Qv (fun u : GS => K u) (fun u T => HB t u T.heap) (tA t)) args s 0 0 (tA t)) 6 t false 100 [(0, va_rf (some a0)), (1, .int l1)] [] G := by
  unfold w_M_serve_100 at hwp
  refine kw_aload_n (pc := 100) X d_M_serve_100 rfl 0 rfl ?_
  refine kw_iload_n (pc := 101) X d_M_serve_101 rfl 1 rfl ?_
  obtain ⟨f1, hwp⟩ := hwp
  refine kcV_v (n := 1) (As := [.int l1]) (rest := []) (pc := 102) X rfl (c_M_releaseAll l t G a0 l1 _) (cwV_of (C := "TreeServerModel") X x_1099 x_1096 x_1098 xp_38 x_13 (by decide +kernel) ⟨rfl, rfl⟩ (by decide)) (rv_10 X f1) rfl rfl (by decide) d_M_serve_102 hwp (fun G2 hwp => ?_)
  refine kw_aload_n (pc := 105) X d_M_serve_105 rfl 0 rfl ?_
  refine kg_85 (a := a0) (pc := 106) X d_M_serve_106 x_1005 rfl f1 ?_
  refine kw_iload_n (pc := 109) X d_M_serve_109 rfl 1 rfl ?_
  refine kw_aload_n (pc := 110) X d_M_serve_110 rfl 0 rfl ?_
  refine kg_75 (a := a0) (pc := 111) X d_M_serve_111 x_995 rfl f1 ?_
  refine kw_if_ne (tgt := 121) (pc := 114) X d_M_serve_114 (by decide) (fun h => ?_) (fun h => ?_)
  · have hwp := ite_t h hwp
    refine kw_iconst (v := 0) (pc := 121) X d_M_serve_121 (by decide) ?_
    exact kW.sub [0, 1] rfl (k_M_serve_122 X hret  _ _ _ _ _ hwp)
  · have hwp := ite_f (not_not_intro h) hwp
    refine kw_iconst (v := 1) (pc := 117) X d_M_serve_117 (by decide) ?_
    refine kw_goto (tgt := 122) (pc := 118) X d_M_serve_118 (by decide) ?_
    exact kW.sub [0, 1] rfl (k_M_serve_122 X hret  _ _ _ _ _ hwp)
set_option maxRecDepth 100000 in
set_option maxHeartbeats 4000000 in
theorem k_M_serve_70 {p : Program} {l : Launch} {e : Env} {s : State} {m : MethodId} {args : Array Value} {below : List Frame} {meth : Method} {c : Code} {t : TY} {a0 : Nat} {K : GS → Prop} {r2 : Int32 → Int32 → GS → Prop} (X : kX p s m args meth c b_M_serve 6 "TreeServerModel" t) (hret : meth.sig.returnType = none) (hr_2 : ∀ (l1 : Int32) (l2 : Int32) (G : GS), r2 l1 l2 G → kW p l e rm_M_serve s m args below meth c (MQ below (va_Qv (fun u : GS => K u) (fun u T => HB t u T.heap) (tA t)) args s 0 0 (tA t)) 6 t false 2 [(0, va_rf (some a0)), (1, .int l1), (2, .int l2)] [] G) (l1 : Int32) (l2 : Int32) (l3 : Int64) (G : GS) (hwp : w_M_serve_70 t a0 K r2 l1 l2 l3 G) : kW p l e rm_M_serve s m args below meth c (MQ below (va_Qv (fun u : GS => K u) (fun u T => HB t u T.heap) (tA t)) args s 0 0 (tA t)) 6 t false 70 [(0, va_rf (some a0)), (1, .int l1), (2, .int l2), (3, .long l3)] [] G := by
  unfold w_M_serve_70 at hwp
  refine kw_aload_n (pc := 70) X d_M_serve_70 rfl 0 rfl ?_
  obtain ⟨f1, hwp⟩ := hwp
  refine kg_80 (a := a0) (pc := 71) X d_M_serve_71 x_1000 rfl f1 ?_
  refine kw_iload_n (pc := 74) X d_M_serve_74 rfl 1 rfl ?_
  obtain ⟨a2, h_a2, hwp⟩ := hwp
  obtain ⟨f3, hwp⟩ := hwp
  obtain ⟨f4, hwp⟩ := hwp
  refine ka_iald (a := a2) (pc := 75) X d_M_serve_75 h_a2 f3 f4 ?_
  refine kw_iconst (v := 3) (pc := 76) X d_M_serve_76 (by decide) ?_
  refine kw_icmp_le (tgt := 138) (pc := 77) X d_M_serve_77 (by decide) (fun h => ?_) (fun h => ?_)
  · have hwp := ite_t h hwp
    exact kW.sub [0, 1, 2, 3] rfl (k_M_serve_138 X hret hr_2 _ _ _ _ hwp)
  · have hwp := ite_f h hwp
    refine kw_lload_n (pc := 80) X d_M_serve_80 rfl 3 rfl ?_
    refine kw_ldc2 (v := 7) (pc := 81) X d_M_serve_81 x_1095 ?_
    refine kw_lcmp_lt (tgt := 100) (pc := 84) X d_M_serve_84 d_M_serve_85 (by decide) (fun h => ?_) (fun h => ?_)
    · have hwp := ite_t h hwp
      exact kW.sub [0, 1] rfl (k_M_serve_100 X hret  _ _ hwp)
    · have hwp := ite_f h hwp
      refine kw_lload_n (pc := 88) X d_M_serve_88 rfl 3 rfl ?_
      refine kw_aload_n (pc := 89) X d_M_serve_89 rfl 0 rfl ?_
      refine kg_83 (a := a0) (pc := 90) X d_M_serve_90 x_1003 rfl f1 ?_
      refine kw_iload_n (pc := 93) X d_M_serve_93 rfl 1 rfl ?_
      obtain ⟨a5, h_a5, hwp⟩ := hwp
      obtain ⟨f6, hwp⟩ := hwp
      obtain ⟨f7, hwp⟩ := hwp
      refine ka_iald (a := a5) (pc := 94) X d_M_serve_94 h_a5 f6 f7 ?_
      refine kw_i2l (pc := 95) X d_M_serve_95 ?_
      refine kw_lcmp_le (tgt := 138) (pc := 96) X d_M_serve_96 d_M_serve_97 (by decide) (fun h => ?_) (fun h => ?_)
      · have hwp := ite_t h hwp
        exact kW.sub [0, 1, 2, 3] rfl (k_M_serve_138 X hret hr_2 _ _ _ _ hwp)
      · have hwp := ite_f h hwp
        exact kW.sub [0, 1] rfl (k_M_serve_100 X hret  _ _ hwp)
set_option maxRecDepth 100000 in
set_option maxHeartbeats 4000000 in
theorem k_M_serve_29 {p : Program} {l : Launch} {e : Env} {s : State} {m : MethodId} {args : Array Value} {below : List Frame} {meth : Method} {c : Code} {t : TY} {a0 : Nat} {K : GS → Prop} {r2 : Int32 → Int32 → GS → Prop} (X : kX p s m args meth c b_M_serve 6 "TreeServerModel" t) (hret : meth.sig.returnType = none) (hr_2 : ∀ (l1 : Int32) (l2 : Int32) (G : GS), r2 l1 l2 G → kW p l e rm_M_serve s m args below meth c (MQ below (va_Qv (fun u : GS => K u) (fun u T => HB t u T.heap) (tA t)) args s 0 0 (tA t)) 6 t false 2 [(0, va_rf (some a0)), (1, .int l1), (2, .int l2)] [] G) : ∀ (n : Nat) (l1 : Int32) (l2 : Int32) (l3 : Int64) (l5 : Int32) (G : GS), w_M_serve_29 t a0 K r2 n l1 l2 l3 l5 G → kW p l e rm_M_serve s m args below meth c (MQ below (va_Qv (fun u : GS => K u) (fun u T => HB t u T.heap) (tA t)) args s 0 0 (tA t)) 6 t false 29 [(0, va_rf (some a0)), (1, .int l1), (2, .int l2), (3, .long l3), (5, .int l5)] [] G := by
  intro n
  induction n with
  | zero => intro l1 l2 l3 l5 G hwp; exact hwp.elim
  | succ n hr_29 =>
    intro l1 l2 l3 l5 G hwp
    unfold w_M_serve_29 at hwp
    dsimp only at hwp
    refine kw_iload (pc := 29) X d_M_serve_29 4 rfl ?_
    refine kw_if_lt (tgt := 70) (pc := 31) X d_M_serve_31 (by decide) (fun h => ?_) (fun h => ?_)
    · have hwp := ite_t h hwp
      exact kW.sub [0, 1, 2, 3] rfl (k_M_serve_70 X hret hr_2 _ _ _ _ hwp)
    · have hwp := ite_f h hwp
      refine kw_aload_n (pc := 34) X d_M_serve_34 rfl 0 rfl ?_
      obtain ⟨f1, hwp⟩ := hwp
      refine kg_80 (a := a0) (pc := 35) X d_M_serve_35 x_1000 rfl f1 ?_
      refine kw_iload_n (pc := 38) X d_M_serve_38 rfl 1 rfl ?_
      obtain ⟨a2, h_a2, hwp⟩ := hwp
      obtain ⟨f3, hwp⟩ := hwp
      obtain ⟨f4, hwp⟩ := hwp
      refine ka_iald (a := a2) (pc := 39) X d_M_serve_39 h_a2 f3 f4 ?_
      refine kw_iconst (v := 3) (pc := 40) X d_M_serve_40 (by decide) ?_
      refine kw_icmp_le (tgt := 70) (pc := 41) X d_M_serve_41 (by decide) (fun h => ?_) (fun h => ?_)
      · have hwp := ite_t h hwp
        exact kW.sub [0, 1, 2, 3] rfl (k_M_serve_70 X hret hr_2 _ _ _ _ hwp)
      · have hwp := ite_f h hwp
        refine kw_lload_n (pc := 44) X d_M_serve_44 rfl 3 rfl ?_
        refine kw_bipush (v := 8) (pc := 45) X d_M_serve_45 (by decide) ?_
        refine kw_lshl (pc := 47) X d_M_serve_47 ?_
        refine kw_aload_n (pc := 48) X d_M_serve_48 rfl 0 rfl ?_
        refine kg_79 (a := a0) (pc := 49) X d_M_serve_49 x_999 rfl f1 ?_
        refine kw_sipush (v := 160) (pc := 52) X d_M_serve_52 (by decide) ?_
        refine kw_iload_n (pc := 55) X d_M_serve_55 rfl 1 rfl ?_
        refine kw_imul (pc := 56) X d_M_serve_56 ?_
        refine kw_iload (pc := 57) X d_M_serve_57 4 rfl ?_
        refine kw_iadd (pc := 59) X d_M_serve_59 ?_
        obtain ⟨a5, h_a5, hwp⟩ := hwp
        obtain ⟨f6, hwp⟩ := hwp
        obtain ⟨f7, hwp⟩ := hwp
        refine ka_iald (a := a5) (pc := 60) X d_M_serve_60 h_a5 f6 f7 ?_
        refine kw_i2l (pc := 61) X d_M_serve_61 ?_
        refine kw_lor (pc := 62) X d_M_serve_62 ?_
        obtain ⟨v8, e_v8⟩ : ∃ z, z = ((l3 <<< ((8 : Int32).toInt64 &&& 63)) ||| (ai G a5 (((160 : Int32) * l1) + l5).toNatClampNeg).toInt64) := ⟨_, rfl⟩
        have hwp := hwp v8 e_v8
        refine kW.st (st' := .long v8 :: _) (by rw [e_v8]) ?_
        refine kw_lstore_n (i := 3) (lv' := [(3, .long v8), (0, va_rf (some a0)), (1, .int l1), (2, .int l2), (5, .int l5)]) (pc := 63) X d_M_serve_63 rfl (by decide) rfl ?_
        obtain ⟨v9, e_v9⟩ : ∃ z, z = (l5 + (-1 : Int32)) := ⟨_, rfl⟩
        have hwp := hwp v9 e_v9
        refine kw_iinc (v := v9) (lv' := [(5, .int v9), (3, .long v8), (0, va_rf (some a0)), (1, .int l1), (2, .int l2)]) (pc := 64) X d_M_serve_64 4 rfl (by rw [e_v9]; rfl) (by decide) rfl ?_
        refine kw_goto (tgt := 29) (pc := 67) X d_M_serve_67 (by decide) ?_
        exact kW.sub [2, 3, 4, 1, 0] rfl (hr_29 _ _ _ _ _ hwp)
set_option maxRecDepth 100000 in
set_option maxHeartbeats 4000000 in
theorem k_M_serve_2 {p : Program} {l : Launch} {e : Env} {s : State} {m : MethodId} {args : Array Value} {below : List Frame} {meth : Method} {c : Code} {t : TY} {a0 : Nat} {K : GS → Prop} (X : kX p s m args meth c b_M_serve 6 "TreeServerModel" t) (hret : meth.sig.returnType = none) : ∀ (n : Nat) (l1 : Int32) (l2 : Int32) (G : GS), w_M_serve_2 t a0 K n l1 l2 G → kW p l e rm_M_serve s m args below meth c (MQ below (va_Qv (fun u : GS => K u) (fun u T => HB t u T.heap) (tA t)) args s 0 0 (tA t)) 6 t false 2 [(0, va_rf (some a0)), (1, .int l1), (2, .int l2)] [] G := by
  intro n
  induction n with
  | zero => intro l1 l2 G hwp; exact hwp.elim
  | succ n hr_2 =>
    intro l1 l2 G hwp
    unfold w_M_serve_2 at hwp
    dsimp only at hwp
    refine kw_iload_n (pc := 2) X d_M_serve_2 rfl 2 rfl ?_
    refine kw_bipush (v := 100) (pc := 3) X d_M_serve_3 (by decide) ?_
    refine kw_icmp_ge (tgt := 292) (pc := 5) X d_M_serve_5 (by decide) (fun h => ?_) (fun h => ?_)
    · have hwp := ite_t h hwp
      exact kr_v (pc := 292) X hret d_M_serve_292 hwp
    · have hwp := ite_f h hwp
      refine kw_aload_n (pc := 8) X d_M_serve_8 rfl 0 rfl ?_
      obtain ⟨f1, hwp⟩ := hwp
      refine kg_75 (a := a0) (pc := 9) X d_M_serve_9 x_995 rfl f1 ?_
      refine kw_if_ne (tgt := 292) (pc := 12) X d_M_serve_12 (by decide) (fun h => ?_) (fun h => ?_)
      · have hwp := ite_t h hwp
        exact kr_v (pc := 292) X hret d_M_serve_292 hwp
      · have hwp := ite_f (not_not_intro h) hwp
        refine kw_aload_n (pc := 15) X d_M_serve_15 rfl 0 rfl ?_
        refine kg_85 (a := a0) (pc := 16) X d_M_serve_16 x_1005 rfl f1 ?_
        refine kw_iload_n (pc := 19) X d_M_serve_19 rfl 1 rfl ?_
        obtain ⟨a2, h_a2, hwp⟩ := hwp
        obtain ⟨f3, hwp⟩ := hwp
        obtain ⟨f4, hwp⟩ := hwp
        refine ka_zald (a := a2) (pc := 20) X d_M_serve_20 h_a2 f3 f4 ?_
        refine kw_if_ne (tgt := 292) (pc := 21) X d_M_serve_21 (by decide) (fun h => ?_) (fun h => ?_)
        · have hwp := ite_t h hwp
          exact kr_v (pc := 292) X hret d_M_serve_292 hwp
        · have hwp := ite_f (not_not_intro h) hwp
          refine kw_lconst (v := 0) (pc := 24) X d_M_serve_24 (by decide) ?_
          refine kw_lstore_n (i := 3) (lv' := [(3, .long (0 : Int64)), (0, va_rf (some a0)), (1, .int l1), (2, .int l2)]) (pc := 25) X d_M_serve_25 rfl (by decide) rfl ?_
          refine kw_iconst (v := 3) (pc := 26) X d_M_serve_26 (by decide) ?_
          refine kw_istore (i := 5) (lv' := [(5, .int (3 : Int32)), (3, .long (0 : Int64)), (0, va_rf (some a0)), (1, .int l1), (2, .int l2)]) (pc := 27) X d_M_serve_27 (by decide) rfl ?_
          obtain ⟨n, hwp⟩ := hwp
          exact kW.sub [2, 3, 4, 1, 0] rfl (k_M_serve_29 X hret hr_2 n _ _ _ _ _ hwp)
set_option maxRecDepth 100000 in
set_option maxHeartbeats 4000000 in
theorem k_M_serve {p : Program} {l : Launch} {e : Env} {s : State} {m : MethodId} {args : Array Value} {below : List Frame} {meth : Method} {c : Code} {t : TY} {a0 : Nat} {K : GS → Prop} (X : kX p s m args meth c b_M_serve 6 "TreeServerModel" t) (hret : meth.sig.returnType = none) (G : GS) (p1 : Int32) (hwp : w_M_serve t G a0 p1 K) : kW p l e rm_M_serve s m args below meth c (MQ below (va_Qv (fun u : GS => K u) (fun u T => HB t u T.heap) (tA t)) args s 0 0 (tA t)) 6 t false 0 [(0, va_rf (some a0)), (1, .int p1)] [] G := by
  unfold w_M_serve at hwp
  refine kw_iconst (v := 0) (pc := 0) X d_M_serve_0 (by decide) ?_
  refine kw_istore_n (i := 2) (lv' := [(2, .int (0 : Int32)), (0, va_rf (some a0)), (1, .int p1)]) (pc := 1) X d_M_serve_1 rfl (by decide) rfl ?_
  obtain ⟨n, hwp⟩ := hwp
  exact kW.sub [1, 2, 0] rfl (k_M_serve_2 X hret  n _ _ _ hwp)
set_option maxRecDepth 100000 in
set_option maxHeartbeats 4000000 in
theorem c_M_serve (l : Launch) (t : TY) (G : GS) (a0 : Nat) (p1 : Int32) (K : GS → Prop) : Met l y_M_serve (Cond.code y_M_serve b_M_serve 6 (Option.none : Option Jvm.ClassFile.FieldType) :: GW) rm_M_serve (va_Pc [.ref a0, .int p1] (fun U => HB t G U.heap ∧ HK t U ∧ w_M_serve t G a0 p1 K)) (va_Qv (fun u : GS => K u) (fun u T => HB t u T.heap) (tA t)) 0 0 (tA t) := by
  refine Met.ofW (cc := b_M_serve) (maxL := 6) (ret := none) (by decide) rfl ?_
  intro p e s m args below meth c s₁ B hml hv
  obtain ⟨rfl, hB, hK, hwp⟩ := hv
  have hts := atoms_spec (ws := Cond.code y_M_serve b_M_serve 6 (Option.none : Option Jvm.ClassFile.FieldType) :: GW) B.pre
  have X : kX p s m _ meth c b_M_serve 6 "TreeServerModel" t := ⟨B.exec, B.bytes, hml, findClass_of_methodNamed B.named, fun w h => hts w (List.mem_cons_of_mem _ h), B.notSynchronized, hK⟩
  have hZ : kZ t false s G s.heap [] := ⟨hB, va_S.rf, fun _ => ⟨rfl, rfl⟩⟩
  rw [lg_entry_eq]
  have hl := lv_entry ([.ref a0, .int p1]) (n := 6) (by simp [lg_sl, rf_cat, cat_i, cat_l, cat_r])
  exact k_M_serve X B.returns _ _ hwp s.heap [] _ hl hZ
abbrev b_M_isConnection : ByteArray := prog_13_method_62_code
def y_M_isConnection : MethodName := ⟨"TreeServerModel", "isConnection", "(I)Z"⟩
theorem d_M_isConnection_0 : decode b_M_isConnection 0 = .ok (.iload_n 0, 1) := by decide +kernel
theorem d_M_isConnection_1 : decode b_M_isConnection 1 = .ok (.ifCond .eq 8, 3) := by decide +kernel
theorem d_M_isConnection_4 : decode b_M_isConnection 4 = .ok (.iload_n 0, 1) := by decide +kernel
theorem d_M_isConnection_5 : decode b_M_isConnection 5 = .ok (.iconst 1, 1) := by decide +kernel
theorem d_M_isConnection_6 : decode b_M_isConnection 6 = .ok (.if_icmp .ne 7, 3) := by decide +kernel
theorem d_M_isConnection_9 : decode b_M_isConnection 9 = .ok (.iconst 1, 1) := by decide +kernel
theorem d_M_isConnection_10 : decode b_M_isConnection 10 = .ok (.goto 4, 3) := by decide +kernel
theorem d_M_isConnection_13 : decode b_M_isConnection 13 = .ok (.iconst 0, 1) := by decide +kernel
theorem d_M_isConnection_14 : decode b_M_isConnection 14 = .ok (.ireturn, 1) := by decide +kernel
abbrev rm_M_isConnection : Room := { frames := 0, cells := 0, slots := 0, locals := 0 }
set_option maxRecDepth 100000 in
set_option maxHeartbeats 4000000 in
theorem k_M_isConnection {p : Program} {l : Launch} {e : Env} {s : State} {m : MethodId} {args : Array Value} {below : List Frame} {meth : Method} {c : Code} {t : TY} {G : GS} {K : Int32 → Prop} (X : kX p s m args meth c b_M_isConnection 1 "TreeServerModel" t) (hret : meth.sig.returnType = some .boolean) (p0 : Int32) (hwp : w_M_isConnection t G p0 K) : kW p l e rm_M_isConnection s m args below meth c (MQ below (vp_Si (fun r => isB r ∧ K r)) args s 0 0 (fun _ => False)) 1 t true 0 [(0, .int p0)] [] G := by
  unfold w_M_isConnection at hwp
  refine kw_iload_n (pc := 0) X d_M_isConnection_0 rfl 0 rfl ?_
  refine kw_if_eq (tgt := 9) (pc := 1) X d_M_isConnection_1 (by decide) (fun h => ?_) (fun h => ?_)
  · have hwp := ite_t h hwp
    refine kw_iconst (v := 1) (pc := 9) X d_M_isConnection_9 (by decide) ?_
    refine kw_goto (tgt := 14) (pc := 10) X d_M_isConnection_10 (by decide) ?_
    exact krp_z (pc := 14) X hret d_M_isConnection_14 (Or.inr rfl) hwp
  · have hwp := ite_f h hwp
    refine kw_iload_n (pc := 4) X d_M_isConnection_4 rfl 0 rfl ?_
    refine kw_iconst (v := 1) (pc := 5) X d_M_isConnection_5 (by decide) ?_
    refine kw_icmp_ne (tgt := 13) (pc := 6) X d_M_isConnection_6 (by decide) (fun h => ?_) (fun h => ?_)
    · have hwp := ite_t h hwp
      refine kw_iconst (v := 0) (pc := 13) X d_M_isConnection_13 (by decide) ?_
      exact krp_z (pc := 14) X hret d_M_isConnection_14 (Or.inl rfl) hwp
    · have hwp := ite_f (not_not_intro h) hwp
      refine kw_iconst (v := 1) (pc := 9) X d_M_isConnection_9 (by decide) ?_
      refine kw_goto (tgt := 14) (pc := 10) X d_M_isConnection_10 (by decide) ?_
      exact krp_z (pc := 14) X hret d_M_isConnection_14 (Or.inr rfl) hwp
set_option maxRecDepth 100000 in
set_option maxHeartbeats 4000000 in
theorem c_M_isConnection (l : Launch) (t : TY) (G : GS) (p0 : Int32) (K : Int32 → Prop) : Met l y_M_isConnection (Cond.code y_M_isConnection b_M_isConnection 1 (Option.some Jvm.ClassFile.FieldType.boolean) :: GW) rm_M_isConnection (va_Pc [.int p0] (fun U => HB t G U.heap ∧ HK t U ∧ w_M_isConnection t G p0 K)) (vp_Si (fun r => isB r ∧ K r)) 0 0 (fun _ => False) := by
  refine Met.ofW (cc := b_M_isConnection) (maxL := 1) (ret := some .boolean) (by decide) rfl ?_
  intro p e s m args below meth c s₁ B hml hv
  obtain ⟨rfl, hB, hK, hwp⟩ := hv
  have hts := atoms_spec (ws := Cond.code y_M_isConnection b_M_isConnection 1 (Option.some Jvm.ClassFile.FieldType.boolean) :: GW) B.pre
  have X : kX p s m _ meth c b_M_isConnection 1 "TreeServerModel" t := ⟨B.exec, B.bytes, hml, findClass_of_methodNamed B.named, fun w h => hts w (List.mem_cons_of_mem _ h), B.notSynchronized, hK⟩
  have hZ : kZ t true s G s.heap [] := ⟨hB, va_S.rf, fun _ => ⟨rfl, rfl⟩⟩
  rw [lg_entry_eq]
  have hl := lv_entry ([.int p0]) (n := 1) (by simp [lg_sl, rf_cat, cat_i, cat_l, cat_r])
  exact k_M_isConnection X B.returns _ hwp s.heap [] _ hl hZ
abbrev b_M_feed : ByteArray := prog_13_method_63_code
def y_M_feed : MethodName := ⟨"TreeServerModel", "feed", "(IJI)Z"⟩
theorem d_M_feed_0 : decode b_M_feed 0 = .ok (.iload_n 1, 1) := by decide +kernel
theorem d_M_feed_1 : decode b_M_feed 1 = .ok (.invokestatic 390, 3) := by decide +kernel
theorem d_M_feed_4 : decode b_M_feed 4 = .ok (.ifCond .eq 47, 3) := by decide +kernel
theorem d_M_feed_7 : decode b_M_feed 7 = .ok (.iload 4, 2) := by decide +kernel
theorem d_M_feed_9 : decode b_M_feed 9 = .ok (.iconst 1, 1) := by decide +kernel
theorem d_M_feed_10 : decode b_M_feed 10 = .ok (.if_icmp .lt 41, 3) := by decide +kernel
theorem d_M_feed_13 : decode b_M_feed 13 = .ok (.iload 4, 2) := by decide +kernel
theorem d_M_feed_15 : decode b_M_feed 15 = .ok (.bipush 8, 2) := by decide +kernel
theorem d_M_feed_17 : decode b_M_feed 17 = .ok (.if_icmp .gt 34, 3) := by decide +kernel
theorem d_M_feed_20 : decode b_M_feed 20 = .ok (.aload_n 0, 1) := by decide +kernel
theorem d_M_feed_21 : decode b_M_feed 21 = .ok (.getfield 125, 3) := by decide +kernel
theorem d_M_feed_24 : decode b_M_feed 24 = .ok (.ifCond .ne 27, 3) := by decide +kernel
theorem d_M_feed_27 : decode b_M_feed 27 = .ok (.aload_n 0, 1) := by decide +kernel
theorem d_M_feed_28 : decode b_M_feed 28 = .ok (.getfield 42, 3) := by decide +kernel
theorem d_M_feed_31 : decode b_M_feed 31 = .ok (.iload_n 1, 1) := by decide +kernel
theorem d_M_feed_32 : decode b_M_feed 32 = .ok (.baload, 1) := by decide +kernel
theorem d_M_feed_33 : decode b_M_feed 33 = .ok (.ifCond .ne 18, 3) := by decide +kernel
theorem d_M_feed_36 : decode b_M_feed 36 = .ok (.aload_n 0, 1) := by decide +kernel
theorem d_M_feed_37 : decode b_M_feed 37 = .ok (.getfield 26, 3) := by decide +kernel
theorem d_M_feed_40 : decode b_M_feed 40 = .ok (.iload_n 1, 1) := by decide +kernel
theorem d_M_feed_41 : decode b_M_feed 41 = .ok (.iaload, 1) := by decide +kernel
theorem d_M_feed_42 : decode b_M_feed 42 = .ok (.iload 4, 2) := by decide +kernel
theorem d_M_feed_44 : decode b_M_feed 44 = .ok (.iadd, 1) := by decide +kernel
theorem d_M_feed_45 : decode b_M_feed 45 = .ok (.sipush 160, 3) := by decide +kernel
theorem d_M_feed_48 : decode b_M_feed 48 = .ok (.if_icmp .le 5, 3) := by decide +kernel
theorem d_M_feed_51 : decode b_M_feed 51 = .ok (.iconst 0, 1) := by decide +kernel
theorem d_M_feed_52 : decode b_M_feed 52 = .ok (.ireturn, 1) := by decide +kernel
theorem d_M_feed_53 : decode b_M_feed 53 = .ok (.iconst 0, 1) := by decide +kernel
theorem d_M_feed_54 : decode b_M_feed 54 = .ok (.istore 5, 2) := by decide +kernel
theorem d_M_feed_56 : decode b_M_feed 56 = .ok (.iload 5, 2) := by decide +kernel
theorem d_M_feed_58 : decode b_M_feed 58 = .ok (.iload 4, 2) := by decide +kernel
theorem d_M_feed_60 : decode b_M_feed 60 = .ok (.if_icmp .ge 41, 3) := by decide +kernel
theorem d_M_feed_63 : decode b_M_feed 63 = .ok (.aload_n 0, 1) := by decide +kernel
theorem d_M_feed_64 : decode b_M_feed 64 = .ok (.getfield 23, 3) := by decide +kernel
theorem d_M_feed_67 : decode b_M_feed 67 = .ok (.sipush 160, 3) := by decide +kernel
theorem d_M_feed_70 : decode b_M_feed 70 = .ok (.iload_n 1, 1) := by decide +kernel
theorem d_M_feed_71 : decode b_M_feed 71 = .ok (.imul, 1) := by decide +kernel
theorem d_M_feed_72 : decode b_M_feed 72 = .ok (.aload_n 0, 1) := by decide +kernel
theorem d_M_feed_73 : decode b_M_feed 73 = .ok (.getfield 26, 3) := by decide +kernel
theorem d_M_feed_76 : decode b_M_feed 76 = .ok (.iload_n 1, 1) := by decide +kernel
theorem d_M_feed_77 : decode b_M_feed 77 = .ok (.iaload, 1) := by decide +kernel
theorem d_M_feed_78 : decode b_M_feed 78 = .ok (.iadd, 1) := by decide +kernel
theorem d_M_feed_79 : decode b_M_feed 79 = .ok (.iload 5, 2) := by decide +kernel
theorem d_M_feed_81 : decode b_M_feed 81 = .ok (.iadd, 1) := by decide +kernel
theorem d_M_feed_82 : decode b_M_feed 82 = .ok (.lload_n 2, 1) := by decide +kernel
theorem d_M_feed_83 : decode b_M_feed 83 = .ok (.bipush 8, 2) := by decide +kernel
theorem d_M_feed_85 : decode b_M_feed 85 = .ok (.iload 5, 2) := by decide +kernel
theorem d_M_feed_87 : decode b_M_feed 87 = .ok (.imul, 1) := by decide +kernel
theorem d_M_feed_88 : decode b_M_feed 88 = .ok (.lshr, 1) := by decide +kernel
theorem d_M_feed_89 : decode b_M_feed 89 = .ok (.ldc2_w 131, 3) := by decide +kernel
theorem d_M_feed_92 : decode b_M_feed 92 = .ok (.land, 1) := by decide +kernel
theorem d_M_feed_93 : decode b_M_feed 93 = .ok (.l2i, 1) := by decide +kernel
theorem d_M_feed_94 : decode b_M_feed 94 = .ok (.iastore, 1) := by decide +kernel
theorem d_M_feed_95 : decode b_M_feed 95 = .ok (.iinc 5 1, 3) := by decide +kernel
theorem d_M_feed_98 : decode b_M_feed 98 = .ok (.goto (-42), 3) := by decide +kernel
theorem d_M_feed_101 : decode b_M_feed 101 = .ok (.aload_n 0, 1) := by decide +kernel
theorem d_M_feed_102 : decode b_M_feed 102 = .ok (.getfield 26, 3) := by decide +kernel
theorem d_M_feed_105 : decode b_M_feed 105 = .ok (.iload_n 1, 1) := by decide +kernel
theorem d_M_feed_106 : decode b_M_feed 106 = .ok (.dup2, 1) := by decide +kernel
theorem d_M_feed_107 : decode b_M_feed 107 = .ok (.iaload, 1) := by decide +kernel
theorem d_M_feed_108 : decode b_M_feed 108 = .ok (.iload 4, 2) := by decide +kernel
theorem d_M_feed_110 : decode b_M_feed 110 = .ok (.iadd, 1) := by decide +kernel
theorem d_M_feed_111 : decode b_M_feed 111 = .ok (.iastore, 1) := by decide +kernel
theorem d_M_feed_112 : decode b_M_feed 112 = .ok (.aload_n 0, 1) := by decide +kernel
theorem d_M_feed_113 : decode b_M_feed 113 = .ok (.iload_n 1, 1) := by decide +kernel
theorem d_M_feed_114 : decode b_M_feed 114 = .ok (.invokevirtual 393, 3) := by decide +kernel
theorem d_M_feed_117 : decode b_M_feed 117 = .ok (.iconst 1, 1) := by decide +kernel
theorem d_M_feed_118 : decode b_M_feed 118 = .ok (.ireturn, 1) := by decide +kernel
abbrev rm_M_feed : Room := { frames := 9, cells := 0, slots := 0, locals := 219 }
set_option maxRecDepth 100000 in
set_option maxHeartbeats 4000000 in
theorem k_M_feed_56 {p : Program} {l : Launch} {e : Env} {s : State} {m : MethodId} {args : Array Value} {below : List Frame} {meth : Method} {c : Code} {t : TY} {a0 : Nat} {K : GS → Int32 → Prop} (X : kX p s m args meth c b_M_feed 6 "TreeServerModel" t) (hret : meth.sig.returnType = some .boolean) : ∀ (n : Nat) (l1 : Int32) (l2 : Int64) (l4 : Int32) (l5 : Int32) (G : GS), w_M_feed_56 t a0 K n l1 l2 l4 l5 G → kW p l e rm_M_feed s m args below meth c (MQ below (va_Qi (fun r (u : GS) => isB r ∧ K u r) (fun u T => HB t u T.heap) (tA t)) args s 0 0 (tA t)) 6 t false 56 [(0, va_rf (some a0)), (1, .int l1), (2, .long l2), (4, .int l4), (5, .int l5)] [] G := by
  intro n
  induction n with
  | zero => intro l1 l2 l4 l5 G hwp; exact hwp.elim
  | succ n hr_56 =>
    intro l1 l2 l4 l5 G hwp
    unfold w_M_feed_56 at hwp
    dsimp only at hwp
    refine kw_iload (pc := 56) X d_M_feed_56 4 rfl ?_
    refine kw_iload (pc := 58) X d_M_feed_58 3 rfl ?_
    refine kw_icmp_ge (tgt := 101) (pc := 60) X d_M_feed_60 (by decide) (fun h => ?_) (fun h => ?_)
    · have hwp := ite_t h hwp
      refine kw_aload_n (pc := 101) X d_M_feed_101 rfl 0 rfl ?_
      obtain ⟨f1, hwp⟩ := hwp
      refine kg_80 (a := a0) (pc := 102) X d_M_feed_102 x_1000 rfl f1 ?_
      refine kw_iload_n (pc := 105) X d_M_feed_105 rfl 1 rfl ?_
      refine kw_dup2 (pc := 106) X d_M_feed_106 rfl (rf_cat _) ?_
      obtain ⟨a2, h_a2, hwp⟩ := hwp
      obtain ⟨f3, hwp⟩ := hwp
      obtain ⟨f4, hwp⟩ := hwp
      refine ka_iald (a := a2) (pc := 107) X d_M_feed_107 h_a2 f3 f4 ?_
      refine kw_iload (pc := 108) X d_M_feed_108 3 rfl ?_
      refine kw_iadd (pc := 110) X d_M_feed_110 ?_
      refine ka_iast (a := a2) (pc := 111) X rfl d_M_feed_111 h_a2 f3 f4 ?_
      obtain ⟨G5, e_G5⟩ : ∃ g, g = ais G a2 l1.toNatClampNeg ((ai G a2 l1.toNatClampNeg) + l4) := ⟨_, rfl⟩
      have hwp := hwp G5 e_G5
      refine kW.g e_G5.symm ?_
      refine kw_aload_n (pc := 112) X d_M_feed_112 rfl 0 rfl ?_
      refine kw_iload_n (pc := 113) X d_M_feed_113 rfl 1 rfl ?_
      refine kcV_v (n := 1) (As := [.int l1]) (rest := []) (pc := 114) X rfl (c_M_serve l t G5 a0 l1 _) (cwV_of (C := "TreeServerModel") X x_1094 x_1091 x_1093 xp_37 x_13 (by decide +kernel) ⟨rfl, rfl⟩ (by decide)) (rv_10 X f1) rfl rfl (by decide) d_M_feed_114 hwp (fun G6 hwp => ?_)
      refine kw_iconst (v := 1) (pc := 117) X d_M_feed_117 (by decide) ?_
      exact kr_z (pc := 118) X hret d_M_feed_118 (Or.inr rfl) hwp
    · have hwp := ite_f h hwp
      refine kw_aload_n (pc := 63) X d_M_feed_63 rfl 0 rfl ?_
      obtain ⟨f7, hwp⟩ := hwp
      refine kg_79 (a := a0) (pc := 64) X d_M_feed_64 x_999 rfl f7 ?_
      refine kw_sipush (v := 160) (pc := 67) X d_M_feed_67 (by decide) ?_
      refine kw_iload_n (pc := 70) X d_M_feed_70 rfl 1 rfl ?_
      refine kw_imul (pc := 71) X d_M_feed_71 ?_
      refine kw_aload_n (pc := 72) X d_M_feed_72 rfl 0 rfl ?_
      refine kg_80 (a := a0) (pc := 73) X d_M_feed_73 x_1000 rfl f7 ?_
      refine kw_iload_n (pc := 76) X d_M_feed_76 rfl 1 rfl ?_
      obtain ⟨a8, h_a8, hwp⟩ := hwp
      obtain ⟨f9, hwp⟩ := hwp
      obtain ⟨f10, hwp⟩ := hwp
      refine ka_iald (a := a8) (pc := 77) X d_M_feed_77 h_a8 f9 f10 ?_
      refine kw_iadd (pc := 78) X d_M_feed_78 ?_
      refine kw_iload (pc := 79) X d_M_feed_79 4 rfl ?_
      refine kw_iadd (pc := 81) X d_M_feed_81 ?_
      refine kw_lload_n (pc := 82) X d_M_feed_82 rfl 2 rfl ?_
      refine kw_bipush (v := 8) (pc := 83) X d_M_feed_83 (by decide) ?_
      refine kw_iload (pc := 85) X d_M_feed_85 4 rfl ?_
      refine kw_imul (pc := 87) X d_M_feed_87 ?_
      refine kw_lshr (pc := 88) X d_M_feed_88 ?_
      refine kw_ldc2 (v := 255) (pc := 89) X d_M_feed_89 x_1090 ?_
      refine kw_land (pc := 92) X d_M_feed_92 ?_
      refine kw_l2i (pc := 93) X d_M_feed_93 ?_
      obtain ⟨a11, h_a11, hwp⟩ := hwp
      obtain ⟨f12, hwp⟩ := hwp
      obtain ⟨f13, hwp⟩ := hwp
      refine ka_iast (a := a11) (pc := 94) X rfl d_M_feed_94 h_a11 f12 f13 ?_
      obtain ⟨G14, e_G14⟩ : ∃ g, g = ais G a11 ((((160 : Int32) * l1) + (ai G a8 l1.toNatClampNeg)) + l5).toNatClampNeg (((l2 >>> (((8 : Int32) * l5).toInt64 &&& 63)) &&& (255 : Int64)).toInt32) := ⟨_, rfl⟩
      have hwp := hwp G14 e_G14
      refine kW.g e_G14.symm ?_
      obtain ⟨v15, e_v15⟩ : ∃ z, z = (l5 + (1 : Int32)) := ⟨_, rfl⟩
      have hwp := hwp v15 e_v15
      refine kw_iinc (v := v15) (lv' := [(5, .int v15), (0, va_rf (some a0)), (1, .int l1), (2, .long l2), (4, .int l4)]) (pc := 95) X d_M_feed_95 4 rfl (by rw [e_v15]; rfl) (by decide) rfl ?_
      refine kw_goto (tgt := 56) (pc := 98) X d_M_feed_98 (by decide) ?_
      exact kW.sub [1, 2, 3, 4, 0] rfl (hr_56 _ _ _ _ _ hwp)
set_option maxRecDepth 100000 in
set_option maxHeartbeats 4000000 in
theorem k_M_feed {p : Program} {l : Launch} {e : Env} {s : State} {m : MethodId} {args : Array Value} {below : List Frame} {meth : Method} {c : Code} {t : TY} {a0 : Nat} {K : GS → Int32 → Prop} (X : kX p s m args meth c b_M_feed 6 "TreeServerModel" t) (hret : meth.sig.returnType = some .boolean) (G : GS) (p1 : Int32) (p2 : Int64) (p4 : Int32) (hwp : w_M_feed t G a0 p1 p2 p4 K) : kW p l e rm_M_feed s m args below meth c (MQ below (va_Qi (fun r (u : GS) => isB r ∧ K u r) (fun u T => HB t u T.heap) (tA t)) args s 0 0 (tA t)) 6 t false 0 [(0, va_rf (some a0)), (1, .int p1), (2, .long p2), (4, .int p4)] [] G := by
  unfold w_M_feed at hwp
  refine kw_iload_n (pc := 0) X d_M_feed_0 rfl 1 rfl ?_
  refine kcSp_i (n := 1) (As := [.int p1]) (rest := []) (pc := 1) X (c_M_isConnection l t G p1 _) (cwS_of X x_1089 x_1087 x_1088 x_13 (by decide +kernel) ⟨rfl, rfl⟩ (by decide)) rfl rfl (by decide) d_M_feed_1 hwp (fun v1 hwp => ?_)
  obtain ⟨b_v1, hwp⟩ := hwp
  refine kw_if_eq (tgt := 51) (pc := 4) X d_M_feed_4 (by decide) (fun h => ?_) (fun h => ?_)
  · have hwp := ite_t h hwp
    refine kw_iconst (v := 0) (pc := 51) X d_M_feed_51 (by decide) ?_
    exact kr_z (pc := 52) X hret d_M_feed_52 (Or.inl rfl) hwp
  · have hwp := ite_f h hwp
    refine kw_iload (pc := 7) X d_M_feed_7 3 rfl ?_
    refine kw_iconst (v := 1) (pc := 9) X d_M_feed_9 (by decide) ?_
    refine kw_icmp_lt (tgt := 51) (pc := 10) X d_M_feed_10 (by decide) (fun h => ?_) (fun h => ?_)
    · have hwp := ite_t h hwp
      refine kw_iconst (v := 0) (pc := 51) X d_M_feed_51 (by decide) ?_
      exact kr_z (pc := 52) X hret d_M_feed_52 (Or.inl rfl) hwp
    · have hwp := ite_f h hwp
      refine kw_iload (pc := 13) X d_M_feed_13 3 rfl ?_
      refine kw_bipush (v := 8) (pc := 15) X d_M_feed_15 (by decide) ?_
      refine kw_icmp_gt (tgt := 51) (pc := 17) X d_M_feed_17 (by decide) (fun h => ?_) (fun h => ?_)
      · have hwp := ite_t h hwp
        refine kw_iconst (v := 0) (pc := 51) X d_M_feed_51 (by decide) ?_
        exact kr_z (pc := 52) X hret d_M_feed_52 (Or.inl rfl) hwp
      · have hwp := ite_f h hwp
        refine kw_aload_n (pc := 20) X d_M_feed_20 rfl 0 rfl ?_
        obtain ⟨f2, hwp⟩ := hwp
        refine kg_75 (a := a0) (pc := 21) X d_M_feed_21 x_995 rfl f2 ?_
        refine kw_if_ne (tgt := 51) (pc := 24) X d_M_feed_24 (by decide) (fun h => ?_) (fun h => ?_)
        · have hwp := ite_t h hwp
          refine kw_iconst (v := 0) (pc := 51) X d_M_feed_51 (by decide) ?_
          exact kr_z (pc := 52) X hret d_M_feed_52 (Or.inl rfl) hwp
        · have hwp := ite_f (not_not_intro h) hwp
          refine kw_aload_n (pc := 27) X d_M_feed_27 rfl 0 rfl ?_
          refine kg_85 (a := a0) (pc := 28) X d_M_feed_28 x_1005 rfl f2 ?_
          refine kw_iload_n (pc := 31) X d_M_feed_31 rfl 1 rfl ?_
          obtain ⟨a3, h_a3, hwp⟩ := hwp
          obtain ⟨f4, hwp⟩ := hwp
          obtain ⟨f5, hwp⟩ := hwp
          refine ka_zald (a := a3) (pc := 32) X d_M_feed_32 h_a3 f4 f5 ?_
          refine kw_if_ne (tgt := 51) (pc := 33) X d_M_feed_33 (by decide) (fun h => ?_) (fun h => ?_)
          · have hwp := ite_t h hwp
            refine kw_iconst (v := 0) (pc := 51) X d_M_feed_51 (by decide) ?_
            exact kr_z (pc := 52) X hret d_M_feed_52 (Or.inl rfl) hwp
          · have hwp := ite_f (not_not_intro h) hwp
            refine kw_aload_n (pc := 36) X d_M_feed_36 rfl 0 rfl ?_
            refine kg_80 (a := a0) (pc := 37) X d_M_feed_37 x_1000 rfl f2 ?_
            refine kw_iload_n (pc := 40) X d_M_feed_40 rfl 1 rfl ?_
            obtain ⟨a6, h_a6, hwp⟩ := hwp
            obtain ⟨f7, hwp⟩ := hwp
            obtain ⟨f8, hwp⟩ := hwp
            refine ka_iald (a := a6) (pc := 41) X d_M_feed_41 h_a6 f7 f8 ?_
            refine kw_iload (pc := 42) X d_M_feed_42 3 rfl ?_
            refine kw_iadd (pc := 44) X d_M_feed_44 ?_
            refine kw_sipush (v := 160) (pc := 45) X d_M_feed_45 (by decide) ?_
            refine kw_icmp_le (tgt := 53) (pc := 48) X d_M_feed_48 (by decide) (fun h => ?_) (fun h => ?_)
            · have hwp := ite_t h hwp
              refine kw_iconst (v := 0) (pc := 53) X d_M_feed_53 (by decide) ?_
              refine kw_istore (i := 5) (lv' := [(5, .int (0 : Int32)), (0, va_rf (some a0)), (1, .int p1), (2, .long p2), (4, .int p4)]) (pc := 54) X d_M_feed_54 (by decide) rfl ?_
              obtain ⟨n, hwp⟩ := hwp
              exact kW.sub [1, 2, 3, 4, 0] rfl (k_M_feed_56 X hret  n _ _ _ _ _ hwp)
            · have hwp := ite_f h hwp
              refine kw_iconst (v := 0) (pc := 51) X d_M_feed_51 (by decide) ?_
              exact kr_z (pc := 52) X hret d_M_feed_52 (Or.inl rfl) hwp
set_option maxRecDepth 100000 in
set_option maxHeartbeats 4000000 in
theorem c_M_feed (l : Launch) (t : TY) (G : GS) (a0 : Nat) (p1 : Int32) (p2 : Int64) (p4 : Int32) (K : GS → Int32 → Prop) : Met l y_M_feed (Cond.code y_M_feed b_M_feed 6 (Option.some Jvm.ClassFile.FieldType.boolean) :: GW) rm_M_feed (va_Pc [.ref a0, .int p1, .long p2, .int p4] (fun U => HB t G U.heap ∧ HK t U ∧ w_M_feed t G a0 p1 p2 p4 K)) (va_Qi (fun r (u : GS) => isB r ∧ K u r) (fun u T => HB t u T.heap) (tA t)) 0 0 (tA t) := by
  refine Met.ofW (cc := b_M_feed) (maxL := 6) (ret := some .boolean) (by decide) rfl ?_
  intro p e s m args below meth c s₁ B hml hv
  obtain ⟨rfl, hB, hK, hwp⟩ := hv
  have hts := atoms_spec (ws := Cond.code y_M_feed b_M_feed 6 (Option.some Jvm.ClassFile.FieldType.boolean) :: GW) B.pre
  have X : kX p s m _ meth c b_M_feed 6 "TreeServerModel" t := ⟨B.exec, B.bytes, hml, findClass_of_methodNamed B.named, fun w h => hts w (List.mem_cons_of_mem _ h), B.notSynchronized, hK⟩
  have hZ : kZ t false s G s.heap [] := ⟨hB, va_S.rf, fun _ => ⟨rfl, rfl⟩⟩
  rw [lg_entry_eq]
  have hl := lv_entry ([.ref a0, .int p1, .long p2, .int p4]) (n := 6) (by simp [lg_sl, rf_cat, cat_i, cat_l, cat_r])
  exact k_M_feed X B.returns _ _ _ _ hwp s.heap [] _ hl hZ
abbrev b_M_waiting : ByteArray := prog_13_method_64_code
def y_M_waiting : MethodName := ⟨"TreeServerModel", "waiting", "(I)I"⟩
theorem d_M_waiting_0 : decode b_M_waiting 0 = .ok (.iload_n 1, 1) := by decide +kernel
theorem d_M_waiting_1 : decode b_M_waiting 1 = .ok (.invokestatic 390, 3) := by decide +kernel
theorem d_M_waiting_4 : decode b_M_waiting 4 = .ok (.ifCond .eq 12, 3) := by decide +kernel
theorem d_M_waiting_7 : decode b_M_waiting 7 = .ok (.aload_n 0, 1) := by decide +kernel
theorem d_M_waiting_8 : decode b_M_waiting 8 = .ok (.getfield 32, 3) := by decide +kernel
theorem d_M_waiting_11 : decode b_M_waiting 11 = .ok (.iload_n 1, 1) := by decide +kernel
theorem d_M_waiting_12 : decode b_M_waiting 12 = .ok (.iaload, 1) := by decide +kernel
theorem d_M_waiting_13 : decode b_M_waiting 13 = .ok (.goto 4, 3) := by decide +kernel
theorem d_M_waiting_16 : decode b_M_waiting 16 = .ok (.iconst (-1), 1) := by decide +kernel
theorem d_M_waiting_17 : decode b_M_waiting 17 = .ok (.ireturn, 1) := by decide +kernel
abbrev rm_M_waiting : Room := { frames := 1, cells := 0, slots := 0, locals := 20 }
set_option maxRecDepth 100000 in
set_option maxHeartbeats 4000000 in
theorem k_M_waiting {p : Program} {l : Launch} {e : Env} {s : State} {m : MethodId} {args : Array Value} {below : List Frame} {meth : Method} {c : Code} {t : TY} {a0 : Nat} {G : GS} {K : Int32 → Prop} (X : kX p s m args meth c b_M_waiting 2 "TreeServerModel" t) (hret : meth.sig.returnType = some .int) (p1 : Int32) (hwp : w_M_waiting t G a0 p1 K) : kW p l e rm_M_waiting s m args below meth c (MQ below (vp_Si K) args s 0 0 (fun _ => False)) 2 t true 0 [(0, va_rf (some a0)), (1, .int p1)] [] G := by
  unfold w_M_waiting at hwp
  refine kw_iload_n (pc := 0) X d_M_waiting_0 rfl 1 rfl ?_
  refine kcSp_i (n := 1) (As := [.int p1]) (rest := []) (pc := 1) X (c_M_isConnection l t G p1 _) (cwS_of X x_1089 x_1087 x_1088 x_13 (by decide +kernel) ⟨rfl, rfl⟩ (by decide)) rfl rfl (by decide) d_M_waiting_1 hwp (fun v1 hwp => ?_)
  obtain ⟨b_v1, hwp⟩ := hwp
  refine kw_if_eq (tgt := 16) (pc := 4) X d_M_waiting_4 (by decide) (fun h => ?_) (fun h => ?_)
  · have hwp := ite_t h hwp
    refine kw_iconst (v := -1) (pc := 16) X d_M_waiting_16 (by decide) ?_
    exact krp_i (pc := 17) X hret d_M_waiting_17 hwp
  · have hwp := ite_f h hwp
    refine kw_aload_n (pc := 7) X d_M_waiting_7 rfl 0 rfl ?_
    obtain ⟨f2, hwp⟩ := hwp
    refine kg_82 (a := a0) (pc := 8) X d_M_waiting_8 x_1002 rfl f2 ?_
    refine kw_iload_n (pc := 11) X d_M_waiting_11 rfl 1 rfl ?_
    obtain ⟨a3, h_a3, hwp⟩ := hwp
    obtain ⟨f4, hwp⟩ := hwp
    obtain ⟨f5, hwp⟩ := hwp
    refine ka_iald (a := a3) (pc := 12) X d_M_waiting_12 h_a3 f4 f5 ?_
    refine kw_goto (tgt := 17) (pc := 13) X d_M_waiting_13 (by decide) ?_
    exact krp_i (pc := 17) X hret d_M_waiting_17 hwp
set_option maxRecDepth 100000 in
set_option maxHeartbeats 4000000 in
theorem c_M_waiting (l : Launch) (t : TY) (G : GS) (a0 : Nat) (p1 : Int32) (K : Int32 → Prop) : Met l y_M_waiting (Cond.code y_M_waiting b_M_waiting 2 (Option.some Jvm.ClassFile.FieldType.int) :: GW) rm_M_waiting (va_Pc [.ref a0, .int p1] (fun U => HB t G U.heap ∧ HK t U ∧ w_M_waiting t G a0 p1 K)) (vp_Si K) 0 0 (fun _ => False) := by
  refine Met.ofW (cc := b_M_waiting) (maxL := 2) (ret := some .int) (by decide) rfl ?_
  intro p e s m args below meth c s₁ B hml hv
  obtain ⟨rfl, hB, hK, hwp⟩ := hv
  have hts := atoms_spec (ws := Cond.code y_M_waiting b_M_waiting 2 (Option.some Jvm.ClassFile.FieldType.int) :: GW) B.pre
  have X : kX p s m _ meth c b_M_waiting 2 "TreeServerModel" t := ⟨B.exec, B.bytes, hml, findClass_of_methodNamed B.named, fun w h => hts w (List.mem_cons_of_mem _ h), B.notSynchronized, hK⟩
  have hZ : kZ t true s G s.heap [] := ⟨hB, va_S.rf, fun _ => ⟨rfl, rfl⟩⟩
  rw [lg_entry_eq]
  have hl := lv_entry ([.ref a0, .int p1]) (n := 2) (by simp [lg_sl, rf_cat, cat_i, cat_l, cat_r])
  exact k_M_waiting X B.returns _ hwp s.heap [] _ hl hZ
abbrev b_M_take : ByteArray := prog_13_method_65_code
def y_M_take : MethodName := ⟨"TreeServerModel", "take", "(I)J"⟩
theorem d_M_take_0 : decode b_M_take 0 = .ok (.iload_n 1, 1) := by decide +kernel
theorem d_M_take_1 : decode b_M_take 1 = .ok (.invokestatic 390, 3) := by decide +kernel
theorem d_M_take_4 : decode b_M_take 4 = .ok (.ifCond .ne 5, 3) := by decide +kernel
theorem d_M_take_7 : decode b_M_take 7 = .ok (.lconst 0, 1) := by decide +kernel
theorem d_M_take_8 : decode b_M_take 8 = .ok (.lreturn, 1) := by decide +kernel
theorem d_M_take_9 : decode b_M_take 9 = .ok (.aload_n 0, 1) := by decide +kernel
theorem d_M_take_10 : decode b_M_take 10 = .ok (.getfield 32, 3) := by decide +kernel
theorem d_M_take_13 : decode b_M_take 13 = .ok (.iload_n 1, 1) := by decide +kernel
theorem d_M_take_14 : decode b_M_take 14 = .ok (.iaload, 1) := by decide +kernel
theorem d_M_take_15 : decode b_M_take 15 = .ok (.bipush 8, 2) := by decide +kernel
theorem d_M_take_17 : decode b_M_take 17 = .ok (.if_icmp .ge 12, 3) := by decide +kernel
theorem d_M_take_20 : decode b_M_take 20 = .ok (.aload_n 0, 1) := by decide +kernel
theorem d_M_take_21 : decode b_M_take 21 = .ok (.getfield 32, 3) := by decide +kernel
theorem d_M_take_24 : decode b_M_take 24 = .ok (.iload_n 1, 1) := by decide +kernel
theorem d_M_take_25 : decode b_M_take 25 = .ok (.iaload, 1) := by decide +kernel
theorem d_M_take_26 : decode b_M_take 26 = .ok (.goto 5, 3) := by decide +kernel
theorem d_M_take_29 : decode b_M_take 29 = .ok (.bipush 8, 2) := by decide +kernel
theorem d_M_take_31 : decode b_M_take 31 = .ok (.istore_n 2, 1) := by decide +kernel
theorem d_M_take_32 : decode b_M_take 32 = .ok (.lconst 0, 1) := by decide +kernel
theorem d_M_take_33 : decode b_M_take 33 = .ok (.lstore_n 3, 1) := by decide +kernel
theorem d_M_take_34 : decode b_M_take 34 = .ok (.iload_n 2, 1) := by decide +kernel
theorem d_M_take_35 : decode b_M_take 35 = .ok (.iconst 1, 1) := by decide +kernel
theorem d_M_take_36 : decode b_M_take 36 = .ok (.isub, 1) := by decide +kernel
theorem d_M_take_37 : decode b_M_take 37 = .ok (.istore 5, 2) := by decide +kernel
theorem d_M_take_39 : decode b_M_take 39 = .ok (.iload 5, 2) := by decide +kernel
theorem d_M_take_41 : decode b_M_take 41 = .ok (.ifCond .lt 29, 3) := by decide +kernel
theorem d_M_take_44 : decode b_M_take 44 = .ok (.lload_n 3, 1) := by decide +kernel
theorem d_M_take_45 : decode b_M_take 45 = .ok (.bipush 8, 2) := by decide +kernel
theorem d_M_take_47 : decode b_M_take 47 = .ok (.lshl, 1) := by decide +kernel
theorem d_M_take_48 : decode b_M_take 48 = .ok (.aload_n 0, 1) := by decide +kernel
theorem d_M_take_49 : decode b_M_take 49 = .ok (.getfield 29, 3) := by decide +kernel
theorem d_M_take_52 : decode b_M_take 52 = .ok (.sipush 256, 3) := by decide +kernel
theorem d_M_take_55 : decode b_M_take 55 = .ok (.iload_n 1, 1) := by decide +kernel
theorem d_M_take_56 : decode b_M_take 56 = .ok (.imul, 1) := by decide +kernel
theorem d_M_take_57 : decode b_M_take 57 = .ok (.iload 5, 2) := by decide +kernel
theorem d_M_take_59 : decode b_M_take 59 = .ok (.iadd, 1) := by decide +kernel
theorem d_M_take_60 : decode b_M_take 60 = .ok (.iaload, 1) := by decide +kernel
theorem d_M_take_61 : decode b_M_take 61 = .ok (.i2l, 1) := by decide +kernel
theorem d_M_take_62 : decode b_M_take 62 = .ok (.lor, 1) := by decide +kernel
theorem d_M_take_63 : decode b_M_take 63 = .ok (.lstore_n 3, 1) := by decide +kernel
theorem d_M_take_64 : decode b_M_take 64 = .ok (.iinc 5 (-1), 3) := by decide +kernel
theorem d_M_take_67 : decode b_M_take 67 = .ok (.goto (-28), 3) := by decide +kernel
theorem d_M_take_70 : decode b_M_take 70 = .ok (.aload_n 0, 1) := by decide +kernel
theorem d_M_take_71 : decode b_M_take 71 = .ok (.getfield 32, 3) := by decide +kernel
theorem d_M_take_74 : decode b_M_take 74 = .ok (.iload_n 1, 1) := by decide +kernel
theorem d_M_take_75 : decode b_M_take 75 = .ok (.dup2, 1) := by decide +kernel
theorem d_M_take_76 : decode b_M_take 76 = .ok (.iaload, 1) := by decide +kernel
theorem d_M_take_77 : decode b_M_take 77 = .ok (.iload_n 2, 1) := by decide +kernel
theorem d_M_take_78 : decode b_M_take 78 = .ok (.isub, 1) := by decide +kernel
theorem d_M_take_79 : decode b_M_take 79 = .ok (.iastore, 1) := by decide +kernel
theorem d_M_take_80 : decode b_M_take 80 = .ok (.iconst 0, 1) := by decide +kernel
theorem d_M_take_81 : decode b_M_take 81 = .ok (.istore 5, 2) := by decide +kernel
theorem d_M_take_83 : decode b_M_take 83 = .ok (.iload 5, 2) := by decide +kernel
theorem d_M_take_85 : decode b_M_take 85 = .ok (.aload_n 0, 1) := by decide +kernel
theorem d_M_take_86 : decode b_M_take 86 = .ok (.getfield 32, 3) := by decide +kernel
theorem d_M_take_89 : decode b_M_take 89 = .ok (.iload_n 1, 1) := by decide +kernel
theorem d_M_take_90 : decode b_M_take 90 = .ok (.iaload, 1) := by decide +kernel
theorem d_M_take_91 : decode b_M_take 91 = .ok (.if_icmp .ge 37, 3) := by decide +kernel
theorem d_M_take_94 : decode b_M_take 94 = .ok (.aload_n 0, 1) := by decide +kernel
theorem d_M_take_95 : decode b_M_take 95 = .ok (.getfield 29, 3) := by decide +kernel
theorem d_M_take_98 : decode b_M_take 98 = .ok (.sipush 256, 3) := by decide +kernel
theorem d_M_take_101 : decode b_M_take 101 = .ok (.iload_n 1, 1) := by decide +kernel
theorem d_M_take_102 : decode b_M_take 102 = .ok (.imul, 1) := by decide +kernel
theorem d_M_take_103 : decode b_M_take 103 = .ok (.iload 5, 2) := by decide +kernel
theorem d_M_take_105 : decode b_M_take 105 = .ok (.iadd, 1) := by decide +kernel
theorem d_M_take_106 : decode b_M_take 106 = .ok (.aload_n 0, 1) := by decide +kernel
theorem d_M_take_107 : decode b_M_take 107 = .ok (.getfield 29, 3) := by decide +kernel
theorem d_M_take_110 : decode b_M_take 110 = .ok (.sipush 256, 3) := by decide +kernel
theorem d_M_take_113 : decode b_M_take 113 = .ok (.iload_n 1, 1) := by decide +kernel
theorem d_M_take_114 : decode b_M_take 114 = .ok (.imul, 1) := by decide +kernel
theorem d_M_take_115 : decode b_M_take 115 = .ok (.iload_n 2, 1) := by decide +kernel
theorem d_M_take_116 : decode b_M_take 116 = .ok (.iadd, 1) := by decide +kernel
theorem d_M_take_117 : decode b_M_take 117 = .ok (.iload 5, 2) := by decide +kernel
theorem d_M_take_119 : decode b_M_take 119 = .ok (.iadd, 1) := by decide +kernel
theorem d_M_take_120 : decode b_M_take 120 = .ok (.iaload, 1) := by decide +kernel
theorem d_M_take_121 : decode b_M_take 121 = .ok (.iastore, 1) := by decide +kernel
theorem d_M_take_122 : decode b_M_take 122 = .ok (.iinc 5 1, 3) := by decide +kernel
theorem d_M_take_125 : decode b_M_take 125 = .ok (.goto (-42), 3) := by decide +kernel
theorem d_M_take_128 : decode b_M_take 128 = .ok (.aload_n 0, 1) := by decide +kernel
theorem d_M_take_129 : decode b_M_take 129 = .ok (.iload_n 1, 1) := by decide +kernel
theorem d_M_take_130 : decode b_M_take 130 = .ok (.invokevirtual 393, 3) := by decide +kernel
theorem d_M_take_133 : decode b_M_take 133 = .ok (.lload_n 3, 1) := by decide +kernel
theorem d_M_take_134 : decode b_M_take 134 = .ok (.lreturn, 1) := by decide +kernel
abbrev rm_M_take : Room := { frames := 9, cells := 0, slots := 0, locals := 219 }
set_option maxRecDepth 100000 in
set_option maxHeartbeats 4000000 in
theorem k_M_take_83 {p : Program} {l : Launch} {e : Env} {s : State} {m : MethodId} {args : Array Value} {below : List Frame} {meth : Method} {c : Code} {t : TY} {a0 : Nat} {K : GS → Int64 → Prop} (X : kX p s m args meth c b_M_take 6 "TreeServerModel" t) (hret : meth.sig.returnType = some .long) : ∀ (n : Nat) (l1 : Int32) (l2 : Int32) (l3 : Int64) (l5 : Int32) (G : GS), w_M_take_83 t a0 K n l1 l2 l3 l5 G → kW p l e rm_M_take s m args below meth c (MQ below (va_Ql (fun r (u : GS) => K u r) (fun u T => HB t u T.heap) (tA t)) args s 0 0 (tA t)) 6 t false 83 [(0, va_rf (some a0)), (1, .int l1), (2, .int l2), (3, .long l3), (5, .int l5)] [] G := by
  intro n
  induction n with
  | zero => intro l1 l2 l3 l5 G hwp; exact hwp.elim
  | succ n hr_83 =>
    intro l1 l2 l3 l5 G hwp
    unfold w_M_take_83 at hwp
    dsimp only at hwp
    refine kw_iload (pc := 83) X d_M_take_83 4 rfl ?_
    refine kw_aload_n (pc := 85) X d_M_take_85 rfl 0 rfl ?_
    obtain ⟨f1, hwp⟩ := hwp
    refine kg_82 (a := a0) (pc := 86) X d_M_take_86 x_1002 rfl f1 ?_
    refine kw_iload_n (pc := 89) X d_M_take_89 rfl 1 rfl ?_
    obtain ⟨a2, h_a2, hwp⟩ := hwp
    obtain ⟨f3, hwp⟩ := hwp
    obtain ⟨f4, hwp⟩ := hwp
    refine ka_iald (a := a2) (pc := 90) X d_M_take_90 h_a2 f3 f4 ?_
    refine kw_icmp_ge (tgt := 128) (pc := 91) X d_M_take_91 (by decide) (fun h => ?_) (fun h => ?_)
    · have hwp := ite_t h hwp
      refine kw_aload_n (pc := 128) X d_M_take_128 rfl 0 rfl ?_
      refine kw_iload_n (pc := 129) X d_M_take_129 rfl 1 rfl ?_
      refine kcV_v (n := 1) (As := [.int l1]) (rest := []) (pc := 130) X rfl (c_M_serve l t G a0 l1 _) (cwV_of (C := "TreeServerModel") X x_1094 x_1091 x_1093 xp_37 x_13 (by decide +kernel) ⟨rfl, rfl⟩ (by decide)) (rv_10 X f1) rfl rfl (by decide) d_M_take_130 hwp (fun G5 hwp => ?_)
      refine kw_lload_n (pc := 133) X d_M_take_133 rfl 3 rfl ?_
      exact kr_l (pc := 134) X hret d_M_take_134 hwp
    · have hwp := ite_f h hwp
      refine kw_aload_n (pc := 94) X d_M_take_94 rfl 0 rfl ?_
      refine kg_81 (a := a0) (pc := 95) X d_M_take_95 x_1001 rfl f1 ?_
      refine kw_sipush (v := 256) (pc := 98) X d_M_take_98 (by decide) ?_
      refine kw_iload_n (pc := 101) X d_M_take_101 rfl 1 rfl ?_
      refine kw_imul (pc := 102) X d_M_take_102 ?_
      refine kw_iload (pc := 103) X d_M_take_103 4 rfl ?_
      refine kw_iadd (pc := 105) X d_M_take_105 ?_
      refine kw_aload_n (pc := 106) X d_M_take_106 rfl 0 rfl ?_
      refine kg_81 (a := a0) (pc := 107) X d_M_take_107 x_1001 rfl f1 ?_
      refine kw_sipush (v := 256) (pc := 110) X d_M_take_110 (by decide) ?_
      refine kw_iload_n (pc := 113) X d_M_take_113 rfl 1 rfl ?_
      refine kw_imul (pc := 114) X d_M_take_114 ?_
      refine kw_iload_n (pc := 115) X d_M_take_115 rfl 2 rfl ?_
      refine kw_iadd (pc := 116) X d_M_take_116 ?_
      refine kw_iload (pc := 117) X d_M_take_117 4 rfl ?_
      refine kw_iadd (pc := 119) X d_M_take_119 ?_
      obtain ⟨a6, h_a6, hwp⟩ := hwp
      obtain ⟨f7, hwp⟩ := hwp
      obtain ⟨f8, hwp⟩ := hwp
      refine ka_iald (a := a6) (pc := 120) X d_M_take_120 h_a6 f7 f8 ?_
      obtain ⟨f9, hwp⟩ := hwp
      refine ka_iast (a := a6) (pc := 121) X rfl d_M_take_121 h_a6 f7 f9 ?_
      obtain ⟨G10, e_G10⟩ : ∃ g, g = ais G a6 (((256 : Int32) * l1) + l5).toNatClampNeg (ai G a6 ((((256 : Int32) * l1) + l2) + l5).toNatClampNeg) := ⟨_, rfl⟩
      have hwp := hwp G10 e_G10
      refine kW.g e_G10.symm ?_
      obtain ⟨v11, e_v11⟩ : ∃ z, z = (l5 + (1 : Int32)) := ⟨_, rfl⟩
      have hwp := hwp v11 e_v11
      refine kw_iinc (v := v11) (lv' := [(5, .int v11), (0, va_rf (some a0)), (1, .int l1), (2, .int l2), (3, .long l3)]) (pc := 122) X d_M_take_122 4 rfl (by rw [e_v11]; rfl) (by decide) rfl ?_
      refine kw_goto (tgt := 83) (pc := 125) X d_M_take_125 (by decide) ?_
      exact kW.sub [1, 2, 3, 4, 0] rfl (hr_83 _ _ _ _ _ hwp)
set_option maxRecDepth 100000 in
set_option maxHeartbeats 4000000 in
theorem k_M_take_39 {p : Program} {l : Launch} {e : Env} {s : State} {m : MethodId} {args : Array Value} {below : List Frame} {meth : Method} {c : Code} {t : TY} {a0 : Nat} {K : GS → Int64 → Prop} (X : kX p s m args meth c b_M_take 6 "TreeServerModel" t) (hret : meth.sig.returnType = some .long) : ∀ (n : Nat) (l1 : Int32) (l2 : Int32) (l3 : Int64) (l5 : Int32) (G : GS), w_M_take_39 t a0 K n l1 l2 l3 l5 G → kW p l e rm_M_take s m args below meth c (MQ below (va_Ql (fun r (u : GS) => K u r) (fun u T => HB t u T.heap) (tA t)) args s 0 0 (tA t)) 6 t false 39 [(0, va_rf (some a0)), (1, .int l1), (2, .int l2), (3, .long l3), (5, .int l5)] [] G := by
  intro n
  induction n with
  | zero => intro l1 l2 l3 l5 G hwp; exact hwp.elim
  | succ n hr_39 =>
    intro l1 l2 l3 l5 G hwp
    unfold w_M_take_39 at hwp
    dsimp only at hwp
    refine kw_iload (pc := 39) X d_M_take_39 4 rfl ?_
    refine kw_if_lt (tgt := 70) (pc := 41) X d_M_take_41 (by decide) (fun h => ?_) (fun h => ?_)
    · have hwp := ite_t h hwp
      refine kw_aload_n (pc := 70) X d_M_take_70 rfl 0 rfl ?_
      obtain ⟨f1, hwp⟩ := hwp
      refine kg_82 (a := a0) (pc := 71) X d_M_take_71 x_1002 rfl f1 ?_
      refine kw_iload_n (pc := 74) X d_M_take_74 rfl 1 rfl ?_
      refine kw_dup2 (pc := 75) X d_M_take_75 rfl (rf_cat _) ?_
      obtain ⟨a2, h_a2, hwp⟩ := hwp
      obtain ⟨f3, hwp⟩ := hwp
      obtain ⟨f4, hwp⟩ := hwp
      refine ka_iald (a := a2) (pc := 76) X d_M_take_76 h_a2 f3 f4 ?_
      refine kw_iload_n (pc := 77) X d_M_take_77 rfl 2 rfl ?_
      refine kw_isub (pc := 78) X d_M_take_78 ?_
      refine ka_iast (a := a2) (pc := 79) X rfl d_M_take_79 h_a2 f3 f4 ?_
      obtain ⟨G5, e_G5⟩ : ∃ g, g = ais G a2 l1.toNatClampNeg ((ai G a2 l1.toNatClampNeg) - l2) := ⟨_, rfl⟩
      have hwp := hwp G5 e_G5
      refine kW.g e_G5.symm ?_
      refine kw_iconst (v := 0) (pc := 80) X d_M_take_80 (by decide) ?_
      refine kw_istore (i := 5) (lv' := [(5, .int (0 : Int32)), (0, va_rf (some a0)), (1, .int l1), (2, .int l2), (3, .long l3)]) (pc := 81) X d_M_take_81 (by decide) rfl ?_
      obtain ⟨n, hwp⟩ := hwp
      exact kW.sub [1, 2, 3, 4, 0] rfl (k_M_take_83 X hret  n _ _ _ _ _ hwp)
    · have hwp := ite_f h hwp
      refine kw_lload_n (pc := 44) X d_M_take_44 rfl 3 rfl ?_
      refine kw_bipush (v := 8) (pc := 45) X d_M_take_45 (by decide) ?_
      refine kw_lshl (pc := 47) X d_M_take_47 ?_
      refine kw_aload_n (pc := 48) X d_M_take_48 rfl 0 rfl ?_
      obtain ⟨f6, hwp⟩ := hwp
      refine kg_81 (a := a0) (pc := 49) X d_M_take_49 x_1001 rfl f6 ?_
      refine kw_sipush (v := 256) (pc := 52) X d_M_take_52 (by decide) ?_
      refine kw_iload_n (pc := 55) X d_M_take_55 rfl 1 rfl ?_
      refine kw_imul (pc := 56) X d_M_take_56 ?_
      refine kw_iload (pc := 57) X d_M_take_57 4 rfl ?_
      refine kw_iadd (pc := 59) X d_M_take_59 ?_
      obtain ⟨a7, h_a7, hwp⟩ := hwp
      obtain ⟨f8, hwp⟩ := hwp
      obtain ⟨f9, hwp⟩ := hwp
      refine ka_iald (a := a7) (pc := 60) X d_M_take_60 h_a7 f8 f9 ?_
      refine kw_i2l (pc := 61) X d_M_take_61 ?_
      refine kw_lor (pc := 62) X d_M_take_62 ?_
      obtain ⟨v10, e_v10⟩ : ∃ z, z = ((l3 <<< ((8 : Int32).toInt64 &&& 63)) ||| (ai G a7 (((256 : Int32) * l1) + l5).toNatClampNeg).toInt64) := ⟨_, rfl⟩
      have hwp := hwp v10 e_v10
      refine kW.st (st' := .long v10 :: _) (by rw [e_v10]) ?_
      refine kw_lstore_n (i := 3) (lv' := [(3, .long v10), (0, va_rf (some a0)), (1, .int l1), (2, .int l2), (5, .int l5)]) (pc := 63) X d_M_take_63 rfl (by decide) rfl ?_
      obtain ⟨v11, e_v11⟩ : ∃ z, z = (l5 + (-1 : Int32)) := ⟨_, rfl⟩
      have hwp := hwp v11 e_v11
      refine kw_iinc (v := v11) (lv' := [(5, .int v11), (3, .long v10), (0, va_rf (some a0)), (1, .int l1), (2, .int l2)]) (pc := 64) X d_M_take_64 4 rfl (by rw [e_v11]; rfl) (by decide) rfl ?_
      refine kw_goto (tgt := 39) (pc := 67) X d_M_take_67 (by decide) ?_
      exact kW.sub [2, 3, 4, 1, 0] rfl (hr_39 _ _ _ _ _ hwp)
set_option maxRecDepth 100000 in
set_option maxHeartbeats 4000000 in
theorem k_M_take_31 {p : Program} {l : Launch} {e : Env} {s : State} {m : MethodId} {args : Array Value} {below : List Frame} {meth : Method} {c : Code} {t : TY} {a0 : Nat} {K : GS → Int64 → Prop} (X : kX p s m args meth c b_M_take 6 "TreeServerModel" t) (hret : meth.sig.returnType = some .long) (l1 : Int32) (s0 : Int32) (G : GS) (hwp : w_M_take_31 t a0 K l1 s0 G) : kW p l e rm_M_take s m args below meth c (MQ below (va_Ql (fun r (u : GS) => K u r) (fun u T => HB t u T.heap) (tA t)) args s 0 0 (tA t)) 6 t false 31 [(0, va_rf (some a0)), (1, .int l1)] [.int s0] G := by
  unfold w_M_take_31 at hwp
  refine kw_istore_n (i := 2) (lv' := [(2, .int s0), (0, va_rf (some a0)), (1, .int l1)]) (pc := 31) X d_M_take_31 rfl (by decide) rfl ?_
  refine kw_lconst (v := 0) (pc := 32) X d_M_take_32 (by decide) ?_
  refine kw_lstore_n (i := 3) (lv' := [(3, .long (0 : Int64)), (2, .int s0), (0, va_rf (some a0)), (1, .int l1)]) (pc := 33) X d_M_take_33 rfl (by decide) rfl ?_
  refine kw_iload_n (pc := 34) X d_M_take_34 rfl 1 rfl ?_
  refine kw_iconst (v := 1) (pc := 35) X d_M_take_35 (by decide) ?_
  refine kw_isub (pc := 36) X d_M_take_36 ?_
  obtain ⟨v1, e_v1⟩ : ∃ z, z = (s0 - (1 : Int32)) := ⟨_, rfl⟩
  have hwp := hwp v1 e_v1
  refine kW.st (st' := .int v1 :: _) (by rw [e_v1]) ?_
  refine kw_istore (i := 5) (lv' := [(5, .int v1), (3, .long (0 : Int64)), (2, .int s0), (0, va_rf (some a0)), (1, .int l1)]) (pc := 37) X d_M_take_37 (by decide) rfl ?_
  obtain ⟨n, hwp⟩ := hwp
  exact kW.sub [3, 4, 2, 1, 0] rfl (k_M_take_39 X hret  n _ _ _ _ _ hwp)
set_option maxRecDepth 100000 in
set_option maxHeartbeats 4000000 in
theorem k_M_take {p : Program} {l : Launch} {e : Env} {s : State} {m : MethodId} {args : Array Value} {below : List Frame} {meth : Method} {c : Code} {t : TY} {a0 : Nat} {K : GS → Int64 → Prop} (X : kX p s m args meth c b_M_take 6 "TreeServerModel" t) (hret : meth.sig.returnType = some .long) (G : GS) (p1 : Int32) (hwp : w_M_take t G a0 p1 K) : kW p l e rm_M_take s m args below meth c (MQ below (va_Ql (fun r (u : GS) => K u r) (fun u T => HB t u T.heap) (tA t)) args s 0 0 (tA t)) 6 t false 0 [(0, va_rf (some a0)), (1, .int p1)] [] G := by
  unfold w_M_take at hwp
  refine kw_iload_n (pc := 0) X d_M_take_0 rfl 1 rfl ?_
  refine kcSp_i (n := 1) (As := [.int p1]) (rest := []) (pc := 1) X (c_M_isConnection l t G p1 _) (cwS_of X x_1089 x_1087 x_1088 x_13 (by decide +kernel) ⟨rfl, rfl⟩ (by decide)) rfl rfl (by decide) d_M_take_1 hwp (fun v1 hwp => ?_)
  obtain ⟨b_v1, hwp⟩ := hwp
  refine kw_if_ne (tgt := 9) (pc := 4) X d_M_take_4 (by decide) (fun h => ?_) (fun h => ?_)
  · have hwp := ite_t h hwp
    refine kw_aload_n (pc := 9) X d_M_take_9 rfl 0 rfl ?_
    obtain ⟨f2, hwp⟩ := hwp
    refine kg_82 (a := a0) (pc := 10) X d_M_take_10 x_1002 rfl f2 ?_
    refine kw_iload_n (pc := 13) X d_M_take_13 rfl 1 rfl ?_
    obtain ⟨a3, h_a3, hwp⟩ := hwp
    obtain ⟨f4, hwp⟩ := hwp
    obtain ⟨f5, hwp⟩ := hwp
    refine ka_iald (a := a3) (pc := 14) X d_M_take_14 h_a3 f4 f5 ?_
    refine kw_bipush (v := 8) (pc := 15) X d_M_take_15 (by decide) ?_
    refine kw_icmp_ge (tgt := 29) (pc := 17) X d_M_take_17 (by decide) (fun h => ?_) (fun h => ?_)
    · have hwp := ite_t h hwp
      refine kw_bipush (v := 8) (pc := 29) X d_M_take_29 (by decide) ?_
      exact kW.sub [0, 1] rfl (k_M_take_31 X hret  _ _ _ hwp)
    · have hwp := ite_f h hwp
      refine kw_aload_n (pc := 20) X d_M_take_20 rfl 0 rfl ?_
      refine kg_82 (a := a0) (pc := 21) X d_M_take_21 x_1002 rfl f2 ?_
      refine kw_iload_n (pc := 24) X d_M_take_24 rfl 1 rfl ?_
      refine ka_iald (a := a3) (pc := 25) X d_M_take_25 h_a3 f4 f5 ?_
      refine kw_goto (tgt := 31) (pc := 26) X d_M_take_26 (by decide) ?_
      exact kW.sub [0, 1] rfl (k_M_take_31 X hret  _ _ _ hwp)
  · have hwp := ite_f (not_not_intro h) hwp
    refine kw_lconst (v := 0) (pc := 7) X d_M_take_7 (by decide) ?_
    exact kr_l (pc := 8) X hret d_M_take_8 hwp
set_option maxRecDepth 100000 in
set_option maxHeartbeats 4000000 in
theorem c_M_take (l : Launch) (t : TY) (G : GS) (a0 : Nat) (p1 : Int32) (K : GS → Int64 → Prop) : Met l y_M_take (Cond.code y_M_take b_M_take 6 (Option.some Jvm.ClassFile.FieldType.long) :: GW) rm_M_take (va_Pc [.ref a0, .int p1] (fun U => HB t G U.heap ∧ HK t U ∧ w_M_take t G a0 p1 K)) (va_Ql (fun r (u : GS) => K u r) (fun u T => HB t u T.heap) (tA t)) 0 0 (tA t) := by
  refine Met.ofW (cc := b_M_take) (maxL := 6) (ret := some .long) (by decide) rfl ?_
  intro p e s m args below meth c s₁ B hml hv
  obtain ⟨rfl, hB, hK, hwp⟩ := hv
  have hts := atoms_spec (ws := Cond.code y_M_take b_M_take 6 (Option.some Jvm.ClassFile.FieldType.long) :: GW) B.pre
  have X : kX p s m _ meth c b_M_take 6 "TreeServerModel" t := ⟨B.exec, B.bytes, hml, findClass_of_methodNamed B.named, fun w h => hts w (List.mem_cons_of_mem _ h), B.notSynchronized, hK⟩
  have hZ : kZ t false s G s.heap [] := ⟨hB, va_S.rf, fun _ => ⟨rfl, rfl⟩⟩
  rw [lg_entry_eq]
  have hl := lv_entry ([.ref a0, .int p1]) (n := 6) (by simp [lg_sl, rf_cat, cat_i, cat_l, cat_r])
  exact k_M_take X B.returns _ _ hwp s.heap [] _ hl hZ
abbrev b_M_hangup : ByteArray := prog_13_method_66_code
def y_M_hangup : MethodName := ⟨"TreeServerModel", "hangup", "(I)Z"⟩
theorem d_M_hangup_0 : decode b_M_hangup 0 = .ok (.iload_n 1, 1) := by decide +kernel
theorem d_M_hangup_1 : decode b_M_hangup 1 = .ok (.invokestatic 390, 3) := by decide +kernel
theorem d_M_hangup_4 : decode b_M_hangup 4 = .ok (.ifCond .eq 10, 3) := by decide +kernel
theorem d_M_hangup_7 : decode b_M_hangup 7 = .ok (.aload_n 0, 1) := by decide +kernel
theorem d_M_hangup_8 : decode b_M_hangup 8 = .ok (.getfield 125, 3) := by decide +kernel
theorem d_M_hangup_11 : decode b_M_hangup 11 = .ok (.ifCond .eq 5, 3) := by decide +kernel
theorem d_M_hangup_14 : decode b_M_hangup 14 = .ok (.iconst 0, 1) := by decide +kernel
theorem d_M_hangup_15 : decode b_M_hangup 15 = .ok (.ireturn, 1) := by decide +kernel
theorem d_M_hangup_16 : decode b_M_hangup 16 = .ok (.aload_n 0, 1) := by decide +kernel
theorem d_M_hangup_17 : decode b_M_hangup 17 = .ok (.iload_n 1, 1) := by decide +kernel
theorem d_M_hangup_18 : decode b_M_hangup 18 = .ok (.invokevirtual 184, 3) := by decide +kernel
theorem d_M_hangup_21 : decode b_M_hangup 21 = .ok (.aload_n 0, 1) := by decide +kernel
theorem d_M_hangup_22 : decode b_M_hangup 22 = .ok (.iload_n 1, 1) := by decide +kernel
theorem d_M_hangup_23 : decode b_M_hangup 23 = .ok (.invokevirtual 77, 3) := by decide +kernel
theorem d_M_hangup_26 : decode b_M_hangup 26 = .ok (.iconst 1, 1) := by decide +kernel
theorem d_M_hangup_27 : decode b_M_hangup 27 = .ok (.ireturn, 1) := by decide +kernel
abbrev rm_M_hangup : Room := { frames := 5, cells := 0, slots := 0, locals := 116 }
set_option maxRecDepth 100000 in
set_option maxHeartbeats 4000000 in
theorem k_M_hangup {p : Program} {l : Launch} {e : Env} {s : State} {m : MethodId} {args : Array Value} {below : List Frame} {meth : Method} {c : Code} {t : TY} {a0 : Nat} {K : GS → Int32 → Prop} (X : kX p s m args meth c b_M_hangup 2 "TreeServerModel" t) (hret : meth.sig.returnType = some .boolean) (G : GS) (p1 : Int32) (hwp : w_M_hangup t G a0 p1 K) : kW p l e rm_M_hangup s m args below meth c (MQ below (va_Qi (fun r (u : GS) => isB r ∧ K u r) (fun u T => HB t u T.heap) (tA t)) args s 0 0 (tA t)) 2 t false 0 [(0, va_rf (some a0)), (1, .int p1)] [] G := by
  unfold w_M_hangup at hwp
  refine kw_iload_n (pc := 0) X d_M_hangup_0 rfl 1 rfl ?_
  refine kcSp_i (n := 1) (As := [.int p1]) (rest := []) (pc := 1) X (c_M_isConnection l t G p1 _) (cwS_of X x_1089 x_1087 x_1088 x_13 (by decide +kernel) ⟨rfl, rfl⟩ (by decide)) rfl rfl (by decide) d_M_hangup_1 hwp (fun v1 hwp => ?_)
  obtain ⟨b_v1, hwp⟩ := hwp
  refine kw_if_eq (tgt := 14) (pc := 4) X d_M_hangup_4 (by decide) (fun h => ?_) (fun h => ?_)
  · have hwp := ite_t h hwp
    refine kw_iconst (v := 0) (pc := 14) X d_M_hangup_14 (by decide) ?_
    exact kr_z (pc := 15) X hret d_M_hangup_15 (Or.inl rfl) hwp
  · have hwp := ite_f h hwp
    refine kw_aload_n (pc := 7) X d_M_hangup_7 rfl 0 rfl ?_
    obtain ⟨f2, hwp⟩ := hwp
    refine kg_75 (a := a0) (pc := 8) X d_M_hangup_8 x_995 rfl f2 ?_
    refine kw_if_eq (tgt := 16) (pc := 11) X d_M_hangup_11 (by decide) (fun h => ?_) (fun h => ?_)
    · have hwp := ite_t h hwp
      refine kw_aload_n (pc := 16) X d_M_hangup_16 rfl 0 rfl ?_
      refine kw_iload_n (pc := 17) X d_M_hangup_17 rfl 1 rfl ?_
      refine kcV_v (n := 1) (As := [.int p1]) (rest := []) (pc := 18) X rfl (c_M_releaseAll l t G a0 p1 _) (cwV_of (C := "TreeServerModel") X x_1099 x_1096 x_1098 xp_38 x_13 (by decide +kernel) ⟨rfl, rfl⟩ (by decide)) (rv_10 X f2) rfl rfl (by decide) d_M_hangup_18 hwp (fun G3 hwp => ?_)
      refine kw_aload_n (pc := 21) X d_M_hangup_21 rfl 0 rfl ?_
      refine kw_iload_n (pc := 22) X d_M_hangup_22 rfl 1 rfl ?_
      refine kcV_v (n := 1) (As := [.int p1]) (rest := []) (pc := 23) X rfl (c_M_fresh l t G3 a0 p1 _) (cwV_of (C := "TreeServerModel") X x_989 x_986 x_988 xp_36 x_13 (by decide +kernel) ⟨rfl, rfl⟩ (by decide)) (rv_10 X f2) rfl rfl (by decide) d_M_hangup_23 hwp (fun G4 hwp => ?_)
      refine kw_iconst (v := 1) (pc := 26) X d_M_hangup_26 (by decide) ?_
      exact kr_z (pc := 27) X hret d_M_hangup_27 (Or.inr rfl) hwp
    · have hwp := ite_f h hwp
      refine kw_iconst (v := 0) (pc := 14) X d_M_hangup_14 (by decide) ?_
      exact kr_z (pc := 15) X hret d_M_hangup_15 (Or.inl rfl) hwp
set_option maxRecDepth 100000 in
set_option maxHeartbeats 4000000 in
theorem c_M_hangup (l : Launch) (t : TY) (G : GS) (a0 : Nat) (p1 : Int32) (K : GS → Int32 → Prop) : Met l y_M_hangup (Cond.code y_M_hangup b_M_hangup 2 (Option.some Jvm.ClassFile.FieldType.boolean) :: GW) rm_M_hangup (va_Pc [.ref a0, .int p1] (fun U => HB t G U.heap ∧ HK t U ∧ w_M_hangup t G a0 p1 K)) (va_Qi (fun r (u : GS) => isB r ∧ K u r) (fun u T => HB t u T.heap) (tA t)) 0 0 (tA t) := by
  refine Met.ofW (cc := b_M_hangup) (maxL := 2) (ret := some .boolean) (by decide) rfl ?_
  intro p e s m args below meth c s₁ B hml hv
  obtain ⟨rfl, hB, hK, hwp⟩ := hv
  have hts := atoms_spec (ws := Cond.code y_M_hangup b_M_hangup 2 (Option.some Jvm.ClassFile.FieldType.boolean) :: GW) B.pre
  have X : kX p s m _ meth c b_M_hangup 2 "TreeServerModel" t := ⟨B.exec, B.bytes, hml, findClass_of_methodNamed B.named, fun w h => hts w (List.mem_cons_of_mem _ h), B.notSynchronized, hK⟩
  have hZ : kZ t false s G s.heap [] := ⟨hB, va_S.rf, fun _ => ⟨rfl, rfl⟩⟩
  rw [lg_entry_eq]
  have hl := lv_entry ([.ref a0, .int p1]) (n := 2) (by simp [lg_sl, rf_cat, cat_i, cat_l, cat_r])
  exact k_M_hangup X B.returns _ _ hwp s.heap [] _ hl hZ
abbrev b_M_status : ByteArray := prog_13_method_67_code
def y_M_status : MethodName := ⟨"TreeServerModel", "status", "(I)I"⟩
theorem d_M_status_0 : decode b_M_status 0 = .ok (.iload_n 1, 1) := by decide +kernel
theorem d_M_status_1 : decode b_M_status 1 = .ok (.invokestatic 390, 3) := by decide +kernel
theorem d_M_status_4 : decode b_M_status 4 = .ok (.ifCond .ne 7, 3) := by decide +kernel
theorem d_M_status_7 : decode b_M_status 7 = .ok (.iconst (-1), 1) := by decide +kernel
theorem d_M_status_8 : decode b_M_status 8 = .ok (.goto 30, 3) := by decide +kernel
theorem d_M_status_11 : decode b_M_status 11 = .ok (.aload_n 0, 1) := by decide +kernel
theorem d_M_status_12 : decode b_M_status 12 = .ok (.getfield 42, 3) := by decide +kernel
theorem d_M_status_15 : decode b_M_status 15 = .ok (.iload_n 1, 1) := by decide +kernel
theorem d_M_status_16 : decode b_M_status 16 = .ok (.baload, 1) := by decide +kernel
theorem d_M_status_17 : decode b_M_status 17 = .ok (.ifCond .eq 7, 3) := by decide +kernel
theorem d_M_status_20 : decode b_M_status 20 = .ok (.iconst 2, 1) := by decide +kernel
theorem d_M_status_21 : decode b_M_status 21 = .ok (.goto 17, 3) := by decide +kernel
theorem d_M_status_24 : decode b_M_status 24 = .ok (.aload_n 0, 1) := by decide +kernel
theorem d_M_status_25 : decode b_M_status 25 = .ok (.getfield 38, 3) := by decide +kernel
theorem d_M_status_28 : decode b_M_status 28 = .ok (.iload_n 1, 1) := by decide +kernel
theorem d_M_status_29 : decode b_M_status 29 = .ok (.baload, 1) := by decide +kernel
theorem d_M_status_30 : decode b_M_status 30 = .ok (.ifCond .eq 7, 3) := by decide +kernel
theorem d_M_status_33 : decode b_M_status 33 = .ok (.iconst 1, 1) := by decide +kernel
theorem d_M_status_34 : decode b_M_status 34 = .ok (.goto 4, 3) := by decide +kernel
theorem d_M_status_37 : decode b_M_status 37 = .ok (.iconst 0, 1) := by decide +kernel
theorem d_M_status_38 : decode b_M_status 38 = .ok (.ireturn, 1) := by decide +kernel
abbrev rm_M_status : Room := { frames := 1, cells := 0, slots := 0, locals := 20 }
set_option maxRecDepth 100000 in
set_option maxHeartbeats 4000000 in
theorem k_M_status {p : Program} {l : Launch} {e : Env} {s : State} {m : MethodId} {args : Array Value} {below : List Frame} {meth : Method} {c : Code} {t : TY} {a0 : Nat} {G : GS} {K : Int32 → Prop} (X : kX p s m args meth c b_M_status 2 "TreeServerModel" t) (hret : meth.sig.returnType = some .int) (p1 : Int32) (hwp : w_M_status t G a0 p1 K) : kW p l e rm_M_status s m args below meth c (MQ below (vp_Si K) args s 0 0 (fun _ => False)) 2 t true 0 [(0, va_rf (some a0)), (1, .int p1)] [] G := by
  unfold w_M_status at hwp
  refine kw_iload_n (pc := 0) X d_M_status_0 rfl 1 rfl ?_
  refine kcSp_i (n := 1) (As := [.int p1]) (rest := []) (pc := 1) X (c_M_isConnection l t G p1 _) (cwS_of X x_1089 x_1087 x_1088 x_13 (by decide +kernel) ⟨rfl, rfl⟩ (by decide)) rfl rfl (by decide) d_M_status_1 hwp (fun v1 hwp => ?_)
  obtain ⟨b_v1, hwp⟩ := hwp
  refine kw_if_ne (tgt := 11) (pc := 4) X d_M_status_4 (by decide) (fun h => ?_) (fun h => ?_)
  · have hwp := ite_t h hwp
    refine kw_aload_n (pc := 11) X d_M_status_11 rfl 0 rfl ?_
    obtain ⟨f2, hwp⟩ := hwp
    refine kg_85 (a := a0) (pc := 12) X d_M_status_12 x_1005 rfl f2 ?_
    refine kw_iload_n (pc := 15) X d_M_status_15 rfl 1 rfl ?_
    obtain ⟨a3, h_a3, hwp⟩ := hwp
    obtain ⟨f4, hwp⟩ := hwp
    obtain ⟨f5, hwp⟩ := hwp
    refine ka_zald (a := a3) (pc := 16) X d_M_status_16 h_a3 f4 f5 ?_
    refine kw_if_eq (tgt := 24) (pc := 17) X d_M_status_17 (by decide) (fun h => ?_) (fun h => ?_)
    · have hwp := ite_t h hwp
      refine kw_aload_n (pc := 24) X d_M_status_24 rfl 0 rfl ?_
      refine kg_84 (a := a0) (pc := 25) X d_M_status_25 x_1004 rfl f2 ?_
      refine kw_iload_n (pc := 28) X d_M_status_28 rfl 1 rfl ?_
      obtain ⟨a6, h_a6, hwp⟩ := hwp
      obtain ⟨f7, hwp⟩ := hwp
      obtain ⟨f8, hwp⟩ := hwp
      refine ka_zald (a := a6) (pc := 29) X d_M_status_29 h_a6 f7 f8 ?_
      refine kw_if_eq (tgt := 37) (pc := 30) X d_M_status_30 (by decide) (fun h => ?_) (fun h => ?_)
      · have hwp := ite_t h hwp
        refine kw_iconst (v := 0) (pc := 37) X d_M_status_37 (by decide) ?_
        exact krp_i (pc := 38) X hret d_M_status_38 hwp
      · have hwp := ite_f h hwp
        refine kw_iconst (v := 1) (pc := 33) X d_M_status_33 (by decide) ?_
        refine kw_goto (tgt := 38) (pc := 34) X d_M_status_34 (by decide) ?_
        exact krp_i (pc := 38) X hret d_M_status_38 hwp
    · have hwp := ite_f h hwp
      refine kw_iconst (v := 2) (pc := 20) X d_M_status_20 (by decide) ?_
      refine kw_goto (tgt := 38) (pc := 21) X d_M_status_21 (by decide) ?_
      exact krp_i (pc := 38) X hret d_M_status_38 hwp
  · have hwp := ite_f (not_not_intro h) hwp
    refine kw_iconst (v := -1) (pc := 7) X d_M_status_7 (by decide) ?_
    refine kw_goto (tgt := 38) (pc := 8) X d_M_status_8 (by decide) ?_
    exact krp_i (pc := 38) X hret d_M_status_38 hwp
set_option maxRecDepth 100000 in
set_option maxHeartbeats 4000000 in
theorem c_M_status (l : Launch) (t : TY) (G : GS) (a0 : Nat) (p1 : Int32) (K : Int32 → Prop) : Met l y_M_status (Cond.code y_M_status b_M_status 2 (Option.some Jvm.ClassFile.FieldType.int) :: GW) rm_M_status (va_Pc [.ref a0, .int p1] (fun U => HB t G U.heap ∧ HK t U ∧ w_M_status t G a0 p1 K)) (vp_Si K) 0 0 (fun _ => False) := by
  refine Met.ofW (cc := b_M_status) (maxL := 2) (ret := some .int) (by decide) rfl ?_
  intro p e s m args below meth c s₁ B hml hv
  obtain ⟨rfl, hB, hK, hwp⟩ := hv
  have hts := atoms_spec (ws := Cond.code y_M_status b_M_status 2 (Option.some Jvm.ClassFile.FieldType.int) :: GW) B.pre
  have X : kX p s m _ meth c b_M_status 2 "TreeServerModel" t := ⟨B.exec, B.bytes, hml, findClass_of_methodNamed B.named, fun w h => hts w (List.mem_cons_of_mem _ h), B.notSynchronized, hK⟩
  have hZ : kZ t true s G s.heap [] := ⟨hB, va_S.rf, fun _ => ⟨rfl, rfl⟩⟩
  rw [lg_entry_eq]
  have hl := lv_entry ([.ref a0, .int p1]) (n := 2) (by simp [lg_sl, rf_cat, cat_i, cat_l, cat_r])
  exact k_M_status X B.returns _ hwp s.heap [] _ hl hZ
abbrev b_M_fids : ByteArray := prog_13_method_68_code
def y_M_fids : MethodName := ⟨"TreeServerModel", "fids", "(I)I"⟩
theorem d_M_fids_0 : decode b_M_fids 0 = .ok (.iload_n 1, 1) := by decide +kernel
theorem d_M_fids_1 : decode b_M_fids 1 = .ok (.invokestatic 390, 3) := by decide +kernel
theorem d_M_fids_4 : decode b_M_fids 4 = .ok (.ifCond .eq 11, 3) := by decide +kernel
theorem d_M_fids_7 : decode b_M_fids 7 = .ok (.aload_n 0, 1) := by decide +kernel
theorem d_M_fids_8 : decode b_M_fids 8 = .ok (.iload_n 1, 1) := by decide +kernel
theorem d_M_fids_9 : decode b_M_fids 9 = .ok (.invokevirtual 256, 3) := by decide +kernel
theorem d_M_fids_12 : decode b_M_fids 12 = .ok (.goto 4, 3) := by decide +kernel
theorem d_M_fids_15 : decode b_M_fids 15 = .ok (.iconst (-1), 1) := by decide +kernel
theorem d_M_fids_16 : decode b_M_fids 16 = .ok (.ireturn, 1) := by decide +kernel
abbrev rm_M_fids : Room := { frames := 1, cells := 0, slots := 0, locals := 23 }
set_option maxRecDepth 100000 in
set_option maxHeartbeats 4000000 in
theorem k_M_fids {p : Program} {l : Launch} {e : Env} {s : State} {m : MethodId} {args : Array Value} {below : List Frame} {meth : Method} {c : Code} {t : TY} {a0 : Nat} {G : GS} {K : Int32 → Prop} (X : kX p s m args meth c b_M_fids 2 "TreeServerModel" t) (hret : meth.sig.returnType = some .int) (p1 : Int32) (hwp : w_M_fids t G a0 p1 K) : kW p l e rm_M_fids s m args below meth c (MQ below (vp_Si K) args s 0 0 (fun _ => False)) 2 t true 0 [(0, va_rf (some a0)), (1, .int p1)] [] G := by
  unfold w_M_fids at hwp
  refine kw_iload_n (pc := 0) X d_M_fids_0 rfl 1 rfl ?_
  refine kcSp_i (n := 1) (As := [.int p1]) (rest := []) (pc := 1) X (c_M_isConnection l t G p1 _) (cwS_of X x_1089 x_1087 x_1088 x_13 (by decide +kernel) ⟨rfl, rfl⟩ (by decide)) rfl rfl (by decide) d_M_fids_1 hwp (fun v1 hwp => ?_)
  obtain ⟨b_v1, hwp⟩ := hwp
  refine kw_if_eq (tgt := 15) (pc := 4) X d_M_fids_4 (by decide) (fun h => ?_) (fun h => ?_)
  · have hwp := ite_t h hwp
    refine kw_iconst (v := -1) (pc := 15) X d_M_fids_15 (by decide) ?_
    exact krp_i (pc := 16) X hret d_M_fids_16 hwp
  · have hwp := ite_f h hwp
    refine kw_aload_n (pc := 7) X d_M_fids_7 rfl 0 rfl ?_
    refine kw_iload_n (pc := 8) X d_M_fids_8 rfl 1 rfl ?_
    obtain ⟨f2, hwp⟩ := hwp
    refine kcVp_i (n := 1) (As := [.int p1]) (rest := []) (pc := 9) X (c_M_many l t G a0 p1 _) (cwV_of (C := "TreeServerModel") X x_1228 x_1225 x_1227 xp_65 x_13 (by decide +kernel) ⟨rfl, rfl⟩ (by decide)) (rv_10 X f2) rfl rfl (by decide) d_M_fids_9 hwp (fun v3 hwp => ?_)
    refine kw_goto (tgt := 16) (pc := 12) X d_M_fids_12 (by decide) ?_
    exact krp_i (pc := 16) X hret d_M_fids_16 hwp
set_option maxRecDepth 100000 in
set_option maxHeartbeats 4000000 in
theorem c_M_fids (l : Launch) (t : TY) (G : GS) (a0 : Nat) (p1 : Int32) (K : Int32 → Prop) : Met l y_M_fids (Cond.code y_M_fids b_M_fids 2 (Option.some Jvm.ClassFile.FieldType.int) :: GW) rm_M_fids (va_Pc [.ref a0, .int p1] (fun U => HB t G U.heap ∧ HK t U ∧ w_M_fids t G a0 p1 K)) (vp_Si K) 0 0 (fun _ => False) := by
  refine Met.ofW (cc := b_M_fids) (maxL := 2) (ret := some .int) (by decide) rfl ?_
  intro p e s m args below meth c s₁ B hml hv
  obtain ⟨rfl, hB, hK, hwp⟩ := hv
  have hts := atoms_spec (ws := Cond.code y_M_fids b_M_fids 2 (Option.some Jvm.ClassFile.FieldType.int) :: GW) B.pre
  have X : kX p s m _ meth c b_M_fids 2 "TreeServerModel" t := ⟨B.exec, B.bytes, hml, findClass_of_methodNamed B.named, fun w h => hts w (List.mem_cons_of_mem _ h), B.notSynchronized, hK⟩
  have hZ : kZ t true s G s.heap [] := ⟨hB, va_S.rf, fun _ => ⟨rfl, rfl⟩⟩
  rw [lg_entry_eq]
  have hl := lv_entry ([.ref a0, .int p1]) (n := 2) (by simp [lg_sl, rf_cat, cat_i, cat_l, cat_r])
  exact k_M_fids X B.returns _ hwp s.heap [] _ hl hZ
abbrev b_M_clock : ByteArray := prog_13_method_69_code
def y_M_clock : MethodName := ⟨"TreeServerModel", "clock", "(I)V"⟩
theorem d_M_clock_0 : decode b_M_clock 0 = .ok (.aload_n 0, 1) := by decide +kernel
theorem d_M_clock_1 : decode b_M_clock 1 = .ok (.iload_n 1, 1) := by decide +kernel
theorem d_M_clock_2 : decode b_M_clock 2 = .ok (.putfield 108, 3) := by decide +kernel
theorem d_M_clock_5 : decode b_M_clock 5 = .ok (.return_, 1) := by decide +kernel
abbrev rm_M_clock : Room := { frames := 0, cells := 0, slots := 0, locals := 0 }
set_option maxRecDepth 100000 in
set_option maxHeartbeats 4000000 in
theorem k_M_clock {p : Program} {l : Launch} {e : Env} {s : State} {m : MethodId} {args : Array Value} {below : List Frame} {meth : Method} {c : Code} {t : TY} {a0 : Nat} {K : GS → Prop} (X : kX p s m args meth c b_M_clock 2 "TreeServerModel" t) (hret : meth.sig.returnType = none) (G : GS) (p1 : Int32) (hwp : w_M_clock t G a0 p1 K) : kW p l e rm_M_clock s m args below meth c (MQ below (va_Qv (fun u : GS => K u) (fun u T => HB t u T.heap) (tA t)) args s 0 0 (tA t)) 2 t false 0 [(0, va_rf (some a0)), (1, .int p1)] [] G := by
  unfold w_M_clock at hwp
  refine kw_aload_n (pc := 0) X d_M_clock_0 rfl 0 rfl ?_
  refine kw_iload_n (pc := 1) X d_M_clock_1 rfl 1 rfl ?_
  obtain ⟨f1, hwp⟩ := hwp
  refine kp_78 (a := a0) (x := p1) (pc := 2) X rfl d_M_clock_2 x_998 rfl f1 ?_
  obtain ⟨G2, e_G2⟩ : ∃ g, g = si G 78 a0 p1 := ⟨_, rfl⟩
  have hwp := hwp G2 e_G2
  refine kW.g e_G2.symm ?_
  exact kr_v (pc := 5) X hret d_M_clock_5 hwp
set_option maxRecDepth 100000 in
set_option maxHeartbeats 4000000 in
theorem c_M_clock (l : Launch) (t : TY) (G : GS) (a0 : Nat) (p1 : Int32) (K : GS → Prop) : Met l y_M_clock (Cond.code y_M_clock b_M_clock 2 (Option.none : Option Jvm.ClassFile.FieldType) :: GW) rm_M_clock (va_Pc [.ref a0, .int p1] (fun U => HB t G U.heap ∧ HK t U ∧ w_M_clock t G a0 p1 K)) (va_Qv (fun u : GS => K u) (fun u T => HB t u T.heap) (tA t)) 0 0 (tA t) := by
  refine Met.ofW (cc := b_M_clock) (maxL := 2) (ret := none) (by decide) rfl ?_
  intro p e s m args below meth c s₁ B hml hv
  obtain ⟨rfl, hB, hK, hwp⟩ := hv
  have hts := atoms_spec (ws := Cond.code y_M_clock b_M_clock 2 (Option.none : Option Jvm.ClassFile.FieldType) :: GW) B.pre
  have X : kX p s m _ meth c b_M_clock 2 "TreeServerModel" t := ⟨B.exec, B.bytes, hml, findClass_of_methodNamed B.named, fun w h => hts w (List.mem_cons_of_mem _ h), B.notSynchronized, hK⟩
  have hZ : kZ t false s G s.heap [] := ⟨hB, va_S.rf, fun _ => ⟨rfl, rfl⟩⟩
  rw [lg_entry_eq]
  have hl := lv_entry ([.ref a0, .int p1]) (n := 2) (by simp [lg_sl, rf_cat, cat_i, cat_l, cat_r])
  exact k_M_clock X B.returns _ _ hwp s.heap [] _ hl hZ
abbrev b_M_cut : ByteArray := prog_13_method_70_code
def y_M_cut : MethodName := ⟨"TreeServerModel", "cut", "(I)Z"⟩
theorem d_M_cut_0 : decode b_M_cut 0 = .ok (.iload_n 1, 1) := by decide +kernel
theorem d_M_cut_1 : decode b_M_cut 1 = .ok (.ifCond .lt 10, 3) := by decide +kernel
theorem d_M_cut_4 : decode b_M_cut 4 = .ok (.aload_n 0, 1) := by decide +kernel
theorem d_M_cut_5 : decode b_M_cut 5 = .ok (.getfield 125, 3) := by decide +kernel
theorem d_M_cut_8 : decode b_M_cut 8 = .ok (.ifCond .eq 5, 3) := by decide +kernel
theorem d_M_cut_11 : decode b_M_cut 11 = .ok (.iconst 0, 1) := by decide +kernel
theorem d_M_cut_12 : decode b_M_cut 12 = .ok (.ireturn, 1) := by decide +kernel
theorem d_M_cut_13 : decode b_M_cut 13 = .ok (.aload_n 0, 1) := by decide +kernel
theorem d_M_cut_14 : decode b_M_cut 14 = .ok (.iload_n 1, 1) := by decide +kernel
theorem d_M_cut_15 : decode b_M_cut 15 = .ok (.putfield 19, 3) := by decide +kernel
theorem d_M_cut_18 : decode b_M_cut 18 = .ok (.iconst 1, 1) := by decide +kernel
theorem d_M_cut_19 : decode b_M_cut 19 = .ok (.ireturn, 1) := by decide +kernel
abbrev rm_M_cut : Room := { frames := 0, cells := 0, slots := 0, locals := 0 }
set_option maxRecDepth 100000 in
set_option maxHeartbeats 4000000 in
theorem k_M_cut {p : Program} {l : Launch} {e : Env} {s : State} {m : MethodId} {args : Array Value} {below : List Frame} {meth : Method} {c : Code} {t : TY} {a0 : Nat} {K : GS → Int32 → Prop} (X : kX p s m args meth c b_M_cut 2 "TreeServerModel" t) (hret : meth.sig.returnType = some .boolean) (G : GS) (p1 : Int32) (hwp : w_M_cut t G a0 p1 K) : kW p l e rm_M_cut s m args below meth c (MQ below (va_Qi (fun r (u : GS) => isB r ∧ K u r) (fun u T => HB t u T.heap) (tA t)) args s 0 0 (tA t)) 2 t false 0 [(0, va_rf (some a0)), (1, .int p1)] [] G := by
  unfold w_M_cut at hwp
  refine kw_iload_n (pc := 0) X d_M_cut_0 rfl 1 rfl ?_
  refine kw_if_lt (tgt := 11) (pc := 1) X d_M_cut_1 (by decide) (fun h => ?_) (fun h => ?_)
  · have hwp := ite_t h hwp
    refine kw_iconst (v := 0) (pc := 11) X d_M_cut_11 (by decide) ?_
    exact kr_z (pc := 12) X hret d_M_cut_12 (Or.inl rfl) hwp
  · have hwp := ite_f h hwp
    refine kw_aload_n (pc := 4) X d_M_cut_4 rfl 0 rfl ?_
    obtain ⟨f1, hwp⟩ := hwp
    refine kg_75 (a := a0) (pc := 5) X d_M_cut_5 x_995 rfl f1 ?_
    refine kw_if_eq (tgt := 13) (pc := 8) X d_M_cut_8 (by decide) (fun h => ?_) (fun h => ?_)
    · have hwp := ite_t h hwp
      refine kw_aload_n (pc := 13) X d_M_cut_13 rfl 0 rfl ?_
      refine kw_iload_n (pc := 14) X d_M_cut_14 rfl 1 rfl ?_
      refine kp_76 (a := a0) (x := p1) (pc := 15) X rfl d_M_cut_15 x_996 rfl f1 ?_
      obtain ⟨G2, e_G2⟩ : ∃ g, g = si G 76 a0 p1 := ⟨_, rfl⟩
      have hwp := hwp G2 e_G2
      refine kW.g e_G2.symm ?_
      refine kw_iconst (v := 1) (pc := 18) X d_M_cut_18 (by decide) ?_
      exact kr_z (pc := 19) X hret d_M_cut_19 (Or.inr rfl) hwp
    · have hwp := ite_f h hwp
      refine kw_iconst (v := 0) (pc := 11) X d_M_cut_11 (by decide) ?_
      exact kr_z (pc := 12) X hret d_M_cut_12 (Or.inl rfl) hwp
set_option maxRecDepth 100000 in
set_option maxHeartbeats 4000000 in
theorem c_M_cut (l : Launch) (t : TY) (G : GS) (a0 : Nat) (p1 : Int32) (K : GS → Int32 → Prop) : Met l y_M_cut (Cond.code y_M_cut b_M_cut 2 (Option.some Jvm.ClassFile.FieldType.boolean) :: GW) rm_M_cut (va_Pc [.ref a0, .int p1] (fun U => HB t G U.heap ∧ HK t U ∧ w_M_cut t G a0 p1 K)) (va_Qi (fun r (u : GS) => isB r ∧ K u r) (fun u T => HB t u T.heap) (tA t)) 0 0 (tA t) := by
  refine Met.ofW (cc := b_M_cut) (maxL := 2) (ret := some .boolean) (by decide) rfl ?_
  intro p e s m args below meth c s₁ B hml hv
  obtain ⟨rfl, hB, hK, hwp⟩ := hv
  have hts := atoms_spec (ws := Cond.code y_M_cut b_M_cut 2 (Option.some Jvm.ClassFile.FieldType.boolean) :: GW) B.pre
  have X : kX p s m _ meth c b_M_cut 2 "TreeServerModel" t := ⟨B.exec, B.bytes, hml, findClass_of_methodNamed B.named, fun w h => hts w (List.mem_cons_of_mem _ h), B.notSynchronized, hK⟩
  have hZ : kZ t false s G s.heap [] := ⟨hB, va_S.rf, fun _ => ⟨rfl, rfl⟩⟩
  rw [lg_entry_eq]
  have hl := lv_entry ([.ref a0, .int p1]) (n := 2) (by simp [lg_sl, rf_cat, cat_i, cat_l, cat_r])
  exact k_M_cut X B.returns _ _ hwp s.heap [] _ hl hZ
abbrev b_M_count : ByteArray := prog_13_method_72_code
def y_M_count : MethodName := ⟨"TreeServerModel", "count", "()V"⟩
theorem d_M_count_0 : decode b_M_count 0 = .ok (.iconst 0, 1) := by decide +kernel
theorem d_M_count_1 : decode b_M_count 1 = .ok (.istore_n 1, 1) := by decide +kernel
theorem d_M_count_2 : decode b_M_count 2 = .ok (.iload_n 1, 1) := by decide +kernel
theorem d_M_count_3 : decode b_M_count 3 = .ok (.bipush 21, 2) := by decide +kernel
theorem d_M_count_5 : decode b_M_count 5 = .ok (.if_icmp .ge 42, 3) := by decide +kernel
theorem d_M_count_8 : decode b_M_count 8 = .ok (.aload_n 0, 1) := by decide +kernel
theorem d_M_count_9 : decode b_M_count 9 = .ok (.iload_n 1, 1) := by decide +kernel
theorem d_M_count_10 : decode b_M_count 10 = .ok (.iconst 0, 1) := by decide +kernel
theorem d_M_count_11 : decode b_M_count 11 = .ok (.invokevirtual 81, 3) := by decide +kernel
theorem d_M_count_14 : decode b_M_count 14 = .ok (.iconst 1, 1) := by decide +kernel
theorem d_M_count_15 : decode b_M_count 15 = .ok (.if_icmp .ne 26, 3) := by decide +kernel
theorem d_M_count_18 : decode b_M_count 18 = .ok (.aload_n 0, 1) := by decide +kernel
theorem d_M_count_19 : decode b_M_count 19 = .ok (.iload_n 1, 1) := by decide +kernel
theorem d_M_count_20 : decode b_M_count 20 = .ok (.iconst 1, 1) := by decide +kernel
theorem d_M_count_21 : decode b_M_count 21 = .ok (.invokevirtual 81, 3) := by decide +kernel
theorem d_M_count_24 : decode b_M_count 24 = .ok (.aload_n 0, 1) := by decide +kernel
theorem d_M_count_25 : decode b_M_count 25 = .ok (.getfield 345, 3) := by decide +kernel
theorem d_M_count_28 : decode b_M_count 28 = .ok (.if_icmp .le 13, 3) := by decide +kernel
theorem d_M_count_31 : decode b_M_count 31 = .ok (.aload_n 0, 1) := by decide +kernel
theorem d_M_count_32 : decode b_M_count 32 = .ok (.aload_n 0, 1) := by decide +kernel
theorem d_M_count_33 : decode b_M_count 33 = .ok (.iload_n 1, 1) := by decide +kernel
theorem d_M_count_34 : decode b_M_count 34 = .ok (.iconst 1, 1) := by decide +kernel
theorem d_M_count_35 : decode b_M_count 35 = .ok (.invokevirtual 81, 3) := by decide +kernel
theorem d_M_count_38 : decode b_M_count 38 = .ok (.putfield 345, 3) := by decide +kernel
theorem d_M_count_41 : decode b_M_count 41 = .ok (.iinc 1 1, 3) := by decide +kernel
theorem d_M_count_44 : decode b_M_count 44 = .ok (.goto (-42), 3) := by decide +kernel
theorem d_M_count_47 : decode b_M_count 47 = .ok (.return_, 1) := by decide +kernel
abbrev rm_M_count : Room := { frames := 1, cells := 0, slots := 0, locals := 22 }
set_option maxRecDepth 100000 in
set_option maxHeartbeats 4000000 in
theorem k_M_count_2 {p : Program} {l : Launch} {e : Env} {s : State} {m : MethodId} {args : Array Value} {below : List Frame} {meth : Method} {c : Code} {t : TY} {a0 : Nat} {K : GS → Prop} (X : kX p s m args meth c b_M_count 2 "TreeServerModel" t) (hret : meth.sig.returnType = none) : ∀ (n : Nat) (l1 : Int32) (G : GS), w_M_count_2 t a0 K n l1 G → kW p l e rm_M_count s m args below meth c (MQ below (va_Qv (fun u : GS => K u) (fun u T => HB t u T.heap) (tA t)) args s 0 0 (tA t)) 2 t false 2 [(0, va_rf (some a0)), (1, .int l1)] [] G := by
  intro n
  induction n with
  | zero => intro l1 G hwp; exact hwp.elim
  | succ n hr_2 =>
    intro l1 G hwp
    unfold w_M_count_2 at hwp
    dsimp only at hwp
    refine kw_iload_n (pc := 2) X d_M_count_2 rfl 1 rfl ?_
    refine kw_bipush (v := 21) (pc := 3) X d_M_count_3 (by decide) ?_
    refine kw_icmp_ge (tgt := 47) (pc := 5) X d_M_count_5 (by decide) (fun h => ?_) (fun h => ?_)
    · have hwp := ite_t h hwp
      exact kr_v (pc := 47) X hret d_M_count_47 hwp
    · have hwp := ite_f h hwp
      refine kw_aload_n (pc := 8) X d_M_count_8 rfl 0 rfl ?_
      refine kw_iload_n (pc := 9) X d_M_count_9 rfl 1 rfl ?_
      refine kw_iconst (v := 0) (pc := 10) X d_M_count_10 (by decide) ?_
      obtain ⟨f1, hwp⟩ := hwp
      refine kcVp_i (n := 2) (As := [.int l1, .int (0 : Int32)]) (rest := []) (pc := 11) X (c_M_at l t G a0 l1 (0 : Int32) _) (cwV_of (C := "TreeServerModel") X x_1111 x_1108 x_1110 xp_41 x_13 (by decide +kernel) ⟨rfl, rfl⟩ (by decide)) (rv_10 X f1) rfl rfl (by decide) d_M_count_11 hwp (fun v2 hwp => ?_)
      refine kw_iconst (v := 1) (pc := 14) X d_M_count_14 (by decide) ?_
      refine kw_icmp_ne (tgt := 41) (pc := 15) X d_M_count_15 (by decide) (fun h => ?_) (fun h => ?_)
      · have hwp := ite_t h hwp
        obtain ⟨v3, e_v3⟩ : ∃ z, z = (l1 + (1 : Int32)) := ⟨_, rfl⟩
        have hwp := hwp v3 e_v3
        refine kw_iinc (v := v3) (lv' := [(1, .int v3), (0, va_rf (some a0))]) (pc := 41) X d_M_count_41 1 rfl (by rw [e_v3]; rfl) (by decide) rfl ?_
        refine kw_goto (tgt := 2) (pc := 44) X d_M_count_44 (by decide) ?_
        exact kW.sub [1, 0] rfl (hr_2 _ _ hwp)
      · have hwp := ite_f (not_not_intro h) hwp
        refine kw_aload_n (pc := 18) X d_M_count_18 rfl 0 rfl ?_
        refine kw_iload_n (pc := 19) X d_M_count_19 rfl 1 rfl ?_
        refine kw_iconst (v := 1) (pc := 20) X d_M_count_20 (by decide) ?_
        refine kcVp_i (n := 2) (As := [.int l1, .int (1 : Int32)]) (rest := []) (pc := 21) X (c_M_at l t G a0 l1 (1 : Int32) _) (cwV_of (C := "TreeServerModel") X x_1111 x_1108 x_1110 xp_41 x_13 (by decide +kernel) ⟨rfl, rfl⟩ (by decide)) (rv_10 X f1) rfl rfl (by decide) d_M_count_21 hwp (fun v4 hwp => ?_)
        refine kw_aload_n (pc := 24) X d_M_count_24 rfl 0 rfl ?_
        refine kg_74 (a := a0) (pc := 25) X d_M_count_25 x_994 rfl f1 ?_
        refine kw_icmp_le (tgt := 41) (pc := 28) X d_M_count_28 (by decide) (fun h => ?_) (fun h => ?_)
        · have hwp := ite_t h hwp
          obtain ⟨v5, e_v5⟩ : ∃ z, z = (l1 + (1 : Int32)) := ⟨_, rfl⟩
          have hwp := hwp v5 e_v5
          refine kw_iinc (v := v5) (lv' := [(1, .int v5), (0, va_rf (some a0))]) (pc := 41) X d_M_count_41 1 rfl (by rw [e_v5]; rfl) (by decide) rfl ?_
          refine kw_goto (tgt := 2) (pc := 44) X d_M_count_44 (by decide) ?_
          exact kW.sub [1, 0] rfl (hr_2 _ _ hwp)
        · have hwp := ite_f h hwp
          refine kw_aload_n (pc := 31) X d_M_count_31 rfl 0 rfl ?_
          refine kw_aload_n (pc := 32) X d_M_count_32 rfl 0 rfl ?_
          refine kw_iload_n (pc := 33) X d_M_count_33 rfl 1 rfl ?_
          refine kw_iconst (v := 1) (pc := 34) X d_M_count_34 (by decide) ?_
          refine kcVp_i (n := 2) (As := [.int l1, .int (1 : Int32)]) (rest := [va_rf (some a0)]) (pc := 35) X (c_M_at l t G a0 l1 (1 : Int32) _) (cwV_of (C := "TreeServerModel") X x_1111 x_1108 x_1110 xp_41 x_13 (by decide +kernel) ⟨rfl, rfl⟩ (by decide)) (rv_10 X f1) rfl rfl (by simp [rf_cat, cat_i, cat_l, cat_r]) d_M_count_35 hwp (fun v6 hwp => ?_)
          refine kp_74 (a := a0) (x := v6) (pc := 38) X rfl d_M_count_38 x_994 rfl f1 ?_
          obtain ⟨G7, e_G7⟩ : ∃ g, g = si G 74 a0 v6 := ⟨_, rfl⟩
          have hwp := hwp G7 e_G7
          refine kW.g e_G7.symm ?_
          obtain ⟨v8, e_v8⟩ : ∃ z, z = (l1 + (1 : Int32)) := ⟨_, rfl⟩
          have hwp := hwp v8 e_v8
          refine kw_iinc (v := v8) (lv' := [(1, .int v8), (0, va_rf (some a0))]) (pc := 41) X d_M_count_41 1 rfl (by rw [e_v8]; rfl) (by decide) rfl ?_
          refine kw_goto (tgt := 2) (pc := 44) X d_M_count_44 (by decide) ?_
          exact kW.sub [1, 0] rfl (hr_2 _ _ hwp)
set_option maxRecDepth 100000 in
set_option maxHeartbeats 4000000 in
theorem k_M_count {p : Program} {l : Launch} {e : Env} {s : State} {m : MethodId} {args : Array Value} {below : List Frame} {meth : Method} {c : Code} {t : TY} {a0 : Nat} {K : GS → Prop} (X : kX p s m args meth c b_M_count 2 "TreeServerModel" t) (hret : meth.sig.returnType = none) (G : GS)  (hwp : w_M_count t G a0 K) : kW p l e rm_M_count s m args below meth c (MQ below (va_Qv (fun u : GS => K u) (fun u T => HB t u T.heap) (tA t)) args s 0 0 (tA t)) 2 t false 0 [(0, va_rf (some a0))] [] G := by
  unfold w_M_count at hwp
  refine kw_iconst (v := 0) (pc := 0) X d_M_count_0 (by decide) ?_
  refine kw_istore_n (i := 1) (lv' := [(1, .int (0 : Int32)), (0, va_rf (some a0))]) (pc := 1) X d_M_count_1 rfl (by decide) rfl ?_
  obtain ⟨n, hwp⟩ := hwp
  exact kW.sub [1, 0] rfl (k_M_count_2 X hret  n _ _ hwp)
set_option maxRecDepth 100000 in
set_option maxHeartbeats 4000000 in
theorem c_M_count (l : Launch) (t : TY) (G : GS) (a0 : Nat) (K : GS → Prop) : Met l y_M_count (Cond.code y_M_count b_M_count 2 (Option.none : Option Jvm.ClassFile.FieldType) :: GW) rm_M_count (va_Pc [.ref a0] (fun U => HB t G U.heap ∧ HK t U ∧ w_M_count t G a0 K)) (va_Qv (fun u : GS => K u) (fun u T => HB t u T.heap) (tA t)) 0 0 (tA t) := by
  refine Met.ofW (cc := b_M_count) (maxL := 2) (ret := none) (by decide) rfl ?_
  intro p e s m args below meth c s₁ B hml hv
  obtain ⟨rfl, hB, hK, hwp⟩ := hv
  have hts := atoms_spec (ws := Cond.code y_M_count b_M_count 2 (Option.none : Option Jvm.ClassFile.FieldType) :: GW) B.pre
  have X : kX p s m _ meth c b_M_count 2 "TreeServerModel" t := ⟨B.exec, B.bytes, hml, findClass_of_methodNamed B.named, fun w h => hts w (List.mem_cons_of_mem _ h), B.notSynchronized, hK⟩
  have hZ : kZ t false s G s.heap [] := ⟨hB, va_S.rf, fun _ => ⟨rfl, rfl⟩⟩
  rw [lg_entry_eq]
  have hl := lv_entry ([.ref a0]) (n := 2) (by simp [lg_sl, rf_cat, cat_i, cat_l, cat_r])
  exact k_M_count X B.returns _ hwp s.heap [] _ hl hZ
abbrev b_M_restart : ByteArray := prog_13_method_71_code
def y_M_restart : MethodName := ⟨"TreeServerModel", "restart", "()Z"⟩
theorem d_M_restart_0 : decode b_M_restart 0 = .ok (.aload_n 0, 1) := by decide +kernel
theorem d_M_restart_1 : decode b_M_restart 1 = .ok (.getfield 125, 3) := by decide +kernel
theorem d_M_restart_4 : decode b_M_restart 4 = .ok (.ifCond .ne 5, 3) := by decide +kernel
theorem d_M_restart_7 : decode b_M_restart 7 = .ok (.iconst 0, 1) := by decide +kernel
theorem d_M_restart_8 : decode b_M_restart 8 = .ok (.ireturn, 1) := by decide +kernel
theorem d_M_restart_9 : decode b_M_restart 9 = .ok (.aload_n 0, 1) := by decide +kernel
theorem d_M_restart_10 : decode b_M_restart 10 = .ok (.iconst 0, 1) := by decide +kernel
theorem d_M_restart_11 : decode b_M_restart 11 = .ok (.putfield 125, 3) := by decide +kernel
theorem d_M_restart_14 : decode b_M_restart 14 = .ok (.aload_n 0, 1) := by decide +kernel
theorem d_M_restart_15 : decode b_M_restart 15 = .ok (.dup, 1) := by decide +kernel
theorem d_M_restart_16 : decode b_M_restart 16 = .ok (.getfield 115, 3) := by decide +kernel
theorem d_M_restart_19 : decode b_M_restart 19 = .ok (.iconst 1, 1) := by decide +kernel
theorem d_M_restart_20 : decode b_M_restart 20 = .ok (.iadd, 1) := by decide +kernel
theorem d_M_restart_21 : decode b_M_restart 21 = .ok (.putfield 115, 3) := by decide +kernel
theorem d_M_restart_24 : decode b_M_restart 24 = .ok (.aload_n 0, 1) := by decide +kernel
theorem d_M_restart_25 : decode b_M_restart 25 = .ok (.getfield 118, 3) := by decide +kernel
theorem d_M_restart_28 : decode b_M_restart 28 = .ok (.ifCond .eq 30, 3) := by decide +kernel
theorem d_M_restart_31 : decode b_M_restart 31 = .ok (.iconst 0, 1) := by decide +kernel
theorem d_M_restart_32 : decode b_M_restart 32 = .ok (.istore_n 1, 1) := by decide +kernel
theorem d_M_restart_33 : decode b_M_restart 33 = .ok (.iload_n 1, 1) := by decide +kernel
theorem d_M_restart_34 : decode b_M_restart 34 = .ok (.sipush 1743, 3) := by decide +kernel
theorem d_M_restart_37 : decode b_M_restart 37 = .ok (.if_icmp .ge 21, 3) := by decide +kernel
theorem d_M_restart_40 : decode b_M_restart 40 = .ok (.aload_n 0, 1) := by decide +kernel
theorem d_M_restart_41 : decode b_M_restart 41 = .ok (.getfield 7, 3) := by decide +kernel
theorem d_M_restart_44 : decode b_M_restart 44 = .ok (.iload_n 1, 1) := by decide +kernel
theorem d_M_restart_45 : decode b_M_restart 45 = .ok (.aload_n 0, 1) := by decide +kernel
theorem d_M_restart_46 : decode b_M_restart 46 = .ok (.getfield 16, 3) := by decide +kernel
theorem d_M_restart_49 : decode b_M_restart 49 = .ok (.iload_n 1, 1) := by decide +kernel
theorem d_M_restart_50 : decode b_M_restart 50 = .ok (.iaload, 1) := by decide +kernel
theorem d_M_restart_51 : decode b_M_restart 51 = .ok (.iastore, 1) := by decide +kernel
theorem d_M_restart_52 : decode b_M_restart 52 = .ok (.iinc 1 1, 3) := by decide +kernel
theorem d_M_restart_55 : decode b_M_restart 55 = .ok (.goto (-22), 3) := by decide +kernel
theorem d_M_restart_58 : decode b_M_restart 58 = .ok (.aload_n 0, 1) := by decide +kernel
theorem d_M_restart_59 : decode b_M_restart 59 = .ok (.getfield 118, 3) := by decide +kernel
theorem d_M_restart_62 : decode b_M_restart 62 = .ok (.ifCond .eq 7, 3) := by decide +kernel
theorem d_M_restart_65 : decode b_M_restart 65 = .ok (.aload_n 0, 1) := by decide +kernel
theorem d_M_restart_66 : decode b_M_restart 66 = .ok (.invokevirtual 396, 3) := by decide +kernel
theorem d_M_restart_69 : decode b_M_restart 69 = .ok (.aload_n 0, 1) := by decide +kernel
theorem d_M_restart_70 : decode b_M_restart 70 = .ok (.iconst 0, 1) := by decide +kernel
theorem d_M_restart_71 : decode b_M_restart 71 = .ok (.putfield 118, 3) := by decide +kernel
theorem d_M_restart_74 : decode b_M_restart 74 = .ok (.iconst 1, 1) := by decide +kernel
theorem d_M_restart_75 : decode b_M_restart 75 = .ok (.ireturn, 1) := by decide +kernel
abbrev rm_M_restart : Room := { frames := 2, cells := 0, slots := 0, locals := 43 }
set_option maxRecDepth 100000 in
set_option maxHeartbeats 4000000 in
theorem k_M_restart_69 {p : Program} {l : Launch} {e : Env} {s : State} {m : MethodId} {args : Array Value} {below : List Frame} {meth : Method} {c : Code} {t : TY} {a0 : Nat} {K : GS → Int32 → Prop} (X : kX p s m args meth c b_M_restart 2 "TreeServerModel" t) (hret : meth.sig.returnType = some .boolean)  (G : GS) (hwp : w_M_restart_69 t a0 K G) : kW p l e rm_M_restart s m args below meth c (MQ below (va_Qi (fun r (u : GS) => isB r ∧ K u r) (fun u T => HB t u T.heap) (tA t)) args s 0 0 (tA t)) 2 t false 69 [(0, va_rf (some a0))] [] G := by
  unfold w_M_restart_69 at hwp
  refine kw_aload_n (pc := 69) X d_M_restart_69 rfl 0 rfl ?_
  refine kw_iconst (v := 0) (pc := 70) X d_M_restart_70 (by decide) ?_
  obtain ⟨f1, hwp⟩ := hwp
  refine kp_73 (a := a0) (x := (0 : Int32)) (pc := 71) X rfl d_M_restart_71 x_993 rfl f1 (Or.inl rfl) ?_
  obtain ⟨G2, e_G2⟩ : ∃ g, g = si G 73 a0 (0 : Int32) := ⟨_, rfl⟩
  have hwp := hwp G2 e_G2
  refine kW.g e_G2.symm ?_
  refine kw_iconst (v := 1) (pc := 74) X d_M_restart_74 (by decide) ?_
  exact kr_z (pc := 75) X hret d_M_restart_75 (Or.inr rfl) hwp
set_option maxRecDepth 100000 in
set_option maxHeartbeats 4000000 in
theorem k_M_restart_58 {p : Program} {l : Launch} {e : Env} {s : State} {m : MethodId} {args : Array Value} {below : List Frame} {meth : Method} {c : Code} {t : TY} {a0 : Nat} {K : GS → Int32 → Prop} (X : kX p s m args meth c b_M_restart 2 "TreeServerModel" t) (hret : meth.sig.returnType = some .boolean)  (G : GS) (hwp : w_M_restart_58 t a0 K G) : kW p l e rm_M_restart s m args below meth c (MQ below (va_Qi (fun r (u : GS) => isB r ∧ K u r) (fun u T => HB t u T.heap) (tA t)) args s 0 0 (tA t)) 2 t false 58 [(0, va_rf (some a0))] [] G := by
  unfold w_M_restart_58 at hwp
  refine kw_aload_n (pc := 58) X d_M_restart_58 rfl 0 rfl ?_
  obtain ⟨f1, hwp⟩ := hwp
  refine kg_73 (a := a0) (pc := 59) X d_M_restart_59 x_993 rfl f1 ?_
  refine kw_if_eq (tgt := 69) (pc := 62) X d_M_restart_62 (by decide) (fun h => ?_) (fun h => ?_)
  · have hwp := ite_t h hwp
    exact kW.sub [0] rfl (k_M_restart_69 X hret  _ hwp)
  · have hwp := ite_f h hwp
    refine kw_aload_n (pc := 65) X d_M_restart_65 rfl 0 rfl ?_
    refine kcV_v (n := 0) (As := []) (rest := []) (pc := 66) X rfl (c_M_count l t G a0 _) (cwV_of (C := "TreeServerModel") X x_1404 x_1401 x_1403 xp_93 x_13 (by decide +kernel) ⟨rfl, rfl⟩ (by decide)) (rv_10 X f1) rfl rfl (by decide) d_M_restart_66 hwp (fun G2 hwp => ?_)
    exact kW.sub [0] rfl (k_M_restart_69 X hret  _ hwp)
set_option maxRecDepth 100000 in
set_option maxHeartbeats 4000000 in
theorem k_M_restart_33 {p : Program} {l : Launch} {e : Env} {s : State} {m : MethodId} {args : Array Value} {below : List Frame} {meth : Method} {c : Code} {t : TY} {a0 : Nat} {K : GS → Int32 → Prop} (X : kX p s m args meth c b_M_restart 2 "TreeServerModel" t) (hret : meth.sig.returnType = some .boolean) : ∀ (n : Nat) (l1 : Int32) (G : GS), w_M_restart_33 t a0 K n l1 G → kW p l e rm_M_restart s m args below meth c (MQ below (va_Qi (fun r (u : GS) => isB r ∧ K u r) (fun u T => HB t u T.heap) (tA t)) args s 0 0 (tA t)) 2 t false 33 [(0, va_rf (some a0)), (1, .int l1)] [] G := by
  intro n
  induction n with
  | zero => intro l1 G hwp; exact hwp.elim
  | succ n hr_33 =>
    intro l1 G hwp
    unfold w_M_restart_33 at hwp
    dsimp only at hwp
    refine kw_iload_n (pc := 33) X d_M_restart_33 rfl 1 rfl ?_
    refine kw_sipush (v := 1743) (pc := 34) X d_M_restart_34 (by decide) ?_
    refine kw_icmp_ge (tgt := 58) (pc := 37) X d_M_restart_37 (by decide) (fun h => ?_) (fun h => ?_)
    · have hwp := ite_t h hwp
      exact kW.sub [0] rfl (k_M_restart_58 X hret  _ hwp)
    · have hwp := ite_f h hwp
      refine kw_aload_n (pc := 40) X d_M_restart_40 rfl 0 rfl ?_
      obtain ⟨f1, hwp⟩ := hwp
      refine kg_70 (a := a0) (pc := 41) X d_M_restart_41 x_990 rfl f1 ?_
      refine kw_iload_n (pc := 44) X d_M_restart_44 rfl 1 rfl ?_
      refine kw_aload_n (pc := 45) X d_M_restart_45 rfl 0 rfl ?_
      refine kg_72 (a := a0) (pc := 46) X d_M_restart_46 x_992 rfl f1 ?_
      refine kw_iload_n (pc := 49) X d_M_restart_49 rfl 1 rfl ?_
      obtain ⟨a2, h_a2, hwp⟩ := hwp
      obtain ⟨f3, hwp⟩ := hwp
      obtain ⟨f4, hwp⟩ := hwp
      refine ka_iald (a := a2) (pc := 50) X d_M_restart_50 h_a2 f3 f4 ?_
      obtain ⟨a5, h_a5, hwp⟩ := hwp
      obtain ⟨f6, hwp⟩ := hwp
      obtain ⟨f7, hwp⟩ := hwp
      refine ka_iast (a := a5) (pc := 51) X rfl d_M_restart_51 h_a5 f6 f7 ?_
      obtain ⟨G8, e_G8⟩ : ∃ g, g = ais G a5 l1.toNatClampNeg (ai G a2 l1.toNatClampNeg) := ⟨_, rfl⟩
      have hwp := hwp G8 e_G8
      refine kW.g e_G8.symm ?_
      obtain ⟨v9, e_v9⟩ : ∃ z, z = (l1 + (1 : Int32)) := ⟨_, rfl⟩
      have hwp := hwp v9 e_v9
      refine kw_iinc (v := v9) (lv' := [(1, .int v9), (0, va_rf (some a0))]) (pc := 52) X d_M_restart_52 1 rfl (by rw [e_v9]; rfl) (by decide) rfl ?_
      refine kw_goto (tgt := 33) (pc := 55) X d_M_restart_55 (by decide) ?_
      exact kW.sub [1, 0] rfl (hr_33 _ _ hwp)
set_option maxRecDepth 100000 in
set_option maxHeartbeats 4000000 in
theorem k_M_restart {p : Program} {l : Launch} {e : Env} {s : State} {m : MethodId} {args : Array Value} {below : List Frame} {meth : Method} {c : Code} {t : TY} {a0 : Nat} {K : GS → Int32 → Prop} (X : kX p s m args meth c b_M_restart 2 "TreeServerModel" t) (hret : meth.sig.returnType = some .boolean) (G : GS)  (hwp : w_M_restart t G a0 K) : kW p l e rm_M_restart s m args below meth c (MQ below (va_Qi (fun r (u : GS) => isB r ∧ K u r) (fun u T => HB t u T.heap) (tA t)) args s 0 0 (tA t)) 2 t false 0 [(0, va_rf (some a0))] [] G := by
  unfold w_M_restart at hwp
  refine kw_aload_n (pc := 0) X d_M_restart_0 rfl 0 rfl ?_
  obtain ⟨f1, hwp⟩ := hwp
  refine kg_75 (a := a0) (pc := 1) X d_M_restart_1 x_995 rfl f1 ?_
  refine kw_if_ne (tgt := 9) (pc := 4) X d_M_restart_4 (by decide) (fun h => ?_) (fun h => ?_)
  · have hwp := ite_t h hwp
    refine kw_aload_n (pc := 9) X d_M_restart_9 rfl 0 rfl ?_
    refine kw_iconst (v := 0) (pc := 10) X d_M_restart_10 (by decide) ?_
    refine kp_75 (a := a0) (x := (0 : Int32)) (pc := 11) X rfl d_M_restart_11 x_995 rfl f1 (Or.inl rfl) ?_
    obtain ⟨G2, e_G2⟩ : ∃ g, g = si G 75 a0 (0 : Int32) := ⟨_, rfl⟩
    have hwp := hwp G2 e_G2
    refine kW.g e_G2.symm ?_
    refine kw_aload_n (pc := 14) X d_M_restart_14 rfl 0 rfl ?_
    refine kw_dup (pc := 15) X d_M_restart_15 rfl ?_
    refine kg_77 (a := a0) (pc := 16) X d_M_restart_16 x_997 rfl f1 ?_
    refine kw_iconst (v := 1) (pc := 19) X d_M_restart_19 (by decide) ?_
    refine kw_iadd (pc := 20) X d_M_restart_20 ?_
    refine kp_77 (a := a0) (x := ((gi G2 77 a0) + (1 : Int32))) (pc := 21) X rfl d_M_restart_21 x_997 rfl f1 ?_
    obtain ⟨G3, e_G3⟩ : ∃ g, g = si G2 77 a0 ((gi G2 77 a0) + (1 : Int32)) := ⟨_, rfl⟩
    have hwp := hwp G3 e_G3
    refine kW.g e_G3.symm ?_
    refine kw_aload_n (pc := 24) X d_M_restart_24 rfl 0 rfl ?_
    refine kg_73 (a := a0) (pc := 25) X d_M_restart_25 x_993 rfl f1 ?_
    refine kw_if_eq (tgt := 58) (pc := 28) X d_M_restart_28 (by decide) (fun h => ?_) (fun h => ?_)
    · have hwp := ite_t h hwp
      exact kW.sub [0] rfl (k_M_restart_58 X hret  _ hwp)
    · have hwp := ite_f h hwp
      refine kw_iconst (v := 0) (pc := 31) X d_M_restart_31 (by decide) ?_
      refine kw_istore_n (i := 1) (lv' := [(1, .int (0 : Int32)), (0, va_rf (some a0))]) (pc := 32) X d_M_restart_32 rfl (by decide) rfl ?_
      obtain ⟨n, hwp⟩ := hwp
      exact kW.sub [1, 0] rfl (k_M_restart_33 X hret  n _ _ hwp)
  · have hwp := ite_f (not_not_intro h) hwp
    refine kw_iconst (v := 0) (pc := 7) X d_M_restart_7 (by decide) ?_
    exact kr_z (pc := 8) X hret d_M_restart_8 (Or.inl rfl) hwp
set_option maxRecDepth 100000 in
set_option maxHeartbeats 4000000 in
theorem c_M_restart (l : Launch) (t : TY) (G : GS) (a0 : Nat) (K : GS → Int32 → Prop) : Met l y_M_restart (Cond.code y_M_restart b_M_restart 2 (Option.some Jvm.ClassFile.FieldType.boolean) :: GW) rm_M_restart (va_Pc [.ref a0] (fun U => HB t G U.heap ∧ HK t U ∧ w_M_restart t G a0 K)) (va_Qi (fun r (u : GS) => isB r ∧ K u r) (fun u T => HB t u T.heap) (tA t)) 0 0 (tA t) := by
  refine Met.ofW (cc := b_M_restart) (maxL := 2) (ret := some .boolean) (by decide) rfl ?_
  intro p e s m args below meth c s₁ B hml hv
  obtain ⟨rfl, hB, hK, hwp⟩ := hv
  have hts := atoms_spec (ws := Cond.code y_M_restart b_M_restart 2 (Option.some Jvm.ClassFile.FieldType.boolean) :: GW) B.pre
  have X : kX p s m _ meth c b_M_restart 2 "TreeServerModel" t := ⟨B.exec, B.bytes, hml, findClass_of_methodNamed B.named, fun w h => hts w (List.mem_cons_of_mem _ h), B.notSynchronized, hK⟩
  have hZ : kZ t false s G s.heap [] := ⟨hB, va_S.rf, fun _ => ⟨rfl, rfl⟩⟩
  rw [lg_entry_eq]
  have hl := lv_entry ([.ref a0]) (n := 2) (by simp [lg_sl, rf_cat, cat_i, cat_l, cat_r])
  exact k_M_restart X B.returns _ hwp s.heap [] _ hl hZ
abbrev b_M_up : ByteArray := prog_13_method_73_code
def y_M_up : MethodName := ⟨"TreeServerModel", "up", "()Z"⟩
theorem d_M_up_0 : decode b_M_up 0 = .ok (.aload_n 0, 1) := by decide +kernel
theorem d_M_up_1 : decode b_M_up 1 = .ok (.getfield 125, 3) := by decide +kernel
theorem d_M_up_4 : decode b_M_up 4 = .ok (.ifCond .ne 7, 3) := by decide +kernel
theorem d_M_up_7 : decode b_M_up 7 = .ok (.iconst 1, 1) := by decide +kernel
theorem d_M_up_8 : decode b_M_up 8 = .ok (.goto 4, 3) := by decide +kernel
theorem d_M_up_11 : decode b_M_up 11 = .ok (.iconst 0, 1) := by decide +kernel
theorem d_M_up_12 : decode b_M_up 12 = .ok (.ireturn, 1) := by decide +kernel
abbrev rm_M_up : Room := { frames := 0, cells := 0, slots := 0, locals := 0 }
set_option maxRecDepth 100000 in
set_option maxHeartbeats 4000000 in
theorem k_M_up {p : Program} {l : Launch} {e : Env} {s : State} {m : MethodId} {args : Array Value} {below : List Frame} {meth : Method} {c : Code} {t : TY} {a0 : Nat} {G : GS} {K : Int32 → Prop} (X : kX p s m args meth c b_M_up 1 "TreeServerModel" t) (hret : meth.sig.returnType = some .boolean)  (hwp : w_M_up t G a0 K) : kW p l e rm_M_up s m args below meth c (MQ below (vp_Si (fun r => isB r ∧ K r)) args s 0 0 (fun _ => False)) 1 t true 0 [(0, va_rf (some a0))] [] G := by
  unfold w_M_up at hwp
  refine kw_aload_n (pc := 0) X d_M_up_0 rfl 0 rfl ?_
  obtain ⟨f1, hwp⟩ := hwp
  refine kg_75 (a := a0) (pc := 1) X d_M_up_1 x_995 rfl f1 ?_
  refine kw_if_ne (tgt := 11) (pc := 4) X d_M_up_4 (by decide) (fun h => ?_) (fun h => ?_)
  · have hwp := ite_t h hwp
    refine kw_iconst (v := 0) (pc := 11) X d_M_up_11 (by decide) ?_
    exact krp_z (pc := 12) X hret d_M_up_12 (Or.inl rfl) hwp
  · have hwp := ite_f (not_not_intro h) hwp
    refine kw_iconst (v := 1) (pc := 7) X d_M_up_7 (by decide) ?_
    refine kw_goto (tgt := 12) (pc := 8) X d_M_up_8 (by decide) ?_
    exact krp_z (pc := 12) X hret d_M_up_12 (Or.inr rfl) hwp
set_option maxRecDepth 100000 in
set_option maxHeartbeats 4000000 in
theorem c_M_up (l : Launch) (t : TY) (G : GS) (a0 : Nat) (K : Int32 → Prop) : Met l y_M_up (Cond.code y_M_up b_M_up 1 (Option.some Jvm.ClassFile.FieldType.boolean) :: GW) rm_M_up (va_Pc [.ref a0] (fun U => HB t G U.heap ∧ HK t U ∧ w_M_up t G a0 K)) (vp_Si (fun r => isB r ∧ K r)) 0 0 (fun _ => False) := by
  refine Met.ofW (cc := b_M_up) (maxL := 1) (ret := some .boolean) (by decide) rfl ?_
  intro p e s m args below meth c s₁ B hml hv
  obtain ⟨rfl, hB, hK, hwp⟩ := hv
  have hts := atoms_spec (ws := Cond.code y_M_up b_M_up 1 (Option.some Jvm.ClassFile.FieldType.boolean) :: GW) B.pre
  have X : kX p s m _ meth c b_M_up 1 "TreeServerModel" t := ⟨B.exec, B.bytes, hml, findClass_of_methodNamed B.named, fun w h => hts w (List.mem_cons_of_mem _ h), B.notSynchronized, hK⟩
  have hZ : kZ t true s G s.heap [] := ⟨hB, va_S.rf, fun _ => ⟨rfl, rfl⟩⟩
  rw [lg_entry_eq]
  have hl := lv_entry ([.ref a0]) (n := 1) (by simp [lg_sl, rf_cat, cat_i, cat_l, cat_r])
  exact k_M_up X B.returns hwp s.heap [] _ hl hZ
abbrev b_M_nodes : ByteArray := prog_13_method_74_code
def y_M_nodes : MethodName := ⟨"TreeServerModel", "nodes", "()I"⟩
theorem d_M_nodes_0 : decode b_M_nodes 0 = .ok (.iconst 0, 1) := by decide +kernel
theorem d_M_nodes_1 : decode b_M_nodes 1 = .ok (.istore_n 1, 1) := by decide +kernel
theorem d_M_nodes_2 : decode b_M_nodes 2 = .ok (.iconst 1, 1) := by decide +kernel
theorem d_M_nodes_3 : decode b_M_nodes 3 = .ok (.istore_n 2, 1) := by decide +kernel
theorem d_M_nodes_4 : decode b_M_nodes 4 = .ok (.iload_n 2, 1) := by decide +kernel
theorem d_M_nodes_5 : decode b_M_nodes 5 = .ok (.bipush 21, 2) := by decide +kernel
theorem d_M_nodes_7 : decode b_M_nodes 7 = .ok (.if_icmp .ge 18, 3) := by decide +kernel
theorem d_M_nodes_10 : decode b_M_nodes 10 = .ok (.iload_n 1, 1) := by decide +kernel
theorem d_M_nodes_11 : decode b_M_nodes 11 = .ok (.aload_n 0, 1) := by decide +kernel
theorem d_M_nodes_12 : decode b_M_nodes 12 = .ok (.iload_n 2, 1) := by decide +kernel
theorem d_M_nodes_13 : decode b_M_nodes 13 = .ok (.iconst 0, 1) := by decide +kernel
theorem d_M_nodes_14 : decode b_M_nodes 14 = .ok (.invokevirtual 81, 3) := by decide +kernel
theorem d_M_nodes_17 : decode b_M_nodes 17 = .ok (.iadd, 1) := by decide +kernel
theorem d_M_nodes_18 : decode b_M_nodes 18 = .ok (.istore_n 1, 1) := by decide +kernel
theorem d_M_nodes_19 : decode b_M_nodes 19 = .ok (.iinc 2 1, 3) := by decide +kernel
theorem d_M_nodes_22 : decode b_M_nodes 22 = .ok (.goto (-18), 3) := by decide +kernel
theorem d_M_nodes_25 : decode b_M_nodes 25 = .ok (.iload_n 1, 1) := by decide +kernel
theorem d_M_nodes_26 : decode b_M_nodes 26 = .ok (.ireturn, 1) := by decide +kernel
abbrev rm_M_nodes : Room := { frames := 1, cells := 0, slots := 0, locals := 22 }
set_option maxRecDepth 100000 in
set_option maxHeartbeats 4000000 in
theorem k_M_nodes_4 {p : Program} {l : Launch} {e : Env} {s : State} {m : MethodId} {args : Array Value} {below : List Frame} {meth : Method} {c : Code} {t : TY} {a0 : Nat} {G : GS} {K : Int32 → Prop} (X : kX p s m args meth c b_M_nodes 3 "TreeServerModel" t) (hret : meth.sig.returnType = some .int) : ∀ (n : Nat) (l1 : Int32) (l2 : Int32), w_M_nodes_4 t G a0 K n l1 l2 → kW p l e rm_M_nodes s m args below meth c (MQ below (vp_Si K) args s 0 0 (fun _ => False)) 3 t true 4 [(0, va_rf (some a0)), (1, .int l1), (2, .int l2)] [] G := by
  intro n
  induction n with
  | zero => intro l1 l2 hwp; exact hwp.elim
  | succ n hr_4 =>
    intro l1 l2 hwp
    unfold w_M_nodes_4 at hwp
    dsimp only at hwp
    refine kw_iload_n (pc := 4) X d_M_nodes_4 rfl 2 rfl ?_
    refine kw_bipush (v := 21) (pc := 5) X d_M_nodes_5 (by decide) ?_
    refine kw_icmp_ge (tgt := 25) (pc := 7) X d_M_nodes_7 (by decide) (fun h => ?_) (fun h => ?_)
    · have hwp := ite_t h hwp
      refine kw_iload_n (pc := 25) X d_M_nodes_25 rfl 1 rfl ?_
      exact krp_i (pc := 26) X hret d_M_nodes_26 hwp
    · have hwp := ite_f h hwp
      refine kw_iload_n (pc := 10) X d_M_nodes_10 rfl 1 rfl ?_
      refine kw_aload_n (pc := 11) X d_M_nodes_11 rfl 0 rfl ?_
      refine kw_iload_n (pc := 12) X d_M_nodes_12 rfl 2 rfl ?_
      refine kw_iconst (v := 0) (pc := 13) X d_M_nodes_13 (by decide) ?_
      obtain ⟨f1, hwp⟩ := hwp
      refine kcVp_i (n := 2) (As := [.int l2, .int (0 : Int32)]) (rest := [.int l1]) (pc := 14) X (c_M_at l t G a0 l2 (0 : Int32) _) (cwV_of (C := "TreeServerModel") X x_1111 x_1108 x_1110 xp_41 x_13 (by decide +kernel) ⟨rfl, rfl⟩ (by decide)) (rv_10 X f1) rfl rfl (by simp [rf_cat, cat_i, cat_l, cat_r]) d_M_nodes_14 hwp (fun v2 hwp => ?_)
      refine kw_iadd (pc := 17) X d_M_nodes_17 ?_
      obtain ⟨v3, e_v3⟩ : ∃ z, z = (l1 + v2) := ⟨_, rfl⟩
      have hwp := hwp v3 e_v3
      refine kW.st (st' := .int v3 :: _) (by rw [e_v3]) ?_
      refine kw_istore_n (i := 1) (lv' := [(1, .int v3), (0, va_rf (some a0)), (2, .int l2)]) (pc := 18) X d_M_nodes_18 rfl (by decide) rfl ?_
      obtain ⟨v4, e_v4⟩ : ∃ z, z = (l2 + (1 : Int32)) := ⟨_, rfl⟩
      have hwp := hwp v4 e_v4
      refine kw_iinc (v := v4) (lv' := [(2, .int v4), (1, .int v3), (0, va_rf (some a0))]) (pc := 19) X d_M_nodes_19 2 rfl (by rw [e_v4]; rfl) (by decide) rfl ?_
      refine kw_goto (tgt := 4) (pc := 22) X d_M_nodes_22 (by decide) ?_
      exact kW.sub [2, 1, 0] rfl (hr_4 _ _ hwp)
set_option maxRecDepth 100000 in
set_option maxHeartbeats 4000000 in
theorem k_M_nodes {p : Program} {l : Launch} {e : Env} {s : State} {m : MethodId} {args : Array Value} {below : List Frame} {meth : Method} {c : Code} {t : TY} {a0 : Nat} {G : GS} {K : Int32 → Prop} (X : kX p s m args meth c b_M_nodes 3 "TreeServerModel" t) (hret : meth.sig.returnType = some .int)  (hwp : w_M_nodes t G a0 K) : kW p l e rm_M_nodes s m args below meth c (MQ below (vp_Si K) args s 0 0 (fun _ => False)) 3 t true 0 [(0, va_rf (some a0))] [] G := by
  unfold w_M_nodes at hwp
  refine kw_iconst (v := 0) (pc := 0) X d_M_nodes_0 (by decide) ?_
  refine kw_istore_n (i := 1) (lv' := [(1, .int (0 : Int32)), (0, va_rf (some a0))]) (pc := 1) X d_M_nodes_1 rfl (by decide) rfl ?_
  refine kw_iconst (v := 1) (pc := 2) X d_M_nodes_2 (by decide) ?_
  refine kw_istore_n (i := 2) (lv' := [(2, .int (1 : Int32)), (1, .int (0 : Int32)), (0, va_rf (some a0))]) (pc := 3) X d_M_nodes_3 rfl (by decide) rfl ?_
  obtain ⟨n, hwp⟩ := hwp
  exact kW.sub [2, 1, 0] rfl (k_M_nodes_4 X hret  n _ _ hwp)
set_option maxRecDepth 100000 in
set_option maxHeartbeats 4000000 in
theorem c_M_nodes (l : Launch) (t : TY) (G : GS) (a0 : Nat) (K : Int32 → Prop) : Met l y_M_nodes (Cond.code y_M_nodes b_M_nodes 3 (Option.some Jvm.ClassFile.FieldType.int) :: GW) rm_M_nodes (va_Pc [.ref a0] (fun U => HB t G U.heap ∧ HK t U ∧ w_M_nodes t G a0 K)) (vp_Si K) 0 0 (fun _ => False) := by
  refine Met.ofW (cc := b_M_nodes) (maxL := 3) (ret := some .int) (by decide) rfl ?_
  intro p e s m args below meth c s₁ B hml hv
  obtain ⟨rfl, hB, hK, hwp⟩ := hv
  have hts := atoms_spec (ws := Cond.code y_M_nodes b_M_nodes 3 (Option.some Jvm.ClassFile.FieldType.int) :: GW) B.pre
  have X : kX p s m _ meth c b_M_nodes 3 "TreeServerModel" t := ⟨B.exec, B.bytes, hml, findClass_of_methodNamed B.named, fun w h => hts w (List.mem_cons_of_mem _ h), B.notSynchronized, hK⟩
  have hZ : kZ t true s G s.heap [] := ⟨hB, va_S.rf, fun _ => ⟨rfl, rfl⟩⟩
  rw [lg_entry_eq]
  have hl := lv_entry ([.ref a0]) (n := 3) (by simp [lg_sl, rf_cat, cat_i, cat_l, cat_r])
  exact k_M_nodes X B.returns hwp s.heap [] _ hl hZ
abbrev b_M_free : ByteArray := prog_13_method_75_code
def y_M_free : MethodName := ⟨"TreeServerModel", "free", "()I"⟩
theorem d_M_free_0 : decode b_M_free 0 = .ok (.bipush 24, 2) := by decide +kernel
theorem d_M_free_2 : decode b_M_free 2 = .ok (.aload_n 0, 1) := by decide +kernel
theorem d_M_free_3 : decode b_M_free 3 = .ok (.invokevirtual 339, 3) := by decide +kernel
theorem d_M_free_6 : decode b_M_free 6 = .ok (.isub, 1) := by decide +kernel
theorem d_M_free_7 : decode b_M_free 7 = .ok (.ireturn, 1) := by decide +kernel
abbrev rm_M_free : Room := { frames := 3, cells := 0, slots := 0, locals := 67 }
set_option maxRecDepth 100000 in
set_option maxHeartbeats 4000000 in
theorem k_M_free {p : Program} {l : Launch} {e : Env} {s : State} {m : MethodId} {args : Array Value} {below : List Frame} {meth : Method} {c : Code} {t : TY} {a0 : Nat} {G : GS} {K : Int32 → Prop} (X : kX p s m args meth c b_M_free 1 "TreeServerModel" t) (hret : meth.sig.returnType = some .int)  (hwp : w_M_free t G a0 K) : kW p l e rm_M_free s m args below meth c (MQ below (vp_Si K) args s 0 0 (fun _ => False)) 1 t true 0 [(0, va_rf (some a0))] [] G := by
  unfold w_M_free at hwp
  refine kw_bipush (v := 24) (pc := 0) X d_M_free_0 (by decide) ?_
  refine kw_aload_n (pc := 2) X d_M_free_2 rfl 0 rfl ?_
  obtain ⟨f1, hwp⟩ := hwp
  refine kcVp_i (n := 0) (As := []) (rest := [.int (24 : Int32)]) (pc := 3) X (c_M_blocks l t G a0 _) (cwV_of (C := "TreeServerModel") X x_1306 x_1303 x_1305 xp_80 x_13 (by decide +kernel) ⟨rfl, rfl⟩ (by decide)) (rv_10 X f1) rfl rfl (by simp [rf_cat, cat_i, cat_l, cat_r]) d_M_free_3 hwp (fun v2 hwp => ?_)
  refine kw_isub (pc := 6) X d_M_free_6 ?_
  exact krp_i (pc := 7) X hret d_M_free_7 hwp
set_option maxRecDepth 100000 in
set_option maxHeartbeats 4000000 in
theorem c_M_free (l : Launch) (t : TY) (G : GS) (a0 : Nat) (K : Int32 → Prop) : Met l y_M_free (Cond.code y_M_free b_M_free 1 (Option.some Jvm.ClassFile.FieldType.int) :: GW) rm_M_free (va_Pc [.ref a0] (fun U => HB t G U.heap ∧ HK t U ∧ w_M_free t G a0 K)) (vp_Si K) 0 0 (fun _ => False) := by
  refine Met.ofW (cc := b_M_free) (maxL := 1) (ret := some .int) (by decide) rfl ?_
  intro p e s m args below meth c s₁ B hml hv
  obtain ⟨rfl, hB, hK, hwp⟩ := hv
  have hts := atoms_spec (ws := Cond.code y_M_free b_M_free 1 (Option.some Jvm.ClassFile.FieldType.int) :: GW) B.pre
  have X : kX p s m _ meth c b_M_free 1 "TreeServerModel" t := ⟨B.exec, B.bytes, hml, findClass_of_methodNamed B.named, fun w h => hts w (List.mem_cons_of_mem _ h), B.notSynchronized, hK⟩
  have hZ : kZ t true s G s.heap [] := ⟨hB, va_S.rf, fun _ => ⟨rfl, rfl⟩⟩
  rw [lg_entry_eq]
  have hl := lv_entry ([.ref a0]) (n := 1) (by simp [lg_sl, rf_cat, cat_i, cat_l, cat_r])
  exact k_M_free X B.returns hwp s.heap [] _ hl hZ
abbrev b_M_writes : ByteArray := prog_13_method_76_code
def y_M_writes : MethodName := ⟨"TreeServerModel", "writes", "()I"⟩
theorem d_M_writes_0 : decode b_M_writes 0 = .ok (.aload_n 0, 1) := by decide +kernel
theorem d_M_writes_1 : decode b_M_writes 1 = .ok (.getfield 115, 3) := by decide +kernel
theorem d_M_writes_4 : decode b_M_writes 4 = .ok (.ireturn, 1) := by decide +kernel
abbrev rm_M_writes : Room := { frames := 0, cells := 0, slots := 0, locals := 0 }
set_option maxRecDepth 100000 in
set_option maxHeartbeats 4000000 in
theorem k_M_writes {p : Program} {l : Launch} {e : Env} {s : State} {m : MethodId} {args : Array Value} {below : List Frame} {meth : Method} {c : Code} {t : TY} {a0 : Nat} {G : GS} {K : Int32 → Prop} (X : kX p s m args meth c b_M_writes 1 "TreeServerModel" t) (hret : meth.sig.returnType = some .int)  (hwp : w_M_writes t G a0 K) : kW p l e rm_M_writes s m args below meth c (MQ below (vp_Si K) args s 0 0 (fun _ => False)) 1 t true 0 [(0, va_rf (some a0))] [] G := by
  unfold w_M_writes at hwp
  refine kw_aload_n (pc := 0) X d_M_writes_0 rfl 0 rfl ?_
  obtain ⟨f1, hwp⟩ := hwp
  refine kg_77 (a := a0) (pc := 1) X d_M_writes_1 x_997 rfl f1 ?_
  exact krp_i (pc := 4) X hret d_M_writes_4 hwp
set_option maxRecDepth 100000 in
set_option maxHeartbeats 4000000 in
theorem c_M_writes (l : Launch) (t : TY) (G : GS) (a0 : Nat) (K : Int32 → Prop) : Met l y_M_writes (Cond.code y_M_writes b_M_writes 1 (Option.some Jvm.ClassFile.FieldType.int) :: GW) rm_M_writes (va_Pc [.ref a0] (fun U => HB t G U.heap ∧ HK t U ∧ w_M_writes t G a0 K)) (vp_Si K) 0 0 (fun _ => False) := by
  refine Met.ofW (cc := b_M_writes) (maxL := 1) (ret := some .int) (by decide) rfl ?_
  intro p e s m args below meth c s₁ B hml hv
  obtain ⟨rfl, hB, hK, hwp⟩ := hv
  have hts := atoms_spec (ws := Cond.code y_M_writes b_M_writes 1 (Option.some Jvm.ClassFile.FieldType.int) :: GW) B.pre
  have X : kX p s m _ meth c b_M_writes 1 "TreeServerModel" t := ⟨B.exec, B.bytes, hml, findClass_of_methodNamed B.named, fun w h => hts w (List.mem_cons_of_mem _ h), B.notSynchronized, hK⟩
  have hZ : kZ t true s G s.heap [] := ⟨hB, va_S.rf, fun _ => ⟨rfl, rfl⟩⟩
  rw [lg_entry_eq]
  have hl := lv_entry ([.ref a0]) (n := 1) (by simp [lg_sl, rf_cat, cat_i, cat_l, cat_r])
  exact k_M_writes X B.returns hwp s.heap [] _ hl hZ
