/-- what is owed of feed: class and reference answer alike, and what held before holds behind -/
def Ob_feed (t : TY) (S M : Nat) (Inv : Nat → GS → Prop) : Prop := ∀ (j : Nat) (G : GS) (x0 : Int32) (x1 : Int64) (x2 : Int32), j + 5 ≤ 2560 → Inv j G → w_S_feed t G S x0 x1 x2 (fun G1 r1 => w_M_feed t G1 M x0 x1 x2 (fun G2 r2 => r1 = r2 ∧ Inv (j + 5) G2))
/-- what is owed of waiting: class and reference answer alike, and what held before holds behind -/
def Ob_waiting (t : TY) (S M : Nat) (Inv : Nat → GS → Prop) : Prop := ∀ (j : Nat) (G : GS) (x0 : Int32), j + 5 ≤ 2560 → Inv j G → w_S_waiting t G S x0 (fun r1 => w_M_waiting t G M x0 (fun r2 => r1 = r2))
/-- what is owed of take: class and reference answer alike, and what held before holds behind -/
def Ob_take (t : TY) (S M : Nat) (Inv : Nat → GS → Prop) : Prop := ∀ (j : Nat) (G : GS) (x0 : Int32), j + 5 ≤ 2560 → Inv j G → w_S_take t G S x0 (fun G1 r1 => w_M_take t G1 M x0 (fun G2 r2 => r1 = r2 ∧ Inv (j + 5) G2))
/-- what is owed of hangup: class and reference answer alike, and what held before holds behind -/
def Ob_hangup (t : TY) (S M : Nat) (Inv : Nat → GS → Prop) : Prop := ∀ (j : Nat) (G : GS) (x0 : Int32), j + 5 ≤ 2560 → Inv j G → w_S_hangup t G S x0 (fun G1 r1 => w_M_hangup t G1 M x0 (fun G2 r2 => r1 = r2 ∧ Inv (j + 5) G2))
/-- what is owed of status: class and reference answer alike, and what held before holds behind -/
def Ob_status (t : TY) (S M : Nat) (Inv : Nat → GS → Prop) : Prop := ∀ (j : Nat) (G : GS) (x0 : Int32), j + 5 ≤ 2560 → Inv j G → w_S_status t G S x0 (fun r1 => w_M_status t G M x0 (fun r2 => r1 = r2))
/-- what is owed of fids: class and reference answer alike, and what held before holds behind -/
def Ob_fids (t : TY) (S M : Nat) (Inv : Nat → GS → Prop) : Prop := ∀ (j : Nat) (G : GS) (x0 : Int32), j + 5 ≤ 2560 → Inv j G → w_S_fids t G S x0 (fun r1 => w_M_fids t G M x0 (fun r2 => r1 = r2))
/-- what is owed of clock: class and reference answer alike, and what held before holds behind -/
def Ob_clock (t : TY) (S M : Nat) (Inv : Nat → GS → Prop) : Prop := ∀ (j : Nat) (G : GS) (x0 : Int32), j + 5 ≤ 2560 → Inv j G → w_S_clock t G S x0 (fun G1 => w_M_clock t G1 M x0 (fun G2 => Inv (j + 5) G2))
/-- what is owed of cut: class and reference answer alike, and what held before holds behind -/
def Ob_cut (t : TY) (S M : Nat) (Inv : Nat → GS → Prop) : Prop := ∀ (j : Nat) (G : GS) (x0 : Int32), j + 5 ≤ 2560 → Inv j G → w_S_cut t G S x0 (fun G1 r1 => w_M_cut t G1 M x0 (fun G2 r2 => r1 = r2 ∧ Inv (j + 5) G2))
/-- what is owed of restart: class and reference answer alike, and what held before holds behind -/
def Ob_restart (t : TY) (S M : Nat) (Inv : Nat → GS → Prop) : Prop := ∀ (j : Nat) (G : GS), j + 5 ≤ 2560 → Inv j G → w_S_restart t G S (fun G1 r1 => w_M_restart t G1 M (fun G2 r2 => r1 = r2 ∧ Inv (j + 5) G2))
/-- what is owed of up: class and reference answer alike, and what held before holds behind -/
def Ob_up (t : TY) (S M : Nat) (Inv : Nat → GS → Prop) : Prop := ∀ (j : Nat) (G : GS), j + 5 ≤ 2560 → Inv j G → w_S_up t G S (fun r1 => w_M_up t G M (fun r2 => r1 = r2))
/-- what is owed of nodes: class and reference answer alike, and what held before holds behind -/
def Ob_nodes (t : TY) (S M : Nat) (Inv : Nat → GS → Prop) : Prop := ∀ (j : Nat) (G : GS), j + 5 ≤ 2560 → Inv j G → w_S_nodes t G S (fun r1 => w_M_nodes t G M (fun r2 => r1 = r2))
/-- what is owed of free: class and reference answer alike, and what held before holds behind -/
def Ob_free (t : TY) (S M : Nat) (Inv : Nat → GS → Prop) : Prop := ∀ (j : Nat) (G : GS), j + 5 ≤ 2560 → Inv j G → w_S_free t G S (fun r1 => w_M_free t G M (fun r2 => r1 = r2))
/-- what is owed of writes: class and reference answer alike, and what held before holds behind -/
def Ob_writes (t : TY) (S M : Nat) (Inv : Nat → GS → Prop) : Prop := ∀ (j : Nat) (G : GS), j + 5 ≤ 2560 → Inv j G → w_S_writes t G S (fun r1 => w_M_writes t G M (fun r2 => r1 = r2))
def Obl (t : TY) (S M : Nat) (Inv : Nat → GS → Prop) : Prop := (∀ j G, Inv j G → Inv (j + 5) G) ∧ Ob_feed t S M Inv ∧ Ob_waiting t S M Inv ∧ Ob_take t S M Inv ∧ Ob_hangup t S M Inv ∧ Ob_status t S M Inv ∧ Ob_fids t S M Inv ∧ Ob_clock t S M Inv ∧ Ob_cut t S M Inv ∧ Ob_restart t S M Inv ∧ Ob_up t S M Inv ∧ Ob_nodes t S M Inv ∧ Ob_free t S M Inv ∧ Ob_writes t S M Inv
theorem d_law_0 : decode code 0 = .ok (.new 7, 3) := by decide +kernel
theorem d_law_3 : decode code 3 = .ok (.dup, 1) := by decide +kernel
theorem d_law_4 : decode code 4 = .ok (.invokespecial 9, 3) := by decide +kernel
theorem d_law_7 : decode code 7 = .ok (.astore_n 1, 1) := by decide +kernel
theorem d_law_8 : decode code 8 = .ok (.new 10, 3) := by decide +kernel
theorem d_law_11 : decode code 11 = .ok (.dup, 1) := by decide +kernel
theorem d_law_12 : decode code 12 = .ok (.invokespecial 12, 3) := by decide +kernel
theorem d_law_15 : decode code 15 = .ok (.astore_n 2, 1) := by decide +kernel
theorem d_law_16 : decode code 16 = .ok (.iconst 0, 1) := by decide +kernel
theorem d_law_17 : decode code 17 = .ok (.istore_n 3, 1) := by decide +kernel
theorem d_law_18 : decode code 18 = .ok (.iload_n 3, 1) := by decide +kernel
theorem d_law_19 : decode code 19 = .ok (.aload_n 0, 1) := by decide +kernel
theorem d_law_20 : decode code 20 = .ok (.arraylength, 1) := by decide +kernel
theorem d_law_21 : decode code 21 = .ok (.iconst 5, 1) := by decide +kernel
theorem d_law_22 : decode code 22 = .ok (.isub, 1) := by decide +kernel
theorem d_law_23 : decode code 23 = .ok (.if_icmp .gt 381, 3) := by decide +kernel
theorem d_law_26 : decode code 26 = .ok (.aload_n 0, 1) := by decide +kernel
theorem d_law_27 : decode code 27 = .ok (.iload_n 3, 1) := by decide +kernel
theorem d_law_28 : decode code 28 = .ok (.iaload, 1) := by decide +kernel
theorem d_law_29 : decode code 29 = .ok (.bipush 15, 2) := by decide +kernel
theorem d_law_31 : decode code 31 = .ok (.iand, 1) := by decide +kernel
theorem d_law_32 : decode code 32 = .ok (.tableswitch 366 0 12 #[68, 141, 164, 188, 211, 234, 257, 278, 301, 314, 327, 340, 353], 68) := by decide +kernel
theorem d_law_100 : decode code 100 = .ok (.aload_n 1, 1) := by decide +kernel
theorem d_law_101 : decode code 101 = .ok (.aload_n 0, 1) := by decide +kernel
theorem d_law_102 : decode code 102 = .ok (.iload_n 3, 1) := by decide +kernel
theorem d_law_103 : decode code 103 = .ok (.iconst 1, 1) := by decide +kernel
theorem d_law_104 : decode code 104 = .ok (.iadd, 1) := by decide +kernel
theorem d_law_105 : decode code 105 = .ok (.iaload, 1) := by decide +kernel
theorem d_law_106 : decode code 106 = .ok (.aload_n 0, 1) := by decide +kernel
theorem d_law_107 : decode code 107 = .ok (.iload_n 3, 1) := by decide +kernel
theorem d_law_108 : decode code 108 = .ok (.iconst 2, 1) := by decide +kernel
theorem d_law_109 : decode code 109 = .ok (.iadd, 1) := by decide +kernel
theorem d_law_110 : decode code 110 = .ok (.iaload, 1) := by decide +kernel
theorem d_law_111 : decode code 111 = .ok (.i2l, 1) := by decide +kernel
theorem d_law_112 : decode code 112 = .ok (.bipush 32, 2) := by decide +kernel
theorem d_law_114 : decode code 114 = .ok (.lshl, 1) := by decide +kernel
theorem d_law_115 : decode code 115 = .ok (.aload_n 0, 1) := by decide +kernel
theorem d_law_116 : decode code 116 = .ok (.iload_n 3, 1) := by decide +kernel
theorem d_law_117 : decode code 117 = .ok (.iconst 3, 1) := by decide +kernel
theorem d_law_118 : decode code 118 = .ok (.iadd, 1) := by decide +kernel
theorem d_law_119 : decode code 119 = .ok (.iaload, 1) := by decide +kernel
theorem d_law_120 : decode code 120 = .ok (.i2l, 1) := by decide +kernel
theorem d_law_121 : decode code 121 = .ok (.ldc2_w 13, 3) := by decide +kernel
theorem d_law_124 : decode code 124 = .ok (.land, 1) := by decide +kernel
theorem d_law_125 : decode code 125 = .ok (.lor, 1) := by decide +kernel
theorem d_law_126 : decode code 126 = .ok (.aload_n 0, 1) := by decide +kernel
theorem d_law_127 : decode code 127 = .ok (.iload_n 3, 1) := by decide +kernel
theorem d_law_128 : decode code 128 = .ok (.iconst 4, 1) := by decide +kernel
theorem d_law_129 : decode code 129 = .ok (.iadd, 1) := by decide +kernel
theorem d_law_130 : decode code 130 = .ok (.iaload, 1) := by decide +kernel
theorem d_law_131 : decode code 131 = .ok (.invokevirtual 15, 3) := by decide +kernel
theorem d_law_134 : decode code 134 = .ok (.aload_n 2, 1) := by decide +kernel
theorem d_law_135 : decode code 135 = .ok (.aload_n 0, 1) := by decide +kernel
theorem d_law_136 : decode code 136 = .ok (.iload_n 3, 1) := by decide +kernel
theorem d_law_137 : decode code 137 = .ok (.iconst 1, 1) := by decide +kernel
theorem d_law_138 : decode code 138 = .ok (.iadd, 1) := by decide +kernel
theorem d_law_139 : decode code 139 = .ok (.iaload, 1) := by decide +kernel
theorem d_law_140 : decode code 140 = .ok (.aload_n 0, 1) := by decide +kernel
theorem d_law_141 : decode code 141 = .ok (.iload_n 3, 1) := by decide +kernel
theorem d_law_142 : decode code 142 = .ok (.iconst 2, 1) := by decide +kernel
theorem d_law_143 : decode code 143 = .ok (.iadd, 1) := by decide +kernel
theorem d_law_144 : decode code 144 = .ok (.iaload, 1) := by decide +kernel
theorem d_law_145 : decode code 145 = .ok (.i2l, 1) := by decide +kernel
theorem d_law_146 : decode code 146 = .ok (.bipush 32, 2) := by decide +kernel
theorem d_law_148 : decode code 148 = .ok (.lshl, 1) := by decide +kernel
theorem d_law_149 : decode code 149 = .ok (.aload_n 0, 1) := by decide +kernel
theorem d_law_150 : decode code 150 = .ok (.iload_n 3, 1) := by decide +kernel
theorem d_law_151 : decode code 151 = .ok (.iconst 3, 1) := by decide +kernel
theorem d_law_152 : decode code 152 = .ok (.iadd, 1) := by decide +kernel
theorem d_law_153 : decode code 153 = .ok (.iaload, 1) := by decide +kernel
theorem d_law_154 : decode code 154 = .ok (.i2l, 1) := by decide +kernel
theorem d_law_155 : decode code 155 = .ok (.ldc2_w 13, 3) := by decide +kernel
theorem d_law_158 : decode code 158 = .ok (.land, 1) := by decide +kernel
theorem d_law_159 : decode code 159 = .ok (.lor, 1) := by decide +kernel
theorem d_law_160 : decode code 160 = .ok (.aload_n 0, 1) := by decide +kernel
theorem d_law_161 : decode code 161 = .ok (.iload_n 3, 1) := by decide +kernel
theorem d_law_162 : decode code 162 = .ok (.iconst 4, 1) := by decide +kernel
theorem d_law_163 : decode code 163 = .ok (.iadd, 1) := by decide +kernel
theorem d_law_164 : decode code 164 = .ok (.iaload, 1) := by decide +kernel
theorem d_law_165 : decode code 165 = .ok (.invokevirtual 19, 3) := by decide +kernel
theorem d_law_168 : decode code 168 = .ok (.if_icmp .eq 230, 3) := by decide +kernel
theorem d_law_171 : decode code 171 = .ok (.iconst 0, 1) := by decide +kernel
theorem d_law_172 : decode code 172 = .ok (.ireturn, 1) := by decide +kernel
theorem d_law_173 : decode code 173 = .ok (.aload_n 1, 1) := by decide +kernel
theorem d_law_174 : decode code 174 = .ok (.aload_n 0, 1) := by decide +kernel
theorem d_law_175 : decode code 175 = .ok (.iload_n 3, 1) := by decide +kernel
theorem d_law_176 : decode code 176 = .ok (.iconst 1, 1) := by decide +kernel
theorem d_law_177 : decode code 177 = .ok (.iadd, 1) := by decide +kernel
theorem d_law_178 : decode code 178 = .ok (.iaload, 1) := by decide +kernel
theorem d_law_179 : decode code 179 = .ok (.invokevirtual 20, 3) := by decide +kernel
theorem d_law_182 : decode code 182 = .ok (.aload_n 2, 1) := by decide +kernel
theorem d_law_183 : decode code 183 = .ok (.aload_n 0, 1) := by decide +kernel
theorem d_law_184 : decode code 184 = .ok (.iload_n 3, 1) := by decide +kernel
theorem d_law_185 : decode code 185 = .ok (.iconst 1, 1) := by decide +kernel
theorem d_law_186 : decode code 186 = .ok (.iadd, 1) := by decide +kernel
theorem d_law_187 : decode code 187 = .ok (.iaload, 1) := by decide +kernel
theorem d_law_188 : decode code 188 = .ok (.invokevirtual 24, 3) := by decide +kernel
theorem d_law_191 : decode code 191 = .ok (.if_icmp .eq 207, 3) := by decide +kernel
theorem d_law_194 : decode code 194 = .ok (.iconst 0, 1) := by decide +kernel
theorem d_law_195 : decode code 195 = .ok (.ireturn, 1) := by decide +kernel
theorem d_law_196 : decode code 196 = .ok (.aload_n 1, 1) := by decide +kernel
theorem d_law_197 : decode code 197 = .ok (.aload_n 0, 1) := by decide +kernel
theorem d_law_198 : decode code 198 = .ok (.iload_n 3, 1) := by decide +kernel
theorem d_law_199 : decode code 199 = .ok (.iconst 1, 1) := by decide +kernel
theorem d_law_200 : decode code 200 = .ok (.iadd, 1) := by decide +kernel
theorem d_law_201 : decode code 201 = .ok (.iaload, 1) := by decide +kernel
theorem d_law_202 : decode code 202 = .ok (.invokevirtual 25, 3) := by decide +kernel
theorem d_law_205 : decode code 205 = .ok (.aload_n 2, 1) := by decide +kernel
theorem d_law_206 : decode code 206 = .ok (.aload_n 0, 1) := by decide +kernel
theorem d_law_207 : decode code 207 = .ok (.iload_n 3, 1) := by decide +kernel
theorem d_law_208 : decode code 208 = .ok (.iconst 1, 1) := by decide +kernel
theorem d_law_209 : decode code 209 = .ok (.iadd, 1) := by decide +kernel
theorem d_law_210 : decode code 210 = .ok (.iaload, 1) := by decide +kernel
theorem d_law_211 : decode code 211 = .ok (.invokevirtual 29, 3) := by decide +kernel
theorem d_law_214 : decode code 214 = .ok (.lcmp, 1) := by decide +kernel
theorem d_law_215 : decode code 215 = .ok (.ifCond .eq 183, 3) := by decide +kernel
theorem d_law_218 : decode code 218 = .ok (.iconst 0, 1) := by decide +kernel
theorem d_law_219 : decode code 219 = .ok (.ireturn, 1) := by decide +kernel
theorem d_law_220 : decode code 220 = .ok (.aload_n 1, 1) := by decide +kernel
theorem d_law_221 : decode code 221 = .ok (.aload_n 0, 1) := by decide +kernel
theorem d_law_222 : decode code 222 = .ok (.iload_n 3, 1) := by decide +kernel
theorem d_law_223 : decode code 223 = .ok (.iconst 1, 1) := by decide +kernel
theorem d_law_224 : decode code 224 = .ok (.iadd, 1) := by decide +kernel
theorem d_law_225 : decode code 225 = .ok (.iaload, 1) := by decide +kernel
theorem d_law_226 : decode code 226 = .ok (.invokevirtual 30, 3) := by decide +kernel
theorem d_law_229 : decode code 229 = .ok (.aload_n 2, 1) := by decide +kernel
theorem d_law_230 : decode code 230 = .ok (.aload_n 0, 1) := by decide +kernel
theorem d_law_231 : decode code 231 = .ok (.iload_n 3, 1) := by decide +kernel
theorem d_law_232 : decode code 232 = .ok (.iconst 1, 1) := by decide +kernel
theorem d_law_233 : decode code 233 = .ok (.iadd, 1) := by decide +kernel
theorem d_law_234 : decode code 234 = .ok (.iaload, 1) := by decide +kernel
theorem d_law_235 : decode code 235 = .ok (.invokevirtual 34, 3) := by decide +kernel
theorem d_law_238 : decode code 238 = .ok (.if_icmp .eq 160, 3) := by decide +kernel
theorem d_law_241 : decode code 241 = .ok (.iconst 0, 1) := by decide +kernel
theorem d_law_242 : decode code 242 = .ok (.ireturn, 1) := by decide +kernel
theorem d_law_243 : decode code 243 = .ok (.aload_n 1, 1) := by decide +kernel
theorem d_law_244 : decode code 244 = .ok (.aload_n 0, 1) := by decide +kernel
theorem d_law_245 : decode code 245 = .ok (.iload_n 3, 1) := by decide +kernel
theorem d_law_246 : decode code 246 = .ok (.iconst 1, 1) := by decide +kernel
theorem d_law_247 : decode code 247 = .ok (.iadd, 1) := by decide +kernel
theorem d_law_248 : decode code 248 = .ok (.iaload, 1) := by decide +kernel
theorem d_law_249 : decode code 249 = .ok (.invokevirtual 35, 3) := by decide +kernel
theorem d_law_252 : decode code 252 = .ok (.aload_n 2, 1) := by decide +kernel
theorem d_law_253 : decode code 253 = .ok (.aload_n 0, 1) := by decide +kernel
theorem d_law_254 : decode code 254 = .ok (.iload_n 3, 1) := by decide +kernel
theorem d_law_255 : decode code 255 = .ok (.iconst 1, 1) := by decide +kernel
theorem d_law_256 : decode code 256 = .ok (.iadd, 1) := by decide +kernel
theorem d_law_257 : decode code 257 = .ok (.iaload, 1) := by decide +kernel
theorem d_law_258 : decode code 258 = .ok (.invokevirtual 38, 3) := by decide +kernel
theorem d_law_261 : decode code 261 = .ok (.if_icmp .eq 137, 3) := by decide +kernel
theorem d_law_264 : decode code 264 = .ok (.iconst 0, 1) := by decide +kernel
theorem d_law_265 : decode code 265 = .ok (.ireturn, 1) := by decide +kernel
theorem d_law_266 : decode code 266 = .ok (.aload_n 1, 1) := by decide +kernel
theorem d_law_267 : decode code 267 = .ok (.aload_n 0, 1) := by decide +kernel
theorem d_law_268 : decode code 268 = .ok (.iload_n 3, 1) := by decide +kernel
theorem d_law_269 : decode code 269 = .ok (.iconst 1, 1) := by decide +kernel
theorem d_law_270 : decode code 270 = .ok (.iadd, 1) := by decide +kernel
theorem d_law_271 : decode code 271 = .ok (.iaload, 1) := by decide +kernel
theorem d_law_272 : decode code 272 = .ok (.invokevirtual 39, 3) := by decide +kernel
theorem d_law_275 : decode code 275 = .ok (.aload_n 2, 1) := by decide +kernel
theorem d_law_276 : decode code 276 = .ok (.aload_n 0, 1) := by decide +kernel
theorem d_law_277 : decode code 277 = .ok (.iload_n 3, 1) := by decide +kernel
theorem d_law_278 : decode code 278 = .ok (.iconst 1, 1) := by decide +kernel
theorem d_law_279 : decode code 279 = .ok (.iadd, 1) := by decide +kernel
theorem d_law_280 : decode code 280 = .ok (.iaload, 1) := by decide +kernel
theorem d_law_281 : decode code 281 = .ok (.invokevirtual 42, 3) := by decide +kernel
theorem d_law_284 : decode code 284 = .ok (.if_icmp .eq 114, 3) := by decide +kernel
theorem d_law_287 : decode code 287 = .ok (.iconst 0, 1) := by decide +kernel
theorem d_law_288 : decode code 288 = .ok (.ireturn, 1) := by decide +kernel
theorem d_law_289 : decode code 289 = .ok (.aload_n 1, 1) := by decide +kernel
theorem d_law_290 : decode code 290 = .ok (.aload_n 0, 1) := by decide +kernel
theorem d_law_291 : decode code 291 = .ok (.iload_n 3, 1) := by decide +kernel
theorem d_law_292 : decode code 292 = .ok (.iconst 1, 1) := by decide +kernel
theorem d_law_293 : decode code 293 = .ok (.iadd, 1) := by decide +kernel
theorem d_law_294 : decode code 294 = .ok (.iaload, 1) := by decide +kernel
theorem d_law_295 : decode code 295 = .ok (.invokevirtual 43, 3) := by decide +kernel
theorem d_law_298 : decode code 298 = .ok (.aload_n 2, 1) := by decide +kernel
theorem d_law_299 : decode code 299 = .ok (.aload_n 0, 1) := by decide +kernel
theorem d_law_300 : decode code 300 = .ok (.iload_n 3, 1) := by decide +kernel
theorem d_law_301 : decode code 301 = .ok (.iconst 1, 1) := by decide +kernel
theorem d_law_302 : decode code 302 = .ok (.iadd, 1) := by decide +kernel
theorem d_law_303 : decode code 303 = .ok (.iaload, 1) := by decide +kernel
theorem d_law_304 : decode code 304 = .ok (.invokevirtual 47, 3) := by decide +kernel
theorem d_law_307 : decode code 307 = .ok (.goto 91, 3) := by decide +kernel
theorem d_law_310 : decode code 310 = .ok (.aload_n 1, 1) := by decide +kernel
theorem d_law_311 : decode code 311 = .ok (.aload_n 0, 1) := by decide +kernel
theorem d_law_312 : decode code 312 = .ok (.iload_n 3, 1) := by decide +kernel
theorem d_law_313 : decode code 313 = .ok (.iconst 1, 1) := by decide +kernel
theorem d_law_314 : decode code 314 = .ok (.iadd, 1) := by decide +kernel
theorem d_law_315 : decode code 315 = .ok (.iaload, 1) := by decide +kernel
theorem d_law_316 : decode code 316 = .ok (.invokevirtual 48, 3) := by decide +kernel
theorem d_law_319 : decode code 319 = .ok (.aload_n 2, 1) := by decide +kernel
theorem d_law_320 : decode code 320 = .ok (.aload_n 0, 1) := by decide +kernel
theorem d_law_321 : decode code 321 = .ok (.iload_n 3, 1) := by decide +kernel
theorem d_law_322 : decode code 322 = .ok (.iconst 1, 1) := by decide +kernel
theorem d_law_323 : decode code 323 = .ok (.iadd, 1) := by decide +kernel
theorem d_law_324 : decode code 324 = .ok (.iaload, 1) := by decide +kernel
theorem d_law_325 : decode code 325 = .ok (.invokevirtual 51, 3) := by decide +kernel
theorem d_law_328 : decode code 328 = .ok (.if_icmp .eq 70, 3) := by decide +kernel
theorem d_law_331 : decode code 331 = .ok (.iconst 0, 1) := by decide +kernel
theorem d_law_332 : decode code 332 = .ok (.ireturn, 1) := by decide +kernel
theorem d_law_333 : decode code 333 = .ok (.aload_n 1, 1) := by decide +kernel
theorem d_law_334 : decode code 334 = .ok (.invokevirtual 52, 3) := by decide +kernel
theorem d_law_337 : decode code 337 = .ok (.aload_n 2, 1) := by decide +kernel
theorem d_law_338 : decode code 338 = .ok (.invokevirtual 56, 3) := by decide +kernel
theorem d_law_341 : decode code 341 = .ok (.if_icmp .eq 57, 3) := by decide +kernel
theorem d_law_344 : decode code 344 = .ok (.iconst 0, 1) := by decide +kernel
theorem d_law_345 : decode code 345 = .ok (.ireturn, 1) := by decide +kernel
theorem d_law_346 : decode code 346 = .ok (.aload_n 1, 1) := by decide +kernel
theorem d_law_347 : decode code 347 = .ok (.invokevirtual 57, 3) := by decide +kernel
theorem d_law_350 : decode code 350 = .ok (.aload_n 2, 1) := by decide +kernel
theorem d_law_351 : decode code 351 = .ok (.invokevirtual 60, 3) := by decide +kernel
theorem d_law_354 : decode code 354 = .ok (.if_icmp .eq 44, 3) := by decide +kernel
theorem d_law_357 : decode code 357 = .ok (.iconst 0, 1) := by decide +kernel
theorem d_law_358 : decode code 358 = .ok (.ireturn, 1) := by decide +kernel
theorem d_law_359 : decode code 359 = .ok (.aload_n 1, 1) := by decide +kernel
theorem d_law_360 : decode code 360 = .ok (.invokevirtual 61, 3) := by decide +kernel
theorem d_law_363 : decode code 363 = .ok (.aload_n 2, 1) := by decide +kernel
theorem d_law_364 : decode code 364 = .ok (.invokevirtual 65, 3) := by decide +kernel
theorem d_law_367 : decode code 367 = .ok (.if_icmp .eq 31, 3) := by decide +kernel
theorem d_law_370 : decode code 370 = .ok (.iconst 0, 1) := by decide +kernel
theorem d_law_371 : decode code 371 = .ok (.ireturn, 1) := by decide +kernel
theorem d_law_372 : decode code 372 = .ok (.aload_n 1, 1) := by decide +kernel
theorem d_law_373 : decode code 373 = .ok (.invokevirtual 66, 3) := by decide +kernel
theorem d_law_376 : decode code 376 = .ok (.aload_n 2, 1) := by decide +kernel
theorem d_law_377 : decode code 377 = .ok (.invokevirtual 69, 3) := by decide +kernel
theorem d_law_380 : decode code 380 = .ok (.if_icmp .eq 18, 3) := by decide +kernel
theorem d_law_383 : decode code 383 = .ok (.iconst 0, 1) := by decide +kernel
theorem d_law_384 : decode code 384 = .ok (.ireturn, 1) := by decide +kernel
theorem d_law_385 : decode code 385 = .ok (.aload_n 1, 1) := by decide +kernel
theorem d_law_386 : decode code 386 = .ok (.invokevirtual 70, 3) := by decide +kernel
theorem d_law_389 : decode code 389 = .ok (.aload_n 2, 1) := by decide +kernel
theorem d_law_390 : decode code 390 = .ok (.invokevirtual 73, 3) := by decide +kernel
theorem d_law_393 : decode code 393 = .ok (.if_icmp .eq 5, 3) := by decide +kernel
theorem d_law_396 : decode code 396 = .ok (.iconst 0, 1) := by decide +kernel
theorem d_law_397 : decode code 397 = .ok (.ireturn, 1) := by decide +kernel
theorem d_law_398 : decode code 398 = .ok (.iinc 3 5, 3) := by decide +kernel
theorem d_law_401 : decode code 401 = .ok (.goto (-383), 3) := by decide +kernel
theorem d_law_404 : decode code 404 = .ok (.iconst 1, 1) := by decide +kernel
theorem d_law_405 : decode code 405 = .ok (.ireturn, 1) := by decide +kernel
section LAW
variable {p : Program} {l : Launch} {e : Env} {s : State} {m : MethodId} {args : Array Value} {below : List Frame} {meth : Method} {c : Code} {Q : State → Prop} {R : Room}
variable {cc : ByteArray} {nL : Nat} {own : String} {t : TY} {pu : Bool} {G : GS} {pc : Nat} {lv : List (Nat × Value)} {rest : List Value} {cs : Nat × Nat} {b L : Nat} {xs : Nat → Int32}
theorem q_sld {i : Int32} (X : kX p s m args meth c cc nL own t) (hX : va_X b L xs s s.heap) (hb : b < s.heap.size) (hA : ¬ tA t b) (hd : decode cc pc = .ok (.iaload, 1)) (hin : vp_in i L) (k : kV cs p l e R s m args below meth c Q nL t pu (pc + 1) lv (.int (xs i.toNatClampNeg) :: rest) G) : kV cs p l e R s m args below meth c Q nL t pu pc lv (.int i :: va_rf (some b) :: rest) G := fun H locs ls hl hz => va_sld X.1 X.2.1 hX hb hA hz.2.1 hin hd (k H locs ls hl hz)
theorem q_slen (X : kX p s m args meth c cc nL own t) (hX : va_X b L xs s s.heap) (hb : b < s.heap.size) (hA : ¬ tA t b) (hd : decode cc pc = .ok (.arraylength, 1)) (k : kV cs p l e R s m args below meth c Q nL t pu (pc + 1) lv (.int (nI L) :: rest) G) : kV cs p l e R s m args below meth c Q nL t pu pc lv (va_rf (some b) :: rest) G := fun H locs ls hl hz => va_slen X.1 X.2.1 hX hb hA hz.2.1 hd (k H locs ls hl hz)
theorem s_in {j d : Nat} (h : j + d < L) (hL : L ≤ 2560) : vp_in (nI j + nI d) L := by rw [nI_add]; exact vp_in_nI h (by omega)
set_option maxRecDepth 100000 in
set_option maxHeartbeats 4000000 in
theorem k_law_feed {S M j : Nat} (X : kX p s m #[Value.ref b] meth c code 4 "TreeServerLaw" t) (hcs : cs.1 ≤ 600000 ∧ cs.2 ≤ 7302250) (hX : va_X b L xs s s.heap) (hb : b < s.heap.size) (hA : ¬ tA t b) (hS : tk t S = 9) (hM : tk t M = 10) {Inv : Nat → GS → Prop} (hj : j + 5 ≤ L) (hL : L ≤ 2560) (hI : Inv j G) (Om : ∀ j G, Inv j G → Inv (j + 5) G) (Ob : Ob_feed t S M Inv) (hk : ∀ G : GS, Inv (j + 5) G → kV cs p l e room_1 s m #[Value.ref b] below meth c (lw_Z below #[Value.ref b] s) 4 t false 398 [(0, va_rf (some b)), (1, va_rf (some S)), (2, va_rf (some M)), (3, .int (nI j))] [] G) : kV cs p l e room_1 s m #[Value.ref b] below meth c (lw_Z below #[Value.ref b] s) 4 t false 100 [(0, va_rf (some b)), (1, va_rf (some S)), (2, va_rf (some M)), (3, .int (nI j))] [] G := by
  refine qw_aload_n (pc := 100) X d_law_100 rfl 1 rfl ?_
  refine qw_aload_n (pc := 101) X d_law_101 rfl 0 rfl ?_
  refine qw_iload_n (pc := 102) X d_law_102 rfl 3 rfl ?_
  refine qw_iconst (v := nI 1) (pc := 103) X d_law_103 rfl ?_
  refine qw_iadd (pc := 104) X d_law_104 ?_
  refine q_sld (pc := 105) X hX hb hA d_law_105 (s_in (by omega) hL) ?_
  refine qw_aload_n (pc := 106) X d_law_106 rfl 0 rfl ?_
  refine qw_iload_n (pc := 107) X d_law_107 rfl 3 rfl ?_
  refine qw_iconst (v := nI 2) (pc := 108) X d_law_108 rfl ?_
  refine qw_iadd (pc := 109) X d_law_109 ?_
  refine q_sld (pc := 110) X hX hb hA d_law_110 (s_in (by omega) hL) ?_
  refine qw_i2l (pc := 111) X d_law_111 ?_
  refine qw_bipush (v := 32) (pc := 112) X d_law_112 (by decide) ?_
  refine qw_lshl (pc := 114) X d_law_114 ?_
  refine qw_aload_n (pc := 115) X d_law_115 rfl 0 rfl ?_
  refine qw_iload_n (pc := 116) X d_law_116 rfl 3 rfl ?_
  refine qw_iconst (v := nI 3) (pc := 117) X d_law_117 rfl ?_
  refine qw_iadd (pc := 118) X d_law_118 ?_
  refine q_sld (pc := 119) X hX hb hA d_law_119 (s_in (by omega) hL) ?_
  refine qw_i2l (pc := 120) X d_law_120 ?_
  refine qw_ldc2 (v := 4294967295) (pc := 121) X d_law_121 x_1421 ?_
  refine qw_land (pc := 124) X d_law_124 ?_
  refine qw_lor (pc := 125) X d_law_125 ?_
  refine qw_aload_n (pc := 126) X d_law_126 rfl 0 rfl ?_
  refine qw_iload_n (pc := 127) X d_law_127 rfl 3 rfl ?_
  refine qw_iconst (v := nI 4) (pc := 128) X d_law_128 rfl ?_
  refine qw_iadd (pc := 129) X d_law_129 ?_
  refine q_sld (pc := 130) X hX hb hA d_law_130 (s_in (by omega) hL) ?_
  have hwp := Ob j G (xs ((nI j) + (nI 1)).toNatClampNeg) (((xs ((nI j) + (nI 2)).toNatClampNeg).toInt64 <<< ((32 : Int32).toInt64 &&& 63)) ||| ((xs ((nI j) + (nI 3)).toNatClampNeg).toInt64 &&& (4294967295 : Int64))) (xs ((nI j) + (nI 4)).toNatClampNeg) (by omega) hI
  refine kV.st (st' := [.int (xs ((nI j) + (nI 4)).toNatClampNeg), .long (((xs ((nI j) + (nI 2)).toNatClampNeg).toInt64 <<< ((32 : Int32).toInt64 &&& 63)) ||| ((xs ((nI j) + (nI 3)).toNatClampNeg).toInt64 &&& (4294967295 : Int64))), .int (xs ((nI j) + (nI 1)).toNatClampNeg), .ref S]) rfl ?_
  refine qcV_i (n := 3) (As := [.int (xs ((nI j) + (nI 1)).toNatClampNeg), .long (((xs ((nI j) + (nI 2)).toNatClampNeg).toInt64 <<< ((32 : Int32).toInt64 &&& 63)) ||| ((xs ((nI j) + (nI 3)).toNatClampNeg).toInt64 &&& (4294967295 : Int64))), .int (xs ((nI j) + (nI 4)).toNatClampNeg)]) (rest := []) (pc := 131) X hcs rfl (c_S_feed l t G S (xs ((nI j) + (nI 1)).toNatClampNeg) (((xs ((nI j) + (nI 2)).toNatClampNeg).toInt64 <<< ((32 : Int32).toInt64 &&& 63)) ||| ((xs ((nI j) + (nI 3)).toNatClampNeg).toInt64 &&& (4294967295 : Int64))) (xs ((nI j) + (nI 4)).toNatClampNeg) _) (cwV_of (C := "TreeServer") X x_389 x_386 x_387 x_388 x_1 (by decide +kernel) ⟨rfl, rfl⟩ (by decide)) (rv_9 X hS) rfl rfl (by decide) d_law_131 hwp (fun r1 G1 hwp => ?_)
  obtain ⟨b_1, hwp⟩ := hwp
  refine qw_aload_n (pc := 134) X d_law_134 rfl 2 rfl ?_
  refine qw_aload_n (pc := 135) X d_law_135 rfl 0 rfl ?_
  refine qw_iload_n (pc := 136) X d_law_136 rfl 3 rfl ?_
  refine qw_iconst (v := nI 1) (pc := 137) X d_law_137 rfl ?_
  refine qw_iadd (pc := 138) X d_law_138 ?_
  refine q_sld (pc := 139) X hX hb hA d_law_139 (s_in (by omega) hL) ?_
  refine qw_aload_n (pc := 140) X d_law_140 rfl 0 rfl ?_
  refine qw_iload_n (pc := 141) X d_law_141 rfl 3 rfl ?_
  refine qw_iconst (v := nI 2) (pc := 142) X d_law_142 rfl ?_
  refine qw_iadd (pc := 143) X d_law_143 ?_
  refine q_sld (pc := 144) X hX hb hA d_law_144 (s_in (by omega) hL) ?_
  refine qw_i2l (pc := 145) X d_law_145 ?_
  refine qw_bipush (v := 32) (pc := 146) X d_law_146 (by decide) ?_
  refine qw_lshl (pc := 148) X d_law_148 ?_
  refine qw_aload_n (pc := 149) X d_law_149 rfl 0 rfl ?_
  refine qw_iload_n (pc := 150) X d_law_150 rfl 3 rfl ?_
  refine qw_iconst (v := nI 3) (pc := 151) X d_law_151 rfl ?_
  refine qw_iadd (pc := 152) X d_law_152 ?_
  refine q_sld (pc := 153) X hX hb hA d_law_153 (s_in (by omega) hL) ?_
  refine qw_i2l (pc := 154) X d_law_154 ?_
  refine qw_ldc2 (v := 4294967295) (pc := 155) X d_law_155 x_1421 ?_
  refine qw_land (pc := 158) X d_law_158 ?_
  refine qw_lor (pc := 159) X d_law_159 ?_
  refine qw_aload_n (pc := 160) X d_law_160 rfl 0 rfl ?_
  refine qw_iload_n (pc := 161) X d_law_161 rfl 3 rfl ?_
  refine qw_iconst (v := nI 4) (pc := 162) X d_law_162 rfl ?_
  refine qw_iadd (pc := 163) X d_law_163 ?_
  refine q_sld (pc := 164) X hX hb hA d_law_164 (s_in (by omega) hL) ?_
  refine kV.st (st' := [.int (xs ((nI j) + (nI 4)).toNatClampNeg), .long (((xs ((nI j) + (nI 2)).toNatClampNeg).toInt64 <<< ((32 : Int32).toInt64 &&& 63)) ||| ((xs ((nI j) + (nI 3)).toNatClampNeg).toInt64 &&& (4294967295 : Int64))), .int (xs ((nI j) + (nI 1)).toNatClampNeg), .ref M, .int r1]) rfl ?_
  refine qcV_i (n := 3) (As := [.int (xs ((nI j) + (nI 1)).toNatClampNeg), .long (((xs ((nI j) + (nI 2)).toNatClampNeg).toInt64 <<< ((32 : Int32).toInt64 &&& 63)) ||| ((xs ((nI j) + (nI 3)).toNatClampNeg).toInt64 &&& (4294967295 : Int64))), .int (xs ((nI j) + (nI 4)).toNatClampNeg)]) (rest := [.int r1]) (pc := 165) X hcs rfl (c_M_feed l t G1 M (xs ((nI j) + (nI 1)).toNatClampNeg) (((xs ((nI j) + (nI 2)).toNatClampNeg).toInt64 <<< ((32 : Int32).toInt64 &&& 63)) ||| ((xs ((nI j) + (nI 3)).toNatClampNeg).toInt64 &&& (4294967295 : Int64))) (xs ((nI j) + (nI 4)).toNatClampNeg) _) (cwV_of (C := "TreeServerModel") X x_1086 x_1083 x_1084 x_1085 x_13 (by decide +kernel) ⟨rfl, rfl⟩ (by decide)) (rv_10 X hM) rfl rfl (by simp [rf_cat, cat_i, cat_l, cat_r]) d_law_165 hwp (fun r2 G2 hwp => ?_)
  obtain ⟨b_2, hwp⟩ := hwp
  exact qw_icmp_eq (tgt := 398) (pc := 168) X d_law_168 (by decide) (fun _ => hk G2 hwp.2) (fun h => absurd hwp.1 h)
set_option maxRecDepth 100000 in
set_option maxHeartbeats 4000000 in
theorem k_law_waiting {S M j : Nat} (X : kX p s m #[Value.ref b] meth c code 4 "TreeServerLaw" t) (hcs : cs.1 ≤ 600000 ∧ cs.2 ≤ 7302250) (hX : va_X b L xs s s.heap) (hb : b < s.heap.size) (hA : ¬ tA t b) (hS : tk t S = 9) (hM : tk t M = 10) {Inv : Nat → GS → Prop} (hj : j + 5 ≤ L) (hL : L ≤ 2560) (hI : Inv j G) (Om : ∀ j G, Inv j G → Inv (j + 5) G) (Ob : Ob_waiting t S M Inv) (hk : ∀ G : GS, Inv (j + 5) G → kV cs p l e room_1 s m #[Value.ref b] below meth c (lw_Z below #[Value.ref b] s) 4 t false 398 [(0, va_rf (some b)), (1, va_rf (some S)), (2, va_rf (some M)), (3, .int (nI j))] [] G) : kV cs p l e room_1 s m #[Value.ref b] below meth c (lw_Z below #[Value.ref b] s) 4 t false 173 [(0, va_rf (some b)), (1, va_rf (some S)), (2, va_rf (some M)), (3, .int (nI j))] [] G := by
  refine qw_aload_n (pc := 173) X d_law_173 rfl 1 rfl ?_
  refine qw_aload_n (pc := 174) X d_law_174 rfl 0 rfl ?_
  refine qw_iload_n (pc := 175) X d_law_175 rfl 3 rfl ?_
  refine qw_iconst (v := nI 1) (pc := 176) X d_law_176 rfl ?_
  refine qw_iadd (pc := 177) X d_law_177 ?_
  refine q_sld (pc := 178) X hX hb hA d_law_178 (s_in (by omega) hL) ?_
  have hwp := Ob j G (xs ((nI j) + (nI 1)).toNatClampNeg) (by omega) hI
  refine kV.st (st' := [.int (xs ((nI j) + (nI 1)).toNatClampNeg), .ref S]) rfl ?_
  refine qcVp_i (n := 1) (As := [.int (xs ((nI j) + (nI 1)).toNatClampNeg)]) (rest := []) (pc := 179) X hcs (c_S_waiting l t G S (xs ((nI j) + (nI 1)).toNatClampNeg) _) (cwV_of (C := "TreeServer") X x_920 x_917 x_918 x_919 x_1 (by decide +kernel) ⟨rfl, rfl⟩ (by decide)) (rv_9 X hS) rfl rfl (by decide) d_law_179 hwp (fun r1 hwp => ?_)
  refine qw_aload_n (pc := 182) X d_law_182 rfl 2 rfl ?_
  refine qw_aload_n (pc := 183) X d_law_183 rfl 0 rfl ?_
  refine qw_iload_n (pc := 184) X d_law_184 rfl 3 rfl ?_
  refine qw_iconst (v := nI 1) (pc := 185) X d_law_185 rfl ?_
  refine qw_iadd (pc := 186) X d_law_186 ?_
  refine q_sld (pc := 187) X hX hb hA d_law_187 (s_in (by omega) hL) ?_
  refine kV.st (st' := [.int (xs ((nI j) + (nI 1)).toNatClampNeg), .ref M, .int r1]) rfl ?_
  refine qcVp_i (n := 1) (As := [.int (xs ((nI j) + (nI 1)).toNatClampNeg)]) (rest := [.int r1]) (pc := 188) X hcs (c_M_waiting l t G M (xs ((nI j) + (nI 1)).toNatClampNeg) _) (cwV_of (C := "TreeServerModel") X x_1372 x_1369 x_1370 x_1371 x_13 (by decide +kernel) ⟨rfl, rfl⟩ (by decide)) (rv_10 X hM) rfl rfl (by simp [rf_cat, cat_i, cat_l, cat_r]) d_law_188 hwp (fun r2 hwp => ?_)
  exact qw_icmp_eq (tgt := 398) (pc := 191) X d_law_191 (by decide) (fun _ => hk G (Om j G hI)) (fun h => absurd hwp h)
set_option maxRecDepth 100000 in
set_option maxHeartbeats 4000000 in
theorem k_law_take {S M j : Nat} (X : kX p s m #[Value.ref b] meth c code 4 "TreeServerLaw" t) (hcs : cs.1 ≤ 600000 ∧ cs.2 ≤ 7302250) (hX : va_X b L xs s s.heap) (hb : b < s.heap.size) (hA : ¬ tA t b) (hS : tk t S = 9) (hM : tk t M = 10) {Inv : Nat → GS → Prop} (hj : j + 5 ≤ L) (hL : L ≤ 2560) (hI : Inv j G) (Om : ∀ j G, Inv j G → Inv (j + 5) G) (Ob : Ob_take t S M Inv) (hk : ∀ G : GS, Inv (j + 5) G → kV cs p l e room_1 s m #[Value.ref b] below meth c (lw_Z below #[Value.ref b] s) 4 t false 398 [(0, va_rf (some b)), (1, va_rf (some S)), (2, va_rf (some M)), (3, .int (nI j))] [] G) : kV cs p l e room_1 s m #[Value.ref b] below meth c (lw_Z below #[Value.ref b] s) 4 t false 196 [(0, va_rf (some b)), (1, va_rf (some S)), (2, va_rf (some M)), (3, .int (nI j))] [] G := by
  refine qw_aload_n (pc := 196) X d_law_196 rfl 1 rfl ?_
  refine qw_aload_n (pc := 197) X d_law_197 rfl 0 rfl ?_
  refine qw_iload_n (pc := 198) X d_law_198 rfl 3 rfl ?_
  refine qw_iconst (v := nI 1) (pc := 199) X d_law_199 rfl ?_
  refine qw_iadd (pc := 200) X d_law_200 ?_
  refine q_sld (pc := 201) X hX hb hA d_law_201 (s_in (by omega) hL) ?_
  have hwp := Ob j G (xs ((nI j) + (nI 1)).toNatClampNeg) (by omega) hI
  refine kV.st (st' := [.int (xs ((nI j) + (nI 1)).toNatClampNeg), .ref S]) rfl ?_
  refine qcV_l (n := 1) (As := [.int (xs ((nI j) + (nI 1)).toNatClampNeg)]) (rest := []) (pc := 202) X hcs rfl (c_S_take l t G S (xs ((nI j) + (nI 1)).toNatClampNeg) _) (cwV_of (C := "TreeServer") X x_924 x_921 x_922 x_923 x_1 (by decide +kernel) ⟨rfl, rfl⟩ (by decide)) (rv_9 X hS) rfl rfl (by decide) d_law_202 hwp (fun r1 G1 hwp => ?_)
  refine qw_aload_n (pc := 205) X d_law_205 rfl 2 rfl ?_
  refine qw_aload_n (pc := 206) X d_law_206 rfl 0 rfl ?_
  refine qw_iload_n (pc := 207) X d_law_207 rfl 3 rfl ?_
  refine qw_iconst (v := nI 1) (pc := 208) X d_law_208 rfl ?_
  refine qw_iadd (pc := 209) X d_law_209 ?_
  refine q_sld (pc := 210) X hX hb hA d_law_210 (s_in (by omega) hL) ?_
  refine kV.st (st' := [.int (xs ((nI j) + (nI 1)).toNatClampNeg), .ref M, .long r1]) rfl ?_
  refine qcV_l (n := 1) (As := [.int (xs ((nI j) + (nI 1)).toNatClampNeg)]) (rest := [.long r1]) (pc := 211) X hcs rfl (c_M_take l t G1 M (xs ((nI j) + (nI 1)).toNatClampNeg) _) (cwV_of (C := "TreeServerModel") X x_1376 x_1373 x_1374 x_1375 x_13 (by decide +kernel) ⟨rfl, rfl⟩ (by decide)) (rv_10 X hM) rfl rfl (by simp [rf_cat, cat_i, cat_l, cat_r]) d_law_211 hwp (fun r2 G2 hwp => ?_)
  exact qw_lcmp_eq (tgt := 398) (pc := 214) X d_law_214 d_law_215 (by decide) (fun _ => hk G2 hwp.2) (fun h => absurd hwp.1 h)
set_option maxRecDepth 100000 in
set_option maxHeartbeats 4000000 in
theorem k_law_hangup {S M j : Nat} (X : kX p s m #[Value.ref b] meth c code 4 "TreeServerLaw" t) (hcs : cs.1 ≤ 600000 ∧ cs.2 ≤ 7302250) (hX : va_X b L xs s s.heap) (hb : b < s.heap.size) (hA : ¬ tA t b) (hS : tk t S = 9) (hM : tk t M = 10) {Inv : Nat → GS → Prop} (hj : j + 5 ≤ L) (hL : L ≤ 2560) (hI : Inv j G) (Om : ∀ j G, Inv j G → Inv (j + 5) G) (Ob : Ob_hangup t S M Inv) (hk : ∀ G : GS, Inv (j + 5) G → kV cs p l e room_1 s m #[Value.ref b] below meth c (lw_Z below #[Value.ref b] s) 4 t false 398 [(0, va_rf (some b)), (1, va_rf (some S)), (2, va_rf (some M)), (3, .int (nI j))] [] G) : kV cs p l e room_1 s m #[Value.ref b] below meth c (lw_Z below #[Value.ref b] s) 4 t false 220 [(0, va_rf (some b)), (1, va_rf (some S)), (2, va_rf (some M)), (3, .int (nI j))] [] G := by
  refine qw_aload_n (pc := 220) X d_law_220 rfl 1 rfl ?_
  refine qw_aload_n (pc := 221) X d_law_221 rfl 0 rfl ?_
  refine qw_iload_n (pc := 222) X d_law_222 rfl 3 rfl ?_
  refine qw_iconst (v := nI 1) (pc := 223) X d_law_223 rfl ?_
  refine qw_iadd (pc := 224) X d_law_224 ?_
  refine q_sld (pc := 225) X hX hb hA d_law_225 (s_in (by omega) hL) ?_
  have hwp := Ob j G (xs ((nI j) + (nI 1)).toNatClampNeg) (by omega) hI
  refine kV.st (st' := [.int (xs ((nI j) + (nI 1)).toNatClampNeg), .ref S]) rfl ?_
  refine qcV_i (n := 1) (As := [.int (xs ((nI j) + (nI 1)).toNatClampNeg)]) (rest := []) (pc := 226) X hcs rfl (c_S_hangup l t G S (xs ((nI j) + (nI 1)).toNatClampNeg) _) (cwV_of (C := "TreeServer") X x_933 x_930 x_931 x_932 x_1 (by decide +kernel) ⟨rfl, rfl⟩ (by decide)) (rv_9 X hS) rfl rfl (by decide) d_law_226 hwp (fun r1 G1 hwp => ?_)
  obtain ⟨b_1, hwp⟩ := hwp
  refine qw_aload_n (pc := 229) X d_law_229 rfl 2 rfl ?_
  refine qw_aload_n (pc := 230) X d_law_230 rfl 0 rfl ?_
  refine qw_iload_n (pc := 231) X d_law_231 rfl 3 rfl ?_
  refine qw_iconst (v := nI 1) (pc := 232) X d_law_232 rfl ?_
  refine qw_iadd (pc := 233) X d_law_233 ?_
  refine q_sld (pc := 234) X hX hb hA d_law_234 (s_in (by omega) hL) ?_
  refine kV.st (st' := [.int (xs ((nI j) + (nI 1)).toNatClampNeg), .ref M, .int r1]) rfl ?_
  refine qcV_i (n := 1) (As := [.int (xs ((nI j) + (nI 1)).toNatClampNeg)]) (rest := [.int r1]) (pc := 235) X hcs rfl (c_M_hangup l t G1 M (xs ((nI j) + (nI 1)).toNatClampNeg) _) (cwV_of (C := "TreeServerModel") X x_1380 x_1377 x_1378 x_1379 x_13 (by decide +kernel) ⟨rfl, rfl⟩ (by decide)) (rv_10 X hM) rfl rfl (by simp [rf_cat, cat_i, cat_l, cat_r]) d_law_235 hwp (fun r2 G2 hwp => ?_)
  obtain ⟨b_2, hwp⟩ := hwp
  exact qw_icmp_eq (tgt := 398) (pc := 238) X d_law_238 (by decide) (fun _ => hk G2 hwp.2) (fun h => absurd hwp.1 h)
set_option maxRecDepth 100000 in
set_option maxHeartbeats 4000000 in
theorem k_law_status {S M j : Nat} (X : kX p s m #[Value.ref b] meth c code 4 "TreeServerLaw" t) (hcs : cs.1 ≤ 600000 ∧ cs.2 ≤ 7302250) (hX : va_X b L xs s s.heap) (hb : b < s.heap.size) (hA : ¬ tA t b) (hS : tk t S = 9) (hM : tk t M = 10) {Inv : Nat → GS → Prop} (hj : j + 5 ≤ L) (hL : L ≤ 2560) (hI : Inv j G) (Om : ∀ j G, Inv j G → Inv (j + 5) G) (Ob : Ob_status t S M Inv) (hk : ∀ G : GS, Inv (j + 5) G → kV cs p l e room_1 s m #[Value.ref b] below meth c (lw_Z below #[Value.ref b] s) 4 t false 398 [(0, va_rf (some b)), (1, va_rf (some S)), (2, va_rf (some M)), (3, .int (nI j))] [] G) : kV cs p l e room_1 s m #[Value.ref b] below meth c (lw_Z below #[Value.ref b] s) 4 t false 243 [(0, va_rf (some b)), (1, va_rf (some S)), (2, va_rf (some M)), (3, .int (nI j))] [] G := by
  refine qw_aload_n (pc := 243) X d_law_243 rfl 1 rfl ?_
  refine qw_aload_n (pc := 244) X d_law_244 rfl 0 rfl ?_
  refine qw_iload_n (pc := 245) X d_law_245 rfl 3 rfl ?_
  refine qw_iconst (v := nI 1) (pc := 246) X d_law_246 rfl ?_
  refine qw_iadd (pc := 247) X d_law_247 ?_
  refine q_sld (pc := 248) X hX hb hA d_law_248 (s_in (by omega) hL) ?_
  have hwp := Ob j G (xs ((nI j) + (nI 1)).toNatClampNeg) (by omega) hI
  refine kV.st (st' := [.int (xs ((nI j) + (nI 1)).toNatClampNeg), .ref S]) rfl ?_
  refine qcVp_i (n := 1) (As := [.int (xs ((nI j) + (nI 1)).toNatClampNeg)]) (rest := []) (pc := 249) X hcs (c_S_status l t G S (xs ((nI j) + (nI 1)).toNatClampNeg) _) (cwV_of (C := "TreeServer") X x_937 x_934 x_935 x_936 x_1 (by decide +kernel) ⟨rfl, rfl⟩ (by decide)) (rv_9 X hS) rfl rfl (by decide) d_law_249 hwp (fun r1 hwp => ?_)
  refine qw_aload_n (pc := 252) X d_law_252 rfl 2 rfl ?_
  refine qw_aload_n (pc := 253) X d_law_253 rfl 0 rfl ?_
  refine qw_iload_n (pc := 254) X d_law_254 rfl 3 rfl ?_
  refine qw_iconst (v := nI 1) (pc := 255) X d_law_255 rfl ?_
  refine qw_iadd (pc := 256) X d_law_256 ?_
  refine q_sld (pc := 257) X hX hb hA d_law_257 (s_in (by omega) hL) ?_
  refine kV.st (st' := [.int (xs ((nI j) + (nI 1)).toNatClampNeg), .ref M, .int r1]) rfl ?_
  refine qcVp_i (n := 1) (As := [.int (xs ((nI j) + (nI 1)).toNatClampNeg)]) (rest := [.int r1]) (pc := 258) X hcs (c_M_status l t G M (xs ((nI j) + (nI 1)).toNatClampNeg) _) (cwV_of (C := "TreeServerModel") X x_1384 x_1381 x_1382 x_1383 x_13 (by decide +kernel) ⟨rfl, rfl⟩ (by decide)) (rv_10 X hM) rfl rfl (by simp [rf_cat, cat_i, cat_l, cat_r]) d_law_258 hwp (fun r2 hwp => ?_)
  exact qw_icmp_eq (tgt := 398) (pc := 261) X d_law_261 (by decide) (fun _ => hk G (Om j G hI)) (fun h => absurd hwp h)
set_option maxRecDepth 100000 in
set_option maxHeartbeats 4000000 in
theorem k_law_fids {S M j : Nat} (X : kX p s m #[Value.ref b] meth c code 4 "TreeServerLaw" t) (hcs : cs.1 ≤ 600000 ∧ cs.2 ≤ 7302250) (hX : va_X b L xs s s.heap) (hb : b < s.heap.size) (hA : ¬ tA t b) (hS : tk t S = 9) (hM : tk t M = 10) {Inv : Nat → GS → Prop} (hj : j + 5 ≤ L) (hL : L ≤ 2560) (hI : Inv j G) (Om : ∀ j G, Inv j G → Inv (j + 5) G) (Ob : Ob_fids t S M Inv) (hk : ∀ G : GS, Inv (j + 5) G → kV cs p l e room_1 s m #[Value.ref b] below meth c (lw_Z below #[Value.ref b] s) 4 t false 398 [(0, va_rf (some b)), (1, va_rf (some S)), (2, va_rf (some M)), (3, .int (nI j))] [] G) : kV cs p l e room_1 s m #[Value.ref b] below meth c (lw_Z below #[Value.ref b] s) 4 t false 266 [(0, va_rf (some b)), (1, va_rf (some S)), (2, va_rf (some M)), (3, .int (nI j))] [] G := by
  refine qw_aload_n (pc := 266) X d_law_266 rfl 1 rfl ?_
  refine qw_aload_n (pc := 267) X d_law_267 rfl 0 rfl ?_
  refine qw_iload_n (pc := 268) X d_law_268 rfl 3 rfl ?_
  refine qw_iconst (v := nI 1) (pc := 269) X d_law_269 rfl ?_
  refine qw_iadd (pc := 270) X d_law_270 ?_
  refine q_sld (pc := 271) X hX hb hA d_law_271 (s_in (by omega) hL) ?_
  have hwp := Ob j G (xs ((nI j) + (nI 1)).toNatClampNeg) (by omega) hI
  refine kV.st (st' := [.int (xs ((nI j) + (nI 1)).toNatClampNeg), .ref S]) rfl ?_
  refine qcVp_i (n := 1) (As := [.int (xs ((nI j) + (nI 1)).toNatClampNeg)]) (rest := []) (pc := 272) X hcs (c_S_fids l t G S (xs ((nI j) + (nI 1)).toNatClampNeg) _) (cwV_of (C := "TreeServer") X x_941 x_938 x_939 x_940 x_1 (by decide +kernel) ⟨rfl, rfl⟩ (by decide)) (rv_9 X hS) rfl rfl (by decide) d_law_272 hwp (fun r1 hwp => ?_)
  refine qw_aload_n (pc := 275) X d_law_275 rfl 2 rfl ?_
  refine qw_aload_n (pc := 276) X d_law_276 rfl 0 rfl ?_
  refine qw_iload_n (pc := 277) X d_law_277 rfl 3 rfl ?_
  refine qw_iconst (v := nI 1) (pc := 278) X d_law_278 rfl ?_
  refine qw_iadd (pc := 279) X d_law_279 ?_
  refine q_sld (pc := 280) X hX hb hA d_law_280 (s_in (by omega) hL) ?_
  refine kV.st (st' := [.int (xs ((nI j) + (nI 1)).toNatClampNeg), .ref M, .int r1]) rfl ?_
  refine qcVp_i (n := 1) (As := [.int (xs ((nI j) + (nI 1)).toNatClampNeg)]) (rest := [.int r1]) (pc := 281) X hcs (c_M_fids l t G M (xs ((nI j) + (nI 1)).toNatClampNeg) _) (cwV_of (C := "TreeServerModel") X x_1388 x_1385 x_1386 x_1387 x_13 (by decide +kernel) ⟨rfl, rfl⟩ (by decide)) (rv_10 X hM) rfl rfl (by simp [rf_cat, cat_i, cat_l, cat_r]) d_law_281 hwp (fun r2 hwp => ?_)
  exact qw_icmp_eq (tgt := 398) (pc := 284) X d_law_284 (by decide) (fun _ => hk G (Om j G hI)) (fun h => absurd hwp h)
set_option maxRecDepth 100000 in
set_option maxHeartbeats 4000000 in
theorem k_law_clock {S M j : Nat} (X : kX p s m #[Value.ref b] meth c code 4 "TreeServerLaw" t) (hcs : cs.1 ≤ 600000 ∧ cs.2 ≤ 7302250) (hX : va_X b L xs s s.heap) (hb : b < s.heap.size) (hA : ¬ tA t b) (hS : tk t S = 9) (hM : tk t M = 10) {Inv : Nat → GS → Prop} (hj : j + 5 ≤ L) (hL : L ≤ 2560) (hI : Inv j G) (Om : ∀ j G, Inv j G → Inv (j + 5) G) (Ob : Ob_clock t S M Inv) (hk : ∀ G : GS, Inv (j + 5) G → kV cs p l e room_1 s m #[Value.ref b] below meth c (lw_Z below #[Value.ref b] s) 4 t false 398 [(0, va_rf (some b)), (1, va_rf (some S)), (2, va_rf (some M)), (3, .int (nI j))] [] G) : kV cs p l e room_1 s m #[Value.ref b] below meth c (lw_Z below #[Value.ref b] s) 4 t false 289 [(0, va_rf (some b)), (1, va_rf (some S)), (2, va_rf (some M)), (3, .int (nI j))] [] G := by
  refine qw_aload_n (pc := 289) X d_law_289 rfl 1 rfl ?_
  refine qw_aload_n (pc := 290) X d_law_290 rfl 0 rfl ?_
  refine qw_iload_n (pc := 291) X d_law_291 rfl 3 rfl ?_
  refine qw_iconst (v := nI 1) (pc := 292) X d_law_292 rfl ?_
  refine qw_iadd (pc := 293) X d_law_293 ?_
  refine q_sld (pc := 294) X hX hb hA d_law_294 (s_in (by omega) hL) ?_
  have hwp := Ob j G (xs ((nI j) + (nI 1)).toNatClampNeg) (by omega) hI
  refine kV.st (st' := [.int (xs ((nI j) + (nI 1)).toNatClampNeg), .ref S]) rfl ?_
  refine qcV_v (n := 1) (As := [.int (xs ((nI j) + (nI 1)).toNatClampNeg)]) (rest := []) (pc := 295) X hcs rfl (c_S_clock l t G S (xs ((nI j) + (nI 1)).toNatClampNeg) _) (cwV_of (C := "TreeServer") X x_949 x_946 x_947 x_948 x_1 (by decide +kernel) ⟨rfl, rfl⟩ (by decide)) (rv_9 X hS) rfl rfl (by decide) d_law_295 hwp (fun G1 hwp => ?_)
  refine qw_aload_n (pc := 298) X d_law_298 rfl 2 rfl ?_
  refine qw_aload_n (pc := 299) X d_law_299 rfl 0 rfl ?_
  refine qw_iload_n (pc := 300) X d_law_300 rfl 3 rfl ?_
  refine qw_iconst (v := nI 1) (pc := 301) X d_law_301 rfl ?_
  refine qw_iadd (pc := 302) X d_law_302 ?_
  refine q_sld (pc := 303) X hX hb hA d_law_303 (s_in (by omega) hL) ?_
  refine kV.st (st' := [.int (xs ((nI j) + (nI 1)).toNatClampNeg), .ref M]) rfl ?_
  refine qcV_v (n := 1) (As := [.int (xs ((nI j) + (nI 1)).toNatClampNeg)]) (rest := []) (pc := 304) X hcs rfl (c_M_clock l t G1 M (xs ((nI j) + (nI 1)).toNatClampNeg) _) (cwV_of (C := "TreeServerModel") X x_1392 x_1389 x_1390 x_1391 x_13 (by decide +kernel) ⟨rfl, rfl⟩ (by decide)) (rv_10 X hM) rfl rfl (by decide) d_law_304 hwp (fun G2 hwp => ?_)
  exact qw_goto (tgt := 398) (pc := 307) X d_law_307 (by decide) (hk G2 hwp)
set_option maxRecDepth 100000 in
set_option maxHeartbeats 4000000 in
theorem k_law_cut {S M j : Nat} (X : kX p s m #[Value.ref b] meth c code 4 "TreeServerLaw" t) (hcs : cs.1 ≤ 600000 ∧ cs.2 ≤ 7302250) (hX : va_X b L xs s s.heap) (hb : b < s.heap.size) (hA : ¬ tA t b) (hS : tk t S = 9) (hM : tk t M = 10) {Inv : Nat → GS → Prop} (hj : j + 5 ≤ L) (hL : L ≤ 2560) (hI : Inv j G) (Om : ∀ j G, Inv j G → Inv (j + 5) G) (Ob : Ob_cut t S M Inv) (hk : ∀ G : GS, Inv (j + 5) G → kV cs p l e room_1 s m #[Value.ref b] below meth c (lw_Z below #[Value.ref b] s) 4 t false 398 [(0, va_rf (some b)), (1, va_rf (some S)), (2, va_rf (some M)), (3, .int (nI j))] [] G) : kV cs p l e room_1 s m #[Value.ref b] below meth c (lw_Z below #[Value.ref b] s) 4 t false 310 [(0, va_rf (some b)), (1, va_rf (some S)), (2, va_rf (some M)), (3, .int (nI j))] [] G := by
  refine qw_aload_n (pc := 310) X d_law_310 rfl 1 rfl ?_
  refine qw_aload_n (pc := 311) X d_law_311 rfl 0 rfl ?_
  refine qw_iload_n (pc := 312) X d_law_312 rfl 3 rfl ?_
  refine qw_iconst (v := nI 1) (pc := 313) X d_law_313 rfl ?_
  refine qw_iadd (pc := 314) X d_law_314 ?_
  refine q_sld (pc := 315) X hX hb hA d_law_315 (s_in (by omega) hL) ?_
  have hwp := Ob j G (xs ((nI j) + (nI 1)).toNatClampNeg) (by omega) hI
  refine kV.st (st' := [.int (xs ((nI j) + (nI 1)).toNatClampNeg), .ref S]) rfl ?_
  refine qcV_i (n := 1) (As := [.int (xs ((nI j) + (nI 1)).toNatClampNeg)]) (rest := []) (pc := 316) X hcs rfl (c_S_cut l t G S (xs ((nI j) + (nI 1)).toNatClampNeg) _) (cwV_of (C := "TreeServer") X x_953 x_950 x_951 x_952 x_1 (by decide +kernel) ⟨rfl, rfl⟩ (by decide)) (rv_9 X hS) rfl rfl (by decide) d_law_316 hwp (fun r1 G1 hwp => ?_)
  obtain ⟨b_1, hwp⟩ := hwp
  refine qw_aload_n (pc := 319) X d_law_319 rfl 2 rfl ?_
  refine qw_aload_n (pc := 320) X d_law_320 rfl 0 rfl ?_
  refine qw_iload_n (pc := 321) X d_law_321 rfl 3 rfl ?_
  refine qw_iconst (v := nI 1) (pc := 322) X d_law_322 rfl ?_
  refine qw_iadd (pc := 323) X d_law_323 ?_
  refine q_sld (pc := 324) X hX hb hA d_law_324 (s_in (by omega) hL) ?_
  refine kV.st (st' := [.int (xs ((nI j) + (nI 1)).toNatClampNeg), .ref M, .int r1]) rfl ?_
  refine qcV_i (n := 1) (As := [.int (xs ((nI j) + (nI 1)).toNatClampNeg)]) (rest := [.int r1]) (pc := 325) X hcs rfl (c_M_cut l t G1 M (xs ((nI j) + (nI 1)).toNatClampNeg) _) (cwV_of (C := "TreeServerModel") X x_1396 x_1393 x_1394 x_1395 x_13 (by decide +kernel) ⟨rfl, rfl⟩ (by decide)) (rv_10 X hM) rfl rfl (by simp [rf_cat, cat_i, cat_l, cat_r]) d_law_325 hwp (fun r2 G2 hwp => ?_)
  obtain ⟨b_2, hwp⟩ := hwp
  exact qw_icmp_eq (tgt := 398) (pc := 328) X d_law_328 (by decide) (fun _ => hk G2 hwp.2) (fun h => absurd hwp.1 h)
set_option maxRecDepth 100000 in
set_option maxHeartbeats 4000000 in
theorem k_law_restart {S M j : Nat} (X : kX p s m #[Value.ref b] meth c code 4 "TreeServerLaw" t) (hcs : cs.1 ≤ 600000 ∧ cs.2 ≤ 7302250) (hX : va_X b L xs s s.heap) (hb : b < s.heap.size) (hA : ¬ tA t b) (hS : tk t S = 9) (hM : tk t M = 10) {Inv : Nat → GS → Prop} (hj : j + 5 ≤ L) (hL : L ≤ 2560) (hI : Inv j G) (Om : ∀ j G, Inv j G → Inv (j + 5) G) (Ob : Ob_restart t S M Inv) (hk : ∀ G : GS, Inv (j + 5) G → kV cs p l e room_1 s m #[Value.ref b] below meth c (lw_Z below #[Value.ref b] s) 4 t false 398 [(0, va_rf (some b)), (1, va_rf (some S)), (2, va_rf (some M)), (3, .int (nI j))] [] G) : kV cs p l e room_1 s m #[Value.ref b] below meth c (lw_Z below #[Value.ref b] s) 4 t false 333 [(0, va_rf (some b)), (1, va_rf (some S)), (2, va_rf (some M)), (3, .int (nI j))] [] G := by
  refine qw_aload_n (pc := 333) X d_law_333 rfl 1 rfl ?_
  have hwp := Ob j G (by omega) hI
  refine kV.st (st' := [.ref S]) rfl ?_
  refine qcV_i (n := 0) (As := []) (rest := []) (pc := 334) X hcs rfl (c_S_restart l t G S _) (cwV_of (C := "TreeServer") X x_957 x_954 x_955 x_956 x_1 (by decide +kernel) ⟨rfl, rfl⟩ (by decide)) (rv_9 X hS) rfl rfl (by decide) d_law_334 hwp (fun r1 G1 hwp => ?_)
  obtain ⟨b_1, hwp⟩ := hwp
  refine qw_aload_n (pc := 337) X d_law_337 rfl 2 rfl ?_
  refine kV.st (st' := [.ref M, .int r1]) rfl ?_
  refine qcV_i (n := 0) (As := []) (rest := [.int r1]) (pc := 338) X hcs rfl (c_M_restart l t G1 M _) (cwV_of (C := "TreeServerModel") X x_1400 x_1397 x_1398 x_1399 x_13 (by decide +kernel) ⟨rfl, rfl⟩ (by decide)) (rv_10 X hM) rfl rfl (by simp [rf_cat, cat_i, cat_l, cat_r]) d_law_338 hwp (fun r2 G2 hwp => ?_)
  obtain ⟨b_2, hwp⟩ := hwp
  exact qw_icmp_eq (tgt := 398) (pc := 341) X d_law_341 (by decide) (fun _ => hk G2 hwp.2) (fun h => absurd hwp.1 h)
set_option maxRecDepth 100000 in
set_option maxHeartbeats 4000000 in
theorem k_law_up {S M j : Nat} (X : kX p s m #[Value.ref b] meth c code 4 "TreeServerLaw" t) (hcs : cs.1 ≤ 600000 ∧ cs.2 ≤ 7302250) (hX : va_X b L xs s s.heap) (hb : b < s.heap.size) (hA : ¬ tA t b) (hS : tk t S = 9) (hM : tk t M = 10) {Inv : Nat → GS → Prop} (hj : j + 5 ≤ L) (hL : L ≤ 2560) (hI : Inv j G) (Om : ∀ j G, Inv j G → Inv (j + 5) G) (Ob : Ob_up t S M Inv) (hk : ∀ G : GS, Inv (j + 5) G → kV cs p l e room_1 s m #[Value.ref b] below meth c (lw_Z below #[Value.ref b] s) 4 t false 398 [(0, va_rf (some b)), (1, va_rf (some S)), (2, va_rf (some M)), (3, .int (nI j))] [] G) : kV cs p l e room_1 s m #[Value.ref b] below meth c (lw_Z below #[Value.ref b] s) 4 t false 346 [(0, va_rf (some b)), (1, va_rf (some S)), (2, va_rf (some M)), (3, .int (nI j))] [] G := by
  refine qw_aload_n (pc := 346) X d_law_346 rfl 1 rfl ?_
  have hwp := Ob j G (by omega) hI
  refine kV.st (st' := [.ref S]) rfl ?_
  refine qcVp_i (n := 0) (As := []) (rest := []) (pc := 347) X hcs (c_S_up l t G S _) (cwV_of (C := "TreeServer") X x_965 x_962 x_963 x_964 x_1 (by decide +kernel) ⟨rfl, rfl⟩ (by decide)) (rv_9 X hS) rfl rfl (by decide) d_law_347 hwp (fun r1 hwp => ?_)
  obtain ⟨b_1, hwp⟩ := hwp
  refine qw_aload_n (pc := 350) X d_law_350 rfl 2 rfl ?_
  refine kV.st (st' := [.ref M, .int r1]) rfl ?_
  refine qcVp_i (n := 0) (As := []) (rest := [.int r1]) (pc := 351) X hcs (c_M_up l t G M _) (cwV_of (C := "TreeServerModel") X x_1408 x_1405 x_1406 x_1407 x_13 (by decide +kernel) ⟨rfl, rfl⟩ (by decide)) (rv_10 X hM) rfl rfl (by simp [rf_cat, cat_i, cat_l, cat_r]) d_law_351 hwp (fun r2 hwp => ?_)
  obtain ⟨b_2, hwp⟩ := hwp
  exact qw_icmp_eq (tgt := 398) (pc := 354) X d_law_354 (by decide) (fun _ => hk G (Om j G hI)) (fun h => absurd hwp h)
set_option maxRecDepth 100000 in
set_option maxHeartbeats 4000000 in
theorem k_law_nodes {S M j : Nat} (X : kX p s m #[Value.ref b] meth c code 4 "TreeServerLaw" t) (hcs : cs.1 ≤ 600000 ∧ cs.2 ≤ 7302250) (hX : va_X b L xs s s.heap) (hb : b < s.heap.size) (hA : ¬ tA t b) (hS : tk t S = 9) (hM : tk t M = 10) {Inv : Nat → GS → Prop} (hj : j + 5 ≤ L) (hL : L ≤ 2560) (hI : Inv j G) (Om : ∀ j G, Inv j G → Inv (j + 5) G) (Ob : Ob_nodes t S M Inv) (hk : ∀ G : GS, Inv (j + 5) G → kV cs p l e room_1 s m #[Value.ref b] below meth c (lw_Z below #[Value.ref b] s) 4 t false 398 [(0, va_rf (some b)), (1, va_rf (some S)), (2, va_rf (some M)), (3, .int (nI j))] [] G) : kV cs p l e room_1 s m #[Value.ref b] below meth c (lw_Z below #[Value.ref b] s) 4 t false 359 [(0, va_rf (some b)), (1, va_rf (some S)), (2, va_rf (some M)), (3, .int (nI j))] [] G := by
  refine qw_aload_n (pc := 359) X d_law_359 rfl 1 rfl ?_
  have hwp := Ob j G (by omega) hI
  refine kV.st (st' := [.ref S]) rfl ?_
  refine qcVp_i (n := 0) (As := []) (rest := []) (pc := 360) X hcs (c_S_nodes l t G S _) (cwV_of (C := "TreeServer") X x_969 x_966 x_967 x_968 x_1 (by decide +kernel) ⟨rfl, rfl⟩ (by decide)) (rv_9 X hS) rfl rfl (by decide) d_law_360 hwp (fun r1 hwp => ?_)
  refine qw_aload_n (pc := 363) X d_law_363 rfl 2 rfl ?_
  refine kV.st (st' := [.ref M, .int r1]) rfl ?_
  refine qcVp_i (n := 0) (As := []) (rest := [.int r1]) (pc := 364) X hcs (c_M_nodes l t G M _) (cwV_of (C := "TreeServerModel") X x_1412 x_1409 x_1410 x_1411 x_13 (by decide +kernel) ⟨rfl, rfl⟩ (by decide)) (rv_10 X hM) rfl rfl (by simp [rf_cat, cat_i, cat_l, cat_r]) d_law_364 hwp (fun r2 hwp => ?_)
  exact qw_icmp_eq (tgt := 398) (pc := 367) X d_law_367 (by decide) (fun _ => hk G (Om j G hI)) (fun h => absurd hwp h)
set_option maxRecDepth 100000 in
set_option maxHeartbeats 4000000 in
theorem k_law_free {S M j : Nat} (X : kX p s m #[Value.ref b] meth c code 4 "TreeServerLaw" t) (hcs : cs.1 ≤ 600000 ∧ cs.2 ≤ 7302250) (hX : va_X b L xs s s.heap) (hb : b < s.heap.size) (hA : ¬ tA t b) (hS : tk t S = 9) (hM : tk t M = 10) {Inv : Nat → GS → Prop} (hj : j + 5 ≤ L) (hL : L ≤ 2560) (hI : Inv j G) (Om : ∀ j G, Inv j G → Inv (j + 5) G) (Ob : Ob_free t S M Inv) (hk : ∀ G : GS, Inv (j + 5) G → kV cs p l e room_1 s m #[Value.ref b] below meth c (lw_Z below #[Value.ref b] s) 4 t false 398 [(0, va_rf (some b)), (1, va_rf (some S)), (2, va_rf (some M)), (3, .int (nI j))] [] G) : kV cs p l e room_1 s m #[Value.ref b] below meth c (lw_Z below #[Value.ref b] s) 4 t false 372 [(0, va_rf (some b)), (1, va_rf (some S)), (2, va_rf (some M)), (3, .int (nI j))] [] G := by
  refine qw_aload_n (pc := 372) X d_law_372 rfl 1 rfl ?_
  have hwp := Ob j G (by omega) hI
  refine kV.st (st' := [.ref S]) rfl ?_
  refine qcVp_i (n := 0) (As := []) (rest := []) (pc := 373) X hcs (c_S_free l t G S _) (cwV_of (C := "TreeServer") X x_973 x_970 x_971 x_972 x_1 (by decide +kernel) ⟨rfl, rfl⟩ (by decide)) (rv_9 X hS) rfl rfl (by decide) d_law_373 hwp (fun r1 hwp => ?_)
  refine qw_aload_n (pc := 376) X d_law_376 rfl 2 rfl ?_
  refine kV.st (st' := [.ref M, .int r1]) rfl ?_
  refine qcVp_i (n := 0) (As := []) (rest := [.int r1]) (pc := 377) X hcs (c_M_free l t G M _) (cwV_of (C := "TreeServerModel") X x_1416 x_1413 x_1414 x_1415 x_13 (by decide +kernel) ⟨rfl, rfl⟩ (by decide)) (rv_10 X hM) rfl rfl (by simp [rf_cat, cat_i, cat_l, cat_r]) d_law_377 hwp (fun r2 hwp => ?_)
  exact qw_icmp_eq (tgt := 398) (pc := 380) X d_law_380 (by decide) (fun _ => hk G (Om j G hI)) (fun h => absurd hwp h)
set_option maxRecDepth 100000 in
set_option maxHeartbeats 4000000 in
theorem k_law_writes {S M j : Nat} (X : kX p s m #[Value.ref b] meth c code 4 "TreeServerLaw" t) (hcs : cs.1 ≤ 600000 ∧ cs.2 ≤ 7302250) (hX : va_X b L xs s s.heap) (hb : b < s.heap.size) (hA : ¬ tA t b) (hS : tk t S = 9) (hM : tk t M = 10) {Inv : Nat → GS → Prop} (hj : j + 5 ≤ L) (hL : L ≤ 2560) (hI : Inv j G) (Om : ∀ j G, Inv j G → Inv (j + 5) G) (Ob : Ob_writes t S M Inv) (hk : ∀ G : GS, Inv (j + 5) G → kV cs p l e room_1 s m #[Value.ref b] below meth c (lw_Z below #[Value.ref b] s) 4 t false 398 [(0, va_rf (some b)), (1, va_rf (some S)), (2, va_rf (some M)), (3, .int (nI j))] [] G) : kV cs p l e room_1 s m #[Value.ref b] below meth c (lw_Z below #[Value.ref b] s) 4 t false 385 [(0, va_rf (some b)), (1, va_rf (some S)), (2, va_rf (some M)), (3, .int (nI j))] [] G := by
  refine qw_aload_n (pc := 385) X d_law_385 rfl 1 rfl ?_
  have hwp := Ob j G (by omega) hI
  refine kV.st (st' := [.ref S]) rfl ?_
  refine qcVp_i (n := 0) (As := []) (rest := []) (pc := 386) X hcs (c_S_writes l t G S _) (cwV_of (C := "TreeServer") X x_978 x_975 x_976 x_977 x_1 (by decide +kernel) ⟨rfl, rfl⟩ (by decide)) (rv_9 X hS) rfl rfl (by decide) d_law_386 hwp (fun r1 hwp => ?_)
  refine qw_aload_n (pc := 389) X d_law_389 rfl 2 rfl ?_
  refine kV.st (st' := [.ref M, .int r1]) rfl ?_
  refine qcVp_i (n := 0) (As := []) (rest := [.int r1]) (pc := 390) X hcs (c_M_writes l t G M _) (cwV_of (C := "TreeServerModel") X x_1420 x_1417 x_1418 x_1419 x_13 (by decide +kernel) ⟨rfl, rfl⟩ (by decide)) (rv_10 X hM) rfl rfl (by simp [rf_cat, cat_i, cat_l, cat_r]) d_law_390 hwp (fun r2 hwp => ?_)
  exact qw_icmp_eq (tgt := 398) (pc := 393) X d_law_393 (by decide) (fun _ => hk G (Om j G hI)) (fun h => absurd hwp h)
theorem nI_sub5 {n : Nat} (h : 5 ≤ n) : nI n - nI 5 = nI (n - 5) := by
  have : nI n = nI (n - 5) + nI 5 := by rw [nI_add, Nat.sub_add_cancel h]
  rw [this]
  exact Int32.add_sub_cancel _ _
theorem nI_lt5 : ∀ j n, n < 5 → j ≤ n → nI n - nI 5 < nI j := by
  intro j n h1 h2
  have h3 : j < 5 := by omega
  rcases (show n = 0 ∨ n = 1 ∨ n = 2 ∨ n = 3 ∨ n = 4 by omega) with rfl | rfl | rfl | rfl | rfl <;> rcases (show j = 0 ∨ j = 1 ∨ j = 2 ∨ j = 3 ∨ j = 4 by omega) with rfl | rfl | rfl | rfl | rfl <;> decide +kernel
theorem q_tableDef {dflt lo hi : Int} {offs : Array Int} {len : Nat} {x : Int32} {tgt : Nat} (keys : List Int32) (X : kX p s m args meth c cc nL own t) (hd : decode cc pc = .ok (.tableswitch dflt lo hi offs, len)) (ha : ∀ n : Nat, n < (hi - lo + 1).toNat → offs[n]? = some dflt ∨ Int32.ofInt (lo + n) ∈ keys) (hx : x ∉ keys) (ht : (pc : Int) + dflt = (tgt : Int)) (k : kV cs p l e R s m args below meth c Q nL t pu tgt lv rest G) : kV cs p l e R s m args below meth c Q nL t pu pc lv (.int x :: rest) G := by
  by_cases h : x.toInt < lo ∨ hi < x.toInt
  · exact qw_tableOut X hd h ht k
  · have h1 : ¬ x.toInt < lo := fun q => h (Or.inl q)
    have h2 : ¬ hi < x.toInt := fun q => h (Or.inr q)
    have hn : lo + ((x.toInt - lo).toNat : Nat) = x.toInt := by omega
    rcases ha (x.toInt - lo).toNat (by omega) with q | q
    · exact qw_tableIn X hd h1 h2 q ht k
    · rw [hn, Int32.ofInt_toInt] at q
      exact absurd q hx
set_option maxRecDepth 100000 in
set_option maxHeartbeats 4000000 in
theorem k_law_out {S M j : Nat} (X : kX p s m #[Value.ref b] meth c code 4 "TreeServerLaw" t) (hcs : cs.1 ≤ 600000 ∧ cs.2 ≤ 7302250) (hX : va_X b L xs s s.heap) (hb : b < s.heap.size) (hA : ¬ tA t b) (hts : tsz t = s.heap.size) (hr : meth.sig.returnType = ret) (hlocks : meth.locks = false) (hL : L ≤ 2560) (hj : L < j + 5) (hj2 : j ≤ L) : kV cs p l e room_1 s m #[Value.ref b] below meth c (lw_Z below #[Value.ref b] s) 4 t false 18 [(0, va_rf (some b)), (1, va_rf (some S)), (2, va_rf (some M)), (3, .int (nI j))] [] G := by
  refine qw_iload_n (pc := 18) X d_law_18 rfl 3 rfl ?_
  refine qw_aload_n (pc := 19) X d_law_19 rfl 0 rfl ?_
  refine q_slen (pc := 20) X hX hb hA d_law_20 ?_
  refine qw_iconst (v := nI 5) (pc := 21) X d_law_21 rfl ?_
  refine qw_isub (pc := 22) X d_law_22 ?_
  refine qw_icmp_gt (tgt := 404) (pc := 23) X d_law_23 (by decide) (fun _ => ?_) (fun h => absurd ?_ h)
  · refine qw_iconst (v := 1) (pc := 404) X d_law_404 rfl ?_
    intro H locs ls hl hz
    refine W.widen hcs.1 hcs.2 ?_
    refine va_forget (fun q hq => ?_) ?_
    · have := hz.2.1.2.2 q hq
      have : tsz t ≤ q.base := this
      omega
    · exact lw_ret X.1 X.2.1 hr hlocks d_law_405
  · by_cases h5 : 5 ≤ L
    · rw [nI_sub5 h5]
      exact nI_lt (by omega) (by omega)
    · exact nI_lt5 j L (by omega) hj2
set_option maxRecDepth 100000 in
set_option maxHeartbeats 4000000 in
theorem k_law_loop {S M : Nat} (X : kX p s m #[Value.ref b] meth c code 4 "TreeServerLaw" t) (hcs : cs.1 ≤ 600000 ∧ cs.2 ≤ 7302250) (hX : va_X b L xs s s.heap) (hb : b < s.heap.size) (hA : ¬ tA t b) (hts : tsz t = s.heap.size) (hr : meth.sig.returnType = ret) (hlocks : meth.locks = false) (hS : tk t S = 9) (hM : tk t M = 10) {Inv : Nat → GS → Prop} (hL : L ≤ 2560) (Ob : Obl t S M Inv) : ∀ (n j : Nat) (G : GS), j ≤ L → L - j ≤ n → Inv j G → kV cs p l e room_1 s m #[Value.ref b] below meth c (lw_Z below #[Value.ref b] s) 4 t false 18 [(0, va_rf (some b)), (1, va_rf (some S)), (2, va_rf (some M)), (3, .int (nI j))] [] G := by
  intro n
  induction n with
  | zero =>
    intro j G h1 h2 hI
    exact k_law_out X hcs hX hb hA hts hr hlocks hL (by omega) h1
  | succ n ih =>
    intro j G h1 h2 hI
    by_cases hj : j + 5 ≤ L
    · have hk : ∀ G : GS, Inv (j + 5) G → kV cs p l e room_1 s m #[Value.ref b] below meth c (lw_Z below #[Value.ref b] s) 4 t false 398 [(0, va_rf (some b)), (1, va_rf (some S)), (2, va_rf (some M)), (3, .int (nI j))] [] G := fun G hI => by
        refine qw_iinc (v := nI (j + 5)) (lv' := [(3, .int (nI (j + 5))), (0, va_rf (some b)), (1, va_rf (some S)), (2, va_rf (some M))]) (pc := 398) X d_law_398 3 rfl (nI_add j 5) (by decide) (by simp [rf_cat, cat_i, cat_l, cat_r]) ?_
        refine qw_goto (tgt := 18) (pc := 401) X d_law_401 (by decide) ?_
        exact kV.sub [1, 2, 3, 0] rfl (ih (j + 5) G (by omega) (by omega) hI)
      refine qw_iload_n (pc := 18) X d_law_18 rfl 3 rfl ?_
      refine qw_aload_n (pc := 19) X d_law_19 rfl 0 rfl ?_
      refine q_slen (pc := 20) X hX hb hA d_law_20 ?_
      refine qw_iconst (v := nI 5) (pc := 21) X d_law_21 rfl ?_
      refine qw_isub (pc := 22) X d_law_22 ?_
      refine qw_icmp_gt (tgt := 404) (pc := 23) X d_law_23 (by decide) (fun h => absurd h ?_) (fun _ => ?_)
      · rw [nI_sub5 (by omega)]
        exact nI_nlt (by omega) (by omega)
      refine qw_aload_n (pc := 26) X d_law_26 rfl 0 rfl ?_
      refine qw_iload_n (pc := 27) X d_law_27 rfl 3 rfl ?_
      refine q_sld (pc := 28) X hX hb hA d_law_28 (vp_in_nI (by omega) (by omega)) ?_
      refine qw_bipush (v := 15) (pc := 29) X d_law_29 (by decide) ?_
      refine qw_iand (pc := 31) X d_law_31 ?_
      obtain ⟨v, e_v⟩ : ∃ z, z = (xs (nI j).toNatClampNeg &&& (15 : Int32)) := ⟨_, rfl⟩
      rw [← e_v]
      obtain ⟨Om, o0, o1, o2, o3, o4, o5, o6, o7, o8, o9, o10, o11, o12⟩ := Ob
      by_cases q0 : v = (0 : Int32)
      · refine kV.st (st' := .int (0 : Int32) :: _) (by rw [q0]) ?_
        refine qw_tableIn (off := 68) (tgt := 100) (pc := 32) X d_law_32 (by decide) (by decide) (by decide) (by decide) ?_
        exact k_law_feed X hcs hX hb hA hS hM hj hL hI Om o0 hk
      by_cases q1 : v = (1 : Int32)
      · refine kV.st (st' := .int (1 : Int32) :: _) (by rw [q1]) ?_
        refine qw_tableIn (off := 141) (tgt := 173) (pc := 32) X d_law_32 (by decide) (by decide) (by decide) (by decide) ?_
        exact k_law_waiting X hcs hX hb hA hS hM hj hL hI Om o1 hk
      by_cases q2 : v = (2 : Int32)
      · refine kV.st (st' := .int (2 : Int32) :: _) (by rw [q2]) ?_
        refine qw_tableIn (off := 164) (tgt := 196) (pc := 32) X d_law_32 (by decide) (by decide) (by decide) (by decide) ?_
        exact k_law_take X hcs hX hb hA hS hM hj hL hI Om o2 hk
      by_cases q3 : v = (3 : Int32)
      · refine kV.st (st' := .int (3 : Int32) :: _) (by rw [q3]) ?_
        refine qw_tableIn (off := 188) (tgt := 220) (pc := 32) X d_law_32 (by decide) (by decide) (by decide) (by decide) ?_
        exact k_law_hangup X hcs hX hb hA hS hM hj hL hI Om o3 hk
      by_cases q4 : v = (4 : Int32)
      · refine kV.st (st' := .int (4 : Int32) :: _) (by rw [q4]) ?_
        refine qw_tableIn (off := 211) (tgt := 243) (pc := 32) X d_law_32 (by decide) (by decide) (by decide) (by decide) ?_
        exact k_law_status X hcs hX hb hA hS hM hj hL hI Om o4 hk
      by_cases q5 : v = (5 : Int32)
      · refine kV.st (st' := .int (5 : Int32) :: _) (by rw [q5]) ?_
        refine qw_tableIn (off := 234) (tgt := 266) (pc := 32) X d_law_32 (by decide) (by decide) (by decide) (by decide) ?_
        exact k_law_fids X hcs hX hb hA hS hM hj hL hI Om o5 hk
      by_cases q6 : v = (6 : Int32)
      · refine kV.st (st' := .int (6 : Int32) :: _) (by rw [q6]) ?_
        refine qw_tableIn (off := 257) (tgt := 289) (pc := 32) X d_law_32 (by decide) (by decide) (by decide) (by decide) ?_
        exact k_law_clock X hcs hX hb hA hS hM hj hL hI Om o6 hk
      by_cases q7 : v = (7 : Int32)
      · refine kV.st (st' := .int (7 : Int32) :: _) (by rw [q7]) ?_
        refine qw_tableIn (off := 278) (tgt := 310) (pc := 32) X d_law_32 (by decide) (by decide) (by decide) (by decide) ?_
        exact k_law_cut X hcs hX hb hA hS hM hj hL hI Om o7 hk
      by_cases q8 : v = (8 : Int32)
      · refine kV.st (st' := .int (8 : Int32) :: _) (by rw [q8]) ?_
        refine qw_tableIn (off := 301) (tgt := 333) (pc := 32) X d_law_32 (by decide) (by decide) (by decide) (by decide) ?_
        exact k_law_restart X hcs hX hb hA hS hM hj hL hI Om o8 hk
      by_cases q9 : v = (9 : Int32)
      · refine kV.st (st' := .int (9 : Int32) :: _) (by rw [q9]) ?_
        refine qw_tableIn (off := 314) (tgt := 346) (pc := 32) X d_law_32 (by decide) (by decide) (by decide) (by decide) ?_
        exact k_law_up X hcs hX hb hA hS hM hj hL hI Om o9 hk
      by_cases q10 : v = (10 : Int32)
      · refine kV.st (st' := .int (10 : Int32) :: _) (by rw [q10]) ?_
        refine qw_tableIn (off := 327) (tgt := 359) (pc := 32) X d_law_32 (by decide) (by decide) (by decide) (by decide) ?_
        exact k_law_nodes X hcs hX hb hA hS hM hj hL hI Om o10 hk
      by_cases q11 : v = (11 : Int32)
      · refine kV.st (st' := .int (11 : Int32) :: _) (by rw [q11]) ?_
        refine qw_tableIn (off := 340) (tgt := 372) (pc := 32) X d_law_32 (by decide) (by decide) (by decide) (by decide) ?_
        exact k_law_free X hcs hX hb hA hS hM hj hL hI Om o11 hk
      by_cases q12 : v = (12 : Int32)
      · refine kV.st (st' := .int (12 : Int32) :: _) (by rw [q12]) ?_
        refine qw_tableIn (off := 353) (tgt := 385) (pc := 32) X d_law_32 (by decide) (by decide) (by decide) (by decide) ?_
        exact k_law_writes X hcs hX hb hA hS hM hj hL hI Om o12 hk
      refine q_tableDef [(0 : Int32), (1 : Int32), (2 : Int32), (3 : Int32), (4 : Int32), (5 : Int32), (6 : Int32), (7 : Int32), (8 : Int32), (9 : Int32), (10 : Int32), (11 : Int32), (12 : Int32)] (tgt := 398) (pc := 32) X d_law_32 (by decide +kernel) (by simp only [List.mem_cons, List.not_mem_nil, or_false, not_or]; exact ⟨q0, q1, q2, q3, q4, q5, q6, q7, q8, q9, q10, q11, q12⟩) (by decide) ?_
      exact hk G (Om j G hI)
    · exact k_law_out X hcs hX hb hA hts hr hlocks hL (by omega) h1
end LAW
