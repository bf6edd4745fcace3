abbrev b_M_reach : ByteArray := prog_13_method_50_code
def y_M_reach : MethodName := ⟨"TreeServerModel", "reach", "(II)V"⟩
theorem d_M_reach_0 : decode b_M_reach 0 = .ok (.aload_n 0, 1) := by decide +kernel
theorem d_M_reach_1 : decode b_M_reach 1 = .ok (.getfield 70, 3) := by decide +kernel
theorem d_M_reach_4 : decode b_M_reach 4 = .ok (.bipush 11, 2) := by decide +kernel
theorem d_M_reach_6 : decode b_M_reach 6 = .ok (.iaload, 1) := by decide +kernel
theorem d_M_reach_7 : decode b_M_reach 7 = .ok (.istore_n 3, 1) := by decide +kernel
theorem d_M_reach_8 : decode b_M_reach 8 = .ok (.iload_n 3, 1) := by decide +kernel
theorem d_M_reach_9 : decode b_M_reach 9 = .ok (.bipush 16, 2) := by decide +kernel
theorem d_M_reach_11 : decode b_M_reach 11 = .ok (.iand, 1) := by decide +kernel
theorem d_M_reach_12 : decode b_M_reach 12 = .ok (.ifCond .eq 7, 3) := by decide +kernel
theorem d_M_reach_15 : decode b_M_reach 15 = .ok (.iconst 1, 1) := by decide +kernel
theorem d_M_reach_16 : decode b_M_reach 16 = .ok (.goto 4, 3) := by decide +kernel
theorem d_M_reach_19 : decode b_M_reach 19 = .ok (.iconst 0, 1) := by decide +kernel
theorem d_M_reach_20 : decode b_M_reach 20 = .ok (.istore 4, 2) := by decide +kernel
theorem d_M_reach_22 : decode b_M_reach 22 = .ok (.iload_n 3, 1) := by decide +kernel
theorem d_M_reach_23 : decode b_M_reach 23 = .ok (.iconst 3, 1) := by decide +kernel
theorem d_M_reach_24 : decode b_M_reach 24 = .ok (.iand, 1) := by decide +kernel
theorem d_M_reach_25 : decode b_M_reach 25 = .ok (.ifCond .eq 10, 3) := by decide +kernel
theorem d_M_reach_28 : decode b_M_reach 28 = .ok (.iload_n 3, 1) := by decide +kernel
theorem d_M_reach_29 : decode b_M_reach 29 = .ok (.iconst 3, 1) := by decide +kernel
theorem d_M_reach_30 : decode b_M_reach 30 = .ok (.iand, 1) := by decide +kernel
theorem d_M_reach_31 : decode b_M_reach 31 = .ok (.iconst 2, 1) := by decide +kernel
theorem d_M_reach_32 : decode b_M_reach 32 = .ok (.if_icmp .ne 7, 3) := by decide +kernel
theorem d_M_reach_35 : decode b_M_reach 35 = .ok (.iconst 1, 1) := by decide +kernel
theorem d_M_reach_36 : decode b_M_reach 36 = .ok (.goto 4, 3) := by decide +kernel
theorem d_M_reach_39 : decode b_M_reach 39 = .ok (.iconst 0, 1) := by decide +kernel
theorem d_M_reach_40 : decode b_M_reach 40 = .ok (.istore 5, 2) := by decide +kernel
theorem d_M_reach_42 : decode b_M_reach 42 = .ok (.iload_n 3, 1) := by decide +kernel
theorem d_M_reach_43 : decode b_M_reach 43 = .ok (.iconst 3, 1) := by decide +kernel
theorem d_M_reach_44 : decode b_M_reach 44 = .ok (.iand, 1) := by decide +kernel
theorem d_M_reach_45 : decode b_M_reach 45 = .ok (.iconst 1, 1) := by decide +kernel
theorem d_M_reach_46 : decode b_M_reach 46 = .ok (.if_icmp .eq 15, 3) := by decide +kernel
theorem d_M_reach_49 : decode b_M_reach 49 = .ok (.iload_n 3, 1) := by decide +kernel
theorem d_M_reach_50 : decode b_M_reach 50 = .ok (.iconst 3, 1) := by decide +kernel
theorem d_M_reach_51 : decode b_M_reach 51 = .ok (.iand, 1) := by decide +kernel
theorem d_M_reach_52 : decode b_M_reach 52 = .ok (.iconst 2, 1) := by decide +kernel
theorem d_M_reach_53 : decode b_M_reach 53 = .ok (.if_icmp .eq 8, 3) := by decide +kernel
theorem d_M_reach_56 : decode b_M_reach 56 = .ok (.iload 4, 2) := by decide +kernel
theorem d_M_reach_58 : decode b_M_reach 58 = .ok (.ifCond .eq 7, 3) := by decide +kernel
theorem d_M_reach_61 : decode b_M_reach 61 = .ok (.iconst 1, 1) := by decide +kernel
theorem d_M_reach_62 : decode b_M_reach 62 = .ok (.goto 4, 3) := by decide +kernel
theorem d_M_reach_65 : decode b_M_reach 65 = .ok (.iconst 0, 1) := by decide +kernel
theorem d_M_reach_66 : decode b_M_reach 66 = .ok (.istore 6, 2) := by decide +kernel
theorem d_M_reach_68 : decode b_M_reach 68 = .ok (.iconst 0, 1) := by decide +kernel
theorem d_M_reach_69 : decode b_M_reach 69 = .ok (.istore 7, 2) := by decide +kernel
theorem d_M_reach_71 : decode b_M_reach 71 = .ok (.iconst 0, 1) := by decide +kernel
theorem d_M_reach_72 : decode b_M_reach 72 = .ok (.istore 8, 2) := by decide +kernel
theorem d_M_reach_74 : decode b_M_reach 74 = .ok (.iload 8, 2) := by decide +kernel
theorem d_M_reach_76 : decode b_M_reach 76 = .ok (.bipush 12, 2) := by decide +kernel
theorem d_M_reach_78 : decode b_M_reach 78 = .ok (.if_icmp .ge 57, 3) := by decide +kernel
theorem d_M_reach_81 : decode b_M_reach 81 = .ok (.iload 7, 2) := by decide +kernel
theorem d_M_reach_83 : decode b_M_reach 83 = .ok (.ifCond .ne 39, 3) := by decide +kernel
theorem d_M_reach_86 : decode b_M_reach 86 = .ok (.aload_n 0, 1) := by decide +kernel
theorem d_M_reach_87 : decode b_M_reach 87 = .ok (.getfield 45, 3) := by decide +kernel
theorem d_M_reach_90 : decode b_M_reach 90 = .ok (.iload 8, 2) := by decide +kernel
theorem d_M_reach_92 : decode b_M_reach 92 = .ok (.baload, 1) := by decide +kernel
theorem d_M_reach_93 : decode b_M_reach 93 = .ok (.ifCond .eq 33, 3) := by decide +kernel
theorem d_M_reach_96 : decode b_M_reach 96 = .ok (.aload_n 0, 1) := by decide +kernel
theorem d_M_reach_97 : decode b_M_reach 97 = .ok (.getfield 58, 3) := by decide +kernel
theorem d_M_reach_100 : decode b_M_reach 100 = .ok (.iload 8, 2) := by decide +kernel
theorem d_M_reach_102 : decode b_M_reach 102 = .ok (.iaload, 1) := by decide +kernel
theorem d_M_reach_103 : decode b_M_reach 103 = .ok (.ifCond .lt 23, 3) := by decide +kernel
theorem d_M_reach_106 : decode b_M_reach 106 = .ok (.aload_n 0, 1) := by decide +kernel
theorem d_M_reach_107 : decode b_M_reach 107 = .ok (.getfield 52, 3) := by decide +kernel
theorem d_M_reach_110 : decode b_M_reach 110 = .ok (.iload 8, 2) := by decide +kernel
theorem d_M_reach_112 : decode b_M_reach 112 = .ok (.iaload, 1) := by decide +kernel
theorem d_M_reach_113 : decode b_M_reach 113 = .ok (.aload_n 0, 1) := by decide +kernel
theorem d_M_reach_114 : decode b_M_reach 114 = .ok (.iload_n 2, 1) := by decide +kernel
theorem d_M_reach_115 : decode b_M_reach 115 = .ok (.iconst 1, 1) := by decide +kernel
theorem d_M_reach_116 : decode b_M_reach 116 = .ok (.invokevirtual 81, 3) := by decide +kernel
theorem d_M_reach_119 : decode b_M_reach 119 = .ok (.if_icmp .ne 7, 3) := by decide +kernel
theorem d_M_reach_122 : decode b_M_reach 122 = .ok (.iconst 1, 1) := by decide +kernel
theorem d_M_reach_123 : decode b_M_reach 123 = .ok (.goto 4, 3) := by decide +kernel
theorem d_M_reach_126 : decode b_M_reach 126 = .ok (.iconst 0, 1) := by decide +kernel
theorem d_M_reach_127 : decode b_M_reach 127 = .ok (.istore 7, 2) := by decide +kernel
theorem d_M_reach_129 : decode b_M_reach 129 = .ok (.iinc 8 1, 3) := by decide +kernel
theorem d_M_reach_132 : decode b_M_reach 132 = .ok (.goto (-58), 3) := by decide +kernel
theorem d_M_reach_135 : decode b_M_reach 135 = .ok (.aload_n 0, 1) := by decide +kernel
theorem d_M_reach_136 : decode b_M_reach 136 = .ok (.getfield 58, 3) := by decide +kernel
theorem d_M_reach_139 : decode b_M_reach 139 = .ok (.iload_n 1, 1) := by decide +kernel
theorem d_M_reach_140 : decode b_M_reach 140 = .ok (.iaload, 1) := by decide +kernel
theorem d_M_reach_141 : decode b_M_reach 141 = .ok (.ifCond .lt 13, 3) := by decide +kernel
theorem d_M_reach_144 : decode b_M_reach 144 = .ok (.aload_n 0, 1) := by decide +kernel
theorem d_M_reach_145 : decode b_M_reach 145 = .ok (.ldc2_w 307, 3) := by decide +kernel
theorem d_M_reach_148 : decode b_M_reach 148 = .ok (.putfield 193, 3) := by decide +kernel
theorem d_M_reach_151 : decode b_M_reach 151 = .ok (.goto 162, 3) := by decide +kernel
theorem d_M_reach_154 : decode b_M_reach 154 = .ok (.iload_n 3, 1) := by decide +kernel
theorem d_M_reach_155 : decode b_M_reach 155 = .ok (.bipush (-84), 2) := by decide +kernel
theorem d_M_reach_157 : decode b_M_reach 157 = .ok (.iand, 1) := by decide +kernel
theorem d_M_reach_158 : decode b_M_reach 158 = .ok (.ifCond .eq 13, 3) := by decide +kernel
theorem d_M_reach_161 : decode b_M_reach 161 = .ok (.aload_n 0, 1) := by decide +kernel
theorem d_M_reach_162 : decode b_M_reach 162 = .ok (.ldc2_w 319, 3) := by decide +kernel
theorem d_M_reach_165 : decode b_M_reach 165 = .ok (.putfield 193, 3) := by decide +kernel
theorem d_M_reach_168 : decode b_M_reach 168 = .ok (.goto 145, 3) := by decide +kernel
theorem d_M_reach_171 : decode b_M_reach 171 = .ok (.aload_n 0, 1) := by decide +kernel
theorem d_M_reach_172 : decode b_M_reach 172 = .ok (.iload_n 2, 1) := by decide +kernel
theorem d_M_reach_173 : decode b_M_reach 173 = .ok (.invokevirtual 97, 3) := by decide +kernel
theorem d_M_reach_176 : decode b_M_reach 176 = .ok (.ifCond .eq 17, 3) := by decide +kernel
theorem d_M_reach_179 : decode b_M_reach 179 = .ok (.iload_n 3, 1) := by decide +kernel
theorem d_M_reach_180 : decode b_M_reach 180 = .ok (.ifCond .eq 13, 3) := by decide +kernel
theorem d_M_reach_183 : decode b_M_reach 183 = .ok (.aload_n 0, 1) := by decide +kernel
theorem d_M_reach_184 : decode b_M_reach 184 = .ok (.ldc2_w 315, 3) := by decide +kernel
theorem d_M_reach_187 : decode b_M_reach 187 = .ok (.putfield 193, 3) := by decide +kernel
theorem d_M_reach_190 : decode b_M_reach 190 = .ok (.goto 123, 3) := by decide +kernel
theorem d_M_reach_193 : decode b_M_reach 193 = .ok (.iload 5, 2) := by decide +kernel
theorem d_M_reach_195 : decode b_M_reach 195 = .ok (.ifCond .eq 16, 3) := by decide +kernel
theorem d_M_reach_198 : decode b_M_reach 198 = .ok (.aload_n 0, 1) := by decide +kernel
theorem d_M_reach_199 : decode b_M_reach 199 = .ok (.iload_n 2, 1) := by decide +kernel
theorem d_M_reach_200 : decode b_M_reach 200 = .ok (.aload_n 0, 1) := by decide +kernel
theorem d_M_reach_201 : decode b_M_reach 201 = .ok (.getfield 276, 3) := by decide +kernel
theorem d_M_reach_204 : decode b_M_reach 204 = .ok (.iconst 4, 1) := by decide +kernel
theorem d_M_reach_205 : decode b_M_reach 205 = .ok (.invokevirtual 93, 3) := by decide +kernel
theorem d_M_reach_208 : decode b_M_reach 208 = .ok (.ifCond .eq 41, 3) := by decide +kernel
theorem d_M_reach_211 : decode b_M_reach 211 = .ok (.iload 6, 2) := by decide +kernel
theorem d_M_reach_213 : decode b_M_reach 213 = .ok (.ifCond .eq 16, 3) := by decide +kernel
theorem d_M_reach_216 : decode b_M_reach 216 = .ok (.aload_n 0, 1) := by decide +kernel
theorem d_M_reach_217 : decode b_M_reach 217 = .ok (.iload_n 2, 1) := by decide +kernel
theorem d_M_reach_218 : decode b_M_reach 218 = .ok (.aload_n 0, 1) := by decide +kernel
theorem d_M_reach_219 : decode b_M_reach 219 = .ok (.getfield 276, 3) := by decide +kernel
theorem d_M_reach_222 : decode b_M_reach 222 = .ok (.iconst 2, 1) := by decide +kernel
theorem d_M_reach_223 : decode b_M_reach 223 = .ok (.invokevirtual 93, 3) := by decide +kernel
theorem d_M_reach_226 : decode b_M_reach 226 = .ok (.ifCond .eq 23, 3) := by decide +kernel
theorem d_M_reach_229 : decode b_M_reach 229 = .ok (.iload_n 3, 1) := by decide +kernel
theorem d_M_reach_230 : decode b_M_reach 230 = .ok (.iconst 3, 1) := by decide +kernel
theorem d_M_reach_231 : decode b_M_reach 231 = .ok (.iand, 1) := by decide +kernel
theorem d_M_reach_232 : decode b_M_reach 232 = .ok (.iconst 3, 1) := by decide +kernel
theorem d_M_reach_233 : decode b_M_reach 233 = .ok (.if_icmp .ne 26, 3) := by decide +kernel
theorem d_M_reach_236 : decode b_M_reach 236 = .ok (.aload_n 0, 1) := by decide +kernel
theorem d_M_reach_237 : decode b_M_reach 237 = .ok (.iload_n 2, 1) := by decide +kernel
theorem d_M_reach_238 : decode b_M_reach 238 = .ok (.aload_n 0, 1) := by decide +kernel
theorem d_M_reach_239 : decode b_M_reach 239 = .ok (.getfield 276, 3) := by decide +kernel
theorem d_M_reach_242 : decode b_M_reach 242 = .ok (.iconst 1, 1) := by decide +kernel
theorem d_M_reach_243 : decode b_M_reach 243 = .ok (.invokevirtual 93, 3) := by decide +kernel
theorem d_M_reach_246 : decode b_M_reach 246 = .ok (.ifCond .ne 13, 3) := by decide +kernel
theorem d_M_reach_249 : decode b_M_reach 249 = .ok (.aload_n 0, 1) := by decide +kernel
theorem d_M_reach_250 : decode b_M_reach 250 = .ok (.ldc2_w 303, 3) := by decide +kernel
theorem d_M_reach_253 : decode b_M_reach 253 = .ok (.putfield 193, 3) := by decide +kernel
theorem d_M_reach_256 : decode b_M_reach 256 = .ok (.goto 57, 3) := by decide +kernel
theorem d_M_reach_259 : decode b_M_reach 259 = .ok (.iload_n 3, 1) := by decide +kernel
theorem d_M_reach_260 : decode b_M_reach 260 = .ok (.bipush 64, 2) := by decide +kernel
theorem d_M_reach_262 : decode b_M_reach 262 = .ok (.iand, 1) := by decide +kernel
theorem d_M_reach_263 : decode b_M_reach 263 = .ok (.ifCond .eq 25, 3) := by decide +kernel
theorem d_M_reach_266 : decode b_M_reach 266 = .ok (.aload_n 0, 1) := by decide +kernel
theorem d_M_reach_267 : decode b_M_reach 267 = .ok (.iload_n 2, 1) := by decide +kernel
theorem d_M_reach_268 : decode b_M_reach 268 = .ok (.aload_n 0, 1) := by decide +kernel
theorem d_M_reach_269 : decode b_M_reach 269 = .ok (.getfield 276, 3) := by decide +kernel
theorem d_M_reach_272 : decode b_M_reach 272 = .ok (.invokevirtual 166, 3) := by decide +kernel
theorem d_M_reach_275 : decode b_M_reach 275 = .ok (.ifCond .ne 13, 3) := by decide +kernel
theorem d_M_reach_278 : decode b_M_reach 278 = .ok (.aload_n 0, 1) := by decide +kernel
theorem d_M_reach_279 : decode b_M_reach 279 = .ok (.ldc2_w 303, 3) := by decide +kernel
theorem d_M_reach_282 : decode b_M_reach 282 = .ok (.putfield 193, 3) := by decide +kernel
theorem d_M_reach_285 : decode b_M_reach 285 = .ok (.goto 28, 3) := by decide +kernel
theorem d_M_reach_288 : decode b_M_reach 288 = .ok (.aload_n 0, 1) := by decide +kernel
theorem d_M_reach_289 : decode b_M_reach 289 = .ok (.iload_n 2, 1) := by decide +kernel
theorem d_M_reach_290 : decode b_M_reach 290 = .ok (.iconst 3, 1) := by decide +kernel
theorem d_M_reach_291 : decode b_M_reach 291 = .ok (.invokevirtual 81, 3) := by decide +kernel
theorem d_M_reach_294 : decode b_M_reach 294 = .ok (.ldc_w 321, 3) := by decide +kernel
theorem d_M_reach_297 : decode b_M_reach 297 = .ok (.iand, 1) := by decide +kernel
theorem d_M_reach_298 : decode b_M_reach 298 = .ok (.ifCond .eq 15, 3) := by decide +kernel
theorem d_M_reach_301 : decode b_M_reach 301 = .ok (.iload 7, 2) := by decide +kernel
theorem d_M_reach_303 : decode b_M_reach 303 = .ok (.ifCond .eq 10, 3) := by decide +kernel
theorem d_M_reach_306 : decode b_M_reach 306 = .ok (.aload_n 0, 1) := by decide +kernel
theorem d_M_reach_307 : decode b_M_reach 307 = .ok (.ldc2_w 322, 3) := by decide +kernel
theorem d_M_reach_310 : decode b_M_reach 310 = .ok (.putfield 193, 3) := by decide +kernel
theorem d_M_reach_313 : decode b_M_reach 313 = .ok (.aload_n 0, 1) := by decide +kernel
theorem d_M_reach_314 : decode b_M_reach 314 = .ok (.getfield 193, 3) := by decide +kernel
theorem d_M_reach_317 : decode b_M_reach 317 = .ok (.lconst 0, 1) := by decide +kernel
theorem d_M_reach_318 : decode b_M_reach 318 = .ok (.lcmp, 1) := by decide +kernel
theorem d_M_reach_319 : decode b_M_reach 319 = .ok (.ifCond .eq 4, 3) := by decide +kernel
theorem d_M_reach_322 : decode b_M_reach 322 = .ok (.return_, 1) := by decide +kernel
theorem d_M_reach_323 : decode b_M_reach 323 = .ok (.iload 4, 2) := by decide +kernel
theorem d_M_reach_325 : decode b_M_reach 325 = .ok (.ifCond .eq 49, 3) := by decide +kernel
theorem d_M_reach_328 : decode b_M_reach 328 = .ok (.aload_n 0, 1) := by decide +kernel
theorem d_M_reach_329 : decode b_M_reach 329 = .ok (.iload_n 2, 1) := by decide +kernel
theorem d_M_reach_330 : decode b_M_reach 330 = .ok (.iconst 3, 1) := by decide +kernel
theorem d_M_reach_331 : decode b_M_reach 331 = .ok (.invokevirtual 81, 3) := by decide +kernel
theorem d_M_reach_334 : decode b_M_reach 334 = .ok (.ldc_w 324, 3) := by decide +kernel
theorem d_M_reach_337 : decode b_M_reach 337 = .ok (.iand, 1) := by decide +kernel
theorem d_M_reach_338 : decode b_M_reach 338 = .ok (.ifCond .ne 36, 3) := by decide +kernel
theorem d_M_reach_341 : decode b_M_reach 341 = .ok (.aload_n 0, 1) := by decide +kernel
theorem d_M_reach_342 : decode b_M_reach 342 = .ok (.invokevirtual 170, 3) := by decide +kernel
theorem d_M_reach_345 : decode b_M_reach 345 = .ok (.aload_n 0, 1) := by decide +kernel
theorem d_M_reach_346 : decode b_M_reach 346 = .ok (.iload_n 2, 1) := by decide +kernel
theorem d_M_reach_347 : decode b_M_reach 347 = .ok (.bipush 18, 2) := by decide +kernel
theorem d_M_reach_349 : decode b_M_reach 349 = .ok (.iconst 0, 1) := by decide +kernel
theorem d_M_reach_350 : decode b_M_reach 350 = .ok (.invokevirtual 104, 3) := by decide +kernel
theorem d_M_reach_353 : decode b_M_reach 353 = .ok (.aload_n 0, 1) := by decide +kernel
theorem d_M_reach_354 : decode b_M_reach 354 = .ok (.iload_n 2, 1) := by decide +kernel
theorem d_M_reach_355 : decode b_M_reach 355 = .ok (.aload_n 0, 1) := by decide +kernel
theorem d_M_reach_356 : decode b_M_reach 356 = .ok (.getfield 276, 3) := by decide +kernel
theorem d_M_reach_359 : decode b_M_reach 359 = .ok (.invokevirtual 111, 3) := by decide +kernel
theorem d_M_reach_362 : decode b_M_reach 362 = .ok (.aload_n 0, 1) := by decide +kernel
theorem d_M_reach_363 : decode b_M_reach 363 = .ok (.aload_n 0, 1) := by decide +kernel
theorem d_M_reach_364 : decode b_M_reach 364 = .ok (.getfield 187, 3) := by decide +kernel
theorem d_M_reach_367 : decode b_M_reach 367 = .ok (.invokevirtual 176, 3) := by decide +kernel
theorem d_M_reach_370 : decode b_M_reach 370 = .ok (.ifCond .ne 4, 3) := by decide +kernel
theorem d_M_reach_373 : decode b_M_reach 373 = .ok (.return_, 1) := by decide +kernel
theorem d_M_reach_374 : decode b_M_reach 374 = .ok (.aload_n 0, 1) := by decide +kernel
theorem d_M_reach_375 : decode b_M_reach 375 = .ok (.iload_n 1, 1) := by decide +kernel
theorem d_M_reach_376 : decode b_M_reach 376 = .ok (.iload_n 3, 1) := by decide +kernel
theorem d_M_reach_377 : decode b_M_reach 377 = .ok (.invokevirtual 325, 3) := by decide +kernel
theorem d_M_reach_380 : decode b_M_reach 380 = .ok (.aload_n 0, 1) := by decide +kernel
theorem d_M_reach_381 : decode b_M_reach 381 = .ok (.iload_n 2, 1) := by decide +kernel
theorem d_M_reach_382 : decode b_M_reach 382 = .ok (.invokevirtual 156, 3) := by decide +kernel
theorem d_M_reach_385 : decode b_M_reach 385 = .ok (.aload_n 0, 1) := by decide +kernel
theorem d_M_reach_386 : decode b_M_reach 386 = .ok (.lconst 0, 1) := by decide +kernel
theorem d_M_reach_387 : decode b_M_reach 387 = .ok (.iconst 4, 1) := by decide +kernel
theorem d_M_reach_388 : decode b_M_reach 388 = .ok (.invokevirtual 137, 3) := by decide +kernel
theorem d_M_reach_391 : decode b_M_reach 391 = .ok (.return_, 1) := by decide +kernel
abbrev rm_M_reach : Room := { frames := 3, cells := 0, slots := 0, locals := 69 }
set_option maxRecDepth 100000 in
set_option maxHeartbeats 4000000 in
theorem k_M_reach_374 {p : Program} {l : Launch} {e : Env} {s : State} {m : MethodId} {args : Array Value} {below : List Frame} {meth : Method} {c : Code} {t : TY} {a0 : Nat} {K : GS → Prop} (X : kX p s m args meth c b_M_reach 9 "TreeServerModel" t) (hret : meth.sig.returnType = none) (l1 : Int32) (l2 : Int32) (l3 : Int32) (G : GS) (hwp : w_M_reach_374 t a0 K l1 l2 l3 G) : kW p l e rm_M_reach s m args below meth c (MQ below (va_Qv (fun u : GS => K u) (fun u T => HB t u T.heap) (tA t)) args s 0 0 (tA t)) 9 t false 374 [(0, va_rf (some a0)), (1, .int l1), (2, .int l2), (3, .int l3)] [] G := by
  unfold w_M_reach_374 at hwp
  refine kw_aload_n (pc := 374) X d_M_reach_374 rfl 0 rfl ?_
  refine kw_iload_n (pc := 375) X d_M_reach_375 rfl 1 rfl ?_
  refine kw_iload_n (pc := 376) X d_M_reach_376 rfl 3 rfl ?_
  obtain ⟨f1, hwp⟩ := hwp
  refine kcV_v (n := 2) (As := [.int l1, .int l3]) (rest := []) (pc := 377) X rfl (c_M_open l t G a0 l1 l3 _) (cwV_of (C := "TreeServerModel") X x_1283 x_1280 x_1282 xp_75 x_13 (by decide +kernel) ⟨rfl, rfl⟩ (by decide)) (rv_10 X f1) rfl rfl (by decide) d_M_reach_377 hwp (fun G2 hwp => ?_)
  refine kw_aload_n (pc := 380) X d_M_reach_380 rfl 0 rfl ?_
  refine kw_iload_n (pc := 381) X d_M_reach_381 rfl 2 rfl ?_
  refine kcV_v (n := 1) (As := [.int l2]) (rest := []) (pc := 382) X rfl (c_M_qid l t G2 a0 l2 _) (cwV_of (C := "TreeServerModel") X x_1243 x_1240 x_1242 xp_68 x_13 (by decide +kernel) ⟨rfl, rfl⟩ (by decide)) (rv_10 X f1) rfl rfl (by decide) d_M_reach_382 hwp (fun G3 hwp => ?_)
  refine kw_aload_n (pc := 385) X d_M_reach_385 rfl 0 rfl ?_
  refine kw_lconst (v := 0) (pc := 386) X d_M_reach_386 (by decide) ?_
  refine kw_iconst (v := 4) (pc := 387) X d_M_reach_387 (by decide) ?_
  refine kcV_v (n := 2) (As := [.long (0 : Int64), .int (4 : Int32)]) (rest := []) (pc := 388) X rfl (c_M_put l t G3 a0 (0 : Int64) (4 : Int32) _) (cwV_of (C := "TreeServerModel") X x_1199 x_1196 x_1198 xp_60 x_13 (by decide +kernel) ⟨rfl, rfl⟩ (by decide)) (rv_10 X f1) rfl rfl (by decide) d_M_reach_388 hwp (fun G4 hwp => ?_)
  exact kr_v (pc := 391) X hret d_M_reach_391 hwp
set_option maxRecDepth 100000 in
set_option maxHeartbeats 4000000 in
theorem k_M_reach_313 {p : Program} {l : Launch} {e : Env} {s : State} {m : MethodId} {args : Array Value} {below : List Frame} {meth : Method} {c : Code} {t : TY} {a0 : Nat} {K : GS → Prop} (X : kX p s m args meth c b_M_reach 9 "TreeServerModel" t) (hret : meth.sig.returnType = none) (l1 : Int32) (l2 : Int32) (l3 : Int32) (l4 : Int32) (G : GS) (hwp : w_M_reach_313 t a0 K l1 l2 l3 l4 G) : kW p l e rm_M_reach s m args below meth c (MQ below (va_Qv (fun u : GS => K u) (fun u T => HB t u T.heap) (tA t)) args s 0 0 (tA t)) 9 t false 313 [(0, va_rf (some a0)), (1, .int l1), (2, .int l2), (3, .int l3), (4, .int l4)] [] G := by
  unfold w_M_reach_313 at hwp
  refine kw_aload_n (pc := 313) X d_M_reach_313 rfl 0 rfl ?_
  obtain ⟨f1, hwp⟩ := hwp
  refine kg_98 (a := a0) (pc := 314) X d_M_reach_314 x_1018 rfl f1 ?_
  refine kw_lconst (v := 0) (pc := 317) X d_M_reach_317 (by decide) ?_
  refine kw_lcmp_eq (tgt := 323) (pc := 318) X d_M_reach_318 d_M_reach_319 (by decide) (fun h => ?_) (fun h => ?_)
  · have hwp := ite_t h hwp
    refine kw_iload (pc := 323) X d_M_reach_323 4 rfl ?_
    refine kw_if_eq (tgt := 374) (pc := 325) X d_M_reach_325 (by decide) (fun h => ?_) (fun h => ?_)
    · have hwp := ite_t h hwp
      exact kW.sub [0, 1, 2, 3] rfl (k_M_reach_374 X hret  _ _ _ _ hwp)
    · have hwp := ite_f h hwp
      refine kw_aload_n (pc := 328) X d_M_reach_328 rfl 0 rfl ?_
      refine kw_iload_n (pc := 329) X d_M_reach_329 rfl 2 rfl ?_
      refine kw_iconst (v := 3) (pc := 330) X d_M_reach_330 (by decide) ?_
      refine kcVp_i (n := 2) (As := [.int l2, .int (3 : Int32)]) (rest := []) (pc := 331) X (c_M_at l t G a0 l2 (3 : Int32) _) (cwV_of (C := "TreeServerModel") X x_1111 x_1108 x_1110 xp_41 x_13 (by decide +kernel) ⟨rfl, rfl⟩ (by decide)) (rv_10 X f1) rfl rfl (by decide) d_M_reach_331 hwp (fun v2 hwp => ?_)
      refine kw_ldcw (v := 1073741824) (pc := 334) X d_M_reach_334 x_1279 ?_
      refine kw_iand (pc := 337) X d_M_reach_337 ?_
      refine kw_if_ne (tgt := 374) (pc := 338) X d_M_reach_338 (by decide) (fun h => ?_) (fun h => ?_)
      · have hwp := ite_t h hwp
        exact kW.sub [0, 1, 2, 3] rfl (k_M_reach_374 X hret  _ _ _ _ hwp)
      · have hwp := ite_f (not_not_intro h) hwp
        refine kw_aload_n (pc := 341) X d_M_reach_341 rfl 0 rfl ?_
        refine kcV_v (n := 0) (As := []) (rest := []) (pc := 342) X rfl (c_M_begin l t G a0 _) (cwV_of (C := "TreeServerModel") X x_1131 x_1128 x_1130 xp_46 x_13 (by decide +kernel) ⟨rfl, rfl⟩ (by decide)) (rv_10 X f1) rfl rfl (by decide) d_M_reach_342 hwp (fun G3 hwp => ?_)
        refine kw_aload_n (pc := 345) X d_M_reach_345 rfl 0 rfl ?_
        refine kw_iload_n (pc := 346) X d_M_reach_346 rfl 2 rfl ?_
        refine kw_bipush (v := 18) (pc := 347) X d_M_reach_347 (by decide) ?_
        refine kw_iconst (v := 0) (pc := 349) X d_M_reach_349 (by decide) ?_
        refine kcV_v (n := 3) (As := [.int l2, .int (18 : Int32), .int (0 : Int32)]) (rest := []) (pc := 350) X rfl (c_M_set l t G3 a0 l2 (18 : Int32) (0 : Int32) _) (cwV_of (C := "TreeServerModel") X x_1139 x_1136 x_1138 xp_48 x_13 (by decide +kernel) ⟨rfl, rfl⟩ (by decide)) (rv_10 X f1) rfl rfl (by decide) d_M_reach_350 hwp (fun G4 hwp => ?_)
        refine kw_aload_n (pc := 353) X d_M_reach_353 rfl 0 rfl ?_
        refine kw_iload_n (pc := 354) X d_M_reach_354 rfl 2 rfl ?_
        refine kw_aload_n (pc := 355) X d_M_reach_355 rfl 0 rfl ?_
        refine kg_99 (a := a0) (pc := 356) X d_M_reach_356 x_1019 rfl f1 ?_
        refine kcV_v (n := 2) (As := [.int l2, .int (gi G4 99 a0)]) (rest := []) (pc := 359) X rfl (c_M_changes l t G4 a0 l2 (gi G4 99 a0) _) (cwV_of (C := "TreeServerModel") X x_1143 x_1140 x_1142 xp_49 x_13 (by decide +kernel) ⟨rfl, rfl⟩ (by decide)) (rv_10 X f1) rfl rfl (by decide) d_M_reach_359 hwp (fun G5 hwp => ?_)
        refine kw_aload_n (pc := 362) X d_M_reach_362 rfl 0 rfl ?_
        refine kw_aload_n (pc := 363) X d_M_reach_363 rfl 0 rfl ?_
        refine kg_95 (a := a0) (pc := 364) X d_M_reach_364 x_1015 rfl f1 ?_
        refine kcV_i (n := 1) (As := [.int (gi G5 95 a0)]) (rest := []) (pc := 367) X rfl (c_M_commit l t G5 a0 (gi G5 95 a0) _) (cwV_of (C := "TreeServerModel") X x_1147 x_1144 x_1146 xp_50 x_13 (by decide +kernel) ⟨rfl, rfl⟩ (by decide)) (rv_10 X f1) rfl rfl (by decide) d_M_reach_367 hwp (fun v7 G6 hwp => ?_)
        obtain ⟨b_v7, hwp⟩ := hwp
        refine kw_if_ne (tgt := 374) (pc := 370) X d_M_reach_370 (by decide) (fun h => ?_) (fun h => ?_)
        · have hwp := ite_t h hwp
          exact kW.sub [0, 1, 2, 3] rfl (k_M_reach_374 X hret  _ _ _ _ hwp)
        · have hwp := ite_f (not_not_intro h) hwp
          exact kr_v (pc := 373) X hret d_M_reach_373 hwp
  · have hwp := ite_f h hwp
    exact kr_v (pc := 322) X hret d_M_reach_322 hwp
set_option maxRecDepth 100000 in
set_option maxHeartbeats 4000000 in
theorem k_M_reach_288 {p : Program} {l : Launch} {e : Env} {s : State} {m : MethodId} {args : Array Value} {below : List Frame} {meth : Method} {c : Code} {t : TY} {a0 : Nat} {K : GS → Prop} (X : kX p s m args meth c b_M_reach 9 "TreeServerModel" t) (hret : meth.sig.returnType = none) (l1 : Int32) (l2 : Int32) (l3 : Int32) (l4 : Int32) (l7 : Int32) (G : GS) (hwp : w_M_reach_288 t a0 K l1 l2 l3 l4 l7 G) : kW p l e rm_M_reach s m args below meth c (MQ below (va_Qv (fun u : GS => K u) (fun u T => HB t u T.heap) (tA t)) args s 0 0 (tA t)) 9 t false 288 [(0, va_rf (some a0)), (1, .int l1), (2, .int l2), (3, .int l3), (4, .int l4), (7, .int l7)] [] G := by
  unfold w_M_reach_288 at hwp
  refine kw_aload_n (pc := 288) X d_M_reach_288 rfl 0 rfl ?_
  refine kw_iload_n (pc := 289) X d_M_reach_289 rfl 2 rfl ?_
  refine kw_iconst (v := 3) (pc := 290) X d_M_reach_290 (by decide) ?_
  obtain ⟨f1, hwp⟩ := hwp
  refine kcVp_i (n := 2) (As := [.int l2, .int (3 : Int32)]) (rest := []) (pc := 291) X (c_M_at l t G a0 l2 (3 : Int32) _) (cwV_of (C := "TreeServerModel") X x_1111 x_1108 x_1110 xp_41 x_13 (by decide +kernel) ⟨rfl, rfl⟩ (by decide)) (rv_10 X f1) rfl rfl (by decide) d_M_reach_291 hwp (fun v2 hwp => ?_)
  refine kw_ldcw (v := 536870912) (pc := 294) X d_M_reach_294 x_1277 ?_
  refine kw_iand (pc := 297) X d_M_reach_297 ?_
  refine kw_if_eq (tgt := 313) (pc := 298) X d_M_reach_298 (by decide) (fun h => ?_) (fun h => ?_)
  · have hwp := ite_t h hwp
    exact kW.sub [0, 1, 2, 3, 4] rfl (k_M_reach_313 X hret  _ _ _ _ _ hwp)
  · have hwp := ite_f h hwp
    refine kw_iload (pc := 301) X d_M_reach_301 5 rfl ?_
    refine kw_if_eq (tgt := 313) (pc := 303) X d_M_reach_303 (by decide) (fun h => ?_) (fun h => ?_)
    · have hwp := ite_t h hwp
      exact kW.sub [0, 1, 2, 3, 4] rfl (k_M_reach_313 X hret  _ _ _ _ _ hwp)
    · have hwp := ite_f h hwp
      refine kw_aload_n (pc := 306) X d_M_reach_306 rfl 0 rfl ?_
      refine kw_ldc2 (v := 1818458213) (pc := 307) X d_M_reach_307 x_1278 ?_
      refine kp_98 (a := a0) (x := (1818458213 : Int64)) (pc := 310) X rfl d_M_reach_310 x_1018 rfl f1 ?_
      obtain ⟨G3, e_G3⟩ : ∃ g, g = sl G 98 a0 (1818458213 : Int64) := ⟨_, rfl⟩
      have hwp := hwp G3 e_G3
      refine kW.g e_G3.symm ?_
      exact kW.sub [0, 1, 2, 3, 4] rfl (k_M_reach_313 X hret  _ _ _ _ _ hwp)
set_option maxRecDepth 100000 in
set_option maxHeartbeats 4000000 in
theorem k_M_reach_259 {p : Program} {l : Launch} {e : Env} {s : State} {m : MethodId} {args : Array Value} {below : List Frame} {meth : Method} {c : Code} {t : TY} {a0 : Nat} {K : GS → Prop} (X : kX p s m args meth c b_M_reach 9 "TreeServerModel" t) (hret : meth.sig.returnType = none) (l1 : Int32) (l2 : Int32) (l3 : Int32) (l4 : Int32) (l7 : Int32) (G : GS) (hwp : w_M_reach_259 t a0 K l1 l2 l3 l4 l7 G) : kW p l e rm_M_reach s m args below meth c (MQ below (va_Qv (fun u : GS => K u) (fun u T => HB t u T.heap) (tA t)) args s 0 0 (tA t)) 9 t false 259 [(0, va_rf (some a0)), (1, .int l1), (2, .int l2), (3, .int l3), (4, .int l4), (7, .int l7)] [] G := by
  unfold w_M_reach_259 at hwp
  refine kw_iload_n (pc := 259) X d_M_reach_259 rfl 3 rfl ?_
  refine kw_bipush (v := 64) (pc := 260) X d_M_reach_260 (by decide) ?_
  refine kw_iand (pc := 262) X d_M_reach_262 ?_
  refine kw_if_eq (tgt := 288) (pc := 263) X d_M_reach_263 (by decide) (fun h => ?_) (fun h => ?_)
  · have hwp := ite_t h hwp
    exact kW.sub [0, 1, 2, 3, 4, 5] rfl (k_M_reach_288 X hret  _ _ _ _ _ _ hwp)
  · have hwp := ite_f h hwp
    refine kw_aload_n (pc := 266) X d_M_reach_266 rfl 0 rfl ?_
    refine kw_iload_n (pc := 267) X d_M_reach_267 rfl 2 rfl ?_
    refine kw_aload_n (pc := 268) X d_M_reach_268 rfl 0 rfl ?_
    obtain ⟨f1, hwp⟩ := hwp
    refine kg_99 (a := a0) (pc := 269) X d_M_reach_269 x_1019 rfl f1 ?_
    refine kcVp_i (n := 2) (As := [.int l2, .int (gi G 99 a0)]) (rest := []) (pc := 272) X (c_M_mayIn l t G a0 l2 (gi G 99 a0) _) (cwV_of (C := "TreeServerModel") X x_1123 x_1120 x_1122 xp_44 x_13 (by decide +kernel) ⟨rfl, rfl⟩ (by decide)) (rv_10 X f1) rfl rfl (by decide) d_M_reach_272 hwp (fun v2 hwp => ?_)
    obtain ⟨b_v2, hwp⟩ := hwp
    refine kw_if_ne (tgt := 288) (pc := 275) X d_M_reach_275 (by decide) (fun h => ?_) (fun h => ?_)
    · have hwp := ite_t h hwp
      exact kW.sub [0, 1, 2, 3, 4, 5] rfl (k_M_reach_288 X hret  _ _ _ _ _ _ hwp)
    · have hwp := ite_f (not_not_intro h) hwp
      refine kw_aload_n (pc := 278) X d_M_reach_278 rfl 0 rfl ?_
      refine kw_ldc2 (v := 1836213616) (pc := 279) X d_M_reach_279 x_1254 ?_
      refine kp_98 (a := a0) (x := (1836213616 : Int64)) (pc := 282) X rfl d_M_reach_282 x_1018 rfl f1 ?_
      obtain ⟨G3, e_G3⟩ : ∃ g, g = sl G 98 a0 (1836213616 : Int64) := ⟨_, rfl⟩
      have hwp := hwp G3 e_G3
      refine kW.g e_G3.symm ?_
      refine kw_goto (tgt := 313) (pc := 285) X d_M_reach_285 (by decide) ?_
      exact kW.sub [0, 1, 2, 3, 4] rfl (k_M_reach_313 X hret  _ _ _ _ _ hwp)
set_option maxRecDepth 100000 in
set_option maxHeartbeats 4000000 in
theorem k_M_reach_249 {p : Program} {l : Launch} {e : Env} {s : State} {m : MethodId} {args : Array Value} {below : List Frame} {meth : Method} {c : Code} {t : TY} {a0 : Nat} {K : GS → Prop} (X : kX p s m args meth c b_M_reach 9 "TreeServerModel" t) (hret : meth.sig.returnType = none) (l1 : Int32) (l2 : Int32) (l3 : Int32) (l4 : Int32) (G : GS) (hwp : w_M_reach_249 t a0 K l1 l2 l3 l4 G) : kW p l e rm_M_reach s m args below meth c (MQ below (va_Qv (fun u : GS => K u) (fun u T => HB t u T.heap) (tA t)) args s 0 0 (tA t)) 9 t false 249 [(0, va_rf (some a0)), (1, .int l1), (2, .int l2), (3, .int l3), (4, .int l4)] [] G := by
  unfold w_M_reach_249 at hwp
  refine kw_aload_n (pc := 249) X d_M_reach_249 rfl 0 rfl ?_
  refine kw_ldc2 (v := 1836213616) (pc := 250) X d_M_reach_250 x_1254 ?_
  obtain ⟨f1, hwp⟩ := hwp
  refine kp_98 (a := a0) (x := (1836213616 : Int64)) (pc := 253) X rfl d_M_reach_253 x_1018 rfl f1 ?_
  obtain ⟨G2, e_G2⟩ : ∃ g, g = sl G 98 a0 (1836213616 : Int64) := ⟨_, rfl⟩
  have hwp := hwp G2 e_G2
  refine kW.g e_G2.symm ?_
  refine kw_goto (tgt := 313) (pc := 256) X d_M_reach_256 (by decide) ?_
  exact kW.sub [0, 1, 2, 3, 4] rfl (k_M_reach_313 X hret  _ _ _ _ _ hwp)
set_option maxRecDepth 100000 in
set_option maxHeartbeats 4000000 in
theorem k_M_reach_229 {p : Program} {l : Launch} {e : Env} {s : State} {m : MethodId} {args : Array Value} {below : List Frame} {meth : Method} {c : Code} {t : TY} {a0 : Nat} {K : GS → Prop} (X : kX p s m args meth c b_M_reach 9 "TreeServerModel" t) (hret : meth.sig.returnType = none) (l1 : Int32) (l2 : Int32) (l3 : Int32) (l4 : Int32) (l7 : Int32) (G : GS) (hwp : w_M_reach_229 t a0 K l1 l2 l3 l4 l7 G) : kW p l e rm_M_reach s m args below meth c (MQ below (va_Qv (fun u : GS => K u) (fun u T => HB t u T.heap) (tA t)) args s 0 0 (tA t)) 9 t false 229 [(0, va_rf (some a0)), (1, .int l1), (2, .int l2), (3, .int l3), (4, .int l4), (7, .int l7)] [] G := by
  unfold w_M_reach_229 at hwp
  refine kw_iload_n (pc := 229) X d_M_reach_229 rfl 3 rfl ?_
  refine kw_iconst (v := 3) (pc := 230) X d_M_reach_230 (by decide) ?_
  refine kw_iand (pc := 231) X d_M_reach_231 ?_
  refine kw_iconst (v := 3) (pc := 232) X d_M_reach_232 (by decide) ?_
  refine kw_icmp_ne (tgt := 259) (pc := 233) X d_M_reach_233 (by decide) (fun h => ?_) (fun h => ?_)
  · have hwp := ite_t h hwp
    exact kW.sub [0, 1, 2, 3, 4, 5] rfl (k_M_reach_259 X hret  _ _ _ _ _ _ hwp)
  · have hwp := ite_f (not_not_intro h) hwp
    refine kw_aload_n (pc := 236) X d_M_reach_236 rfl 0 rfl ?_
    refine kw_iload_n (pc := 237) X d_M_reach_237 rfl 2 rfl ?_
    refine kw_aload_n (pc := 238) X d_M_reach_238 rfl 0 rfl ?_
    obtain ⟨f1, hwp⟩ := hwp
    refine kg_99 (a := a0) (pc := 239) X d_M_reach_239 x_1019 rfl f1 ?_
    refine kw_iconst (v := 1) (pc := 242) X d_M_reach_242 (by decide) ?_
    refine kcVp_i (n := 3) (As := [.int l2, .int (gi G 99 a0), .int (1 : Int32)]) (rest := []) (pc := 243) X (c_M_may l t G a0 l2 (gi G 99 a0) (1 : Int32) _) (cwV_of (C := "TreeServerModel") X x_1127 x_1124 x_1126 xp_45 x_13 (by decide +kernel) ⟨rfl, rfl⟩ (by decide)) (rv_10 X f1) rfl rfl (by decide) d_M_reach_243 hwp (fun v2 hwp => ?_)
    obtain ⟨b_v2, hwp⟩ := hwp
    refine kw_if_ne (tgt := 259) (pc := 246) X d_M_reach_246 (by decide) (fun h => ?_) (fun h => ?_)
    · have hwp := ite_t h hwp
      exact kW.sub [0, 1, 2, 3, 4, 5] rfl (k_M_reach_259 X hret  _ _ _ _ _ _ hwp)
    · have hwp := ite_f (not_not_intro h) hwp
      exact kW.sub [0, 1, 2, 3, 4] rfl (k_M_reach_249 X hret  _ _ _ _ _ hwp)
set_option maxRecDepth 100000 in
set_option maxHeartbeats 4000000 in
theorem k_M_reach_211 {p : Program} {l : Launch} {e : Env} {s : State} {m : MethodId} {args : Array Value} {below : List Frame} {meth : Method} {c : Code} {t : TY} {a0 : Nat} {K : GS → Prop} (X : kX p s m args meth c b_M_reach 9 "TreeServerModel" t) (hret : meth.sig.returnType = none) (l1 : Int32) (l2 : Int32) (l3 : Int32) (l4 : Int32) (l6 : Int32) (l7 : Int32) (G : GS) (hwp : w_M_reach_211 t a0 K l1 l2 l3 l4 l6 l7 G) : kW p l e rm_M_reach s m args below meth c (MQ below (va_Qv (fun u : GS => K u) (fun u T => HB t u T.heap) (tA t)) args s 0 0 (tA t)) 9 t false 211 [(0, va_rf (some a0)), (1, .int l1), (2, .int l2), (3, .int l3), (4, .int l4), (6, .int l6), (7, .int l7)] [] G := by
  unfold w_M_reach_211 at hwp
  refine kw_iload (pc := 211) X d_M_reach_211 5 rfl ?_
  refine kw_if_eq (tgt := 229) (pc := 213) X d_M_reach_213 (by decide) (fun h => ?_) (fun h => ?_)
  · have hwp := ite_t h hwp
    exact kW.sub [0, 1, 2, 3, 4, 6] rfl (k_M_reach_229 X hret  _ _ _ _ _ _ hwp)
  · have hwp := ite_f h hwp
    refine kw_aload_n (pc := 216) X d_M_reach_216 rfl 0 rfl ?_
    refine kw_iload_n (pc := 217) X d_M_reach_217 rfl 2 rfl ?_
    refine kw_aload_n (pc := 218) X d_M_reach_218 rfl 0 rfl ?_
    obtain ⟨f1, hwp⟩ := hwp
    refine kg_99 (a := a0) (pc := 219) X d_M_reach_219 x_1019 rfl f1 ?_
    refine kw_iconst (v := 2) (pc := 222) X d_M_reach_222 (by decide) ?_
    refine kcVp_i (n := 3) (As := [.int l2, .int (gi G 99 a0), .int (2 : Int32)]) (rest := []) (pc := 223) X (c_M_may l t G a0 l2 (gi G 99 a0) (2 : Int32) _) (cwV_of (C := "TreeServerModel") X x_1127 x_1124 x_1126 xp_45 x_13 (by decide +kernel) ⟨rfl, rfl⟩ (by decide)) (rv_10 X f1) rfl rfl (by decide) d_M_reach_223 hwp (fun v2 hwp => ?_)
    obtain ⟨b_v2, hwp⟩ := hwp
    refine kw_if_eq (tgt := 249) (pc := 226) X d_M_reach_226 (by decide) (fun h => ?_) (fun h => ?_)
    · have hwp := ite_t h hwp
      exact kW.sub [0, 1, 2, 3, 4] rfl (k_M_reach_249 X hret  _ _ _ _ _ hwp)
    · have hwp := ite_f h hwp
      exact kW.sub [0, 1, 2, 3, 4, 6] rfl (k_M_reach_229 X hret  _ _ _ _ _ _ hwp)
set_option maxRecDepth 100000 in
set_option maxHeartbeats 4000000 in
theorem k_M_reach_193 {p : Program} {l : Launch} {e : Env} {s : State} {m : MethodId} {args : Array Value} {below : List Frame} {meth : Method} {c : Code} {t : TY} {a0 : Nat} {K : GS → Prop} (X : kX p s m args meth c b_M_reach 9 "TreeServerModel" t) (hret : meth.sig.returnType = none) (l1 : Int32) (l2 : Int32) (l3 : Int32) (l4 : Int32) (l5 : Int32) (l6 : Int32) (l7 : Int32) (G : GS) (hwp : w_M_reach_193 t a0 K l1 l2 l3 l4 l5 l6 l7 G) : kW p l e rm_M_reach s m args below meth c (MQ below (va_Qv (fun u : GS => K u) (fun u T => HB t u T.heap) (tA t)) args s 0 0 (tA t)) 9 t false 193 [(0, va_rf (some a0)), (1, .int l1), (2, .int l2), (3, .int l3), (4, .int l4), (5, .int l5), (6, .int l6), (7, .int l7)] [] G := by
  unfold w_M_reach_193 at hwp
  refine kw_iload (pc := 193) X d_M_reach_193 5 rfl ?_
  refine kw_if_eq (tgt := 211) (pc := 195) X d_M_reach_195 (by decide) (fun h => ?_) (fun h => ?_)
  · have hwp := ite_t h hwp
    exact kW.sub [0, 1, 2, 3, 4, 6, 7] rfl (k_M_reach_211 X hret  _ _ _ _ _ _ _ hwp)
  · have hwp := ite_f h hwp
    refine kw_aload_n (pc := 198) X d_M_reach_198 rfl 0 rfl ?_
    refine kw_iload_n (pc := 199) X d_M_reach_199 rfl 2 rfl ?_
    refine kw_aload_n (pc := 200) X d_M_reach_200 rfl 0 rfl ?_
    obtain ⟨f1, hwp⟩ := hwp
    refine kg_99 (a := a0) (pc := 201) X d_M_reach_201 x_1019 rfl f1 ?_
    refine kw_iconst (v := 4) (pc := 204) X d_M_reach_204 (by decide) ?_
    refine kcVp_i (n := 3) (As := [.int l2, .int (gi G 99 a0), .int (4 : Int32)]) (rest := []) (pc := 205) X (c_M_may l t G a0 l2 (gi G 99 a0) (4 : Int32) _) (cwV_of (C := "TreeServerModel") X x_1127 x_1124 x_1126 xp_45 x_13 (by decide +kernel) ⟨rfl, rfl⟩ (by decide)) (rv_10 X f1) rfl rfl (by decide) d_M_reach_205 hwp (fun v2 hwp => ?_)
    obtain ⟨b_v2, hwp⟩ := hwp
    refine kw_if_eq (tgt := 249) (pc := 208) X d_M_reach_208 (by decide) (fun h => ?_) (fun h => ?_)
    · have hwp := ite_t h hwp
      exact kW.sub [0, 1, 2, 3, 4] rfl (k_M_reach_249 X hret  _ _ _ _ _ hwp)
    · have hwp := ite_f h hwp
      exact kW.sub [0, 1, 2, 3, 4, 6, 7] rfl (k_M_reach_211 X hret  _ _ _ _ _ _ _ hwp)
set_option maxRecDepth 100000 in
set_option maxHeartbeats 4000000 in
theorem k_M_reach_127 {p : Program} {l : Launch} {e : Env} {s : State} {m : MethodId} {args : Array Value} {below : List Frame} {meth : Method} {c : Code} {t : TY} {a0 : Nat} {K : GS → Prop} {r74 : Int32 → Int32 → Int32 → Int32 → Int32 → Int32 → Int32 → Int32 → GS → Prop} (X : kX p s m args meth c b_M_reach 9 "TreeServerModel" t) (hret : meth.sig.returnType = none) (hr_74 : ∀ (l1 : Int32) (l2 : Int32) (l3 : Int32) (l4 : Int32) (l5 : Int32) (l6 : Int32) (l7 : Int32) (l8 : Int32) (G : GS), r74 l1 l2 l3 l4 l5 l6 l7 l8 G → kW p l e rm_M_reach s m args below meth c (MQ below (va_Qv (fun u : GS => K u) (fun u T => HB t u T.heap) (tA t)) args s 0 0 (tA t)) 9 t false 74 [(0, va_rf (some a0)), (1, .int l1), (2, .int l2), (3, .int l3), (4, .int l4), (5, .int l5), (6, .int l6), (7, .int l7), (8, .int l8)] [] G) (l1 : Int32) (l2 : Int32) (l3 : Int32) (l4 : Int32) (l5 : Int32) (l6 : Int32) (l8 : Int32) (s0 : Int32) (G : GS) (hwp : w_M_reach_127 t a0 K r74 l1 l2 l3 l4 l5 l6 l8 s0 G) : kW p l e rm_M_reach s m args below meth c (MQ below (va_Qv (fun u : GS => K u) (fun u T => HB t u T.heap) (tA t)) args s 0 0 (tA t)) 9 t false 127 [(0, va_rf (some a0)), (1, .int l1), (2, .int l2), (3, .int l3), (4, .int l4), (5, .int l5), (6, .int l6), (8, .int l8)] [.int s0] G := by
  unfold w_M_reach_127 at hwp
  refine kw_istore (i := 7) (lv' := [(7, .int s0), (0, va_rf (some a0)), (1, .int l1), (2, .int l2), (3, .int l3), (4, .int l4), (5, .int l5), (6, .int l6), (8, .int l8)]) (pc := 127) X d_M_reach_127 (by decide) rfl ?_
  obtain ⟨v1, e_v1⟩ : ∃ z, z = (l8 + (1 : Int32)) := ⟨_, rfl⟩
  have hwp := hwp v1 e_v1
  refine kw_iinc (v := v1) (lv' := [(8, .int v1), (7, .int s0), (0, va_rf (some a0)), (1, .int l1), (2, .int l2), (3, .int l3), (4, .int l4), (5, .int l5), (6, .int l6)]) (pc := 129) X d_M_reach_129 8 rfl (by rw [e_v1]; rfl) (by decide) rfl ?_
  refine kw_goto (tgt := 74) (pc := 132) X d_M_reach_132 (by decide) ?_
  exact kW.sub [2, 3, 4, 5, 6, 7, 8, 1, 0] rfl (hr_74 _ _ _ _ _ _ _ _ _ hwp)
set_option maxRecDepth 100000 in
set_option maxHeartbeats 4000000 in
theorem k_M_reach_122 {p : Program} {l : Launch} {e : Env} {s : State} {m : MethodId} {args : Array Value} {below : List Frame} {meth : Method} {c : Code} {t : TY} {a0 : Nat} {K : GS → Prop} {r74 : Int32 → Int32 → Int32 → Int32 → Int32 → Int32 → Int32 → Int32 → GS → Prop} (X : kX p s m args meth c b_M_reach 9 "TreeServerModel" t) (hret : meth.sig.returnType = none) (hr_74 : ∀ (l1 : Int32) (l2 : Int32) (l3 : Int32) (l4 : Int32) (l5 : Int32) (l6 : Int32) (l7 : Int32) (l8 : Int32) (G : GS), r74 l1 l2 l3 l4 l5 l6 l7 l8 G → kW p l e rm_M_reach s m args below meth c (MQ below (va_Qv (fun u : GS => K u) (fun u T => HB t u T.heap) (tA t)) args s 0 0 (tA t)) 9 t false 74 [(0, va_rf (some a0)), (1, .int l1), (2, .int l2), (3, .int l3), (4, .int l4), (5, .int l5), (6, .int l6), (7, .int l7), (8, .int l8)] [] G) (l1 : Int32) (l2 : Int32) (l3 : Int32) (l4 : Int32) (l5 : Int32) (l6 : Int32) (l8 : Int32) (G : GS) (hwp : w_M_reach_122 t a0 K r74 l1 l2 l3 l4 l5 l6 l8 G) : kW p l e rm_M_reach s m args below meth c (MQ below (va_Qv (fun u : GS => K u) (fun u T => HB t u T.heap) (tA t)) args s 0 0 (tA t)) 9 t false 122 [(0, va_rf (some a0)), (1, .int l1), (2, .int l2), (3, .int l3), (4, .int l4), (5, .int l5), (6, .int l6), (8, .int l8)] [] G := by
  unfold w_M_reach_122 at hwp
  refine kw_iconst (v := 1) (pc := 122) X d_M_reach_122 (by decide) ?_
  refine kw_goto (tgt := 127) (pc := 123) X d_M_reach_123 (by decide) ?_
  exact kW.sub [0, 1, 2, 3, 4, 5, 6, 7] rfl (k_M_reach_127 X hret hr_74 _ _ _ _ _ _ _ _ _ hwp)
set_option maxRecDepth 100000 in
set_option maxHeartbeats 4000000 in
theorem k_M_reach_126 {p : Program} {l : Launch} {e : Env} {s : State} {m : MethodId} {args : Array Value} {below : List Frame} {meth : Method} {c : Code} {t : TY} {a0 : Nat} {K : GS → Prop} {r74 : Int32 → Int32 → Int32 → Int32 → Int32 → Int32 → Int32 → Int32 → GS → Prop} (X : kX p s m args meth c b_M_reach 9 "TreeServerModel" t) (hret : meth.sig.returnType = none) (hr_74 : ∀ (l1 : Int32) (l2 : Int32) (l3 : Int32) (l4 : Int32) (l5 : Int32) (l6 : Int32) (l7 : Int32) (l8 : Int32) (G : GS), r74 l1 l2 l3 l4 l5 l6 l7 l8 G → kW p l e rm_M_reach s m args below meth c (MQ below (va_Qv (fun u : GS => K u) (fun u T => HB t u T.heap) (tA t)) args s 0 0 (tA t)) 9 t false 74 [(0, va_rf (some a0)), (1, .int l1), (2, .int l2), (3, .int l3), (4, .int l4), (5, .int l5), (6, .int l6), (7, .int l7), (8, .int l8)] [] G) (l1 : Int32) (l2 : Int32) (l3 : Int32) (l4 : Int32) (l5 : Int32) (l6 : Int32) (l8 : Int32) (G : GS) (hwp : w_M_reach_126 t a0 K r74 l1 l2 l3 l4 l5 l6 l8 G) : kW p l e rm_M_reach s m args below meth c (MQ below (va_Qv (fun u : GS => K u) (fun u T => HB t u T.heap) (tA t)) args s 0 0 (tA t)) 9 t false 126 [(0, va_rf (some a0)), (1, .int l1), (2, .int l2), (3, .int l3), (4, .int l4), (5, .int l5), (6, .int l6), (8, .int l8)] [] G := by
  unfold w_M_reach_126 at hwp
  refine kw_iconst (v := 0) (pc := 126) X d_M_reach_126 (by decide) ?_
  exact kW.sub [0, 1, 2, 3, 4, 5, 6, 7] rfl (k_M_reach_127 X hret hr_74 _ _ _ _ _ _ _ _ _ hwp)
set_option maxRecDepth 100000 in
set_option maxHeartbeats 4000000 in
theorem k_M_reach_74 {p : Program} {l : Launch} {e : Env} {s : State} {m : MethodId} {args : Array Value} {below : List Frame} {meth : Method} {c : Code} {t : TY} {a0 : Nat} {K : GS → Prop} (X : kX p s m args meth c b_M_reach 9 "TreeServerModel" t) (hret : meth.sig.returnType = none) : ∀ (n : Nat) (l1 : Int32) (l2 : Int32) (l3 : Int32) (l4 : Int32) (l5 : Int32) (l6 : Int32) (l7 : Int32) (l8 : Int32) (G : GS), w_M_reach_74 t a0 K n l1 l2 l3 l4 l5 l6 l7 l8 G → kW p l e rm_M_reach s m args below meth c (MQ below (va_Qv (fun u : GS => K u) (fun u T => HB t u T.heap) (tA t)) args s 0 0 (tA t)) 9 t false 74 [(0, va_rf (some a0)), (1, .int l1), (2, .int l2), (3, .int l3), (4, .int l4), (5, .int l5), (6, .int l6), (7, .int l7), (8, .int l8)] [] G := by
  intro n
  induction n with
  | zero => intro l1 l2 l3 l4 l5 l6 l7 l8 G hwp; exact hwp.elim
  | succ n hr_74 =>
    intro l1 l2 l3 l4 l5 l6 l7 l8 G hwp
    unfold w_M_reach_74 at hwp
    dsimp only at hwp
    refine kw_iload (pc := 74) X d_M_reach_74 8 rfl ?_
    refine kw_bipush (v := 12) (pc := 76) X d_M_reach_76 (by decide) ?_
    refine kw_icmp_ge (tgt := 135) (pc := 78) X d_M_reach_78 (by decide) (fun h => ?_) (fun h => ?_)
    · have hwp := ite_t h hwp
      refine kw_aload_n (pc := 135) X d_M_reach_135 rfl 0 rfl ?_
      obtain ⟨f1, hwp⟩ := hwp
      refine kg_90 (a := a0) (pc := 136) X d_M_reach_136 x_1010 rfl f1 ?_
      refine kw_iload_n (pc := 139) X d_M_reach_139 rfl 1 rfl ?_
      obtain ⟨a2, h_a2, hwp⟩ := hwp
      obtain ⟨f3, hwp⟩ := hwp
      obtain ⟨f4, hwp⟩ := hwp
      refine ka_iald (a := a2) (pc := 140) X d_M_reach_140 h_a2 f3 f4 ?_
      refine kw_if_lt (tgt := 154) (pc := 141) X d_M_reach_141 (by decide) (fun h => ?_) (fun h => ?_)
      · have hwp := ite_t h hwp
        refine kw_iload_n (pc := 154) X d_M_reach_154 rfl 3 rfl ?_
        refine kw_bipush (v := -84) (pc := 155) X d_M_reach_155 (by decide) ?_
        refine kw_iand (pc := 157) X d_M_reach_157 ?_
        refine kw_if_eq (tgt := 171) (pc := 158) X d_M_reach_158 (by decide) (fun h => ?_) (fun h => ?_)
        · have hwp := ite_t h hwp
          refine kw_aload_n (pc := 171) X d_M_reach_171 rfl 0 rfl ?_
          refine kw_iload_n (pc := 172) X d_M_reach_172 rfl 2 rfl ?_
          refine kcVp_i (n := 1) (As := [.int l2]) (rest := []) (pc := 173) X (c_M_isDirectory l t G a0 l2 _) (cwV_of (C := "TreeServerModel") X x_1115 x_1112 x_1114 xp_42 x_13 (by decide +kernel) ⟨rfl, rfl⟩ (by decide)) (rv_10 X f1) rfl rfl (by decide) d_M_reach_173 hwp (fun v5 hwp => ?_)
          obtain ⟨b_v5, hwp⟩ := hwp
          refine kw_if_eq (tgt := 193) (pc := 176) X d_M_reach_176 (by decide) (fun h => ?_) (fun h => ?_)
          · have hwp := ite_t h hwp
            exact kW.sub [0, 1, 2, 3, 4, 5, 6, 7] rfl (k_M_reach_193 X hret  _ _ _ _ _ _ _ _ hwp)
          · have hwp := ite_f h hwp
            refine kw_iload_n (pc := 179) X d_M_reach_179 rfl 3 rfl ?_
            refine kw_if_eq (tgt := 193) (pc := 180) X d_M_reach_180 (by decide) (fun h => ?_) (fun h => ?_)
            · have hwp := ite_t h hwp
              exact kW.sub [0, 1, 2, 3, 4, 5, 6, 7] rfl (k_M_reach_193 X hret  _ _ _ _ _ _ _ _ hwp)
            · have hwp := ite_f h hwp
              refine kw_aload_n (pc := 183) X d_M_reach_183 rfl 0 rfl ?_
              refine kw_ldc2 (v := 7498084) (pc := 184) X d_M_reach_184 x_1270 ?_
              refine kp_98 (a := a0) (x := (7498084 : Int64)) (pc := 187) X rfl d_M_reach_187 x_1018 rfl f1 ?_
              obtain ⟨G6, e_G6⟩ : ∃ g, g = sl G 98 a0 (7498084 : Int64) := ⟨_, rfl⟩
              have hwp := hwp G6 e_G6
              refine kW.g e_G6.symm ?_
              refine kw_goto (tgt := 313) (pc := 190) X d_M_reach_190 (by decide) ?_
              exact kW.sub [0, 1, 2, 3, 4] rfl (k_M_reach_313 X hret  _ _ _ _ _ hwp)
        · have hwp := ite_f h hwp
          refine kw_aload_n (pc := 161) X d_M_reach_161 rfl 0 rfl ?_
          refine kw_ldc2 (v := 1701080941) (pc := 162) X d_M_reach_162 x_1276 ?_
          refine kp_98 (a := a0) (x := (1701080941 : Int64)) (pc := 165) X rfl d_M_reach_165 x_1018 rfl f1 ?_
          obtain ⟨G7, e_G7⟩ : ∃ g, g = sl G 98 a0 (1701080941 : Int64) := ⟨_, rfl⟩
          have hwp := hwp G7 e_G7
          refine kW.g e_G7.symm ?_
          refine kw_goto (tgt := 313) (pc := 168) X d_M_reach_168 (by decide) ?_
          exact kW.sub [0, 1, 2, 3, 4] rfl (k_M_reach_313 X hret  _ _ _ _ _ hwp)
      · have hwp := ite_f h hwp
        refine kw_aload_n (pc := 144) X d_M_reach_144 rfl 0 rfl ?_
        refine kw_ldc2 (v := 1852141679) (pc := 145) X d_M_reach_145 x_1260 ?_
        refine kp_98 (a := a0) (x := (1852141679 : Int64)) (pc := 148) X rfl d_M_reach_148 x_1018 rfl f1 ?_
        obtain ⟨G8, e_G8⟩ : ∃ g, g = sl G 98 a0 (1852141679 : Int64) := ⟨_, rfl⟩
        have hwp := hwp G8 e_G8
        refine kW.g e_G8.symm ?_
        refine kw_goto (tgt := 313) (pc := 151) X d_M_reach_151 (by decide) ?_
        exact kW.sub [0, 1, 2, 3, 4] rfl (k_M_reach_313 X hret  _ _ _ _ _ hwp)
    · have hwp := ite_f h hwp
      refine kw_iload (pc := 81) X d_M_reach_81 7 rfl ?_
      refine kw_if_ne (tgt := 122) (pc := 83) X d_M_reach_83 (by decide) (fun h => ?_) (fun h => ?_)
      · have hwp := ite_t h hwp
        exact kW.sub [0, 1, 2, 3, 4, 5, 6, 8] rfl (k_M_reach_122 X hret hr_74 _ _ _ _ _ _ _ _ hwp)
      · have hwp := ite_f (not_not_intro h) hwp
        refine kw_aload_n (pc := 86) X d_M_reach_86 rfl 0 rfl ?_
        obtain ⟨f9, hwp⟩ := hwp
        refine kg_86 (a := a0) (pc := 87) X d_M_reach_87 x_1006 rfl f9 ?_
        refine kw_iload (pc := 90) X d_M_reach_90 8 rfl ?_
        obtain ⟨a10, h_a10, hwp⟩ := hwp
        obtain ⟨f11, hwp⟩ := hwp
        obtain ⟨f12, hwp⟩ := hwp
        refine ka_zald (a := a10) (pc := 92) X d_M_reach_92 h_a10 f11 f12 ?_
        refine kw_if_eq (tgt := 126) (pc := 93) X d_M_reach_93 (by decide) (fun h => ?_) (fun h => ?_)
        · have hwp := ite_t h hwp
          exact kW.sub [0, 1, 2, 3, 4, 5, 6, 8] rfl (k_M_reach_126 X hret hr_74 _ _ _ _ _ _ _ _ hwp)
        · have hwp := ite_f h hwp
          refine kw_aload_n (pc := 96) X d_M_reach_96 rfl 0 rfl ?_
          refine kg_90 (a := a0) (pc := 97) X d_M_reach_97 x_1010 rfl f9 ?_
          refine kw_iload (pc := 100) X d_M_reach_100 8 rfl ?_
          obtain ⟨a13, h_a13, hwp⟩ := hwp
          obtain ⟨f14, hwp⟩ := hwp
          obtain ⟨f15, hwp⟩ := hwp
          refine ka_iald (a := a13) (pc := 102) X d_M_reach_102 h_a13 f14 f15 ?_
          refine kw_if_lt (tgt := 126) (pc := 103) X d_M_reach_103 (by decide) (fun h => ?_) (fun h => ?_)
          · have hwp := ite_t h hwp
            exact kW.sub [0, 1, 2, 3, 4, 5, 6, 8] rfl (k_M_reach_126 X hret hr_74 _ _ _ _ _ _ _ _ hwp)
          · have hwp := ite_f h hwp
            refine kw_aload_n (pc := 106) X d_M_reach_106 rfl 0 rfl ?_
            refine kg_88 (a := a0) (pc := 107) X d_M_reach_107 x_1008 rfl f9 ?_
            refine kw_iload (pc := 110) X d_M_reach_110 8 rfl ?_
            obtain ⟨a16, h_a16, hwp⟩ := hwp
            obtain ⟨f17, hwp⟩ := hwp
            obtain ⟨f18, hwp⟩ := hwp
            refine ka_iald (a := a16) (pc := 112) X d_M_reach_112 h_a16 f17 f18 ?_
            refine kw_aload_n (pc := 113) X d_M_reach_113 rfl 0 rfl ?_
            refine kw_iload_n (pc := 114) X d_M_reach_114 rfl 2 rfl ?_
            refine kw_iconst (v := 1) (pc := 115) X d_M_reach_115 (by decide) ?_
            refine kcVp_i (n := 2) (As := [.int l2, .int (1 : Int32)]) (rest := [.int (ai G a16 l8.toNatClampNeg)]) (pc := 116) X (c_M_at l t G a0 l2 (1 : Int32) _) (cwV_of (C := "TreeServerModel") X x_1111 x_1108 x_1110 xp_41 x_13 (by decide +kernel) ⟨rfl, rfl⟩ (by decide)) (rv_10 X f9) rfl rfl (by simp [rf_cat, cat_i, cat_l, cat_r]) d_M_reach_116 hwp (fun v19 hwp => ?_)
            refine kw_icmp_ne (tgt := 126) (pc := 119) X d_M_reach_119 (by decide) (fun h => ?_) (fun h => ?_)
            · have hwp := ite_t h hwp
              exact kW.sub [0, 1, 2, 3, 4, 5, 6, 8] rfl (k_M_reach_126 X hret hr_74 _ _ _ _ _ _ _ _ hwp)
            · have hwp := ite_f (not_not_intro h) hwp
              exact kW.sub [0, 1, 2, 3, 4, 5, 6, 8] rfl (k_M_reach_122 X hret hr_74 _ _ _ _ _ _ _ _ hwp)
set_option maxRecDepth 100000 in
set_option maxHeartbeats 4000000 in
theorem k_M_reach_66 {p : Program} {l : Launch} {e : Env} {s : State} {m : MethodId} {args : Array Value} {below : List Frame} {meth : Method} {c : Code} {t : TY} {a0 : Nat} {K : GS → Prop} (X : kX p s m args meth c b_M_reach 9 "TreeServerModel" t) (hret : meth.sig.returnType = none) (l1 : Int32) (l2 : Int32) (l3 : Int32) (l4 : Int32) (l5 : Int32) (s0 : Int32) (G : GS) (hwp : w_M_reach_66 t a0 K l1 l2 l3 l4 l5 s0 G) : kW p l e rm_M_reach s m args below meth c (MQ below (va_Qv (fun u : GS => K u) (fun u T => HB t u T.heap) (tA t)) args s 0 0 (tA t)) 9 t false 66 [(0, va_rf (some a0)), (1, .int l1), (2, .int l2), (3, .int l3), (4, .int l4), (5, .int l5)] [.int s0] G := by
  unfold w_M_reach_66 at hwp
  refine kw_istore (i := 6) (lv' := [(6, .int s0), (0, va_rf (some a0)), (1, .int l1), (2, .int l2), (3, .int l3), (4, .int l4), (5, .int l5)]) (pc := 66) X d_M_reach_66 (by decide) rfl ?_
  refine kw_iconst (v := 0) (pc := 68) X d_M_reach_68 (by decide) ?_
  refine kw_istore (i := 7) (lv' := [(7, .int (0 : Int32)), (6, .int s0), (0, va_rf (some a0)), (1, .int l1), (2, .int l2), (3, .int l3), (4, .int l4), (5, .int l5)]) (pc := 69) X d_M_reach_69 (by decide) rfl ?_
  refine kw_iconst (v := 0) (pc := 71) X d_M_reach_71 (by decide) ?_
  refine kw_istore (i := 8) (lv' := [(8, .int (0 : Int32)), (7, .int (0 : Int32)), (6, .int s0), (0, va_rf (some a0)), (1, .int l1), (2, .int l2), (3, .int l3), (4, .int l4), (5, .int l5)]) (pc := 72) X d_M_reach_72 (by decide) rfl ?_
  obtain ⟨n, hwp⟩ := hwp
  exact kW.sub [3, 4, 5, 6, 7, 8, 2, 1, 0] rfl (k_M_reach_74 X hret  n _ _ _ _ _ _ _ _ _ hwp)
set_option maxRecDepth 100000 in
set_option maxHeartbeats 4000000 in
theorem k_M_reach_61 {p : Program} {l : Launch} {e : Env} {s : State} {m : MethodId} {args : Array Value} {below : List Frame} {meth : Method} {c : Code} {t : TY} {a0 : Nat} {K : GS → Prop} (X : kX p s m args meth c b_M_reach 9 "TreeServerModel" t) (hret : meth.sig.returnType = none) (l1 : Int32) (l2 : Int32) (l3 : Int32) (l4 : Int32) (l5 : Int32) (G : GS) (hwp : w_M_reach_61 t a0 K l1 l2 l3 l4 l5 G) : kW p l e rm_M_reach s m args below meth c (MQ below (va_Qv (fun u : GS => K u) (fun u T => HB t u T.heap) (tA t)) args s 0 0 (tA t)) 9 t false 61 [(0, va_rf (some a0)), (1, .int l1), (2, .int l2), (3, .int l3), (4, .int l4), (5, .int l5)] [] G := by
  unfold w_M_reach_61 at hwp
  refine kw_iconst (v := 1) (pc := 61) X d_M_reach_61 (by decide) ?_
  refine kw_goto (tgt := 66) (pc := 62) X d_M_reach_62 (by decide) ?_
  exact kW.sub [0, 1, 2, 3, 4, 5] rfl (k_M_reach_66 X hret  _ _ _ _ _ _ _ hwp)
set_option maxRecDepth 100000 in
set_option maxHeartbeats 4000000 in
theorem k_M_reach_40 {p : Program} {l : Launch} {e : Env} {s : State} {m : MethodId} {args : Array Value} {below : List Frame} {meth : Method} {c : Code} {t : TY} {a0 : Nat} {K : GS → Prop} (X : kX p s m args meth c b_M_reach 9 "TreeServerModel" t) (hret : meth.sig.returnType = none) (l1 : Int32) (l2 : Int32) (l3 : Int32) (l4 : Int32) (s0 : Int32) (G : GS) (hwp : w_M_reach_40 t a0 K l1 l2 l3 l4 s0 G) : kW p l e rm_M_reach s m args below meth c (MQ below (va_Qv (fun u : GS => K u) (fun u T => HB t u T.heap) (tA t)) args s 0 0 (tA t)) 9 t false 40 [(0, va_rf (some a0)), (1, .int l1), (2, .int l2), (3, .int l3), (4, .int l4)] [.int s0] G := by
  unfold w_M_reach_40 at hwp
  refine kw_istore (i := 5) (lv' := [(5, .int s0), (0, va_rf (some a0)), (1, .int l1), (2, .int l2), (3, .int l3), (4, .int l4)]) (pc := 40) X d_M_reach_40 (by decide) rfl ?_
  refine kw_iload_n (pc := 42) X d_M_reach_42 rfl 4 rfl ?_
  refine kw_iconst (v := 3) (pc := 43) X d_M_reach_43 (by decide) ?_
  refine kw_iand (pc := 44) X d_M_reach_44 ?_
  refine kw_iconst (v := 1) (pc := 45) X d_M_reach_45 (by decide) ?_
  refine kw_icmp_eq (tgt := 61) (pc := 46) X d_M_reach_46 (by decide) (fun h => ?_) (fun h => ?_)
  · have hwp := ite_t h hwp
    exact kW.sub [1, 2, 3, 4, 5, 0] rfl (k_M_reach_61 X hret  _ _ _ _ _ _ hwp)
  · have hwp := ite_f h hwp
    refine kw_iload_n (pc := 49) X d_M_reach_49 rfl 4 rfl ?_
    refine kw_iconst (v := 3) (pc := 50) X d_M_reach_50 (by decide) ?_
    refine kw_iand (pc := 51) X d_M_reach_51 ?_
    refine kw_iconst (v := 2) (pc := 52) X d_M_reach_52 (by decide) ?_
    refine kw_icmp_eq (tgt := 61) (pc := 53) X d_M_reach_53 (by decide) (fun h => ?_) (fun h => ?_)
    · have hwp := ite_t h hwp
      exact kW.sub [1, 2, 3, 4, 5, 0] rfl (k_M_reach_61 X hret  _ _ _ _ _ _ hwp)
    · have hwp := ite_f h hwp
      refine kw_iload (pc := 56) X d_M_reach_56 5 rfl ?_
      refine kw_if_eq (tgt := 65) (pc := 58) X d_M_reach_58 (by decide) (fun h => ?_) (fun h => ?_)
      · have hwp := ite_t h hwp
        refine kw_iconst (v := 0) (pc := 65) X d_M_reach_65 (by decide) ?_
        exact kW.sub [1, 2, 3, 4, 5, 0] rfl (k_M_reach_66 X hret  _ _ _ _ _ _ _ hwp)
      · have hwp := ite_f h hwp
        exact kW.sub [1, 2, 3, 4, 5, 0] rfl (k_M_reach_61 X hret  _ _ _ _ _ _ hwp)
set_option maxRecDepth 100000 in
set_option maxHeartbeats 4000000 in
theorem k_M_reach_35 {p : Program} {l : Launch} {e : Env} {s : State} {m : MethodId} {args : Array Value} {below : List Frame} {meth : Method} {c : Code} {t : TY} {a0 : Nat} {K : GS → Prop} (X : kX p s m args meth c b_M_reach 9 "TreeServerModel" t) (hret : meth.sig.returnType = none) (l1 : Int32) (l2 : Int32) (l3 : Int32) (l4 : Int32) (G : GS) (hwp : w_M_reach_35 t a0 K l1 l2 l3 l4 G) : kW p l e rm_M_reach s m args below meth c (MQ below (va_Qv (fun u : GS => K u) (fun u T => HB t u T.heap) (tA t)) args s 0 0 (tA t)) 9 t false 35 [(0, va_rf (some a0)), (1, .int l1), (2, .int l2), (3, .int l3), (4, .int l4)] [] G := by
  unfold w_M_reach_35 at hwp
  refine kw_iconst (v := 1) (pc := 35) X d_M_reach_35 (by decide) ?_
  refine kw_goto (tgt := 40) (pc := 36) X d_M_reach_36 (by decide) ?_
  exact kW.sub [0, 1, 2, 3, 4] rfl (k_M_reach_40 X hret  _ _ _ _ _ _ hwp)
set_option maxRecDepth 100000 in
set_option maxHeartbeats 4000000 in
theorem k_M_reach_20 {p : Program} {l : Launch} {e : Env} {s : State} {m : MethodId} {args : Array Value} {below : List Frame} {meth : Method} {c : Code} {t : TY} {a0 : Nat} {K : GS → Prop} (X : kX p s m args meth c b_M_reach 9 "TreeServerModel" t) (hret : meth.sig.returnType = none) (l1 : Int32) (l2 : Int32) (l3 : Int32) (s0 : Int32) (G : GS) (hwp : w_M_reach_20 t a0 K l1 l2 l3 s0 G) : kW p l e rm_M_reach s m args below meth c (MQ below (va_Qv (fun u : GS => K u) (fun u T => HB t u T.heap) (tA t)) args s 0 0 (tA t)) 9 t false 20 [(0, va_rf (some a0)), (1, .int l1), (2, .int l2), (3, .int l3)] [.int s0] G := by
  unfold w_M_reach_20 at hwp
  refine kw_istore (i := 4) (lv' := [(4, .int s0), (0, va_rf (some a0)), (1, .int l1), (2, .int l2), (3, .int l3)]) (pc := 20) X d_M_reach_20 (by decide) rfl ?_
  refine kw_iload_n (pc := 22) X d_M_reach_22 rfl 4 rfl ?_
  refine kw_iconst (v := 3) (pc := 23) X d_M_reach_23 (by decide) ?_
  refine kw_iand (pc := 24) X d_M_reach_24 ?_
  refine kw_if_eq (tgt := 35) (pc := 25) X d_M_reach_25 (by decide) (fun h => ?_) (fun h => ?_)
  · have hwp := ite_t h hwp
    exact kW.sub [1, 2, 3, 4, 0] rfl (k_M_reach_35 X hret  _ _ _ _ _ hwp)
  · have hwp := ite_f h hwp
    refine kw_iload_n (pc := 28) X d_M_reach_28 rfl 4 rfl ?_
    refine kw_iconst (v := 3) (pc := 29) X d_M_reach_29 (by decide) ?_
    refine kw_iand (pc := 30) X d_M_reach_30 ?_
    refine kw_iconst (v := 2) (pc := 31) X d_M_reach_31 (by decide) ?_
    refine kw_icmp_ne (tgt := 39) (pc := 32) X d_M_reach_32 (by decide) (fun h => ?_) (fun h => ?_)
    · have hwp := ite_t h hwp
      refine kw_iconst (v := 0) (pc := 39) X d_M_reach_39 (by decide) ?_
      exact kW.sub [1, 2, 3, 4, 0] rfl (k_M_reach_40 X hret  _ _ _ _ _ _ hwp)
    · have hwp := ite_f (not_not_intro h) hwp
      exact kW.sub [1, 2, 3, 4, 0] rfl (k_M_reach_35 X hret  _ _ _ _ _ hwp)
set_option maxRecDepth 100000 in
set_option maxHeartbeats 4000000 in
theorem k_M_reach {p : Program} {l : Launch} {e : Env} {s : State} {m : MethodId} {args : Array Value} {below : List Frame} {meth : Method} {c : Code} {t : TY} {a0 : Nat} {K : GS → Prop} (X : kX p s m args meth c b_M_reach 9 "TreeServerModel" t) (hret : meth.sig.returnType = none) (G : GS) (p1 : Int32) (p2 : Int32) (hwp : w_M_reach t G a0 p1 p2 K) : kW p l e rm_M_reach s m args below meth c (MQ below (va_Qv (fun u : GS => K u) (fun u T => HB t u T.heap) (tA t)) args s 0 0 (tA t)) 9 t false 0 [(0, va_rf (some a0)), (1, .int p1), (2, .int p2)] [] G := by
  unfold w_M_reach at hwp
  refine kw_aload_n (pc := 0) X d_M_reach_0 rfl 0 rfl ?_
  obtain ⟨f1, hwp⟩ := hwp
  refine kg_94 (a := a0) (pc := 1) X d_M_reach_1 x_1014 rfl f1 ?_
  refine kw_bipush (v := 11) (pc := 4) X d_M_reach_4 (by decide) ?_
  obtain ⟨a2, h_a2, hwp⟩ := hwp
  obtain ⟨f3, hwp⟩ := hwp
  obtain ⟨f4, hwp⟩ := hwp
  refine ka_iald (a := a2) (pc := 6) X d_M_reach_6 h_a2 f3 f4 ?_
  obtain ⟨v5, e_v5⟩ : ∃ z, z = (ai G a2 (11 : Int32).toNatClampNeg) := ⟨_, rfl⟩
  have hwp := hwp v5 e_v5
  refine kW.st (st' := .int v5 :: _) (by rw [e_v5]) ?_
  refine kw_istore_n (i := 3) (lv' := [(3, .int v5), (0, va_rf (some a0)), (1, .int p1), (2, .int p2)]) (pc := 7) X d_M_reach_7 rfl (by decide) rfl ?_
  refine kw_iload_n (pc := 8) X d_M_reach_8 rfl 0 rfl ?_
  refine kw_bipush (v := 16) (pc := 9) X d_M_reach_9 (by decide) ?_
  refine kw_iand (pc := 11) X d_M_reach_11 ?_
  refine kw_if_eq (tgt := 19) (pc := 12) X d_M_reach_12 (by decide) (fun h => ?_) (fun h => ?_)
  · have hwp := ite_t h hwp
    refine kw_iconst (v := 0) (pc := 19) X d_M_reach_19 (by decide) ?_
    exact kW.sub [1, 2, 3, 0] rfl (k_M_reach_20 X hret  _ _ _ _ _ hwp)
  · have hwp := ite_f h hwp
    refine kw_iconst (v := 1) (pc := 15) X d_M_reach_15 (by decide) ?_
    refine kw_goto (tgt := 20) (pc := 16) X d_M_reach_16 (by decide) ?_
    exact kW.sub [1, 2, 3, 0] rfl (k_M_reach_20 X hret  _ _ _ _ _ hwp)
set_option maxRecDepth 100000 in
set_option maxHeartbeats 4000000 in
theorem c_M_reach (l : Launch) (t : TY) (G : GS) (a0 : Nat) (p1 : Int32) (p2 : Int32) (K : GS → Prop) : Met l y_M_reach (Cond.code y_M_reach b_M_reach 9 (Option.none : Option Jvm.ClassFile.FieldType) :: GW) rm_M_reach (va_Pc [.ref a0, .int p1, .int p2] (fun U => HB t G U.heap ∧ HK t U ∧ w_M_reach t G a0 p1 p2 K)) (va_Qv (fun u : GS => K u) (fun u T => HB t u T.heap) (tA t)) 0 0 (tA t) := by
  refine Met.ofW (cc := b_M_reach) (maxL := 9) (ret := none) (by decide) rfl ?_
  intro p e s m args below meth c s₁ B hml hv
  obtain ⟨rfl, hB, hK, hwp⟩ := hv
  have hts := atoms_spec (ws := Cond.code y_M_reach b_M_reach 9 (Option.none : Option Jvm.ClassFile.FieldType) :: GW) B.pre
  have X : kX p s m _ meth c b_M_reach 9 "TreeServerModel" t := ⟨B.exec, B.bytes, hml, findClass_of_methodNamed B.named, fun w h => hts w (List.mem_cons_of_mem _ h), B.notSynchronized, hK⟩
  have hZ : kZ t false s G s.heap [] := ⟨hB, va_S.rf, fun _ => ⟨rfl, rfl⟩⟩
  rw [lg_entry_eq]
  have hl := lv_entry ([.ref a0, .int p1, .int p2]) (n := 9) (by simp [lg_sl, rf_cat, cat_i, cat_l, cat_r])
  exact k_M_reach X B.returns _ _ _ hwp s.heap [] _ hl hZ
abbrev b_M_rename : ByteArray := prog_13_method_53_code
def y_M_rename : MethodName := ⟨"TreeServerModel", "rename", "(II)V"⟩
theorem d_M_rename_0 : decode b_M_rename 0 = .ok (.aload_n 0, 1) := by decide +kernel
theorem d_M_rename_1 : decode b_M_rename 1 = .ok (.iload_n 2, 1) := by decide +kernel
theorem d_M_rename_2 : decode b_M_rename 2 = .ok (.iconst 2, 1) := by decide +kernel
theorem d_M_rename_3 : decode b_M_rename 3 = .ok (.invokevirtual 85, 3) := by decide +kernel
theorem d_M_rename_6 : decode b_M_rename 6 = .ok (.l2i, 1) := by decide +kernel
theorem d_M_rename_7 : decode b_M_rename 7 = .ok (.istore_n 3, 1) := by decide +kernel
theorem d_M_rename_8 : decode b_M_rename 8 = .ok (.aload_n 0, 1) := by decide +kernel
theorem d_M_rename_9 : decode b_M_rename 9 = .ok (.iload_n 1, 1) := by decide +kernel
theorem d_M_rename_10 : decode b_M_rename 10 = .ok (.bipush 9, 2) := by decide +kernel
theorem d_M_rename_12 : decode b_M_rename 12 = .ok (.iload_n 3, 1) := by decide +kernel
theorem d_M_rename_13 : decode b_M_rename 13 = .ok (.invokevirtual 104, 3) := by decide +kernel
theorem d_M_rename_16 : decode b_M_rename 16 = .ok (.iconst 0, 1) := by decide +kernel
theorem d_M_rename_17 : decode b_M_rename 17 = .ok (.istore 4, 2) := by decide +kernel
theorem d_M_rename_19 : decode b_M_rename 19 = .ok (.iload 4, 2) := by decide +kernel
theorem d_M_rename_21 : decode b_M_rename 21 = .ok (.iload_n 3, 1) := by decide +kernel
theorem d_M_rename_22 : decode b_M_rename 22 = .ok (.if_icmp .ge 30, 3) := by decide +kernel
theorem d_M_rename_25 : decode b_M_rename 25 = .ok (.aload_n 0, 1) := by decide +kernel
theorem d_M_rename_26 : decode b_M_rename 26 = .ok (.iload_n 1, 1) := by decide +kernel
theorem d_M_rename_27 : decode b_M_rename 27 = .ok (.bipush 10, 2) := by decide +kernel
theorem d_M_rename_29 : decode b_M_rename 29 = .ok (.iload 4, 2) := by decide +kernel
theorem d_M_rename_31 : decode b_M_rename 31 = .ok (.iadd, 1) := by decide +kernel
theorem d_M_rename_32 : decode b_M_rename 32 = .ok (.aload_n 0, 1) := by decide +kernel
theorem d_M_rename_33 : decode b_M_rename 33 = .ok (.getfield 70, 3) := by decide +kernel
theorem d_M_rename_36 : decode b_M_rename 36 = .ok (.iload_n 2, 1) := by decide +kernel
theorem d_M_rename_37 : decode b_M_rename 37 = .ok (.iconst 2, 1) := by decide +kernel
theorem d_M_rename_38 : decode b_M_rename 38 = .ok (.iadd, 1) := by decide +kernel
theorem d_M_rename_39 : decode b_M_rename 39 = .ok (.iload 4, 2) := by decide +kernel
theorem d_M_rename_41 : decode b_M_rename 41 = .ok (.iadd, 1) := by decide +kernel
theorem d_M_rename_42 : decode b_M_rename 42 = .ok (.iaload, 1) := by decide +kernel
theorem d_M_rename_43 : decode b_M_rename 43 = .ok (.invokevirtual 104, 3) := by decide +kernel
theorem d_M_rename_46 : decode b_M_rename 46 = .ok (.iinc 4 1, 3) := by decide +kernel
theorem d_M_rename_49 : decode b_M_rename 49 = .ok (.goto (-30), 3) := by decide +kernel
theorem d_M_rename_52 : decode b_M_rename 52 = .ok (.return_, 1) := by decide +kernel
abbrev rm_M_rename : Room := { frames := 1, cells := 0, slots := 0, locals := 25 }
set_option maxRecDepth 100000 in
set_option maxHeartbeats 4000000 in
theorem k_M_rename_19 {p : Program} {l : Launch} {e : Env} {s : State} {m : MethodId} {args : Array Value} {below : List Frame} {meth : Method} {c : Code} {t : TY} {a0 : Nat} {K : GS → Prop} (X : kX p s m args meth c b_M_rename 5 "TreeServerModel" t) (hret : meth.sig.returnType = none) : ∀ (n : Nat) (l1 : Int32) (l2 : Int32) (l3 : Int32) (l4 : Int32) (G : GS), w_M_rename_19 t a0 K n l1 l2 l3 l4 G → kW p l e rm_M_rename s m args below meth c (MQ below (va_Qv (fun u : GS => K u) (fun u T => HB t u T.heap) (tA t)) args s 0 0 (tA t)) 5 t false 19 [(0, va_rf (some a0)), (1, .int l1), (2, .int l2), (3, .int l3), (4, .int l4)] [] G := by
  intro n
  induction n with
  | zero => intro l1 l2 l3 l4 G hwp; exact hwp.elim
  | succ n hr_19 =>
    intro l1 l2 l3 l4 G hwp
    unfold w_M_rename_19 at hwp
    dsimp only at hwp
    refine kw_iload (pc := 19) X d_M_rename_19 4 rfl ?_
    refine kw_iload_n (pc := 21) X d_M_rename_21 rfl 3 rfl ?_
    refine kw_icmp_ge (tgt := 52) (pc := 22) X d_M_rename_22 (by decide) (fun h => ?_) (fun h => ?_)
    · have hwp := ite_t h hwp
      exact kr_v (pc := 52) X hret d_M_rename_52 hwp
    · have hwp := ite_f h hwp
      refine kw_aload_n (pc := 25) X d_M_rename_25 rfl 0 rfl ?_
      refine kw_iload_n (pc := 26) X d_M_rename_26 rfl 1 rfl ?_
      refine kw_bipush (v := 10) (pc := 27) X d_M_rename_27 (by decide) ?_
      refine kw_iload (pc := 29) X d_M_rename_29 4 rfl ?_
      refine kw_iadd (pc := 31) X d_M_rename_31 ?_
      refine kw_aload_n (pc := 32) X d_M_rename_32 rfl 0 rfl ?_
      obtain ⟨f1, hwp⟩ := hwp
      refine kg_94 (a := a0) (pc := 33) X d_M_rename_33 x_1014 rfl f1 ?_
      refine kw_iload_n (pc := 36) X d_M_rename_36 rfl 2 rfl ?_
      refine kw_iconst (v := 2) (pc := 37) X d_M_rename_37 (by decide) ?_
      refine kw_iadd (pc := 38) X d_M_rename_38 ?_
      refine kw_iload (pc := 39) X d_M_rename_39 4 rfl ?_
      refine kw_iadd (pc := 41) X d_M_rename_41 ?_
      obtain ⟨a2, h_a2, hwp⟩ := hwp
      obtain ⟨f3, hwp⟩ := hwp
      obtain ⟨f4, hwp⟩ := hwp
      refine ka_iald (a := a2) (pc := 42) X d_M_rename_42 h_a2 f3 f4 ?_
      refine kcV_v (n := 3) (As := [.int l1, .int ((10 : Int32) + l4), .int (ai G a2 ((l2 + (2 : Int32)) + l4).toNatClampNeg)]) (rest := []) (pc := 43) X rfl (c_M_set l t G a0 l1 ((10 : Int32) + l4) (ai G a2 ((l2 + (2 : Int32)) + l4).toNatClampNeg) _) (cwV_of (C := "TreeServerModel") X x_1139 x_1136 x_1138 xp_48 x_13 (by decide +kernel) ⟨rfl, rfl⟩ (by decide)) (rv_10 X f1) rfl rfl (by decide) d_M_rename_43 hwp (fun G5 hwp => ?_)
      obtain ⟨v6, e_v6⟩ : ∃ z, z = (l4 + (1 : Int32)) := ⟨_, rfl⟩
      have hwp := hwp v6 e_v6
      refine kw_iinc (v := v6) (lv' := [(4, .int v6), (0, va_rf (some a0)), (1, .int l1), (2, .int l2), (3, .int l3)]) (pc := 46) X d_M_rename_46 4 rfl (by rw [e_v6]; rfl) (by decide) rfl ?_
      refine kw_goto (tgt := 19) (pc := 49) X d_M_rename_49 (by decide) ?_
      exact kW.sub [1, 2, 3, 4, 0] rfl (hr_19 _ _ _ _ _ hwp)
set_option maxRecDepth 100000 in
set_option maxHeartbeats 4000000 in
theorem k_M_rename {p : Program} {l : Launch} {e : Env} {s : State} {m : MethodId} {args : Array Value} {below : List Frame} {meth : Method} {c : Code} {t : TY} {a0 : Nat} {K : GS → Prop} (X : kX p s m args meth c b_M_rename 5 "TreeServerModel" t) (hret : meth.sig.returnType = none) (G : GS) (p1 : Int32) (p2 : Int32) (hwp : w_M_rename t G a0 p1 p2 K) : kW p l e rm_M_rename s m args below meth c (MQ below (va_Qv (fun u : GS => K u) (fun u T => HB t u T.heap) (tA t)) args s 0 0 (tA t)) 5 t false 0 [(0, va_rf (some a0)), (1, .int p1), (2, .int p2)] [] G := by
  unfold w_M_rename at hwp
  refine kw_aload_n (pc := 0) X d_M_rename_0 rfl 0 rfl ?_
  refine kw_iload_n (pc := 1) X d_M_rename_1 rfl 2 rfl ?_
  refine kw_iconst (v := 2) (pc := 2) X d_M_rename_2 (by decide) ?_
  obtain ⟨f1, hwp⟩ := hwp
  refine kcVp_l (n := 2) (As := [.int p2, .int (2 : Int32)]) (rest := []) (pc := 3) X (c_M_get l t G a0 p2 (2 : Int32) _) (cwV_of (C := "TreeServerModel") X x_1175 x_1172 x_1174 xp_56 x_13 (by decide +kernel) ⟨rfl, rfl⟩ (by decide)) (rv_10 X f1) rfl rfl (by decide) d_M_rename_3 hwp (fun v2 hwp => ?_)
  refine kw_l2i (pc := 6) X d_M_rename_6 ?_
  obtain ⟨v3, e_v3⟩ : ∃ z, z = v2.toInt32 := ⟨_, rfl⟩
  have hwp := hwp v3 e_v3
  refine kW.st (st' := .int v3 :: _) (by rw [e_v3]) ?_
  refine kw_istore_n (i := 3) (lv' := [(3, .int v3), (0, va_rf (some a0)), (1, .int p1), (2, .int p2)]) (pc := 7) X d_M_rename_7 rfl (by decide) rfl ?_
  refine kw_aload_n (pc := 8) X d_M_rename_8 rfl 1 rfl ?_
  refine kw_iload_n (pc := 9) X d_M_rename_9 rfl 2 rfl ?_
  refine kw_bipush (v := 9) (pc := 10) X d_M_rename_10 (by decide) ?_
  refine kw_iload_n (pc := 12) X d_M_rename_12 rfl 0 rfl ?_
  refine kcV_v (n := 3) (As := [.int p1, .int (9 : Int32), .int v3]) (rest := []) (pc := 13) X rfl (c_M_set l t G a0 p1 (9 : Int32) v3 _) (cwV_of (C := "TreeServerModel") X x_1139 x_1136 x_1138 xp_48 x_13 (by decide +kernel) ⟨rfl, rfl⟩ (by decide)) (rv_10 X f1) rfl rfl (by decide) d_M_rename_13 hwp (fun G4 hwp => ?_)
  refine kw_iconst (v := 0) (pc := 16) X d_M_rename_16 (by decide) ?_
  refine kw_istore (i := 4) (lv' := [(4, .int (0 : Int32)), (3, .int v3), (0, va_rf (some a0)), (1, .int p1), (2, .int p2)]) (pc := 17) X d_M_rename_17 (by decide) rfl ?_
  obtain ⟨n, hwp⟩ := hwp
  exact kW.sub [2, 3, 4, 1, 0] rfl (k_M_rename_19 X hret  n _ _ _ _ _ hwp)
set_option maxRecDepth 100000 in
set_option maxHeartbeats 4000000 in
theorem c_M_rename (l : Launch) (t : TY) (G : GS) (a0 : Nat) (p1 : Int32) (p2 : Int32) (K : GS → Prop) : Met l y_M_rename (Cond.code y_M_rename b_M_rename 5 (Option.none : Option Jvm.ClassFile.FieldType) :: GW) rm_M_rename (va_Pc [.ref a0, .int p1, .int p2] (fun U => HB t G U.heap ∧ HK t U ∧ w_M_rename t G a0 p1 p2 K)) (va_Qv (fun u : GS => K u) (fun u T => HB t u T.heap) (tA t)) 0 0 (tA t) := by
  refine Met.ofW (cc := b_M_rename) (maxL := 5) (ret := none) (by decide) rfl ?_
  intro p e s m args below meth c s₁ B hml hv
  obtain ⟨rfl, hB, hK, hwp⟩ := hv
  have hts := atoms_spec (ws := Cond.code y_M_rename b_M_rename 5 (Option.none : Option Jvm.ClassFile.FieldType) :: GW) B.pre
  have X : kX p s m _ meth c b_M_rename 5 "TreeServerModel" t := ⟨B.exec, B.bytes, hml, findClass_of_methodNamed B.named, fun w h => hts w (List.mem_cons_of_mem _ h), B.notSynchronized, hK⟩
  have hZ : kZ t false s G s.heap [] := ⟨hB, va_S.rf, fun _ => ⟨rfl, rfl⟩⟩
  rw [lg_entry_eq]
  have hl := lv_entry ([.ref a0, .int p1, .int p2]) (n := 5) (by simp [lg_sl, rf_cat, cat_i, cat_l, cat_r])
  exact k_M_rename X B.returns _ _ _ hwp s.heap [] _ hl hZ
abbrev b_M_grow : ByteArray := prog_13_method_52_code
def y_M_grow : MethodName := ⟨"TreeServerModel", "grow", "(III)V"⟩
theorem d_M_grow_0 : decode b_M_grow 0 = .ok (.iconst 0, 1) := by decide +kernel
theorem d_M_grow_1 : decode b_M_grow 1 = .ok (.istore 4, 2) := by decide +kernel
theorem d_M_grow_3 : decode b_M_grow 3 = .ok (.iload 4, 2) := by decide +kernel
theorem d_M_grow_5 : decode b_M_grow 5 = .ok (.bipush 83, 2) := by decide +kernel
theorem d_M_grow_7 : decode b_M_grow 7 = .ok (.if_icmp .ge 17, 3) := by decide +kernel
theorem d_M_grow_10 : decode b_M_grow 10 = .ok (.aload_n 0, 1) := by decide +kernel
theorem d_M_grow_11 : decode b_M_grow 11 = .ok (.iload_n 1, 1) := by decide +kernel
theorem d_M_grow_12 : decode b_M_grow 12 = .ok (.iload 4, 2) := by decide +kernel
theorem d_M_grow_14 : decode b_M_grow 14 = .ok (.iconst 0, 1) := by decide +kernel
theorem d_M_grow_15 : decode b_M_grow 15 = .ok (.invokevirtual 104, 3) := by decide +kernel
theorem d_M_grow_18 : decode b_M_grow 18 = .ok (.iinc 4 1, 3) := by decide +kernel
theorem d_M_grow_21 : decode b_M_grow 21 = .ok (.goto (-18), 3) := by decide +kernel
theorem d_M_grow_24 : decode b_M_grow 24 = .ok (.aload_n 0, 1) := by decide +kernel
theorem d_M_grow_25 : decode b_M_grow 25 = .ok (.iload_n 1, 1) := by decide +kernel
theorem d_M_grow_26 : decode b_M_grow 26 = .ok (.iconst 0, 1) := by decide +kernel
theorem d_M_grow_27 : decode b_M_grow 27 = .ok (.iconst 1, 1) := by decide +kernel
theorem d_M_grow_28 : decode b_M_grow 28 = .ok (.invokevirtual 104, 3) := by decide +kernel
theorem d_M_grow_31 : decode b_M_grow 31 = .ok (.aload_n 0, 1) := by decide +kernel
theorem d_M_grow_32 : decode b_M_grow 32 = .ok (.iload_n 1, 1) := by decide +kernel
theorem d_M_grow_33 : decode b_M_grow 33 = .ok (.iconst 1, 1) := by decide +kernel
theorem d_M_grow_34 : decode b_M_grow 34 = .ok (.aload_n 0, 1) := by decide +kernel
theorem d_M_grow_35 : decode b_M_grow 35 = .ok (.getfield 345, 3) := by decide +kernel
theorem d_M_grow_38 : decode b_M_grow 38 = .ok (.iconst 1, 1) := by decide +kernel
theorem d_M_grow_39 : decode b_M_grow 39 = .ok (.iadd, 1) := by decide +kernel
theorem d_M_grow_40 : decode b_M_grow 40 = .ok (.invokevirtual 104, 3) := by decide +kernel
theorem d_M_grow_43 : decode b_M_grow 43 = .ok (.aload_n 0, 1) := by decide +kernel
theorem d_M_grow_44 : decode b_M_grow 44 = .ok (.iload_n 1, 1) := by decide +kernel
theorem d_M_grow_45 : decode b_M_grow 45 = .ok (.iconst 3, 1) := by decide +kernel
theorem d_M_grow_46 : decode b_M_grow 46 = .ok (.iload_n 3, 1) := by decide +kernel
theorem d_M_grow_47 : decode b_M_grow 47 = .ok (.iload_n 3, 1) := by decide +kernel
theorem d_M_grow_48 : decode b_M_grow 48 = .ok (.ifCond .ge 9, 3) := by decide +kernel
theorem d_M_grow_51 : decode b_M_grow 51 = .ok (.sipush (-512), 3) := by decide +kernel
theorem d_M_grow_54 : decode b_M_grow 54 = .ok (.goto 6, 3) := by decide +kernel
theorem d_M_grow_57 : decode b_M_grow 57 = .ok (.sipush (-439), 3) := by decide +kernel
theorem d_M_grow_60 : decode b_M_grow 60 = .ok (.aload_n 0, 1) := by decide +kernel
theorem d_M_grow_61 : decode b_M_grow 61 = .ok (.iload_n 2, 1) := by decide +kernel
theorem d_M_grow_62 : decode b_M_grow 62 = .ok (.iconst 3, 1) := by decide +kernel
theorem d_M_grow_63 : decode b_M_grow 63 = .ok (.invokevirtual 81, 3) := by decide +kernel
theorem d_M_grow_66 : decode b_M_grow 66 = .ok (.ior, 1) := by decide +kernel
theorem d_M_grow_67 : decode b_M_grow 67 = .ok (.iand, 1) := by decide +kernel
theorem d_M_grow_68 : decode b_M_grow 68 = .ok (.invokevirtual 104, 3) := by decide +kernel
theorem d_M_grow_71 : decode b_M_grow 71 = .ok (.aload_n 0, 1) := by decide +kernel
theorem d_M_grow_72 : decode b_M_grow 72 = .ok (.iload_n 1, 1) := by decide +kernel
theorem d_M_grow_73 : decode b_M_grow 73 = .ok (.iconst 4, 1) := by decide +kernel
theorem d_M_grow_74 : decode b_M_grow 74 = .ok (.aload_n 0, 1) := by decide +kernel
theorem d_M_grow_75 : decode b_M_grow 75 = .ok (.getfield 108, 3) := by decide +kernel
theorem d_M_grow_78 : decode b_M_grow 78 = .ok (.invokevirtual 104, 3) := by decide +kernel
theorem d_M_grow_81 : decode b_M_grow 81 = .ok (.aload_n 0, 1) := by decide +kernel
theorem d_M_grow_82 : decode b_M_grow 82 = .ok (.iload_n 1, 1) := by decide +kernel
theorem d_M_grow_83 : decode b_M_grow 83 = .ok (.iconst 5, 1) := by decide +kernel
theorem d_M_grow_84 : decode b_M_grow 84 = .ok (.aload_n 0, 1) := by decide +kernel
theorem d_M_grow_85 : decode b_M_grow 85 = .ok (.getfield 276, 3) := by decide +kernel
theorem d_M_grow_88 : decode b_M_grow 88 = .ok (.invokevirtual 104, 3) := by decide +kernel
theorem d_M_grow_91 : decode b_M_grow 91 = .ok (.aload_n 0, 1) := by decide +kernel
theorem d_M_grow_92 : decode b_M_grow 92 = .ok (.iload_n 1, 1) := by decide +kernel
theorem d_M_grow_93 : decode b_M_grow 93 = .ok (.bipush 6, 2) := by decide +kernel
theorem d_M_grow_95 : decode b_M_grow 95 = .ok (.aload_n 0, 1) := by decide +kernel
theorem d_M_grow_96 : decode b_M_grow 96 = .ok (.iload_n 2, 1) := by decide +kernel
theorem d_M_grow_97 : decode b_M_grow 97 = .ok (.bipush 6, 2) := by decide +kernel
theorem d_M_grow_99 : decode b_M_grow 99 = .ok (.invokevirtual 81, 3) := by decide +kernel
theorem d_M_grow_102 : decode b_M_grow 102 = .ok (.invokevirtual 104, 3) := by decide +kernel
theorem d_M_grow_105 : decode b_M_grow 105 = .ok (.aload_n 0, 1) := by decide +kernel
theorem d_M_grow_106 : decode b_M_grow 106 = .ok (.iload_n 1, 1) := by decide +kernel
theorem d_M_grow_107 : decode b_M_grow 107 = .ok (.bipush 7, 2) := by decide +kernel
theorem d_M_grow_109 : decode b_M_grow 109 = .ok (.aload_n 0, 1) := by decide +kernel
theorem d_M_grow_110 : decode b_M_grow 110 = .ok (.getfield 276, 3) := by decide +kernel
theorem d_M_grow_113 : decode b_M_grow 113 = .ok (.invokevirtual 104, 3) := by decide +kernel
theorem d_M_grow_116 : decode b_M_grow 116 = .ok (.aload_n 0, 1) := by decide +kernel
theorem d_M_grow_117 : decode b_M_grow 117 = .ok (.iload_n 1, 1) := by decide +kernel
theorem d_M_grow_118 : decode b_M_grow 118 = .ok (.bipush 8, 2) := by decide +kernel
theorem d_M_grow_120 : decode b_M_grow 120 = .ok (.aload_n 0, 1) := by decide +kernel
theorem d_M_grow_121 : decode b_M_grow 121 = .ok (.iload_n 2, 1) := by decide +kernel
theorem d_M_grow_122 : decode b_M_grow 122 = .ok (.iconst 1, 1) := by decide +kernel
theorem d_M_grow_123 : decode b_M_grow 123 = .ok (.invokevirtual 81, 3) := by decide +kernel
theorem d_M_grow_126 : decode b_M_grow 126 = .ok (.invokevirtual 104, 3) := by decide +kernel
theorem d_M_grow_129 : decode b_M_grow 129 = .ok (.aload_n 0, 1) := by decide +kernel
theorem d_M_grow_130 : decode b_M_grow 130 = .ok (.iload_n 1, 1) := by decide +kernel
theorem d_M_grow_131 : decode b_M_grow 131 = .ok (.bipush 11, 2) := by decide +kernel
theorem d_M_grow_133 : decode b_M_grow 133 = .ok (.invokevirtual 348, 3) := by decide +kernel
theorem d_M_grow_136 : decode b_M_grow 136 = .ok (.aload_n 0, 1) := by decide +kernel
theorem d_M_grow_137 : decode b_M_grow 137 = .ok (.iload_n 2, 1) := by decide +kernel
theorem d_M_grow_138 : decode b_M_grow 138 = .ok (.aload_n 0, 1) := by decide +kernel
theorem d_M_grow_139 : decode b_M_grow 139 = .ok (.getfield 276, 3) := by decide +kernel
theorem d_M_grow_142 : decode b_M_grow 142 = .ok (.invokevirtual 111, 3) := by decide +kernel
theorem d_M_grow_145 : decode b_M_grow 145 = .ok (.return_, 1) := by decide +kernel
abbrev rm_M_grow : Room := { frames := 2, cells := 0, slots := 0, locals := 49 }
set_option maxRecDepth 100000 in
set_option maxHeartbeats 4000000 in
theorem k_M_grow_60 {p : Program} {l : Launch} {e : Env} {s : State} {m : MethodId} {args : Array Value} {below : List Frame} {meth : Method} {c : Code} {t : TY} {a0 : Nat} {K : GS → Prop} (X : kX p s m args meth c b_M_grow 5 "TreeServerModel" t) (hret : meth.sig.returnType = none) (l1 : Int32) (l2 : Int32) (s0 : Option Nat) (s1 : Int32) (s2 : Int32) (s3 : Int32) (s4 : Int32) (G : GS) (hwp : w_M_grow_60 t a0 K l1 l2 s0 s1 s2 s3 s4 G) : kW p l e rm_M_grow s m args below meth c (MQ below (va_Qv (fun u : GS => K u) (fun u T => HB t u T.heap) (tA t)) args s 0 0 (tA t)) 5 t false 60 [(0, va_rf (some a0)), (1, .int l1), (2, .int l2)] [.int s4, .int s3, .int s2, .int s1, va_rf s0] G := by
  unfold w_M_grow_60 at hwp
  refine kw_aload_n (pc := 60) X d_M_grow_60 rfl 0 rfl ?_
  refine kw_iload_n (pc := 61) X d_M_grow_61 rfl 2 rfl ?_
  refine kw_iconst (v := 3) (pc := 62) X d_M_grow_62 (by decide) ?_
  obtain ⟨f1, hwp⟩ := hwp
  refine kcVp_i (n := 2) (As := [.int l2, .int (3 : Int32)]) (rest := [.int s4, .int s3, .int s2, .int s1, va_rf s0]) (pc := 63) X (c_M_at l t G a0 l2 (3 : Int32) _) (cwV_of (C := "TreeServerModel") X x_1111 x_1108 x_1110 xp_41 x_13 (by decide +kernel) ⟨rfl, rfl⟩ (by decide)) (rv_10 X f1) rfl rfl (by simp [rf_cat, cat_i, cat_l, cat_r]) d_M_grow_63 hwp (fun v2 hwp => ?_)
  refine kw_ior (pc := 66) X d_M_grow_66 ?_
  refine kw_iand (pc := 67) X d_M_grow_67 ?_
  obtain ⟨a3, h_a3, hwp⟩ := hwp
  obtain ⟨f4, hwp⟩ := hwp
  refine kW.st (st' := [.int (s3 &&& (s4 ||| v2)), .int s2, .int s1, .ref a3]) (by simp only [h_a3]; rfl) ?_
  refine kcV_v (n := 3) (As := [.int s1, .int s2, .int (s3 &&& (s4 ||| v2))]) (rest := []) (pc := 68) X rfl (c_M_set l t G a3 s1 s2 (s3 &&& (s4 ||| v2)) _) (cwV_of (C := "TreeServerModel") X x_1139 x_1136 x_1138 xp_48 x_13 (by decide +kernel) ⟨rfl, rfl⟩ (by decide)) (rv_10 X f4) rfl rfl (by decide) d_M_grow_68 hwp (fun G5 hwp => ?_)
  refine kw_aload_n (pc := 71) X d_M_grow_71 rfl 0 rfl ?_
  refine kw_iload_n (pc := 72) X d_M_grow_72 rfl 1 rfl ?_
  refine kw_iconst (v := 4) (pc := 73) X d_M_grow_73 (by decide) ?_
  refine kw_aload_n (pc := 74) X d_M_grow_74 rfl 0 rfl ?_
  refine kg_78 (a := a0) (pc := 75) X d_M_grow_75 x_998 rfl f1 ?_
  refine kcV_v (n := 3) (As := [.int l1, .int (4 : Int32), .int (gi G5 78 a0)]) (rest := []) (pc := 78) X rfl (c_M_set l t G5 a0 l1 (4 : Int32) (gi G5 78 a0) _) (cwV_of (C := "TreeServerModel") X x_1139 x_1136 x_1138 xp_48 x_13 (by decide +kernel) ⟨rfl, rfl⟩ (by decide)) (rv_10 X f1) rfl rfl (by decide) d_M_grow_78 hwp (fun G6 hwp => ?_)
  refine kw_aload_n (pc := 81) X d_M_grow_81 rfl 0 rfl ?_
  refine kw_iload_n (pc := 82) X d_M_grow_82 rfl 1 rfl ?_
  refine kw_iconst (v := 5) (pc := 83) X d_M_grow_83 (by decide) ?_
  refine kw_aload_n (pc := 84) X d_M_grow_84 rfl 0 rfl ?_
  refine kg_99 (a := a0) (pc := 85) X d_M_grow_85 x_1019 rfl f1 ?_
  refine kcV_v (n := 3) (As := [.int l1, .int (5 : Int32), .int (gi G6 99 a0)]) (rest := []) (pc := 88) X rfl (c_M_set l t G6 a0 l1 (5 : Int32) (gi G6 99 a0) _) (cwV_of (C := "TreeServerModel") X x_1139 x_1136 x_1138 xp_48 x_13 (by decide +kernel) ⟨rfl, rfl⟩ (by decide)) (rv_10 X f1) rfl rfl (by decide) d_M_grow_88 hwp (fun G7 hwp => ?_)
  refine kw_aload_n (pc := 91) X d_M_grow_91 rfl 0 rfl ?_
  refine kw_iload_n (pc := 92) X d_M_grow_92 rfl 1 rfl ?_
  refine kw_bipush (v := 6) (pc := 93) X d_M_grow_93 (by decide) ?_
  refine kw_aload_n (pc := 95) X d_M_grow_95 rfl 0 rfl ?_
  refine kw_iload_n (pc := 96) X d_M_grow_96 rfl 2 rfl ?_
  refine kw_bipush (v := 6) (pc := 97) X d_M_grow_97 (by decide) ?_
  refine kcVp_i (n := 2) (As := [.int l2, .int (6 : Int32)]) (rest := [.int (6 : Int32), .int l1, va_rf (some a0)]) (pc := 99) X (c_M_at l t G7 a0 l2 (6 : Int32) _) (cwV_of (C := "TreeServerModel") X x_1111 x_1108 x_1110 xp_41 x_13 (by decide +kernel) ⟨rfl, rfl⟩ (by decide)) (rv_10 X f1) rfl rfl (by simp [rf_cat, cat_i, cat_l, cat_r]) d_M_grow_99 hwp (fun v8 hwp => ?_)
  refine kcV_v (n := 3) (As := [.int l1, .int (6 : Int32), .int v8]) (rest := []) (pc := 102) X rfl (c_M_set l t G7 a0 l1 (6 : Int32) v8 _) (cwV_of (C := "TreeServerModel") X x_1139 x_1136 x_1138 xp_48 x_13 (by decide +kernel) ⟨rfl, rfl⟩ (by decide)) (rv_10 X f1) rfl rfl (by decide) d_M_grow_102 hwp (fun G9 hwp => ?_)
  refine kw_aload_n (pc := 105) X d_M_grow_105 rfl 0 rfl ?_
  refine kw_iload_n (pc := 106) X d_M_grow_106 rfl 1 rfl ?_
  refine kw_bipush (v := 7) (pc := 107) X d_M_grow_107 (by decide) ?_
  refine kw_aload_n (pc := 109) X d_M_grow_109 rfl 0 rfl ?_
  refine kg_99 (a := a0) (pc := 110) X d_M_grow_110 x_1019 rfl f1 ?_
  refine kcV_v (n := 3) (As := [.int l1, .int (7 : Int32), .int (gi G9 99 a0)]) (rest := []) (pc := 113) X rfl (c_M_set l t G9 a0 l1 (7 : Int32) (gi G9 99 a0) _) (cwV_of (C := "TreeServerModel") X x_1139 x_1136 x_1138 xp_48 x_13 (by decide +kernel) ⟨rfl, rfl⟩ (by decide)) (rv_10 X f1) rfl rfl (by decide) d_M_grow_113 hwp (fun G10 hwp => ?_)
  refine kw_aload_n (pc := 116) X d_M_grow_116 rfl 0 rfl ?_
  refine kw_iload_n (pc := 117) X d_M_grow_117 rfl 1 rfl ?_
  refine kw_bipush (v := 8) (pc := 118) X d_M_grow_118 (by decide) ?_
  refine kw_aload_n (pc := 120) X d_M_grow_120 rfl 0 rfl ?_
  refine kw_iload_n (pc := 121) X d_M_grow_121 rfl 2 rfl ?_
  refine kw_iconst (v := 1) (pc := 122) X d_M_grow_122 (by decide) ?_
  refine kcVp_i (n := 2) (As := [.int l2, .int (1 : Int32)]) (rest := [.int (8 : Int32), .int l1, va_rf (some a0)]) (pc := 123) X (c_M_at l t G10 a0 l2 (1 : Int32) _) (cwV_of (C := "TreeServerModel") X x_1111 x_1108 x_1110 xp_41 x_13 (by decide +kernel) ⟨rfl, rfl⟩ (by decide)) (rv_10 X f1) rfl rfl (by simp [rf_cat, cat_i, cat_l, cat_r]) d_M_grow_123 hwp (fun v11 hwp => ?_)
  refine kcV_v (n := 3) (As := [.int l1, .int (8 : Int32), .int v11]) (rest := []) (pc := 126) X rfl (c_M_set l t G10 a0 l1 (8 : Int32) v11 _) (cwV_of (C := "TreeServerModel") X x_1139 x_1136 x_1138 xp_48 x_13 (by decide +kernel) ⟨rfl, rfl⟩ (by decide)) (rv_10 X f1) rfl rfl (by decide) d_M_grow_126 hwp (fun G12 hwp => ?_)
  refine kw_aload_n (pc := 129) X d_M_grow_129 rfl 0 rfl ?_
  refine kw_iload_n (pc := 130) X d_M_grow_130 rfl 1 rfl ?_
  refine kw_bipush (v := 11) (pc := 131) X d_M_grow_131 (by decide) ?_
  refine kcV_v (n := 2) (As := [.int l1, .int (11 : Int32)]) (rest := []) (pc := 133) X rfl (c_M_rename l t G12 a0 l1 (11 : Int32) _) (cwV_of (C := "TreeServerModel") X x_1302 x_1299 x_1301 xp_79 x_13 (by decide +kernel) ⟨rfl, rfl⟩ (by decide)) (rv_10 X f1) rfl rfl (by decide) d_M_grow_133 hwp (fun G13 hwp => ?_)
  refine kw_aload_n (pc := 136) X d_M_grow_136 rfl 0 rfl ?_
  refine kw_iload_n (pc := 137) X d_M_grow_137 rfl 2 rfl ?_
  refine kw_aload_n (pc := 138) X d_M_grow_138 rfl 0 rfl ?_
  refine kg_99 (a := a0) (pc := 139) X d_M_grow_139 x_1019 rfl f1 ?_
  refine kcV_v (n := 2) (As := [.int l2, .int (gi G13 99 a0)]) (rest := []) (pc := 142) X rfl (c_M_changes l t G13 a0 l2 (gi G13 99 a0) _) (cwV_of (C := "TreeServerModel") X x_1143 x_1140 x_1142 xp_49 x_13 (by decide +kernel) ⟨rfl, rfl⟩ (by decide)) (rv_10 X f1) rfl rfl (by decide) d_M_grow_142 hwp (fun G14 hwp => ?_)
  exact kr_v (pc := 145) X hret d_M_grow_145 hwp
set_option maxRecDepth 100000 in
set_option maxHeartbeats 4000000 in
theorem k_M_grow_3 {p : Program} {l : Launch} {e : Env} {s : State} {m : MethodId} {args : Array Value} {below : List Frame} {meth : Method} {c : Code} {t : TY} {a0 : Nat} {K : GS → Prop} (X : kX p s m args meth c b_M_grow 5 "TreeServerModel" t) (hret : meth.sig.returnType = none) : ∀ (n : Nat) (l1 : Int32) (l2 : Int32) (l3 : Int32) (l4 : Int32) (G : GS), w_M_grow_3 t a0 K n l1 l2 l3 l4 G → kW p l e rm_M_grow s m args below meth c (MQ below (va_Qv (fun u : GS => K u) (fun u T => HB t u T.heap) (tA t)) args s 0 0 (tA t)) 5 t false 3 [(0, va_rf (some a0)), (1, .int l1), (2, .int l2), (3, .int l3), (4, .int l4)] [] G := by
  intro n
  induction n with
  | zero => intro l1 l2 l3 l4 G hwp; exact hwp.elim
  | succ n hr_3 =>
    intro l1 l2 l3 l4 G hwp
    unfold w_M_grow_3 at hwp
    dsimp only at hwp
    refine kw_iload (pc := 3) X d_M_grow_3 4 rfl ?_
    refine kw_bipush (v := 83) (pc := 5) X d_M_grow_5 (by decide) ?_
    refine kw_icmp_ge (tgt := 24) (pc := 7) X d_M_grow_7 (by decide) (fun h => ?_) (fun h => ?_)
    · have hwp := ite_t h hwp
      refine kw_aload_n (pc := 24) X d_M_grow_24 rfl 0 rfl ?_
      refine kw_iload_n (pc := 25) X d_M_grow_25 rfl 1 rfl ?_
      refine kw_iconst (v := 0) (pc := 26) X d_M_grow_26 (by decide) ?_
      refine kw_iconst (v := 1) (pc := 27) X d_M_grow_27 (by decide) ?_
      obtain ⟨f1, hwp⟩ := hwp
      refine kcV_v (n := 3) (As := [.int l1, .int (0 : Int32), .int (1 : Int32)]) (rest := []) (pc := 28) X rfl (c_M_set l t G a0 l1 (0 : Int32) (1 : Int32) _) (cwV_of (C := "TreeServerModel") X x_1139 x_1136 x_1138 xp_48 x_13 (by decide +kernel) ⟨rfl, rfl⟩ (by decide)) (rv_10 X f1) rfl rfl (by decide) d_M_grow_28 hwp (fun G2 hwp => ?_)
      refine kw_aload_n (pc := 31) X d_M_grow_31 rfl 0 rfl ?_
      refine kw_iload_n (pc := 32) X d_M_grow_32 rfl 1 rfl ?_
      refine kw_iconst (v := 1) (pc := 33) X d_M_grow_33 (by decide) ?_
      refine kw_aload_n (pc := 34) X d_M_grow_34 rfl 0 rfl ?_
      refine kg_74 (a := a0) (pc := 35) X d_M_grow_35 x_994 rfl f1 ?_
      refine kw_iconst (v := 1) (pc := 38) X d_M_grow_38 (by decide) ?_
      refine kw_iadd (pc := 39) X d_M_grow_39 ?_
      refine kcV_v (n := 3) (As := [.int l1, .int (1 : Int32), .int ((gi G2 74 a0) + (1 : Int32))]) (rest := []) (pc := 40) X rfl (c_M_set l t G2 a0 l1 (1 : Int32) ((gi G2 74 a0) + (1 : Int32)) _) (cwV_of (C := "TreeServerModel") X x_1139 x_1136 x_1138 xp_48 x_13 (by decide +kernel) ⟨rfl, rfl⟩ (by decide)) (rv_10 X f1) rfl rfl (by decide) d_M_grow_40 hwp (fun G3 hwp => ?_)
      refine kw_aload_n (pc := 43) X d_M_grow_43 rfl 0 rfl ?_
      refine kw_iload_n (pc := 44) X d_M_grow_44 rfl 1 rfl ?_
      refine kw_iconst (v := 3) (pc := 45) X d_M_grow_45 (by decide) ?_
      refine kw_iload_n (pc := 46) X d_M_grow_46 rfl 3 rfl ?_
      refine kw_iload_n (pc := 47) X d_M_grow_47 rfl 3 rfl ?_
      refine kw_if_ge (tgt := 57) (pc := 48) X d_M_grow_48 (by decide) (fun h => ?_) (fun h => ?_)
      · have hwp := ite_t h hwp
        refine kw_sipush (v := -439) (pc := 57) X d_M_grow_57 (by decide) ?_
        exact kW.sub [0, 1, 2] rfl (k_M_grow_60 X hret  _ _ _ _ _ _ _ _ hwp)
      · have hwp := ite_f h hwp
        refine kw_sipush (v := -512) (pc := 51) X d_M_grow_51 (by decide) ?_
        refine kw_goto (tgt := 60) (pc := 54) X d_M_grow_54 (by decide) ?_
        exact kW.sub [0, 1, 2] rfl (k_M_grow_60 X hret  _ _ _ _ _ _ _ _ hwp)
    · have hwp := ite_f h hwp
      refine kw_aload_n (pc := 10) X d_M_grow_10 rfl 0 rfl ?_
      refine kw_iload_n (pc := 11) X d_M_grow_11 rfl 1 rfl ?_
      refine kw_iload (pc := 12) X d_M_grow_12 4 rfl ?_
      refine kw_iconst (v := 0) (pc := 14) X d_M_grow_14 (by decide) ?_
      obtain ⟨f4, hwp⟩ := hwp
      refine kcV_v (n := 3) (As := [.int l1, .int l4, .int (0 : Int32)]) (rest := []) (pc := 15) X rfl (c_M_set l t G a0 l1 l4 (0 : Int32) _) (cwV_of (C := "TreeServerModel") X x_1139 x_1136 x_1138 xp_48 x_13 (by decide +kernel) ⟨rfl, rfl⟩ (by decide)) (rv_10 X f4) rfl rfl (by decide) d_M_grow_15 hwp (fun G5 hwp => ?_)
      obtain ⟨v6, e_v6⟩ : ∃ z, z = (l4 + (1 : Int32)) := ⟨_, rfl⟩
      have hwp := hwp v6 e_v6
      refine kw_iinc (v := v6) (lv' := [(4, .int v6), (0, va_rf (some a0)), (1, .int l1), (2, .int l2), (3, .int l3)]) (pc := 18) X d_M_grow_18 4 rfl (by rw [e_v6]; rfl) (by decide) rfl ?_
      refine kw_goto (tgt := 3) (pc := 21) X d_M_grow_21 (by decide) ?_
      exact kW.sub [1, 2, 3, 4, 0] rfl (hr_3 _ _ _ _ _ hwp)
set_option maxRecDepth 100000 in
set_option maxHeartbeats 4000000 in
theorem k_M_grow {p : Program} {l : Launch} {e : Env} {s : State} {m : MethodId} {args : Array Value} {below : List Frame} {meth : Method} {c : Code} {t : TY} {a0 : Nat} {K : GS → Prop} (X : kX p s m args meth c b_M_grow 5 "TreeServerModel" t) (hret : meth.sig.returnType = none) (G : GS) (p1 : Int32) (p2 : Int32) (p3 : Int32) (hwp : w_M_grow t G a0 p1 p2 p3 K) : kW p l e rm_M_grow s m args below meth c (MQ below (va_Qv (fun u : GS => K u) (fun u T => HB t u T.heap) (tA t)) args s 0 0 (tA t)) 5 t false 0 [(0, va_rf (some a0)), (1, .int p1), (2, .int p2), (3, .int p3)] [] G := by
  unfold w_M_grow at hwp
  refine kw_iconst (v := 0) (pc := 0) X d_M_grow_0 (by decide) ?_
  refine kw_istore (i := 4) (lv' := [(4, .int (0 : Int32)), (0, va_rf (some a0)), (1, .int p1), (2, .int p2), (3, .int p3)]) (pc := 1) X d_M_grow_1 (by decide) rfl ?_
  obtain ⟨n, hwp⟩ := hwp
  exact kW.sub [1, 2, 3, 4, 0] rfl (k_M_grow_3 X hret  n _ _ _ _ _ hwp)
set_option maxRecDepth 100000 in
set_option maxHeartbeats 4000000 in
theorem c_M_grow (l : Launch) (t : TY) (G : GS) (a0 : Nat) (p1 : Int32) (p2 : Int32) (p3 : Int32) (K : GS → Prop) : Met l y_M_grow (Cond.code y_M_grow b_M_grow 5 (Option.none : Option Jvm.ClassFile.FieldType) :: GW) rm_M_grow (va_Pc [.ref a0, .int p1, .int p2, .int p3] (fun U => HB t G U.heap ∧ HK t U ∧ w_M_grow t G a0 p1 p2 p3 K)) (va_Qv (fun u : GS => K u) (fun u T => HB t u T.heap) (tA t)) 0 0 (tA t) := by
  refine Met.ofW (cc := b_M_grow) (maxL := 5) (ret := none) (by decide) rfl ?_
  intro p e s m args below meth c s₁ B hml hv
  obtain ⟨rfl, hB, hK, hwp⟩ := hv
  have hts := atoms_spec (ws := Cond.code y_M_grow b_M_grow 5 (Option.none : Option Jvm.ClassFile.FieldType) :: GW) B.pre
  have X : kX p s m _ meth c b_M_grow 5 "TreeServerModel" t := ⟨B.exec, B.bytes, hml, findClass_of_methodNamed B.named, fun w h => hts w (List.mem_cons_of_mem _ h), B.notSynchronized, hK⟩
  have hZ : kZ t false s G s.heap [] := ⟨hB, va_S.rf, fun _ => ⟨rfl, rfl⟩⟩
  rw [lg_entry_eq]
  have hl := lv_entry ([.ref a0, .int p1, .int p2, .int p3]) (n := 5) (by simp [lg_sl, rf_cat, cat_i, cat_l, cat_r])
  exact k_M_grow X B.returns _ _ _ _ hwp s.heap [] _ hl hZ
abbrev b_M_create : ByteArray := prog_13_method_51_code
def y_M_create : MethodName := ⟨"TreeServerModel", "create", "(II)V"⟩
theorem d_M_create_0 : decode b_M_create 0 = .ok (.aload_n 0, 1) := by decide +kernel
theorem d_M_create_1 : decode b_M_create 1 = .ok (.bipush 11, 2) := by decide +kernel
theorem d_M_create_3 : decode b_M_create 3 = .ok (.aload_n 0, 1) := by decide +kernel
theorem d_M_create_4 : decode b_M_create 4 = .ok (.getfield 187, 3) := by decide +kernel
theorem d_M_create_7 : decode b_M_create 7 = .ok (.invokevirtual 200, 3) := by decide +kernel
theorem d_M_create_10 : decode b_M_create 10 = .ok (.istore_n 3, 1) := by decide +kernel
theorem d_M_create_11 : decode b_M_create 11 = .ok (.aload_n 0, 1) := by decide +kernel
theorem d_M_create_12 : decode b_M_create 12 = .ok (.iload_n 3, 1) := by decide +kernel
theorem d_M_create_13 : decode b_M_create 13 = .ok (.iconst 4, 1) := by decide +kernel
theorem d_M_create_14 : decode b_M_create 14 = .ok (.invokevirtual 85, 3) := by decide +kernel
theorem d_M_create_17 : decode b_M_create 17 = .ok (.l2i, 1) := by decide +kernel
theorem d_M_create_18 : decode b_M_create 18 = .ok (.istore 4, 2) := by decide +kernel
theorem d_M_create_20 : decode b_M_create 20 = .ok (.aload_n 0, 1) := by decide +kernel
theorem d_M_create_21 : decode b_M_create 21 = .ok (.getfield 70, 3) := by decide +kernel
theorem d_M_create_24 : decode b_M_create 24 = .ok (.iload_n 3, 1) := by decide +kernel
theorem d_M_create_25 : decode b_M_create 25 = .ok (.iconst 4, 1) := by decide +kernel
theorem d_M_create_26 : decode b_M_create 26 = .ok (.iadd, 1) := by decide +kernel
theorem d_M_create_27 : decode b_M_create 27 = .ok (.iaload, 1) := by decide +kernel
theorem d_M_create_28 : decode b_M_create 28 = .ok (.istore 5, 2) := by decide +kernel
theorem d_M_create_30 : decode b_M_create 30 = .ok (.aload_n 0, 1) := by decide +kernel
theorem d_M_create_31 : decode b_M_create 31 = .ok (.getfield 58, 3) := by decide +kernel
theorem d_M_create_34 : decode b_M_create 34 = .ok (.iload_n 1, 1) := by decide +kernel
theorem d_M_create_35 : decode b_M_create 35 = .ok (.iaload, 1) := by decide +kernel
theorem d_M_create_36 : decode b_M_create 36 = .ok (.ifCond .lt 13, 3) := by decide +kernel
theorem d_M_create_39 : decode b_M_create 39 = .ok (.aload_n 0, 1) := by decide +kernel
theorem d_M_create_40 : decode b_M_create 40 = .ok (.ldc2_w 307, 3) := by decide +kernel
theorem d_M_create_43 : decode b_M_create 43 = .ok (.putfield 193, 3) := by decide +kernel
theorem d_M_create_46 : decode b_M_create 46 = .ok (.goto 117, 3) := by decide +kernel
theorem d_M_create_49 : decode b_M_create 49 = .ok (.aload_n 0, 1) := by decide +kernel
theorem d_M_create_50 : decode b_M_create 50 = .ok (.iload_n 2, 1) := by decide +kernel
theorem d_M_create_51 : decode b_M_create 51 = .ok (.invokevirtual 97, 3) := by decide +kernel
theorem d_M_create_54 : decode b_M_create 54 = .ok (.ifCond .ne 13, 3) := by decide +kernel
theorem d_M_create_57 : decode b_M_create 57 = .ok (.aload_n 0, 1) := by decide +kernel
theorem d_M_create_58 : decode b_M_create 58 = .ok (.ldc2_w 315, 3) := by decide +kernel
theorem d_M_create_61 : decode b_M_create 61 = .ok (.putfield 193, 3) := by decide +kernel
theorem d_M_create_64 : decode b_M_create 64 = .ok (.goto 99, 3) := by decide +kernel
theorem d_M_create_67 : decode b_M_create 67 = .ok (.aload_n 0, 1) := by decide +kernel
theorem d_M_create_68 : decode b_M_create 68 = .ok (.bipush 11, 2) := by decide +kernel
theorem d_M_create_70 : decode b_M_create 70 = .ok (.invokevirtual 328, 3) := by decide +kernel
theorem d_M_create_73 : decode b_M_create 73 = .ok (.ifCond .ne 13, 3) := by decide +kernel
theorem d_M_create_76 : decode b_M_create 76 = .ok (.aload_n 0, 1) := by decide +kernel
theorem d_M_create_77 : decode b_M_create 77 = .ok (.ldc2_w 331, 3) := by decide +kernel
theorem d_M_create_80 : decode b_M_create 80 = .ok (.putfield 193, 3) := by decide +kernel
theorem d_M_create_83 : decode b_M_create 83 = .ok (.goto 80, 3) := by decide +kernel
theorem d_M_create_86 : decode b_M_create 86 = .ok (.iload 4, 2) := by decide +kernel
theorem d_M_create_88 : decode b_M_create 88 = .ok (.ldc_w 333, 3) := by decide +kernel
theorem d_M_create_91 : decode b_M_create 91 = .ok (.iand, 1) := by decide +kernel
theorem d_M_create_92 : decode b_M_create 92 = .ok (.ifCond .ne 21, 3) := by decide +kernel
theorem d_M_create_95 : decode b_M_create 95 = .ok (.iload 5, 2) := by decide +kernel
theorem d_M_create_97 : decode b_M_create 97 = .ok (.bipush (-84), 2) := by decide +kernel
theorem d_M_create_99 : decode b_M_create 99 = .ok (.iand, 1) := by decide +kernel
theorem d_M_create_100 : decode b_M_create 100 = .ok (.ifCond .ne 13, 3) := by decide +kernel
theorem d_M_create_103 : decode b_M_create 103 = .ok (.iload 5, 2) := by decide +kernel
theorem d_M_create_105 : decode b_M_create 105 = .ok (.ifCond .eq 18, 3) := by decide +kernel
theorem d_M_create_108 : decode b_M_create 108 = .ok (.iload 4, 2) := by decide +kernel
theorem d_M_create_110 : decode b_M_create 110 = .ok (.ifCond .ge 13, 3) := by decide +kernel
theorem d_M_create_113 : decode b_M_create 113 = .ok (.aload_n 0, 1) := by decide +kernel
theorem d_M_create_114 : decode b_M_create 114 = .ok (.ldc2_w 319, 3) := by decide +kernel
theorem d_M_create_117 : decode b_M_create 117 = .ok (.putfield 193, 3) := by decide +kernel
theorem d_M_create_120 : decode b_M_create 120 = .ok (.goto 43, 3) := by decide +kernel
theorem d_M_create_123 : decode b_M_create 123 = .ok (.aload_n 0, 1) := by decide +kernel
theorem d_M_create_124 : decode b_M_create 124 = .ok (.iload_n 2, 1) := by decide +kernel
theorem d_M_create_125 : decode b_M_create 125 = .ok (.aload_n 0, 1) := by decide +kernel
theorem d_M_create_126 : decode b_M_create 126 = .ok (.getfield 276, 3) := by decide +kernel
theorem d_M_create_129 : decode b_M_create 129 = .ok (.iconst 2, 1) := by decide +kernel
theorem d_M_create_130 : decode b_M_create 130 = .ok (.invokevirtual 93, 3) := by decide +kernel
theorem d_M_create_133 : decode b_M_create 133 = .ok (.ifCond .ne 13, 3) := by decide +kernel
theorem d_M_create_136 : decode b_M_create 136 = .ok (.aload_n 0, 1) := by decide +kernel
theorem d_M_create_137 : decode b_M_create 137 = .ok (.ldc2_w 303, 3) := by decide +kernel
theorem d_M_create_140 : decode b_M_create 140 = .ok (.putfield 193, 3) := by decide +kernel
theorem d_M_create_143 : decode b_M_create 143 = .ok (.goto 20, 3) := by decide +kernel
theorem d_M_create_146 : decode b_M_create 146 = .ok (.aload_n 0, 1) := by decide +kernel
theorem d_M_create_147 : decode b_M_create 147 = .ok (.iload_n 2, 1) := by decide +kernel
theorem d_M_create_148 : decode b_M_create 148 = .ok (.bipush 11, 2) := by decide +kernel
theorem d_M_create_150 : decode b_M_create 150 = .ok (.invokevirtual 312, 3) := by decide +kernel
theorem d_M_create_153 : decode b_M_create 153 = .ok (.ifCond .lt 10, 3) := by decide +kernel
theorem d_M_create_156 : decode b_M_create 156 = .ok (.aload_n 0, 1) := by decide +kernel
theorem d_M_create_157 : decode b_M_create 157 = .ok (.ldc2_w 334, 3) := by decide +kernel
theorem d_M_create_160 : decode b_M_create 160 = .ok (.putfield 193, 3) := by decide +kernel
theorem d_M_create_163 : decode b_M_create 163 = .ok (.aload_n 0, 1) := by decide +kernel
theorem d_M_create_164 : decode b_M_create 164 = .ok (.getfield 193, 3) := by decide +kernel
theorem d_M_create_167 : decode b_M_create 167 = .ok (.lconst 0, 1) := by decide +kernel
theorem d_M_create_168 : decode b_M_create 168 = .ok (.lcmp, 1) := by decide +kernel
theorem d_M_create_169 : decode b_M_create 169 = .ok (.ifCond .eq 4, 3) := by decide +kernel
theorem d_M_create_172 : decode b_M_create 172 = .ok (.return_, 1) := by decide +kernel
theorem d_M_create_173 : decode b_M_create 173 = .ok (.iconst 1, 1) := by decide +kernel
theorem d_M_create_174 : decode b_M_create 174 = .ok (.istore 6, 2) := by decide +kernel
theorem d_M_create_176 : decode b_M_create 176 = .ok (.iload 6, 2) := by decide +kernel
theorem d_M_create_178 : decode b_M_create 178 = .ok (.bipush 21, 2) := by decide +kernel
theorem d_M_create_180 : decode b_M_create 180 = .ok (.if_icmp .ge 20, 3) := by decide +kernel
theorem d_M_create_183 : decode b_M_create 183 = .ok (.aload_n 0, 1) := by decide +kernel
theorem d_M_create_184 : decode b_M_create 184 = .ok (.iload 6, 2) := by decide +kernel
theorem d_M_create_186 : decode b_M_create 186 = .ok (.iconst 0, 1) := by decide +kernel
theorem d_M_create_187 : decode b_M_create 187 = .ok (.invokevirtual 81, 3) := by decide +kernel
theorem d_M_create_190 : decode b_M_create 190 = .ok (.iconst 1, 1) := by decide +kernel
theorem d_M_create_191 : decode b_M_create 191 = .ok (.if_icmp .ne 9, 3) := by decide +kernel
theorem d_M_create_194 : decode b_M_create 194 = .ok (.iinc 6 1, 3) := by decide +kernel
theorem d_M_create_197 : decode b_M_create 197 = .ok (.goto (-21), 3) := by decide +kernel
theorem d_M_create_200 : decode b_M_create 200 = .ok (.aload_n 0, 1) := by decide +kernel
theorem d_M_create_201 : decode b_M_create 201 = .ok (.invokevirtual 170, 3) := by decide +kernel
theorem d_M_create_204 : decode b_M_create 204 = .ok (.iload 6, 2) := by decide +kernel
theorem d_M_create_206 : decode b_M_create 206 = .ok (.bipush 21, 2) := by decide +kernel
theorem d_M_create_208 : decode b_M_create 208 = .ok (.if_icmp .ge 12, 3) := by decide +kernel
theorem d_M_create_211 : decode b_M_create 211 = .ok (.aload_n 0, 1) := by decide +kernel
theorem d_M_create_212 : decode b_M_create 212 = .ok (.iload 6, 2) := by decide +kernel
theorem d_M_create_214 : decode b_M_create 214 = .ok (.iload_n 2, 1) := by decide +kernel
theorem d_M_create_215 : decode b_M_create 215 = .ok (.iload 4, 2) := by decide +kernel
theorem d_M_create_217 : decode b_M_create 217 = .ok (.invokevirtual 336, 3) := by decide +kernel
theorem d_M_create_220 : decode b_M_create 220 = .ok (.iload 6, 2) := by decide +kernel
theorem d_M_create_222 : decode b_M_create 222 = .ok (.bipush 21, 2) := by decide +kernel
theorem d_M_create_224 : decode b_M_create 224 = .ok (.if_icmp .eq 12, 3) := by decide +kernel
theorem d_M_create_227 : decode b_M_create 227 = .ok (.aload_n 0, 1) := by decide +kernel
theorem d_M_create_228 : decode b_M_create 228 = .ok (.invokevirtual 339, 3) := by decide +kernel
theorem d_M_create_231 : decode b_M_create 231 = .ok (.bipush 24, 2) := by decide +kernel
theorem d_M_create_233 : decode b_M_create 233 = .ok (.if_icmp .le 15, 3) := by decide +kernel
theorem d_M_create_236 : decode b_M_create 236 = .ok (.aload_n 0, 1) := by decide +kernel
theorem d_M_create_237 : decode b_M_create 237 = .ok (.invokevirtual 122, 3) := by decide +kernel
theorem d_M_create_240 : decode b_M_create 240 = .ok (.aload_n 0, 1) := by decide +kernel
theorem d_M_create_241 : decode b_M_create 241 = .ok (.ldc2_w 343, 3) := by decide +kernel
theorem d_M_create_244 : decode b_M_create 244 = .ok (.putfield 193, 3) := by decide +kernel
theorem d_M_create_247 : decode b_M_create 247 = .ok (.return_, 1) := by decide +kernel
theorem d_M_create_248 : decode b_M_create 248 = .ok (.aload_n 0, 1) := by decide +kernel
theorem d_M_create_249 : decode b_M_create 249 = .ok (.aload_n 0, 1) := by decide +kernel
theorem d_M_create_250 : decode b_M_create 250 = .ok (.getfield 187, 3) := by decide +kernel
theorem d_M_create_253 : decode b_M_create 253 = .ok (.invokevirtual 176, 3) := by decide +kernel
theorem d_M_create_256 : decode b_M_create 256 = .ok (.ifCond .ne 4, 3) := by decide +kernel
theorem d_M_create_259 : decode b_M_create 259 = .ok (.return_, 1) := by decide +kernel
theorem d_M_create_260 : decode b_M_create 260 = .ok (.aload_n 0, 1) := by decide +kernel
theorem d_M_create_261 : decode b_M_create 261 = .ok (.dup, 1) := by decide +kernel
theorem d_M_create_262 : decode b_M_create 262 = .ok (.getfield 345, 3) := by decide +kernel
theorem d_M_create_265 : decode b_M_create 265 = .ok (.iconst 1, 1) := by decide +kernel
theorem d_M_create_266 : decode b_M_create 266 = .ok (.iadd, 1) := by decide +kernel
theorem d_M_create_267 : decode b_M_create 267 = .ok (.putfield 345, 3) := by decide +kernel
theorem d_M_create_270 : decode b_M_create 270 = .ok (.aload_n 0, 1) := by decide +kernel
theorem d_M_create_271 : decode b_M_create 271 = .ok (.iload_n 1, 1) := by decide +kernel
theorem d_M_create_272 : decode b_M_create 272 = .ok (.iload 6, 2) := by decide +kernel
theorem d_M_create_274 : decode b_M_create 274 = .ok (.aload_n 0, 1) := by decide +kernel
theorem d_M_create_275 : decode b_M_create 275 = .ok (.getfield 276, 3) := by decide +kernel
theorem d_M_create_278 : decode b_M_create 278 = .ok (.invokevirtual 163, 3) := by decide +kernel
theorem d_M_create_281 : decode b_M_create 281 = .ok (.aload_n 0, 1) := by decide +kernel
theorem d_M_create_282 : decode b_M_create 282 = .ok (.iload_n 1, 1) := by decide +kernel
theorem d_M_create_283 : decode b_M_create 283 = .ok (.iload 5, 2) := by decide +kernel
theorem d_M_create_285 : decode b_M_create 285 = .ok (.invokevirtual 325, 3) := by decide +kernel
theorem d_M_create_288 : decode b_M_create 288 = .ok (.aload_n 0, 1) := by decide +kernel
theorem d_M_create_289 : decode b_M_create 289 = .ok (.iload 6, 2) := by decide +kernel
theorem d_M_create_291 : decode b_M_create 291 = .ok (.invokevirtual 156, 3) := by decide +kernel
theorem d_M_create_294 : decode b_M_create 294 = .ok (.aload_n 0, 1) := by decide +kernel
theorem d_M_create_295 : decode b_M_create 295 = .ok (.lconst 0, 1) := by decide +kernel
theorem d_M_create_296 : decode b_M_create 296 = .ok (.iconst 4, 1) := by decide +kernel
theorem d_M_create_297 : decode b_M_create 297 = .ok (.invokevirtual 137, 3) := by decide +kernel
theorem d_M_create_300 : decode b_M_create 300 = .ok (.return_, 1) := by decide +kernel
abbrev rm_M_create : Room := { frames := 3, cells := 0, slots := 0, locals := 73 }
set_option maxRecDepth 100000 in
set_option maxHeartbeats 4000000 in
theorem k_M_create_236 {p : Program} {l : Launch} {e : Env} {s : State} {m : MethodId} {args : Array Value} {below : List Frame} {meth : Method} {c : Code} {t : TY} {a0 : Nat} {K : GS → Prop} (X : kX p s m args meth c b_M_create 7 "TreeServerModel" t) (hret : meth.sig.returnType = none)  (G : GS) (hwp : w_M_create_236 t a0 K G) : kW p l e rm_M_create s m args below meth c (MQ below (va_Qv (fun u : GS => K u) (fun u T => HB t u T.heap) (tA t)) args s 0 0 (tA t)) 7 t false 236 [(0, va_rf (some a0))] [] G := by
  unfold w_M_create_236 at hwp
  refine kw_aload_n (pc := 236) X d_M_create_236 rfl 0 rfl ?_
  obtain ⟨f1, hwp⟩ := hwp
  refine kcV_v (n := 0) (As := []) (rest := []) (pc := 237) X rfl (c_M_back l t G a0 _) (cwV_of (C := "TreeServerModel") X x_1151 x_1148 x_1150 xp_51 x_13 (by decide +kernel) ⟨rfl, rfl⟩ (by decide)) (rv_10 X f1) rfl rfl (by decide) d_M_create_237 hwp (fun G2 hwp => ?_)
  refine kw_aload_n (pc := 240) X d_M_create_240 rfl 0 rfl ?_
  refine kw_ldc2 (v := 1819047270) (pc := 241) X d_M_create_241 x_1307 ?_
  refine kp_98 (a := a0) (x := (1819047270 : Int64)) (pc := 244) X rfl d_M_create_244 x_1018 rfl f1 ?_
  obtain ⟨G3, e_G3⟩ : ∃ g, g = sl G2 98 a0 (1819047270 : Int64) := ⟨_, rfl⟩
  have hwp := hwp G3 e_G3
  refine kW.g e_G3.symm ?_
  exact kr_v (pc := 247) X hret d_M_create_247 hwp
set_option maxRecDepth 100000 in
set_option maxHeartbeats 4000000 in
theorem k_M_create_220 {p : Program} {l : Launch} {e : Env} {s : State} {m : MethodId} {args : Array Value} {below : List Frame} {meth : Method} {c : Code} {t : TY} {a0 : Nat} {K : GS → Prop} (X : kX p s m args meth c b_M_create 7 "TreeServerModel" t) (hret : meth.sig.returnType = none) (l1 : Int32) (l5 : Int32) (l6 : Int32) (G : GS) (hwp : w_M_create_220 t a0 K l1 l5 l6 G) : kW p l e rm_M_create s m args below meth c (MQ below (va_Qv (fun u : GS => K u) (fun u T => HB t u T.heap) (tA t)) args s 0 0 (tA t)) 7 t false 220 [(0, va_rf (some a0)), (1, .int l1), (5, .int l5), (6, .int l6)] [] G := by
  unfold w_M_create_220 at hwp
  refine kw_iload (pc := 220) X d_M_create_220 3 rfl ?_
  refine kw_bipush (v := 21) (pc := 222) X d_M_create_222 (by decide) ?_
  refine kw_icmp_eq (tgt := 236) (pc := 224) X d_M_create_224 (by decide) (fun h => ?_) (fun h => ?_)
  · have hwp := ite_t h hwp
    exact kW.sub [0] rfl (k_M_create_236 X hret  _ hwp)
  · have hwp := ite_f h hwp
    refine kw_aload_n (pc := 227) X d_M_create_227 rfl 0 rfl ?_
    obtain ⟨f1, hwp⟩ := hwp
    refine kcVp_i (n := 0) (As := []) (rest := []) (pc := 228) X (c_M_blocks l t G a0 _) (cwV_of (C := "TreeServerModel") X x_1306 x_1303 x_1305 xp_80 x_13 (by decide +kernel) ⟨rfl, rfl⟩ (by decide)) (rv_10 X f1) rfl rfl (by decide) d_M_create_228 hwp (fun v2 hwp => ?_)
    refine kw_bipush (v := 24) (pc := 231) X d_M_create_231 (by decide) ?_
    refine kw_icmp_le (tgt := 248) (pc := 233) X d_M_create_233 (by decide) (fun h => ?_) (fun h => ?_)
    · have hwp := ite_t h hwp
      refine kw_aload_n (pc := 248) X d_M_create_248 rfl 0 rfl ?_
      refine kw_aload_n (pc := 249) X d_M_create_249 rfl 0 rfl ?_
      refine kg_95 (a := a0) (pc := 250) X d_M_create_250 x_1015 rfl f1 ?_
      refine kcV_i (n := 1) (As := [.int (gi G 95 a0)]) (rest := []) (pc := 253) X rfl (c_M_commit l t G a0 (gi G 95 a0) _) (cwV_of (C := "TreeServerModel") X x_1147 x_1144 x_1146 xp_50 x_13 (by decide +kernel) ⟨rfl, rfl⟩ (by decide)) (rv_10 X f1) rfl rfl (by decide) d_M_create_253 hwp (fun v4 G3 hwp => ?_)
      obtain ⟨b_v4, hwp⟩ := hwp
      refine kw_if_ne (tgt := 260) (pc := 256) X d_M_create_256 (by decide) (fun h => ?_) (fun h => ?_)
      · have hwp := ite_t h hwp
        refine kw_aload_n (pc := 260) X d_M_create_260 rfl 0 rfl ?_
        refine kw_dup (pc := 261) X d_M_create_261 rfl ?_
        refine kg_74 (a := a0) (pc := 262) X d_M_create_262 x_994 rfl f1 ?_
        refine kw_iconst (v := 1) (pc := 265) X d_M_create_265 (by decide) ?_
        refine kw_iadd (pc := 266) X d_M_create_266 ?_
        refine kp_74 (a := a0) (x := ((gi G3 74 a0) + (1 : Int32))) (pc := 267) X rfl d_M_create_267 x_994 rfl f1 ?_
        obtain ⟨G5, e_G5⟩ : ∃ g, g = si G3 74 a0 ((gi G3 74 a0) + (1 : Int32)) := ⟨_, rfl⟩
        have hwp := hwp G5 e_G5
        refine kW.g e_G5.symm ?_
        refine kw_aload_n (pc := 270) X d_M_create_270 rfl 0 rfl ?_
        refine kw_iload_n (pc := 271) X d_M_create_271 rfl 1 rfl ?_
        refine kw_iload (pc := 272) X d_M_create_272 3 rfl ?_
        refine kw_aload_n (pc := 274) X d_M_create_274 rfl 0 rfl ?_
        refine kg_99 (a := a0) (pc := 275) X d_M_create_275 x_1019 rfl f1 ?_
        refine kcV_v (n := 3) (As := [.int l1, .int l6, .int (gi G5 99 a0)]) (rest := []) (pc := 278) X rfl (c_M_point l t G5 a0 l1 l6 (gi G5 99 a0) _) (cwV_of (C := "TreeServerModel") X x_1239 x_1236 x_1238 xp_67 x_13 (by decide +kernel) ⟨rfl, rfl⟩ (by decide)) (rv_10 X f1) rfl rfl (by decide) d_M_create_278 hwp (fun G6 hwp => ?_)
        refine kw_aload_n (pc := 281) X d_M_create_281 rfl 0 rfl ?_
        refine kw_iload_n (pc := 282) X d_M_create_282 rfl 1 rfl ?_
        refine kw_iload (pc := 283) X d_M_create_283 2 rfl ?_
        refine kcV_v (n := 2) (As := [.int l1, .int l5]) (rest := []) (pc := 285) X rfl (c_M_open l t G6 a0 l1 l5 _) (cwV_of (C := "TreeServerModel") X x_1283 x_1280 x_1282 xp_75 x_13 (by decide +kernel) ⟨rfl, rfl⟩ (by decide)) (rv_10 X f1) rfl rfl (by decide) d_M_create_285 hwp (fun G7 hwp => ?_)
        refine kw_aload_n (pc := 288) X d_M_create_288 rfl 0 rfl ?_
        refine kw_iload (pc := 289) X d_M_create_289 3 rfl ?_
        refine kcV_v (n := 1) (As := [.int l6]) (rest := []) (pc := 291) X rfl (c_M_qid l t G7 a0 l6 _) (cwV_of (C := "TreeServerModel") X x_1243 x_1240 x_1242 xp_68 x_13 (by decide +kernel) ⟨rfl, rfl⟩ (by decide)) (rv_10 X f1) rfl rfl (by decide) d_M_create_291 hwp (fun G8 hwp => ?_)
        refine kw_aload_n (pc := 294) X d_M_create_294 rfl 0 rfl ?_
        refine kw_lconst (v := 0) (pc := 295) X d_M_create_295 (by decide) ?_
        refine kw_iconst (v := 4) (pc := 296) X d_M_create_296 (by decide) ?_
        refine kcV_v (n := 2) (As := [.long (0 : Int64), .int (4 : Int32)]) (rest := []) (pc := 297) X rfl (c_M_put l t G8 a0 (0 : Int64) (4 : Int32) _) (cwV_of (C := "TreeServerModel") X x_1199 x_1196 x_1198 xp_60 x_13 (by decide +kernel) ⟨rfl, rfl⟩ (by decide)) (rv_10 X f1) rfl rfl (by decide) d_M_create_297 hwp (fun G9 hwp => ?_)
        exact kr_v (pc := 300) X hret d_M_create_300 hwp
      · have hwp := ite_f (not_not_intro h) hwp
        exact kr_v (pc := 259) X hret d_M_create_259 hwp
    · have hwp := ite_f h hwp
      exact kW.sub [0] rfl (k_M_create_236 X hret  _ hwp)
set_option maxRecDepth 100000 in
set_option maxHeartbeats 4000000 in
theorem k_M_create_200 {p : Program} {l : Launch} {e : Env} {s : State} {m : MethodId} {args : Array Value} {below : List Frame} {meth : Method} {c : Code} {t : TY} {a0 : Nat} {K : GS → Prop} (X : kX p s m args meth c b_M_create 7 "TreeServerModel" t) (hret : meth.sig.returnType = none) (l1 : Int32) (l2 : Int32) (l4 : Int32) (l5 : Int32) (l6 : Int32) (G : GS) (hwp : w_M_create_200 t a0 K l1 l2 l4 l5 l6 G) : kW p l e rm_M_create s m args below meth c (MQ below (va_Qv (fun u : GS => K u) (fun u T => HB t u T.heap) (tA t)) args s 0 0 (tA t)) 7 t false 200 [(0, va_rf (some a0)), (1, .int l1), (2, .int l2), (4, .int l4), (5, .int l5), (6, .int l6)] [] G := by
  unfold w_M_create_200 at hwp
  refine kw_aload_n (pc := 200) X d_M_create_200 rfl 0 rfl ?_
  obtain ⟨f1, hwp⟩ := hwp
  refine kcV_v (n := 0) (As := []) (rest := []) (pc := 201) X rfl (c_M_begin l t G a0 _) (cwV_of (C := "TreeServerModel") X x_1131 x_1128 x_1130 xp_46 x_13 (by decide +kernel) ⟨rfl, rfl⟩ (by decide)) (rv_10 X f1) rfl rfl (by decide) d_M_create_201 hwp (fun G2 hwp => ?_)
  refine kw_iload (pc := 204) X d_M_create_204 5 rfl ?_
  refine kw_bipush (v := 21) (pc := 206) X d_M_create_206 (by decide) ?_
  refine kw_icmp_ge (tgt := 220) (pc := 208) X d_M_create_208 (by decide) (fun h => ?_) (fun h => ?_)
  · have hwp := ite_t h hwp
    exact kW.sub [0, 1, 4, 5] rfl (k_M_create_220 X hret  _ _ _ _ hwp)
  · have hwp := ite_f h hwp
    refine kw_aload_n (pc := 211) X d_M_create_211 rfl 0 rfl ?_
    refine kw_iload (pc := 212) X d_M_create_212 5 rfl ?_
    refine kw_iload_n (pc := 214) X d_M_create_214 rfl 2 rfl ?_
    refine kw_iload (pc := 215) X d_M_create_215 3 rfl ?_
    refine kcV_v (n := 3) (As := [.int l6, .int l2, .int l4]) (rest := []) (pc := 217) X rfl (c_M_grow l t G2 a0 l6 l2 l4 _) (cwV_of (C := "TreeServerModel") X x_1298 x_1295 x_1297 xp_78 x_13 (by decide +kernel) ⟨rfl, rfl⟩ (by decide)) (rv_10 X f1) rfl rfl (by decide) d_M_create_217 hwp (fun G3 hwp => ?_)
    exact kW.sub [0, 1, 4, 5] rfl (k_M_create_220 X hret  _ _ _ _ hwp)
set_option maxRecDepth 100000 in
set_option maxHeartbeats 4000000 in
theorem k_M_create_176 {p : Program} {l : Launch} {e : Env} {s : State} {m : MethodId} {args : Array Value} {below : List Frame} {meth : Method} {c : Code} {t : TY} {a0 : Nat} {K : GS → Prop} (X : kX p s m args meth c b_M_create 7 "TreeServerModel" t) (hret : meth.sig.returnType = none) : ∀ (n : Nat) (l1 : Int32) (l2 : Int32) (l4 : Int32) (l5 : Int32) (l6 : Int32) (G : GS), w_M_create_176 t a0 K n l1 l2 l4 l5 l6 G → kW p l e rm_M_create s m args below meth c (MQ below (va_Qv (fun u : GS => K u) (fun u T => HB t u T.heap) (tA t)) args s 0 0 (tA t)) 7 t false 176 [(0, va_rf (some a0)), (1, .int l1), (2, .int l2), (4, .int l4), (5, .int l5), (6, .int l6)] [] G := by
  intro n
  induction n with
  | zero => intro l1 l2 l4 l5 l6 G hwp; exact hwp.elim
  | succ n hr_176 =>
    intro l1 l2 l4 l5 l6 G hwp
    unfold w_M_create_176 at hwp
    dsimp only at hwp
    refine kw_iload (pc := 176) X d_M_create_176 5 rfl ?_
    refine kw_bipush (v := 21) (pc := 178) X d_M_create_178 (by decide) ?_
    refine kw_icmp_ge (tgt := 200) (pc := 180) X d_M_create_180 (by decide) (fun h => ?_) (fun h => ?_)
    · have hwp := ite_t h hwp
      exact kW.sub [0, 1, 2, 3, 4, 5] rfl (k_M_create_200 X hret  _ _ _ _ _ _ hwp)
    · have hwp := ite_f h hwp
      refine kw_aload_n (pc := 183) X d_M_create_183 rfl 0 rfl ?_
      refine kw_iload (pc := 184) X d_M_create_184 5 rfl ?_
      refine kw_iconst (v := 0) (pc := 186) X d_M_create_186 (by decide) ?_
      obtain ⟨f1, hwp⟩ := hwp
      refine kcVp_i (n := 2) (As := [.int l6, .int (0 : Int32)]) (rest := []) (pc := 187) X (c_M_at l t G a0 l6 (0 : Int32) _) (cwV_of (C := "TreeServerModel") X x_1111 x_1108 x_1110 xp_41 x_13 (by decide +kernel) ⟨rfl, rfl⟩ (by decide)) (rv_10 X f1) rfl rfl (by decide) d_M_create_187 hwp (fun v2 hwp => ?_)
      refine kw_iconst (v := 1) (pc := 190) X d_M_create_190 (by decide) ?_
      refine kw_icmp_ne (tgt := 200) (pc := 191) X d_M_create_191 (by decide) (fun h => ?_) (fun h => ?_)
      · have hwp := ite_t h hwp
        exact kW.sub [0, 1, 2, 3, 4, 5] rfl (k_M_create_200 X hret  _ _ _ _ _ _ hwp)
      · have hwp := ite_f (not_not_intro h) hwp
        obtain ⟨v3, e_v3⟩ : ∃ z, z = (l6 + (1 : Int32)) := ⟨_, rfl⟩
        have hwp := hwp v3 e_v3
        refine kw_iinc (v := v3) (lv' := [(6, .int v3), (0, va_rf (some a0)), (1, .int l1), (2, .int l2), (4, .int l4), (5, .int l5)]) (pc := 194) X d_M_create_194 5 rfl (by rw [e_v3]; rfl) (by decide) rfl ?_
        refine kw_goto (tgt := 176) (pc := 197) X d_M_create_197 (by decide) ?_
        exact kW.sub [1, 2, 3, 4, 5, 0] rfl (hr_176 _ _ _ _ _ _ hwp)
set_option maxRecDepth 100000 in
set_option maxHeartbeats 4000000 in
theorem k_M_create_163 {p : Program} {l : Launch} {e : Env} {s : State} {m : MethodId} {args : Array Value} {below : List Frame} {meth : Method} {c : Code} {t : TY} {a0 : Nat} {K : GS → Prop} (X : kX p s m args meth c b_M_create 7 "TreeServerModel" t) (hret : meth.sig.returnType = none) (l1 : Int32) (l2 : Int32) (l4 : Int32) (l5 : Int32) (G : GS) (hwp : w_M_create_163 t a0 K l1 l2 l4 l5 G) : kW p l e rm_M_create s m args below meth c (MQ below (va_Qv (fun u : GS => K u) (fun u T => HB t u T.heap) (tA t)) args s 0 0 (tA t)) 7 t false 163 [(0, va_rf (some a0)), (1, .int l1), (2, .int l2), (4, .int l4), (5, .int l5)] [] G := by
  unfold w_M_create_163 at hwp
  refine kw_aload_n (pc := 163) X d_M_create_163 rfl 0 rfl ?_
  obtain ⟨f1, hwp⟩ := hwp
  refine kg_98 (a := a0) (pc := 164) X d_M_create_164 x_1018 rfl f1 ?_
  refine kw_lconst (v := 0) (pc := 167) X d_M_create_167 (by decide) ?_
  refine kw_lcmp_eq (tgt := 173) (pc := 168) X d_M_create_168 d_M_create_169 (by decide) (fun h => ?_) (fun h => ?_)
  · have hwp := ite_t h hwp
    refine kw_iconst (v := 1) (pc := 173) X d_M_create_173 (by decide) ?_
    refine kw_istore (i := 6) (lv' := [(6, .int (1 : Int32)), (0, va_rf (some a0)), (1, .int l1), (2, .int l2), (4, .int l4), (5, .int l5)]) (pc := 174) X d_M_create_174 (by decide) rfl ?_
    obtain ⟨n, hwp⟩ := hwp
    exact kW.sub [1, 2, 3, 4, 5, 0] rfl (k_M_create_176 X hret  n _ _ _ _ _ _ hwp)
  · have hwp := ite_f h hwp
    exact kr_v (pc := 172) X hret d_M_create_172 hwp
set_option maxRecDepth 100000 in
set_option maxHeartbeats 4000000 in
theorem k_M_create_113 {p : Program} {l : Launch} {e : Env} {s : State} {m : MethodId} {args : Array Value} {below : List Frame} {meth : Method} {c : Code} {t : TY} {a0 : Nat} {K : GS → Prop} (X : kX p s m args meth c b_M_create 7 "TreeServerModel" t) (hret : meth.sig.returnType = none) (l1 : Int32) (l2 : Int32) (l4 : Int32) (l5 : Int32) (G : GS) (hwp : w_M_create_113 t a0 K l1 l2 l4 l5 G) : kW p l e rm_M_create s m args below meth c (MQ below (va_Qv (fun u : GS => K u) (fun u T => HB t u T.heap) (tA t)) args s 0 0 (tA t)) 7 t false 113 [(0, va_rf (some a0)), (1, .int l1), (2, .int l2), (4, .int l4), (5, .int l5)] [] G := by
  unfold w_M_create_113 at hwp
  refine kw_aload_n (pc := 113) X d_M_create_113 rfl 0 rfl ?_
  refine kw_ldc2 (v := 1701080941) (pc := 114) X d_M_create_114 x_1276 ?_
  obtain ⟨f1, hwp⟩ := hwp
  refine kp_98 (a := a0) (x := (1701080941 : Int64)) (pc := 117) X rfl d_M_create_117 x_1018 rfl f1 ?_
  obtain ⟨G2, e_G2⟩ : ∃ g, g = sl G 98 a0 (1701080941 : Int64) := ⟨_, rfl⟩
  have hwp := hwp G2 e_G2
  refine kW.g e_G2.symm ?_
  refine kw_goto (tgt := 163) (pc := 120) X d_M_create_120 (by decide) ?_
  exact kW.sub [0, 1, 2, 3, 4] rfl (k_M_create_163 X hret  _ _ _ _ _ hwp)
set_option maxRecDepth 100000 in
set_option maxHeartbeats 4000000 in
theorem k_M_create_123 {p : Program} {l : Launch} {e : Env} {s : State} {m : MethodId} {args : Array Value} {below : List Frame} {meth : Method} {c : Code} {t : TY} {a0 : Nat} {K : GS → Prop} (X : kX p s m args meth c b_M_create 7 "TreeServerModel" t) (hret : meth.sig.returnType = none) (l1 : Int32) (l2 : Int32) (l4 : Int32) (l5 : Int32) (G : GS) (hwp : w_M_create_123 t a0 K l1 l2 l4 l5 G) : kW p l e rm_M_create s m args below meth c (MQ below (va_Qv (fun u : GS => K u) (fun u T => HB t u T.heap) (tA t)) args s 0 0 (tA t)) 7 t false 123 [(0, va_rf (some a0)), (1, .int l1), (2, .int l2), (4, .int l4), (5, .int l5)] [] G := by
  unfold w_M_create_123 at hwp
  refine kw_aload_n (pc := 123) X d_M_create_123 rfl 0 rfl ?_
  refine kw_iload_n (pc := 124) X d_M_create_124 rfl 2 rfl ?_
  refine kw_aload_n (pc := 125) X d_M_create_125 rfl 0 rfl ?_
  obtain ⟨f1, hwp⟩ := hwp
  refine kg_99 (a := a0) (pc := 126) X d_M_create_126 x_1019 rfl f1 ?_
  refine kw_iconst (v := 2) (pc := 129) X d_M_create_129 (by decide) ?_
  refine kcVp_i (n := 3) (As := [.int l2, .int (gi G 99 a0), .int (2 : Int32)]) (rest := []) (pc := 130) X (c_M_may l t G a0 l2 (gi G 99 a0) (2 : Int32) _) (cwV_of (C := "TreeServerModel") X x_1127 x_1124 x_1126 xp_45 x_13 (by decide +kernel) ⟨rfl, rfl⟩ (by decide)) (rv_10 X f1) rfl rfl (by decide) d_M_create_130 hwp (fun v2 hwp => ?_)
  obtain ⟨b_v2, hwp⟩ := hwp
  refine kw_if_ne (tgt := 146) (pc := 133) X d_M_create_133 (by decide) (fun h => ?_) (fun h => ?_)
  · have hwp := ite_t h hwp
    refine kw_aload_n (pc := 146) X d_M_create_146 rfl 0 rfl ?_
    refine kw_iload_n (pc := 147) X d_M_create_147 rfl 2 rfl ?_
    refine kw_bipush (v := 11) (pc := 148) X d_M_create_148 (by decide) ?_
    refine kcVp_i (n := 2) (As := [.int l2, .int (11 : Int32)]) (rest := []) (pc := 150) X (c_M_named l t G a0 l2 (11 : Int32) _) (cwV_of (C := "TreeServerModel") X x_1269 x_1266 x_1268 xp_73 x_13 (by decide +kernel) ⟨rfl, rfl⟩ (by decide)) (rv_10 X f1) rfl rfl (by decide) d_M_create_150 hwp (fun v3 hwp => ?_)
    refine kw_if_lt (tgt := 163) (pc := 153) X d_M_create_153 (by decide) (fun h => ?_) (fun h => ?_)
    · have hwp := ite_t h hwp
      exact kW.sub [0, 1, 2, 3, 4] rfl (k_M_create_163 X hret  _ _ _ _ _ hwp)
    · have hwp := ite_f h hwp
      refine kw_aload_n (pc := 156) X d_M_create_156 rfl 0 rfl ?_
      refine kw_ldc2 (v := 500152498277) (pc := 157) X d_M_create_157 x_1294 ?_
      refine kp_98 (a := a0) (x := (500152498277 : Int64)) (pc := 160) X rfl d_M_create_160 x_1018 rfl f1 ?_
      obtain ⟨G4, e_G4⟩ : ∃ g, g = sl G 98 a0 (500152498277 : Int64) := ⟨_, rfl⟩
      have hwp := hwp G4 e_G4
      refine kW.g e_G4.symm ?_
      exact kW.sub [0, 1, 2, 3, 4] rfl (k_M_create_163 X hret  _ _ _ _ _ hwp)
  · have hwp := ite_f (not_not_intro h) hwp
    refine kw_aload_n (pc := 136) X d_M_create_136 rfl 0 rfl ?_
    refine kw_ldc2 (v := 1836213616) (pc := 137) X d_M_create_137 x_1254 ?_
    refine kp_98 (a := a0) (x := (1836213616 : Int64)) (pc := 140) X rfl d_M_create_140 x_1018 rfl f1 ?_
    obtain ⟨G5, e_G5⟩ : ∃ g, g = sl G 98 a0 (1836213616 : Int64) := ⟨_, rfl⟩
    have hwp := hwp G5 e_G5
    refine kW.g e_G5.symm ?_
    refine kw_goto (tgt := 163) (pc := 143) X d_M_create_143 (by decide) ?_
    exact kW.sub [0, 1, 2, 3, 4] rfl (k_M_create_163 X hret  _ _ _ _ _ hwp)
set_option maxRecDepth 100000 in
set_option maxHeartbeats 4000000 in
theorem k_M_create {p : Program} {l : Launch} {e : Env} {s : State} {m : MethodId} {args : Array Value} {below : List Frame} {meth : Method} {c : Code} {t : TY} {a0 : Nat} {K : GS → Prop} (X : kX p s m args meth c b_M_create 7 "TreeServerModel" t) (hret : meth.sig.returnType = none) (G : GS) (p1 : Int32) (p2 : Int32) (hwp : w_M_create t G a0 p1 p2 K) : kW p l e rm_M_create s m args below meth c (MQ below (va_Qv (fun u : GS => K u) (fun u T => HB t u T.heap) (tA t)) args s 0 0 (tA t)) 7 t false 0 [(0, va_rf (some a0)), (1, .int p1), (2, .int p2)] [] G := by
  unfold w_M_create at hwp
  refine kw_aload_n (pc := 0) X d_M_create_0 rfl 0 rfl ?_
  refine kw_bipush (v := 11) (pc := 1) X d_M_create_1 (by decide) ?_
  refine kw_aload_n (pc := 3) X d_M_create_3 rfl 0 rfl ?_
  obtain ⟨f1, hwp⟩ := hwp
  refine kg_95 (a := a0) (pc := 4) X d_M_create_4 x_1015 rfl f1 ?_
  refine kcVp_i (n := 2) (As := [.int (11 : Int32), .int (gi G 95 a0)]) (rest := []) (pc := 7) X (c_M_behind l t G a0 (11 : Int32) (gi G 95 a0) _) (cwV_of (C := "TreeServerModel") X x_1171 x_1168 x_1170 xp_55 x_13 (by decide +kernel) ⟨rfl, rfl⟩ (by decide)) (rv_10 X f1) rfl rfl (by decide) d_M_create_7 hwp (fun v2 hwp => ?_)
  refine kw_istore_n (i := 3) (lv' := [(3, .int v2), (0, va_rf (some a0)), (1, .int p1), (2, .int p2)]) (pc := 10) X d_M_create_10 rfl (by decide) rfl ?_
  refine kw_aload_n (pc := 11) X d_M_create_11 rfl 1 rfl ?_
  refine kw_iload_n (pc := 12) X d_M_create_12 rfl 0 rfl ?_
  refine kw_iconst (v := 4) (pc := 13) X d_M_create_13 (by decide) ?_
  refine kcVp_l (n := 2) (As := [.int v2, .int (4 : Int32)]) (rest := []) (pc := 14) X (c_M_get l t G a0 v2 (4 : Int32) _) (cwV_of (C := "TreeServerModel") X x_1175 x_1172 x_1174 xp_56 x_13 (by decide +kernel) ⟨rfl, rfl⟩ (by decide)) (rv_10 X f1) rfl rfl (by decide) d_M_create_14 hwp (fun v3 hwp => ?_)
  refine kw_l2i (pc := 17) X d_M_create_17 ?_
  obtain ⟨v4, e_v4⟩ : ∃ z, z = v3.toInt32 := ⟨_, rfl⟩
  have hwp := hwp v4 e_v4
  refine kW.st (st' := .int v4 :: _) (by rw [e_v4]) ?_
  refine kw_istore (i := 4) (lv' := [(4, .int v4), (3, .int v2), (0, va_rf (some a0)), (1, .int p1), (2, .int p2)]) (pc := 18) X d_M_create_18 (by decide) rfl ?_
  refine kw_aload_n (pc := 20) X d_M_create_20 rfl 2 rfl ?_
  refine kg_94 (a := a0) (pc := 21) X d_M_create_21 x_1014 rfl f1 ?_
  refine kw_iload_n (pc := 24) X d_M_create_24 rfl 1 rfl ?_
  refine kw_iconst (v := 4) (pc := 25) X d_M_create_25 (by decide) ?_
  refine kw_iadd (pc := 26) X d_M_create_26 ?_
  obtain ⟨a5, h_a5, hwp⟩ := hwp
  obtain ⟨f6, hwp⟩ := hwp
  obtain ⟨f7, hwp⟩ := hwp
  refine ka_iald (a := a5) (pc := 27) X d_M_create_27 h_a5 f6 f7 ?_
  obtain ⟨v8, e_v8⟩ : ∃ z, z = (ai G a5 (v2 + (4 : Int32)).toNatClampNeg) := ⟨_, rfl⟩
  have hwp := hwp v8 e_v8
  refine kW.st (st' := .int v8 :: _) (by rw [e_v8]) ?_
  refine kw_istore (i := 5) (lv' := [(5, .int v8), (4, .int v4), (3, .int v2), (0, va_rf (some a0)), (1, .int p1), (2, .int p2)]) (pc := 28) X d_M_create_28 (by decide) rfl ?_
  refine kw_aload_n (pc := 30) X d_M_create_30 rfl 3 rfl ?_
  refine kg_90 (a := a0) (pc := 31) X d_M_create_31 x_1010 rfl f1 ?_
  refine kw_iload_n (pc := 34) X d_M_create_34 rfl 4 rfl ?_
  obtain ⟨a9, h_a9, hwp⟩ := hwp
  obtain ⟨f10, hwp⟩ := hwp
  obtain ⟨f11, hwp⟩ := hwp
  refine ka_iald (a := a9) (pc := 35) X d_M_create_35 h_a9 f10 f11 ?_
  refine kw_if_lt (tgt := 49) (pc := 36) X d_M_create_36 (by decide) (fun h => ?_) (fun h => ?_)
  · have hwp := ite_t h hwp
    refine kw_aload_n (pc := 49) X d_M_create_49 rfl 3 rfl ?_
    refine kw_iload_n (pc := 50) X d_M_create_50 rfl 5 rfl ?_
    refine kcVp_i (n := 1) (As := [.int p2]) (rest := []) (pc := 51) X (c_M_isDirectory l t G a0 p2 _) (cwV_of (C := "TreeServerModel") X x_1115 x_1112 x_1114 xp_42 x_13 (by decide +kernel) ⟨rfl, rfl⟩ (by decide)) (rv_10 X f1) rfl rfl (by decide) d_M_create_51 hwp (fun v12 hwp => ?_)
    obtain ⟨b_v12, hwp⟩ := hwp
    refine kw_if_ne (tgt := 67) (pc := 54) X d_M_create_54 (by decide) (fun h => ?_) (fun h => ?_)
    · have hwp := ite_t h hwp
      refine kw_aload_n (pc := 67) X d_M_create_67 rfl 3 rfl ?_
      refine kw_bipush (v := 11) (pc := 68) X d_M_create_68 (by decide) ?_
      refine kcVp_i (n := 1) (As := [.int (11 : Int32)]) (rest := []) (pc := 70) X (c_M_fits l t G a0 (11 : Int32) _) (cwV_of (C := "TreeServerModel") X x_1291 x_1288 x_1290 xp_77 x_13 (by decide +kernel) ⟨rfl, rfl⟩ (by decide)) (rv_10 X f1) rfl rfl (by decide) d_M_create_70 hwp (fun v13 hwp => ?_)
      obtain ⟨b_v13, hwp⟩ := hwp
      refine kw_if_ne (tgt := 86) (pc := 73) X d_M_create_73 (by decide) (fun h => ?_) (fun h => ?_)
      · have hwp := ite_t h hwp
        refine kw_iload (pc := 86) X d_M_create_86 1 rfl ?_
        refine kw_ldcw (v := 536870400) (pc := 88) X d_M_create_88 x_1293 ?_
        refine kw_iand (pc := 91) X d_M_create_91 ?_
        refine kw_if_ne (tgt := 113) (pc := 92) X d_M_create_92 (by decide) (fun h => ?_) (fun h => ?_)
        · have hwp := ite_t h hwp
          exact kW.sub [3, 4, 5, 1, 0] rfl (k_M_create_113 X hret  _ _ _ _ _ hwp)
        · have hwp := ite_f (not_not_intro h) hwp
          refine kw_iload (pc := 95) X d_M_create_95 0 rfl ?_
          refine kw_bipush (v := -84) (pc := 97) X d_M_create_97 (by decide) ?_
          refine kw_iand (pc := 99) X d_M_create_99 ?_
          refine kw_if_ne (tgt := 113) (pc := 100) X d_M_create_100 (by decide) (fun h => ?_) (fun h => ?_)
          · have hwp := ite_t h hwp
            exact kW.sub [3, 4, 5, 1, 0] rfl (k_M_create_113 X hret  _ _ _ _ _ hwp)
          · have hwp := ite_f (not_not_intro h) hwp
            refine kw_iload (pc := 103) X d_M_create_103 0 rfl ?_
            refine kw_if_eq (tgt := 123) (pc := 105) X d_M_create_105 (by decide) (fun h => ?_) (fun h => ?_)
            · have hwp := ite_t h hwp
              exact kW.sub [3, 4, 5, 1, 0] rfl (k_M_create_123 X hret  _ _ _ _ _ hwp)
            · have hwp := ite_f h hwp
              refine kw_iload (pc := 108) X d_M_create_108 1 rfl ?_
              refine kw_if_ge (tgt := 123) (pc := 110) X d_M_create_110 (by decide) (fun h => ?_) (fun h => ?_)
              · have hwp := ite_t h hwp
                exact kW.sub [3, 4, 5, 1, 0] rfl (k_M_create_123 X hret  _ _ _ _ _ hwp)
              · have hwp := ite_f h hwp
                exact kW.sub [3, 4, 5, 1, 0] rfl (k_M_create_113 X hret  _ _ _ _ _ hwp)
      · have hwp := ite_f (not_not_intro h) hwp
        refine kw_aload_n (pc := 76) X d_M_create_76 rfl 3 rfl ?_
        refine kw_ldc2 (v := 1701667182) (pc := 77) X d_M_create_77 x_1292 ?_
        refine kp_98 (a := a0) (x := (1701667182 : Int64)) (pc := 80) X rfl d_M_create_80 x_1018 rfl f1 ?_
        obtain ⟨G14, e_G14⟩ : ∃ g, g = sl G 98 a0 (1701667182 : Int64) := ⟨_, rfl⟩
        have hwp := hwp G14 e_G14
        refine kW.g e_G14.symm ?_
        refine kw_goto (tgt := 163) (pc := 83) X d_M_create_83 (by decide) ?_
        exact kW.sub [3, 4, 5, 1, 0] rfl (k_M_create_163 X hret  _ _ _ _ _ hwp)
    · have hwp := ite_f (not_not_intro h) hwp
      refine kw_aload_n (pc := 57) X d_M_create_57 rfl 3 rfl ?_
      refine kw_ldc2 (v := 7498084) (pc := 58) X d_M_create_58 x_1270 ?_
      refine kp_98 (a := a0) (x := (7498084 : Int64)) (pc := 61) X rfl d_M_create_61 x_1018 rfl f1 ?_
      obtain ⟨G15, e_G15⟩ : ∃ g, g = sl G 98 a0 (7498084 : Int64) := ⟨_, rfl⟩
      have hwp := hwp G15 e_G15
      refine kW.g e_G15.symm ?_
      refine kw_goto (tgt := 163) (pc := 64) X d_M_create_64 (by decide) ?_
      exact kW.sub [3, 4, 5, 1, 0] rfl (k_M_create_163 X hret  _ _ _ _ _ hwp)
  · have hwp := ite_f h hwp
    refine kw_aload_n (pc := 39) X d_M_create_39 rfl 3 rfl ?_
    refine kw_ldc2 (v := 1852141679) (pc := 40) X d_M_create_40 x_1260 ?_
    refine kp_98 (a := a0) (x := (1852141679 : Int64)) (pc := 43) X rfl d_M_create_43 x_1018 rfl f1 ?_
    obtain ⟨G16, e_G16⟩ : ∃ g, g = sl G 98 a0 (1852141679 : Int64) := ⟨_, rfl⟩
    have hwp := hwp G16 e_G16
    refine kW.g e_G16.symm ?_
    refine kw_goto (tgt := 163) (pc := 46) X d_M_create_46 (by decide) ?_
    exact kW.sub [3, 4, 5, 1, 0] rfl (k_M_create_163 X hret  _ _ _ _ _ hwp)
set_option maxRecDepth 100000 in
set_option maxHeartbeats 4000000 in
theorem c_M_create (l : Launch) (t : TY) (G : GS) (a0 : Nat) (p1 : Int32) (p2 : Int32) (K : GS → Prop) : Met l y_M_create (Cond.code y_M_create b_M_create 7 (Option.none : Option Jvm.ClassFile.FieldType) :: GW) rm_M_create (va_Pc [.ref a0, .int p1, .int p2] (fun U => HB t G U.heap ∧ HK t U ∧ w_M_create t G a0 p1 p2 K)) (va_Qv (fun u : GS => K u) (fun u T => HB t u T.heap) (tA t)) 0 0 (tA t) := by
  refine Met.ofW (cc := b_M_create) (maxL := 7) (ret := none) (by decide) rfl ?_
  intro p e s m args below meth c s₁ B hml hv
  obtain ⟨rfl, hB, hK, hwp⟩ := hv
  have hts := atoms_spec (ws := Cond.code y_M_create b_M_create 7 (Option.none : Option Jvm.ClassFile.FieldType) :: GW) B.pre
  have X : kX p s m _ meth c b_M_create 7 "TreeServerModel" t := ⟨B.exec, B.bytes, hml, findClass_of_methodNamed B.named, fun w h => hts w (List.mem_cons_of_mem _ h), B.notSynchronized, hK⟩
  have hZ : kZ t false s G s.heap [] := ⟨hB, va_S.rf, fun _ => ⟨rfl, rfl⟩⟩
  rw [lg_entry_eq]
  have hl := lv_entry ([.ref a0, .int p1, .int p2]) (n := 7) (by simp [lg_sl, rf_cat, cat_i, cat_l, cat_r])
  exact k_M_create X B.returns _ _ _ hwp s.heap [] _ hl hZ
abbrev b_M_list : ByteArray := prog_13_method_55_code
def y_M_list : MethodName := ⟨"TreeServerModel", "list", "(IIJI)V"⟩
theorem d_M_list_0 : decode b_M_list 0 = .ok (.lload_n 3, 1) := by decide +kernel
theorem d_M_list_1 : decode b_M_list 1 = .ok (.lconst 0, 1) := by decide +kernel
theorem d_M_list_2 : decode b_M_list 2 = .ok (.lcmp, 1) := by decide +kernel
theorem d_M_list_3 : decode b_M_list 3 = .ok (.ifCond .ne 10, 3) := by decide +kernel
theorem d_M_list_6 : decode b_M_list 6 = .ok (.aload_n 0, 1) := by decide +kernel
theorem d_M_list_7 : decode b_M_list 7 = .ok (.getfield 67, 3) := by decide +kernel
theorem d_M_list_10 : decode b_M_list 10 = .ok (.iload_n 1, 1) := by decide +kernel
theorem d_M_list_11 : decode b_M_list 11 = .ok (.iconst 0, 1) := by decide +kernel
theorem d_M_list_12 : decode b_M_list 12 = .ok (.iastore, 1) := by decide +kernel
theorem d_M_list_13 : decode b_M_list 13 = .ok (.aload_n 0, 1) := by decide +kernel
theorem d_M_list_14 : decode b_M_list 14 = .ok (.iload_n 2, 1) := by decide +kernel
theorem d_M_list_15 : decode b_M_list 15 = .ok (.aload_n 0, 1) := by decide +kernel
theorem d_M_list_16 : decode b_M_list 16 = .ok (.getfield 67, 3) := by decide +kernel
theorem d_M_list_19 : decode b_M_list 19 = .ok (.iload_n 1, 1) := by decide +kernel
theorem d_M_list_20 : decode b_M_list 20 = .ok (.iaload, 1) := by decide +kernel
theorem d_M_list_21 : decode b_M_list 21 = .ok (.invokevirtual 357, 3) := by decide +kernel
theorem d_M_list_24 : decode b_M_list 24 = .ok (.istore 6, 2) := by decide +kernel
theorem d_M_list_26 : decode b_M_list 26 = .ok (.iload 6, 2) := by decide +kernel
theorem d_M_list_28 : decode b_M_list 28 = .ok (.ifCond .lt 57, 3) := by decide +kernel
theorem d_M_list_31 : decode b_M_list 31 = .ok (.aload_n 0, 1) := by decide +kernel
theorem d_M_list_32 : decode b_M_list 32 = .ok (.getfield 128, 3) := by decide +kernel
theorem d_M_list_35 : decode b_M_list 35 = .ok (.bipush 11, 2) := by decide +kernel
theorem d_M_list_37 : decode b_M_list 37 = .ok (.isub, 1) := by decide +kernel
theorem d_M_list_38 : decode b_M_list 38 = .ok (.aload_n 0, 1) := by decide +kernel
theorem d_M_list_39 : decode b_M_list 39 = .ok (.iload 6, 2) := by decide +kernel
theorem d_M_list_41 : decode b_M_list 41 = .ok (.invokevirtual 153, 3) := by decide +kernel
theorem d_M_list_44 : decode b_M_list 44 = .ok (.iadd, 1) := by decide +kernel
theorem d_M_list_45 : decode b_M_list 45 = .ok (.iload 5, 2) := by decide +kernel
theorem d_M_list_47 : decode b_M_list 47 = .ok (.if_icmp .gt 38, 3) := by decide +kernel
theorem d_M_list_50 : decode b_M_list 50 = .ok (.aload_n 0, 1) := by decide +kernel
theorem d_M_list_51 : decode b_M_list 51 = .ok (.iload 6, 2) := by decide +kernel
theorem d_M_list_53 : decode b_M_list 53 = .ok (.invokevirtual 300, 3) := by decide +kernel
theorem d_M_list_56 : decode b_M_list 56 = .ok (.aload_n 0, 1) := by decide +kernel
theorem d_M_list_57 : decode b_M_list 57 = .ok (.getfield 67, 3) := by decide +kernel
theorem d_M_list_60 : decode b_M_list 60 = .ok (.iload_n 1, 1) := by decide +kernel
theorem d_M_list_61 : decode b_M_list 61 = .ok (.aload_n 0, 1) := by decide +kernel
theorem d_M_list_62 : decode b_M_list 62 = .ok (.iload 6, 2) := by decide +kernel
theorem d_M_list_64 : decode b_M_list 64 = .ok (.iconst 1, 1) := by decide +kernel
theorem d_M_list_65 : decode b_M_list 65 = .ok (.invokevirtual 81, 3) := by decide +kernel
theorem d_M_list_68 : decode b_M_list 68 = .ok (.iastore, 1) := by decide +kernel
theorem d_M_list_69 : decode b_M_list 69 = .ok (.aload_n 0, 1) := by decide +kernel
theorem d_M_list_70 : decode b_M_list 70 = .ok (.iload_n 2, 1) := by decide +kernel
theorem d_M_list_71 : decode b_M_list 71 = .ok (.aload_n 0, 1) := by decide +kernel
theorem d_M_list_72 : decode b_M_list 72 = .ok (.getfield 67, 3) := by decide +kernel
theorem d_M_list_75 : decode b_M_list 75 = .ok (.iload_n 1, 1) := by decide +kernel
theorem d_M_list_76 : decode b_M_list 76 = .ok (.iaload, 1) := by decide +kernel
theorem d_M_list_77 : decode b_M_list 77 = .ok (.invokevirtual 357, 3) := by decide +kernel
theorem d_M_list_80 : decode b_M_list 80 = .ok (.istore 6, 2) := by decide +kernel
theorem d_M_list_82 : decode b_M_list 82 = .ok (.goto (-56), 3) := by decide +kernel
theorem d_M_list_85 : decode b_M_list 85 = .ok (.aload_n 0, 1) := by decide +kernel
theorem d_M_list_86 : decode b_M_list 86 = .ok (.getfield 64, 3) := by decide +kernel
theorem d_M_list_89 : decode b_M_list 89 = .ok (.iload_n 1, 1) := by decide +kernel
theorem d_M_list_90 : decode b_M_list 90 = .ok (.lload_n 3, 1) := by decide +kernel
theorem d_M_list_91 : decode b_M_list 91 = .ok (.aload_n 0, 1) := by decide +kernel
theorem d_M_list_92 : decode b_M_list 92 = .ok (.getfield 128, 3) := by decide +kernel
theorem d_M_list_95 : decode b_M_list 95 = .ok (.i2l, 1) := by decide +kernel
theorem d_M_list_96 : decode b_M_list 96 = .ok (.ladd, 1) := by decide +kernel
theorem d_M_list_97 : decode b_M_list 97 = .ok (.ldc2_w 360, 3) := by decide +kernel
theorem d_M_list_100 : decode b_M_list 100 = .ok (.lsub, 1) := by decide +kernel
theorem d_M_list_101 : decode b_M_list 101 = .ok (.lastore, 1) := by decide +kernel
theorem d_M_list_102 : decode b_M_list 102 = .ok (.return_, 1) := by decide +kernel
abbrev rm_M_list : Room := { frames := 3, cells := 0, slots := 0, locals := 69 }
set_option maxRecDepth 100000 in
set_option maxHeartbeats 4000000 in
theorem k_M_list_85 {p : Program} {l : Launch} {e : Env} {s : State} {m : MethodId} {args : Array Value} {below : List Frame} {meth : Method} {c : Code} {t : TY} {a0 : Nat} {K : GS → Prop} (X : kX p s m args meth c b_M_list 7 "TreeServerModel" t) (hret : meth.sig.returnType = none) (l1 : Int32) (l3 : Int64) (G : GS) (hwp : w_M_list_85 t a0 K l1 l3 G) : kW p l e rm_M_list s m args below meth c (MQ below (va_Qv (fun u : GS => K u) (fun u T => HB t u T.heap) (tA t)) args s 0 0 (tA t)) 7 t false 85 [(0, va_rf (some a0)), (1, .int l1), (3, .long l3)] [] G := by
  unfold w_M_list_85 at hwp
  refine kw_aload_n (pc := 85) X d_M_list_85 rfl 0 rfl ?_
  obtain ⟨f1, hwp⟩ := hwp
  refine kg_92 (a := a0) (pc := 86) X d_M_list_86 x_1012 rfl f1 ?_
  refine kw_iload_n (pc := 89) X d_M_list_89 rfl 1 rfl ?_
  refine kw_lload_n (pc := 90) X d_M_list_90 rfl 2 rfl ?_
  refine kw_aload_n (pc := 91) X d_M_list_91 rfl 0 rfl ?_
  refine kg_97 (a := a0) (pc := 92) X d_M_list_92 x_1017 rfl f1 ?_
  refine kw_i2l (pc := 95) X d_M_list_95 ?_
  refine kw_ladd (pc := 96) X d_M_list_96 ?_
  refine kw_ldc2 (v := 11) (pc := 97) X d_M_list_97 x_1332 ?_
  refine kw_lsub (pc := 100) X d_M_list_100 ?_
  obtain ⟨a2, h_a2, hwp⟩ := hwp
  obtain ⟨f3, hwp⟩ := hwp
  obtain ⟨f4, hwp⟩ := hwp
  refine ka_last (a := a2) (pc := 101) X rfl d_M_list_101 h_a2 f3 f4 ?_
  obtain ⟨G5, e_G5⟩ : ∃ g, g = als G a2 l1.toNatClampNeg ((l3 + (gi G 97 a0).toInt64) - (11 : Int64)) := ⟨_, rfl⟩
  have hwp := hwp G5 e_G5
  refine kW.g e_G5.symm ?_
  exact kr_v (pc := 102) X hret d_M_list_102 hwp
set_option maxRecDepth 100000 in
set_option maxHeartbeats 4000000 in
theorem k_M_list_26 {p : Program} {l : Launch} {e : Env} {s : State} {m : MethodId} {args : Array Value} {below : List Frame} {meth : Method} {c : Code} {t : TY} {a0 : Nat} {K : GS → Prop} (X : kX p s m args meth c b_M_list 7 "TreeServerModel" t) (hret : meth.sig.returnType = none) : ∀ (n : Nat) (l1 : Int32) (l2 : Int32) (l3 : Int64) (l5 : Int32) (l6 : Int32) (G : GS), w_M_list_26 t a0 K n l1 l2 l3 l5 l6 G → kW p l e rm_M_list s m args below meth c (MQ below (va_Qv (fun u : GS => K u) (fun u T => HB t u T.heap) (tA t)) args s 0 0 (tA t)) 7 t false 26 [(0, va_rf (some a0)), (1, .int l1), (2, .int l2), (3, .long l3), (5, .int l5), (6, .int l6)] [] G := by
  intro n
  induction n with
  | zero => intro l1 l2 l3 l5 l6 G hwp; exact hwp.elim
  | succ n hr_26 =>
    intro l1 l2 l3 l5 l6 G hwp
    unfold w_M_list_26 at hwp
    dsimp only at hwp
    refine kw_iload (pc := 26) X d_M_list_26 5 rfl ?_
    refine kw_if_lt (tgt := 85) (pc := 28) X d_M_list_28 (by decide) (fun h => ?_) (fun h => ?_)
    · have hwp := ite_t h hwp
      exact kW.sub [0, 1, 3] rfl (k_M_list_85 X hret  _ _ _ hwp)
    · have hwp := ite_f h hwp
      refine kw_aload_n (pc := 31) X d_M_list_31 rfl 0 rfl ?_
      obtain ⟨f1, hwp⟩ := hwp
      refine kg_97 (a := a0) (pc := 32) X d_M_list_32 x_1017 rfl f1 ?_
      refine kw_bipush (v := 11) (pc := 35) X d_M_list_35 (by decide) ?_
      refine kw_isub (pc := 37) X d_M_list_37 ?_
      refine kw_aload_n (pc := 38) X d_M_list_38 rfl 0 rfl ?_
      refine kw_iload (pc := 39) X d_M_list_39 5 rfl ?_
      refine kcVp_i (n := 1) (As := [.int l6]) (rest := [.int ((gi G 97 a0) - (11 : Int32))]) (pc := 41) X (c_M_statSize l t G a0 l6 _) (cwV_of (C := "TreeServerModel") X x_1324 x_1321 x_1323 xp_84 x_13 (by decide +kernel) ⟨rfl, rfl⟩ (by decide)) (rv_10 X f1) rfl rfl (by simp [rf_cat, cat_i, cat_l, cat_r]) d_M_list_41 hwp (fun v2 hwp => ?_)
      refine kw_iadd (pc := 44) X d_M_list_44 ?_
      refine kw_iload (pc := 45) X d_M_list_45 4 rfl ?_
      refine kw_icmp_gt (tgt := 85) (pc := 47) X d_M_list_47 (by decide) (fun h => ?_) (fun h => ?_)
      · have hwp := ite_t h hwp
        exact kW.sub [0, 1, 3] rfl (k_M_list_85 X hret  _ _ _ hwp)
      · have hwp := ite_f h hwp
        refine kw_aload_n (pc := 50) X d_M_list_50 rfl 0 rfl ?_
        refine kw_iload (pc := 51) X d_M_list_51 5 rfl ?_
        refine kcV_v (n := 1) (As := [.int l6]) (rest := []) (pc := 53) X rfl (c_M_stat l t G a0 l6 _) (cwV_of (C := "TreeServerModel") X x_1331 x_1328 x_1330 xp_85 x_13 (by decide +kernel) ⟨rfl, rfl⟩ (by decide)) (rv_10 X f1) rfl rfl (by decide) d_M_list_53 hwp (fun G3 hwp => ?_)
        refine kw_aload_n (pc := 56) X d_M_list_56 rfl 0 rfl ?_
        refine kg_93 (a := a0) (pc := 57) X d_M_list_57 x_1013 rfl f1 ?_
        refine kw_iload_n (pc := 60) X d_M_list_60 rfl 1 rfl ?_
        refine kw_aload_n (pc := 61) X d_M_list_61 rfl 0 rfl ?_
        refine kw_iload (pc := 62) X d_M_list_62 5 rfl ?_
        refine kw_iconst (v := 1) (pc := 64) X d_M_list_64 (by decide) ?_
        refine kcVp_i (n := 2) (As := [.int l6, .int (1 : Int32)]) (rest := [.int l1, va_rf (gr G3 93 a0)]) (pc := 65) X (c_M_at l t G3 a0 l6 (1 : Int32) _) (cwV_of (C := "TreeServerModel") X x_1111 x_1108 x_1110 xp_41 x_13 (by decide +kernel) ⟨rfl, rfl⟩ (by decide)) (rv_10 X f1) rfl rfl (by simp [rf_cat, cat_i, cat_l, cat_r]) d_M_list_65 hwp (fun v4 hwp => ?_)
        obtain ⟨a5, h_a5, hwp⟩ := hwp
        obtain ⟨f6, hwp⟩ := hwp
        obtain ⟨f7, hwp⟩ := hwp
        refine ka_iast (a := a5) (pc := 68) X rfl d_M_list_68 h_a5 f6 f7 ?_
        obtain ⟨G8, e_G8⟩ : ∃ g, g = ais G3 a5 l1.toNatClampNeg v4 := ⟨_, rfl⟩
        have hwp := hwp G8 e_G8
        refine kW.g e_G8.symm ?_
        refine kw_aload_n (pc := 69) X d_M_list_69 rfl 0 rfl ?_
        refine kw_iload_n (pc := 70) X d_M_list_70 rfl 2 rfl ?_
        refine kw_aload_n (pc := 71) X d_M_list_71 rfl 0 rfl ?_
        refine kg_93 (a := a0) (pc := 72) X d_M_list_72 x_1013 rfl f1 ?_
        refine kw_iload_n (pc := 75) X d_M_list_75 rfl 1 rfl ?_
        obtain ⟨a9, h_a9, hwp⟩ := hwp
        obtain ⟨f10, hwp⟩ := hwp
        obtain ⟨f11, hwp⟩ := hwp
        refine ka_iald (a := a9) (pc := 76) X d_M_list_76 h_a9 f10 f11 ?_
        refine kcVp_i (n := 2) (As := [.int l2, .int (ai G8 a9 l1.toNatClampNeg)]) (rest := []) (pc := 77) X (c_M_entry l t G8 a0 l2 (ai G8 a9 l1.toNatClampNeg) _) (cwV_of (C := "TreeServerModel") X x_1320 x_1317 x_1319 xp_83 x_13 (by decide +kernel) ⟨rfl, rfl⟩ (by decide)) (rv_10 X f1) rfl rfl (by decide) d_M_list_77 hwp (fun v12 hwp => ?_)
        refine kw_istore (i := 6) (lv' := [(6, .int v12), (0, va_rf (some a0)), (1, .int l1), (2, .int l2), (3, .long l3), (5, .int l5)]) (pc := 80) X d_M_list_80 (by decide) rfl ?_
        refine kw_goto (tgt := 26) (pc := 82) X d_M_list_82 (by decide) ?_
        exact kW.sub [1, 2, 3, 4, 5, 0] rfl (hr_26 _ _ _ _ _ _ hwp)
set_option maxRecDepth 100000 in
set_option maxHeartbeats 4000000 in
theorem k_M_list_13 {p : Program} {l : Launch} {e : Env} {s : State} {m : MethodId} {args : Array Value} {below : List Frame} {meth : Method} {c : Code} {t : TY} {a0 : Nat} {K : GS → Prop} (X : kX p s m args meth c b_M_list 7 "TreeServerModel" t) (hret : meth.sig.returnType = none) (l1 : Int32) (l2 : Int32) (l3 : Int64) (l5 : Int32) (G : GS) (hwp : w_M_list_13 t a0 K l1 l2 l3 l5 G) : kW p l e rm_M_list s m args below meth c (MQ below (va_Qv (fun u : GS => K u) (fun u T => HB t u T.heap) (tA t)) args s 0 0 (tA t)) 7 t false 13 [(0, va_rf (some a0)), (1, .int l1), (2, .int l2), (3, .long l3), (5, .int l5)] [] G := by
  unfold w_M_list_13 at hwp
  refine kw_aload_n (pc := 13) X d_M_list_13 rfl 0 rfl ?_
  refine kw_iload_n (pc := 14) X d_M_list_14 rfl 2 rfl ?_
  refine kw_aload_n (pc := 15) X d_M_list_15 rfl 0 rfl ?_
  obtain ⟨f1, hwp⟩ := hwp
  refine kg_93 (a := a0) (pc := 16) X d_M_list_16 x_1013 rfl f1 ?_
  refine kw_iload_n (pc := 19) X d_M_list_19 rfl 1 rfl ?_
  obtain ⟨a2, h_a2, hwp⟩ := hwp
  obtain ⟨f3, hwp⟩ := hwp
  obtain ⟨f4, hwp⟩ := hwp
  refine ka_iald (a := a2) (pc := 20) X d_M_list_20 h_a2 f3 f4 ?_
  refine kcVp_i (n := 2) (As := [.int l2, .int (ai G a2 l1.toNatClampNeg)]) (rest := []) (pc := 21) X (c_M_entry l t G a0 l2 (ai G a2 l1.toNatClampNeg) _) (cwV_of (C := "TreeServerModel") X x_1320 x_1317 x_1319 xp_83 x_13 (by decide +kernel) ⟨rfl, rfl⟩ (by decide)) (rv_10 X f1) rfl rfl (by decide) d_M_list_21 hwp (fun v5 hwp => ?_)
  refine kw_istore (i := 6) (lv' := [(6, .int v5), (0, va_rf (some a0)), (1, .int l1), (2, .int l2), (3, .long l3), (5, .int l5)]) (pc := 24) X d_M_list_24 (by decide) rfl ?_
  obtain ⟨n, hwp⟩ := hwp
  exact kW.sub [1, 2, 3, 4, 5, 0] rfl (k_M_list_26 X hret  n _ _ _ _ _ _ hwp)
set_option maxRecDepth 100000 in
set_option maxHeartbeats 4000000 in
theorem k_M_list {p : Program} {l : Launch} {e : Env} {s : State} {m : MethodId} {args : Array Value} {below : List Frame} {meth : Method} {c : Code} {t : TY} {a0 : Nat} {K : GS → Prop} (X : kX p s m args meth c b_M_list 7 "TreeServerModel" t) (hret : meth.sig.returnType = none) (G : GS) (p1 : Int32) (p2 : Int32) (p3 : Int64) (p5 : Int32) (hwp : w_M_list t G a0 p1 p2 p3 p5 K) : kW p l e rm_M_list s m args below meth c (MQ below (va_Qv (fun u : GS => K u) (fun u T => HB t u T.heap) (tA t)) args s 0 0 (tA t)) 7 t false 0 [(0, va_rf (some a0)), (1, .int p1), (2, .int p2), (3, .long p3), (5, .int p5)] [] G := by
  unfold w_M_list at hwp
  refine kw_lload_n (pc := 0) X d_M_list_0 rfl 3 rfl ?_
  refine kw_lconst (v := 0) (pc := 1) X d_M_list_1 (by decide) ?_
  refine kw_lcmp_ne (tgt := 13) (pc := 2) X d_M_list_2 d_M_list_3 (by decide) (fun h => ?_) (fun h => ?_)
  · have hwp := ite_t h hwp
    exact kW.sub [0, 1, 2, 3, 4] rfl (k_M_list_13 X hret  _ _ _ _ _ hwp)
  · have hwp := ite_f (not_not_intro h) hwp
    refine kw_aload_n (pc := 6) X d_M_list_6 rfl 0 rfl ?_
    obtain ⟨f1, hwp⟩ := hwp
    refine kg_93 (a := a0) (pc := 7) X d_M_list_7 x_1013 rfl f1 ?_
    refine kw_iload_n (pc := 10) X d_M_list_10 rfl 1 rfl ?_
    refine kw_iconst (v := 0) (pc := 11) X d_M_list_11 (by decide) ?_
    obtain ⟨a2, h_a2, hwp⟩ := hwp
    obtain ⟨f3, hwp⟩ := hwp
    obtain ⟨f4, hwp⟩ := hwp
    refine ka_iast (a := a2) (pc := 12) X rfl d_M_list_12 h_a2 f3 f4 ?_
    obtain ⟨G5, e_G5⟩ : ∃ g, g = ais G a2 p1.toNatClampNeg (0 : Int32) := ⟨_, rfl⟩
    have hwp := hwp G5 e_G5
    refine kW.g e_G5.symm ?_
    exact kW.sub [0, 1, 2, 3, 4] rfl (k_M_list_13 X hret  _ _ _ _ _ hwp)
set_option maxRecDepth 100000 in
set_option maxHeartbeats 4000000 in
theorem c_M_list (l : Launch) (t : TY) (G : GS) (a0 : Nat) (p1 : Int32) (p2 : Int32) (p3 : Int64) (p5 : Int32) (K : GS → Prop) : Met l y_M_list (Cond.code y_M_list b_M_list 7 (Option.none : Option Jvm.ClassFile.FieldType) :: GW) rm_M_list (va_Pc [.ref a0, .int p1, .int p2, .long p3, .int p5] (fun U => HB t G U.heap ∧ HK t U ∧ w_M_list t G a0 p1 p2 p3 p5 K)) (va_Qv (fun u : GS => K u) (fun u T => HB t u T.heap) (tA t)) 0 0 (tA t) := by
  refine Met.ofW (cc := b_M_list) (maxL := 7) (ret := none) (by decide) rfl ?_
  intro p e s m args below meth c s₁ B hml hv
  obtain ⟨rfl, hB, hK, hwp⟩ := hv
  have hts := atoms_spec (ws := Cond.code y_M_list b_M_list 7 (Option.none : Option Jvm.ClassFile.FieldType) :: GW) B.pre
  have X : kX p s m _ meth c b_M_list 7 "TreeServerModel" t := ⟨B.exec, B.bytes, hml, findClass_of_methodNamed B.named, fun w h => hts w (List.mem_cons_of_mem _ h), B.notSynchronized, hK⟩
  have hZ : kZ t false s G s.heap [] := ⟨hB, va_S.rf, fun _ => ⟨rfl, rfl⟩⟩
  rw [lg_entry_eq]
  have hl := lv_entry ([.ref a0, .int p1, .int p2, .long p3, .int p5]) (n := 7) (by simp [lg_sl, rf_cat, cat_i, cat_l, cat_r])
  exact k_M_list X B.returns _ _ _ _ _ hwp s.heap [] _ hl hZ
abbrev b_M_read : ByteArray := prog_13_method_54_code
def y_M_read : MethodName := ⟨"TreeServerModel", "read", "(III)V"⟩
theorem d_M_read_0 : decode b_M_read 0 = .ok (.aload_n 0, 1) := by decide +kernel
theorem d_M_read_1 : decode b_M_read 1 = .ok (.bipush 11, 2) := by decide +kernel
theorem d_M_read_3 : decode b_M_read 3 = .ok (.bipush 8, 2) := by decide +kernel
theorem d_M_read_5 : decode b_M_read 5 = .ok (.invokevirtual 85, 3) := by decide +kernel
theorem d_M_read_8 : decode b_M_read 8 = .ok (.lstore 4, 2) := by decide +kernel
theorem d_M_read_10 : decode b_M_read 10 = .ok (.aload_n 0, 1) := by decide +kernel
theorem d_M_read_11 : decode b_M_read 11 = .ok (.bipush 19, 2) := by decide +kernel
theorem d_M_read_13 : decode b_M_read 13 = .ok (.iconst 4, 1) := by decide +kernel
theorem d_M_read_14 : decode b_M_read 14 = .ok (.invokevirtual 85, 3) := by decide +kernel
theorem d_M_read_17 : decode b_M_read 17 = .ok (.lstore 6, 2) := by decide +kernel
theorem d_M_read_19 : decode b_M_read 19 = .ok (.lload 6, 2) := by decide +kernel
theorem d_M_read_21 : decode b_M_read 21 = .ok (.aload_n 0, 1) := by decide +kernel
theorem d_M_read_22 : decode b_M_read 22 = .ok (.getfield 35, 3) := by decide +kernel
theorem d_M_read_25 : decode b_M_read 25 = .ok (.iload_n 1, 1) := by decide +kernel
theorem d_M_read_26 : decode b_M_read 26 = .ok (.iaload, 1) := by decide +kernel
theorem d_M_read_27 : decode b_M_read 27 = .ok (.bipush 11, 2) := by decide +kernel
theorem d_M_read_29 : decode b_M_read 29 = .ok (.isub, 1) := by decide +kernel
theorem d_M_read_30 : decode b_M_read 30 = .ok (.i2l, 1) := by decide +kernel
theorem d_M_read_31 : decode b_M_read 31 = .ok (.lcmp, 1) := by decide +kernel
theorem d_M_read_32 : decode b_M_read 32 = .ok (.ifCond .ge 9, 3) := by decide +kernel
theorem d_M_read_35 : decode b_M_read 35 = .ok (.lload 6, 2) := by decide +kernel
theorem d_M_read_37 : decode b_M_read 37 = .ok (.l2i, 1) := by decide +kernel
theorem d_M_read_38 : decode b_M_read 38 = .ok (.goto 12, 3) := by decide +kernel
theorem d_M_read_41 : decode b_M_read 41 = .ok (.aload_n 0, 1) := by decide +kernel
theorem d_M_read_42 : decode b_M_read 42 = .ok (.getfield 35, 3) := by decide +kernel
theorem d_M_read_45 : decode b_M_read 45 = .ok (.iload_n 1, 1) := by decide +kernel
theorem d_M_read_46 : decode b_M_read 46 = .ok (.iaload, 1) := by decide +kernel
theorem d_M_read_47 : decode b_M_read 47 = .ok (.bipush 11, 2) := by decide +kernel
theorem d_M_read_49 : decode b_M_read 49 = .ok (.isub, 1) := by decide +kernel
theorem d_M_read_50 : decode b_M_read 50 = .ok (.istore 8, 2) := by decide +kernel
theorem d_M_read_52 : decode b_M_read 52 = .ok (.aload_n 0, 1) := by decide +kernel
theorem d_M_read_53 : decode b_M_read 53 = .ok (.getfield 58, 3) := by decide +kernel
theorem d_M_read_56 : decode b_M_read 56 = .ok (.iload_n 2, 1) := by decide +kernel
theorem d_M_read_57 : decode b_M_read 57 = .ok (.iaload, 1) := by decide +kernel
theorem d_M_read_58 : decode b_M_read 58 = .ok (.ifCond .eq 31, 3) := by decide +kernel
theorem d_M_read_61 : decode b_M_read 61 = .ok (.aload_n 0, 1) := by decide +kernel
theorem d_M_read_62 : decode b_M_read 62 = .ok (.getfield 58, 3) := by decide +kernel
theorem d_M_read_65 : decode b_M_read 65 = .ok (.iload_n 2, 1) := by decide +kernel
theorem d_M_read_66 : decode b_M_read 66 = .ok (.iaload, 1) := by decide +kernel
theorem d_M_read_67 : decode b_M_read 67 = .ok (.iconst 2, 1) := by decide +kernel
theorem d_M_read_68 : decode b_M_read 68 = .ok (.if_icmp .eq 21, 3) := by decide +kernel
theorem d_M_read_71 : decode b_M_read 71 = .ok (.aload_n 0, 1) := by decide +kernel
theorem d_M_read_72 : decode b_M_read 72 = .ok (.getfield 58, 3) := by decide +kernel
theorem d_M_read_75 : decode b_M_read 75 = .ok (.iload_n 2, 1) := by decide +kernel
theorem d_M_read_76 : decode b_M_read 76 = .ok (.iaload, 1) := by decide +kernel
theorem d_M_read_77 : decode b_M_read 77 = .ok (.iconst 3, 1) := by decide +kernel
theorem d_M_read_78 : decode b_M_read 78 = .ok (.if_icmp .eq 11, 3) := by decide +kernel
theorem d_M_read_81 : decode b_M_read 81 = .ok (.aload_n 0, 1) := by decide +kernel
theorem d_M_read_82 : decode b_M_read 82 = .ok (.ldc2_w 307, 3) := by decide +kernel
theorem d_M_read_85 : decode b_M_read 85 = .ok (.putfield 193, 3) := by decide +kernel
theorem d_M_read_88 : decode b_M_read 88 = .ok (.return_, 1) := by decide +kernel
theorem d_M_read_89 : decode b_M_read 89 = .ok (.aload_n 0, 1) := by decide +kernel
theorem d_M_read_90 : decode b_M_read 90 = .ok (.lconst 0, 1) := by decide +kernel
theorem d_M_read_91 : decode b_M_read 91 = .ok (.iconst 4, 1) := by decide +kernel
theorem d_M_read_92 : decode b_M_read 92 = .ok (.invokevirtual 137, 3) := by decide +kernel
theorem d_M_read_95 : decode b_M_read 95 = .ok (.aload_n 0, 1) := by decide +kernel
theorem d_M_read_96 : decode b_M_read 96 = .ok (.iload_n 3, 1) := by decide +kernel
theorem d_M_read_97 : decode b_M_read 97 = .ok (.invokevirtual 97, 3) := by decide +kernel
theorem d_M_read_100 : decode b_M_read 100 = .ok (.ifCond .eq 45, 3) := by decide +kernel
theorem d_M_read_103 : decode b_M_read 103 = .ok (.lload 4, 2) := by decide +kernel
theorem d_M_read_105 : decode b_M_read 105 = .ok (.lconst 0, 1) := by decide +kernel
theorem d_M_read_106 : decode b_M_read 106 = .ok (.lcmp, 1) := by decide +kernel
theorem d_M_read_107 : decode b_M_read 107 = .ok (.ifCond .eq 25, 3) := by decide +kernel
theorem d_M_read_110 : decode b_M_read 110 = .ok (.lload 4, 2) := by decide +kernel
theorem d_M_read_112 : decode b_M_read 112 = .ok (.aload_n 0, 1) := by decide +kernel
theorem d_M_read_113 : decode b_M_read 113 = .ok (.getfield 64, 3) := by decide +kernel
theorem d_M_read_116 : decode b_M_read 116 = .ok (.iload_n 2, 1) := by decide +kernel
theorem d_M_read_117 : decode b_M_read 117 = .ok (.laload, 1) := by decide +kernel
theorem d_M_read_118 : decode b_M_read 118 = .ok (.lcmp, 1) := by decide +kernel
theorem d_M_read_119 : decode b_M_read 119 = .ok (.ifCond .eq 13, 3) := by decide +kernel
theorem d_M_read_122 : decode b_M_read 122 = .ok (.aload_n 0, 1) := by decide +kernel
theorem d_M_read_123 : decode b_M_read 123 = .ok (.ldc2_w 351, 3) := by decide +kernel
theorem d_M_read_126 : decode b_M_read 126 = .ok (.putfield 193, 3) := by decide +kernel
theorem d_M_read_129 : decode b_M_read 129 = .ok (.goto 89, 3) := by decide +kernel
theorem d_M_read_132 : decode b_M_read 132 = .ok (.aload_n 0, 1) := by decide +kernel
theorem d_M_read_133 : decode b_M_read 133 = .ok (.iload_n 2, 1) := by decide +kernel
theorem d_M_read_134 : decode b_M_read 134 = .ok (.iload_n 3, 1) := by decide +kernel
theorem d_M_read_135 : decode b_M_read 135 = .ok (.lload 4, 2) := by decide +kernel
theorem d_M_read_137 : decode b_M_read 137 = .ok (.iload 8, 2) := by decide +kernel
theorem d_M_read_139 : decode b_M_read 139 = .ok (.invokevirtual 353, 3) := by decide +kernel
theorem d_M_read_142 : decode b_M_read 142 = .ok (.goto 76, 3) := by decide +kernel
theorem d_M_read_145 : decode b_M_read 145 = .ok (.lload 4, 2) := by decide +kernel
theorem d_M_read_147 : decode b_M_read 147 = .ok (.lconst 0, 1) := by decide +kernel
theorem d_M_read_148 : decode b_M_read 148 = .ok (.lcmp, 1) := by decide +kernel
theorem d_M_read_149 : decode b_M_read 149 = .ok (.ifCond .lt 69, 3) := by decide +kernel
theorem d_M_read_152 : decode b_M_read 152 = .ok (.lload 4, 2) := by decide +kernel
theorem d_M_read_154 : decode b_M_read 154 = .ok (.aload_n 0, 1) := by decide +kernel
theorem d_M_read_155 : decode b_M_read 155 = .ok (.iload_n 3, 1) := by decide +kernel
theorem d_M_read_156 : decode b_M_read 156 = .ok (.bipush 18, 2) := by decide +kernel
theorem d_M_read_158 : decode b_M_read 158 = .ok (.invokevirtual 81, 3) := by decide +kernel
theorem d_M_read_161 : decode b_M_read 161 = .ok (.i2l, 1) := by decide +kernel
theorem d_M_read_162 : decode b_M_read 162 = .ok (.lcmp, 1) := by decide +kernel
theorem d_M_read_163 : decode b_M_read 163 = .ok (.ifCond .ge 55, 3) := by decide +kernel
theorem d_M_read_166 : decode b_M_read 166 = .ok (.lload 4, 2) := by decide +kernel
theorem d_M_read_168 : decode b_M_read 168 = .ok (.l2i, 1) := by decide +kernel
theorem d_M_read_169 : decode b_M_read 169 = .ok (.istore 9, 2) := by decide +kernel
theorem d_M_read_171 : decode b_M_read 171 = .ok (.iload 9, 2) := by decide +kernel
theorem d_M_read_173 : decode b_M_read 173 = .ok (.aload_n 0, 1) := by decide +kernel
theorem d_M_read_174 : decode b_M_read 174 = .ok (.iload_n 3, 1) := by decide +kernel
theorem d_M_read_175 : decode b_M_read 175 = .ok (.bipush 18, 2) := by decide +kernel
theorem d_M_read_177 : decode b_M_read 177 = .ok (.invokevirtual 81, 3) := by decide +kernel
theorem d_M_read_180 : decode b_M_read 180 = .ok (.if_icmp .ge 38, 3) := by decide +kernel
theorem d_M_read_183 : decode b_M_read 183 = .ok (.iload 9, 2) := by decide +kernel
theorem d_M_read_185 : decode b_M_read 185 = .ok (.i2l, 1) := by decide +kernel
theorem d_M_read_186 : decode b_M_read 186 = .ok (.lload 4, 2) := by decide +kernel
theorem d_M_read_188 : decode b_M_read 188 = .ok (.iload 8, 2) := by decide +kernel
theorem d_M_read_190 : decode b_M_read 190 = .ok (.i2l, 1) := by decide +kernel
theorem d_M_read_191 : decode b_M_read 191 = .ok (.ladd, 1) := by decide +kernel
theorem d_M_read_192 : decode b_M_read 192 = .ok (.lcmp, 1) := by decide +kernel
theorem d_M_read_193 : decode b_M_read 193 = .ok (.ifCond .ge 25, 3) := by decide +kernel
theorem d_M_read_196 : decode b_M_read 196 = .ok (.aload_n 0, 1) := by decide +kernel
theorem d_M_read_197 : decode b_M_read 197 = .ok (.aload_n 0, 1) := by decide +kernel
theorem d_M_read_198 : decode b_M_read 198 = .ok (.iload_n 3, 1) := by decide +kernel
theorem d_M_read_199 : decode b_M_read 199 = .ok (.bipush 19, 2) := by decide +kernel
theorem d_M_read_201 : decode b_M_read 201 = .ok (.iload 9, 2) := by decide +kernel
theorem d_M_read_203 : decode b_M_read 203 = .ok (.iadd, 1) := by decide +kernel
theorem d_M_read_204 : decode b_M_read 204 = .ok (.invokevirtual 81, 3) := by decide +kernel
theorem d_M_read_207 : decode b_M_read 207 = .ok (.i2l, 1) := by decide +kernel
theorem d_M_read_208 : decode b_M_read 208 = .ok (.iconst 1, 1) := by decide +kernel
theorem d_M_read_209 : decode b_M_read 209 = .ok (.invokevirtual 137, 3) := by decide +kernel
theorem d_M_read_212 : decode b_M_read 212 = .ok (.iinc 9 1, 3) := by decide +kernel
theorem d_M_read_215 : decode b_M_read 215 = .ok (.goto (-44), 3) := by decide +kernel
theorem d_M_read_218 : decode b_M_read 218 = .ok (.aload_n 0, 1) := by decide +kernel
theorem d_M_read_219 : decode b_M_read 219 = .ok (.getfield 128, 3) := by decide +kernel
theorem d_M_read_222 : decode b_M_read 222 = .ok (.istore 9, 2) := by decide +kernel
theorem d_M_read_224 : decode b_M_read 224 = .ok (.aload_n 0, 1) := by decide +kernel
theorem d_M_read_225 : decode b_M_read 225 = .ok (.bipush 7, 2) := by decide +kernel
theorem d_M_read_227 : decode b_M_read 227 = .ok (.putfield 128, 3) := by decide +kernel
theorem d_M_read_230 : decode b_M_read 230 = .ok (.aload_n 0, 1) := by decide +kernel
theorem d_M_read_231 : decode b_M_read 231 = .ok (.iload 9, 2) := by decide +kernel
theorem d_M_read_233 : decode b_M_read 233 = .ok (.bipush 11, 2) := by decide +kernel
theorem d_M_read_235 : decode b_M_read 235 = .ok (.isub, 1) := by decide +kernel
theorem d_M_read_236 : decode b_M_read 236 = .ok (.i2l, 1) := by decide +kernel
theorem d_M_read_237 : decode b_M_read 237 = .ok (.iconst 4, 1) := by decide +kernel
theorem d_M_read_238 : decode b_M_read 238 = .ok (.invokevirtual 137, 3) := by decide +kernel
theorem d_M_read_241 : decode b_M_read 241 = .ok (.aload_n 0, 1) := by decide +kernel
theorem d_M_read_242 : decode b_M_read 242 = .ok (.iload 9, 2) := by decide +kernel
theorem d_M_read_244 : decode b_M_read 244 = .ok (.putfield 128, 3) := by decide +kernel
theorem d_M_read_247 : decode b_M_read 247 = .ok (.return_, 1) := by decide +kernel
abbrev rm_M_read : Room := { frames := 4, cells := 0, slots := 0, locals := 95 }
set_option maxRecDepth 100000 in
set_option maxHeartbeats 4000000 in
theorem k_M_read_218 {p : Program} {l : Launch} {e : Env} {s : State} {m : MethodId} {args : Array Value} {below : List Frame} {meth : Method} {c : Code} {t : TY} {a0 : Nat} {K : GS → Prop} (X : kX p s m args meth c b_M_read 10 "TreeServerModel" t) (hret : meth.sig.returnType = none)  (G : GS) (hwp : w_M_read_218 t a0 K G) : kW p l e rm_M_read s m args below meth c (MQ below (va_Qv (fun u : GS => K u) (fun u T => HB t u T.heap) (tA t)) args s 0 0 (tA t)) 10 t false 218 [(0, va_rf (some a0))] [] G := by
  unfold w_M_read_218 at hwp
  refine kw_aload_n (pc := 218) X d_M_read_218 rfl 0 rfl ?_
  obtain ⟨f1, hwp⟩ := hwp
  refine kg_97 (a := a0) (pc := 219) X d_M_read_219 x_1017 rfl f1 ?_
  obtain ⟨v2, e_v2⟩ : ∃ z, z = (gi G 97 a0) := ⟨_, rfl⟩
  have hwp := hwp v2 e_v2
  refine kW.st (st' := .int v2 :: _) (by rw [e_v2]) ?_
  refine kw_istore (i := 9) (lv' := [(9, .int v2), (0, va_rf (some a0))]) (pc := 222) X d_M_read_222 (by decide) rfl ?_
  refine kw_aload_n (pc := 224) X d_M_read_224 rfl 1 rfl ?_
  refine kw_bipush (v := 7) (pc := 225) X d_M_read_225 (by decide) ?_
  refine kp_97 (a := a0) (x := (7 : Int32)) (pc := 227) X rfl d_M_read_227 x_1017 rfl f1 ?_
  obtain ⟨G3, e_G3⟩ : ∃ g, g = si G 97 a0 (7 : Int32) := ⟨_, rfl⟩
  have hwp := hwp G3 e_G3
  refine kW.g e_G3.symm ?_
  refine kw_aload_n (pc := 230) X d_M_read_230 rfl 1 rfl ?_
  refine kw_iload (pc := 231) X d_M_read_231 0 rfl ?_
  refine kw_bipush (v := 11) (pc := 233) X d_M_read_233 (by decide) ?_
  refine kw_isub (pc := 235) X d_M_read_235 ?_
  refine kw_i2l (pc := 236) X d_M_read_236 ?_
  refine kw_iconst (v := 4) (pc := 237) X d_M_read_237 (by decide) ?_
  refine kcV_v (n := 2) (As := [.long ((v2 - (11 : Int32)).toInt64), .int (4 : Int32)]) (rest := []) (pc := 238) X rfl (c_M_put l t G3 a0 ((v2 - (11 : Int32)).toInt64) (4 : Int32) _) (cwV_of (C := "TreeServerModel") X x_1199 x_1196 x_1198 xp_60 x_13 (by decide +kernel) ⟨rfl, rfl⟩ (by decide)) (rv_10 X f1) rfl rfl (by decide) d_M_read_238 hwp (fun G4 hwp => ?_)
  refine kw_aload_n (pc := 241) X d_M_read_241 rfl 1 rfl ?_
  refine kw_iload (pc := 242) X d_M_read_242 0 rfl ?_
  refine kp_97 (a := a0) (x := v2) (pc := 244) X rfl d_M_read_244 x_1017 rfl f1 ?_
  obtain ⟨G5, e_G5⟩ : ∃ g, g = si G4 97 a0 v2 := ⟨_, rfl⟩
  have hwp := hwp G5 e_G5
  refine kW.g e_G5.symm ?_
  exact kr_v (pc := 247) X hret d_M_read_247 hwp
set_option maxRecDepth 100000 in
set_option maxHeartbeats 4000000 in
theorem k_M_read_171 {p : Program} {l : Launch} {e : Env} {s : State} {m : MethodId} {args : Array Value} {below : List Frame} {meth : Method} {c : Code} {t : TY} {a0 : Nat} {K : GS → Prop} (X : kX p s m args meth c b_M_read 10 "TreeServerModel" t) (hret : meth.sig.returnType = none) : ∀ (n : Nat) (l3 : Int32) (l4 : Int64) (l8 : Int32) (l9 : Int32) (G : GS), w_M_read_171 t a0 K n l3 l4 l8 l9 G → kW p l e rm_M_read s m args below meth c (MQ below (va_Qv (fun u : GS => K u) (fun u T => HB t u T.heap) (tA t)) args s 0 0 (tA t)) 10 t false 171 [(0, va_rf (some a0)), (3, .int l3), (4, .long l4), (8, .int l8), (9, .int l9)] [] G := by
  intro n
  induction n with
  | zero => intro l3 l4 l8 l9 G hwp; exact hwp.elim
  | succ n hr_171 =>
    intro l3 l4 l8 l9 G hwp
    unfold w_M_read_171 at hwp
    dsimp only at hwp
    refine kw_iload (pc := 171) X d_M_read_171 4 rfl ?_
    refine kw_aload_n (pc := 173) X d_M_read_173 rfl 0 rfl ?_
    refine kw_iload_n (pc := 174) X d_M_read_174 rfl 1 rfl ?_
    refine kw_bipush (v := 18) (pc := 175) X d_M_read_175 (by decide) ?_
    obtain ⟨f1, hwp⟩ := hwp
    refine kcVp_i (n := 2) (As := [.int l3, .int (18 : Int32)]) (rest := [.int l9]) (pc := 177) X (c_M_at l t G a0 l3 (18 : Int32) _) (cwV_of (C := "TreeServerModel") X x_1111 x_1108 x_1110 xp_41 x_13 (by decide +kernel) ⟨rfl, rfl⟩ (by decide)) (rv_10 X f1) rfl rfl (by simp [rf_cat, cat_i, cat_l, cat_r]) d_M_read_177 hwp (fun v2 hwp => ?_)
    refine kw_icmp_ge (tgt := 218) (pc := 180) X d_M_read_180 (by decide) (fun h => ?_) (fun h => ?_)
    · have hwp := ite_t h hwp
      exact kW.sub [0] rfl (k_M_read_218 X hret  _ hwp)
    · have hwp := ite_f h hwp
      refine kw_iload (pc := 183) X d_M_read_183 4 rfl ?_
      refine kw_i2l (pc := 185) X d_M_read_185 ?_
      refine kw_lload (pc := 186) X d_M_read_186 2 rfl ?_
      refine kw_iload (pc := 188) X d_M_read_188 3 rfl ?_
      refine kw_i2l (pc := 190) X d_M_read_190 ?_
      refine kw_ladd (pc := 191) X d_M_read_191 ?_
      refine kw_lcmp_ge (tgt := 218) (pc := 192) X d_M_read_192 d_M_read_193 (by decide) (fun h => ?_) (fun h => ?_)
      · have hwp := ite_t h hwp
        exact kW.sub [0] rfl (k_M_read_218 X hret  _ hwp)
      · have hwp := ite_f h hwp
        refine kw_aload_n (pc := 196) X d_M_read_196 rfl 0 rfl ?_
        refine kw_aload_n (pc := 197) X d_M_read_197 rfl 0 rfl ?_
        refine kw_iload_n (pc := 198) X d_M_read_198 rfl 1 rfl ?_
        refine kw_bipush (v := 19) (pc := 199) X d_M_read_199 (by decide) ?_
        refine kw_iload (pc := 201) X d_M_read_201 4 rfl ?_
        refine kw_iadd (pc := 203) X d_M_read_203 ?_
        refine kcVp_i (n := 2) (As := [.int l3, .int ((19 : Int32) + l9)]) (rest := [va_rf (some a0)]) (pc := 204) X (c_M_at l t G a0 l3 ((19 : Int32) + l9) _) (cwV_of (C := "TreeServerModel") X x_1111 x_1108 x_1110 xp_41 x_13 (by decide +kernel) ⟨rfl, rfl⟩ (by decide)) (rv_10 X f1) rfl rfl (by simp [rf_cat, cat_i, cat_l, cat_r]) d_M_read_204 hwp (fun v3 hwp => ?_)
        refine kw_i2l (pc := 207) X d_M_read_207 ?_
        refine kw_iconst (v := 1) (pc := 208) X d_M_read_208 (by decide) ?_
        refine kcV_v (n := 2) (As := [.long v3.toInt64, .int (1 : Int32)]) (rest := []) (pc := 209) X rfl (c_M_put l t G a0 v3.toInt64 (1 : Int32) _) (cwV_of (C := "TreeServerModel") X x_1199 x_1196 x_1198 xp_60 x_13 (by decide +kernel) ⟨rfl, rfl⟩ (by decide)) (rv_10 X f1) rfl rfl (by decide) d_M_read_209 hwp (fun G4 hwp => ?_)
        obtain ⟨v5, e_v5⟩ : ∃ z, z = (l9 + (1 : Int32)) := ⟨_, rfl⟩
        have hwp := hwp v5 e_v5
        refine kw_iinc (v := v5) (lv' := [(9, .int v5), (0, va_rf (some a0)), (3, .int l3), (4, .long l4), (8, .int l8)]) (pc := 212) X d_M_read_212 4 rfl (by rw [e_v5]; rfl) (by decide) rfl ?_
        refine kw_goto (tgt := 171) (pc := 215) X d_M_read_215 (by decide) ?_
        exact kW.sub [1, 2, 3, 4, 0] rfl (hr_171 _ _ _ _ _ hwp)
set_option maxRecDepth 100000 in
set_option maxHeartbeats 4000000 in
theorem k_M_read_132 {p : Program} {l : Launch} {e : Env} {s : State} {m : MethodId} {args : Array Value} {below : List Frame} {meth : Method} {c : Code} {t : TY} {a0 : Nat} {K : GS → Prop} (X : kX p s m args meth c b_M_read 10 "TreeServerModel" t) (hret : meth.sig.returnType = none) (l2 : Int32) (l3 : Int32) (l4 : Int64) (l8 : Int32) (G : GS) (hwp : w_M_read_132 t a0 K l2 l3 l4 l8 G) : kW p l e rm_M_read s m args below meth c (MQ below (va_Qv (fun u : GS => K u) (fun u T => HB t u T.heap) (tA t)) args s 0 0 (tA t)) 10 t false 132 [(0, va_rf (some a0)), (2, .int l2), (3, .int l3), (4, .long l4), (8, .int l8)] [] G := by
  unfold w_M_read_132 at hwp
  refine kw_aload_n (pc := 132) X d_M_read_132 rfl 0 rfl ?_
  refine kw_iload_n (pc := 133) X d_M_read_133 rfl 1 rfl ?_
  refine kw_iload_n (pc := 134) X d_M_read_134 rfl 2 rfl ?_
  refine kw_lload (pc := 135) X d_M_read_135 3 rfl ?_
  refine kw_iload (pc := 137) X d_M_read_137 4 rfl ?_
  obtain ⟨f1, hwp⟩ := hwp
  refine kcV_v (n := 4) (As := [.int l2, .int l3, .long l4, .int l8]) (rest := []) (pc := 139) X rfl (c_M_list l t G a0 l2 l3 l4 l8 _) (cwV_of (C := "TreeServerModel") X x_1316 x_1313 x_1315 xp_82 x_13 (by decide +kernel) ⟨rfl, rfl⟩ (by decide)) (rv_10 X f1) rfl rfl (by decide) d_M_read_139 hwp (fun G2 hwp => ?_)
  refine kw_goto (tgt := 218) (pc := 142) X d_M_read_142 (by decide) ?_
  exact kW.sub [0] rfl (k_M_read_218 X hret  _ hwp)
set_option maxRecDepth 100000 in
set_option maxHeartbeats 4000000 in
theorem k_M_read_89 {p : Program} {l : Launch} {e : Env} {s : State} {m : MethodId} {args : Array Value} {below : List Frame} {meth : Method} {c : Code} {t : TY} {a0 : Nat} {K : GS → Prop} (X : kX p s m args meth c b_M_read 10 "TreeServerModel" t) (hret : meth.sig.returnType = none) (l2 : Int32) (l3 : Int32) (l4 : Int64) (l8 : Int32) (G : GS) (hwp : w_M_read_89 t a0 K l2 l3 l4 l8 G) : kW p l e rm_M_read s m args below meth c (MQ below (va_Qv (fun u : GS => K u) (fun u T => HB t u T.heap) (tA t)) args s 0 0 (tA t)) 10 t false 89 [(0, va_rf (some a0)), (2, .int l2), (3, .int l3), (4, .long l4), (8, .int l8)] [] G := by
  unfold w_M_read_89 at hwp
  refine kw_aload_n (pc := 89) X d_M_read_89 rfl 0 rfl ?_
  refine kw_lconst (v := 0) (pc := 90) X d_M_read_90 (by decide) ?_
  refine kw_iconst (v := 4) (pc := 91) X d_M_read_91 (by decide) ?_
  obtain ⟨f1, hwp⟩ := hwp
  refine kcV_v (n := 2) (As := [.long (0 : Int64), .int (4 : Int32)]) (rest := []) (pc := 92) X rfl (c_M_put l t G a0 (0 : Int64) (4 : Int32) _) (cwV_of (C := "TreeServerModel") X x_1199 x_1196 x_1198 xp_60 x_13 (by decide +kernel) ⟨rfl, rfl⟩ (by decide)) (rv_10 X f1) rfl rfl (by decide) d_M_read_92 hwp (fun G2 hwp => ?_)
  refine kw_aload_n (pc := 95) X d_M_read_95 rfl 0 rfl ?_
  refine kw_iload_n (pc := 96) X d_M_read_96 rfl 2 rfl ?_
  refine kcVp_i (n := 1) (As := [.int l3]) (rest := []) (pc := 97) X (c_M_isDirectory l t G2 a0 l3 _) (cwV_of (C := "TreeServerModel") X x_1115 x_1112 x_1114 xp_42 x_13 (by decide +kernel) ⟨rfl, rfl⟩ (by decide)) (rv_10 X f1) rfl rfl (by decide) d_M_read_97 hwp (fun v3 hwp => ?_)
  obtain ⟨b_v3, hwp⟩ := hwp
  refine kw_if_eq (tgt := 145) (pc := 100) X d_M_read_100 (by decide) (fun h => ?_) (fun h => ?_)
  · have hwp := ite_t h hwp
    refine kw_lload (pc := 145) X d_M_read_145 3 rfl ?_
    refine kw_lconst (v := 0) (pc := 147) X d_M_read_147 (by decide) ?_
    refine kw_lcmp_lt (tgt := 218) (pc := 148) X d_M_read_148 d_M_read_149 (by decide) (fun h => ?_) (fun h => ?_)
    · have hwp := ite_t h hwp
      exact kW.sub [0] rfl (k_M_read_218 X hret  _ hwp)
    · have hwp := ite_f h hwp
      refine kw_lload (pc := 152) X d_M_read_152 3 rfl ?_
      refine kw_aload_n (pc := 154) X d_M_read_154 rfl 0 rfl ?_
      refine kw_iload_n (pc := 155) X d_M_read_155 rfl 2 rfl ?_
      refine kw_bipush (v := 18) (pc := 156) X d_M_read_156 (by decide) ?_
      refine kcVp_i (n := 2) (As := [.int l3, .int (18 : Int32)]) (rest := [.long l4]) (pc := 158) X (c_M_at l t G2 a0 l3 (18 : Int32) _) (cwV_of (C := "TreeServerModel") X x_1111 x_1108 x_1110 xp_41 x_13 (by decide +kernel) ⟨rfl, rfl⟩ (by decide)) (rv_10 X f1) rfl rfl (by simp [rf_cat, cat_i, cat_l, cat_r]) d_M_read_158 hwp (fun v4 hwp => ?_)
      refine kw_i2l (pc := 161) X d_M_read_161 ?_
      refine kw_lcmp_ge (tgt := 218) (pc := 162) X d_M_read_162 d_M_read_163 (by decide) (fun h => ?_) (fun h => ?_)
      · have hwp := ite_t h hwp
        exact kW.sub [0] rfl (k_M_read_218 X hret  _ hwp)
      · have hwp := ite_f h hwp
        refine kw_lload (pc := 166) X d_M_read_166 3 rfl ?_
        refine kw_l2i (pc := 168) X d_M_read_168 ?_
        obtain ⟨v5, e_v5⟩ : ∃ z, z = l4.toInt32 := ⟨_, rfl⟩
        have hwp := hwp v5 e_v5
        refine kW.st (st' := .int v5 :: _) (by rw [e_v5]) ?_
        refine kw_istore (i := 9) (lv' := [(9, .int v5), (0, va_rf (some a0)), (2, .int l2), (3, .int l3), (4, .long l4), (8, .int l8)]) (pc := 169) X d_M_read_169 (by decide) rfl ?_
        obtain ⟨n, hwp⟩ := hwp
        exact kW.sub [1, 3, 4, 5, 0] rfl (k_M_read_171 X hret  n _ _ _ _ _ hwp)
  · have hwp := ite_f h hwp
    refine kw_lload (pc := 103) X d_M_read_103 3 rfl ?_
    refine kw_lconst (v := 0) (pc := 105) X d_M_read_105 (by decide) ?_
    refine kw_lcmp_eq (tgt := 132) (pc := 106) X d_M_read_106 d_M_read_107 (by decide) (fun h => ?_) (fun h => ?_)
    · have hwp := ite_t h hwp
      exact kW.sub [0, 1, 2, 3, 4] rfl (k_M_read_132 X hret  _ _ _ _ _ hwp)
    · have hwp := ite_f h hwp
      refine kw_lload (pc := 110) X d_M_read_110 3 rfl ?_
      refine kw_aload_n (pc := 112) X d_M_read_112 rfl 0 rfl ?_
      refine kg_92 (a := a0) (pc := 113) X d_M_read_113 x_1012 rfl f1 ?_
      refine kw_iload_n (pc := 116) X d_M_read_116 rfl 1 rfl ?_
      obtain ⟨a6, h_a6, hwp⟩ := hwp
      obtain ⟨f7, hwp⟩ := hwp
      obtain ⟨f8, hwp⟩ := hwp
      refine ka_lald (a := a6) (pc := 117) X d_M_read_117 h_a6 f7 f8 ?_
      refine kw_lcmp_eq (tgt := 132) (pc := 118) X d_M_read_118 d_M_read_119 (by decide) (fun h => ?_) (fun h => ?_)
      · have hwp := ite_t h hwp
        exact kW.sub [0, 1, 2, 3, 4] rfl (k_M_read_132 X hret  _ _ _ _ _ hwp)
      · have hwp := ite_f h hwp
        refine kw_aload_n (pc := 122) X d_M_read_122 rfl 0 rfl ?_
        refine kw_ldc2 (v := 127979076609647) (pc := 123) X d_M_read_123 x_1312 ?_
        refine kp_98 (a := a0) (x := (127979076609647 : Int64)) (pc := 126) X rfl d_M_read_126 x_1018 rfl f1 ?_
        obtain ⟨G9, e_G9⟩ : ∃ g, g = sl G2 98 a0 (127979076609647 : Int64) := ⟨_, rfl⟩
        have hwp := hwp G9 e_G9
        refine kW.g e_G9.symm ?_
        refine kw_goto (tgt := 218) (pc := 129) X d_M_read_129 (by decide) ?_
        exact kW.sub [0] rfl (k_M_read_218 X hret  _ hwp)
set_option maxRecDepth 100000 in
set_option maxHeartbeats 4000000 in
theorem k_M_read_50 {p : Program} {l : Launch} {e : Env} {s : State} {m : MethodId} {args : Array Value} {below : List Frame} {meth : Method} {c : Code} {t : TY} {a0 : Nat} {K : GS → Prop} (X : kX p s m args meth c b_M_read 10 "TreeServerModel" t) (hret : meth.sig.returnType = none) (l2 : Int32) (l3 : Int32) (l4 : Int64) (s0 : Int32) (G : GS) (hwp : w_M_read_50 t a0 K l2 l3 l4 s0 G) : kW p l e rm_M_read s m args below meth c (MQ below (va_Qv (fun u : GS => K u) (fun u T => HB t u T.heap) (tA t)) args s 0 0 (tA t)) 10 t false 50 [(0, va_rf (some a0)), (2, .int l2), (3, .int l3), (4, .long l4)] [.int s0] G := by
  unfold w_M_read_50 at hwp
  refine kw_istore (i := 8) (lv' := [(8, .int s0), (0, va_rf (some a0)), (2, .int l2), (3, .int l3), (4, .long l4)]) (pc := 50) X d_M_read_50 (by decide) rfl ?_
  refine kw_aload_n (pc := 52) X d_M_read_52 rfl 1 rfl ?_
  obtain ⟨f1, hwp⟩ := hwp
  refine kg_90 (a := a0) (pc := 53) X d_M_read_53 x_1010 rfl f1 ?_
  refine kw_iload_n (pc := 56) X d_M_read_56 rfl 2 rfl ?_
  obtain ⟨a2, h_a2, hwp⟩ := hwp
  obtain ⟨f3, hwp⟩ := hwp
  obtain ⟨f4, hwp⟩ := hwp
  refine ka_iald (a := a2) (pc := 57) X d_M_read_57 h_a2 f3 f4 ?_
  refine kw_if_eq (tgt := 89) (pc := 58) X d_M_read_58 (by decide) (fun h => ?_) (fun h => ?_)
  · have hwp := ite_t h hwp
    exact kW.sub [1, 2, 3, 4, 0] rfl (k_M_read_89 X hret  _ _ _ _ _ hwp)
  · have hwp := ite_f h hwp
    refine kw_aload_n (pc := 61) X d_M_read_61 rfl 1 rfl ?_
    refine kg_90 (a := a0) (pc := 62) X d_M_read_62 x_1010 rfl f1 ?_
    refine kw_iload_n (pc := 65) X d_M_read_65 rfl 2 rfl ?_
    refine ka_iald (a := a2) (pc := 66) X d_M_read_66 h_a2 f3 f4 ?_
    refine kw_iconst (v := 2) (pc := 67) X d_M_read_67 (by decide) ?_
    refine kw_icmp_eq (tgt := 89) (pc := 68) X d_M_read_68 (by decide) (fun h => ?_) (fun h => ?_)
    · have hwp := ite_t h hwp
      exact kW.sub [1, 2, 3, 4, 0] rfl (k_M_read_89 X hret  _ _ _ _ _ hwp)
    · have hwp := ite_f h hwp
      refine kw_aload_n (pc := 71) X d_M_read_71 rfl 1 rfl ?_
      refine kg_90 (a := a0) (pc := 72) X d_M_read_72 x_1010 rfl f1 ?_
      refine kw_iload_n (pc := 75) X d_M_read_75 rfl 2 rfl ?_
      refine ka_iald (a := a2) (pc := 76) X d_M_read_76 h_a2 f3 f4 ?_
      refine kw_iconst (v := 3) (pc := 77) X d_M_read_77 (by decide) ?_
      refine kw_icmp_eq (tgt := 89) (pc := 78) X d_M_read_78 (by decide) (fun h => ?_) (fun h => ?_)
      · have hwp := ite_t h hwp
        exact kW.sub [1, 2, 3, 4, 0] rfl (k_M_read_89 X hret  _ _ _ _ _ hwp)
      · have hwp := ite_f h hwp
        refine kw_aload_n (pc := 81) X d_M_read_81 rfl 1 rfl ?_
        refine kw_ldc2 (v := 1852141679) (pc := 82) X d_M_read_82 x_1260 ?_
        refine kp_98 (a := a0) (x := (1852141679 : Int64)) (pc := 85) X rfl d_M_read_85 x_1018 rfl f1 ?_
        obtain ⟨G5, e_G5⟩ : ∃ g, g = sl G 98 a0 (1852141679 : Int64) := ⟨_, rfl⟩
        have hwp := hwp G5 e_G5
        refine kW.g e_G5.symm ?_
        exact kr_v (pc := 88) X hret d_M_read_88 hwp
set_option maxRecDepth 100000 in
set_option maxHeartbeats 4000000 in
theorem k_M_read {p : Program} {l : Launch} {e : Env} {s : State} {m : MethodId} {args : Array Value} {below : List Frame} {meth : Method} {c : Code} {t : TY} {a0 : Nat} {K : GS → Prop} (X : kX p s m args meth c b_M_read 10 "TreeServerModel" t) (hret : meth.sig.returnType = none) (G : GS) (p1 : Int32) (p2 : Int32) (p3 : Int32) (hwp : w_M_read t G a0 p1 p2 p3 K) : kW p l e rm_M_read s m args below meth c (MQ below (va_Qv (fun u : GS => K u) (fun u T => HB t u T.heap) (tA t)) args s 0 0 (tA t)) 10 t false 0 [(0, va_rf (some a0)), (1, .int p1), (2, .int p2), (3, .int p3)] [] G := by
  unfold w_M_read at hwp
  refine kw_aload_n (pc := 0) X d_M_read_0 rfl 0 rfl ?_
  refine kw_bipush (v := 11) (pc := 1) X d_M_read_1 (by decide) ?_
  refine kw_bipush (v := 8) (pc := 3) X d_M_read_3 (by decide) ?_
  obtain ⟨f1, hwp⟩ := hwp
  refine kcVp_l (n := 2) (As := [.int (11 : Int32), .int (8 : Int32)]) (rest := []) (pc := 5) X (c_M_get l t G a0 (11 : Int32) (8 : Int32) _) (cwV_of (C := "TreeServerModel") X x_1175 x_1172 x_1174 xp_56 x_13 (by decide +kernel) ⟨rfl, rfl⟩ (by decide)) (rv_10 X f1) rfl rfl (by decide) d_M_read_5 hwp (fun v2 hwp => ?_)
  refine kw_lstore (i := 4) (lv' := [(4, .long v2), (0, va_rf (some a0)), (1, .int p1), (2, .int p2), (3, .int p3)]) (pc := 8) X d_M_read_8 (by decide) rfl ?_
  refine kw_aload_n (pc := 10) X d_M_read_10 rfl 1 rfl ?_
  refine kw_bipush (v := 19) (pc := 11) X d_M_read_11 (by decide) ?_
  refine kw_iconst (v := 4) (pc := 13) X d_M_read_13 (by decide) ?_
  refine kcVp_l (n := 2) (As := [.int (19 : Int32), .int (4 : Int32)]) (rest := []) (pc := 14) X (c_M_get l t G a0 (19 : Int32) (4 : Int32) _) (cwV_of (C := "TreeServerModel") X x_1175 x_1172 x_1174 xp_56 x_13 (by decide +kernel) ⟨rfl, rfl⟩ (by decide)) (rv_10 X f1) rfl rfl (by decide) d_M_read_14 hwp (fun v3 hwp => ?_)
  refine kw_lstore (i := 6) (lv' := [(6, .long v3), (4, .long v2), (0, va_rf (some a0)), (1, .int p1), (2, .int p2), (3, .int p3)]) (pc := 17) X d_M_read_17 (by decide) rfl ?_
  refine kw_lload (pc := 19) X d_M_read_19 0 rfl ?_
  refine kw_aload_n (pc := 21) X d_M_read_21 rfl 2 rfl ?_
  refine kg_83 (a := a0) (pc := 22) X d_M_read_22 x_1003 rfl f1 ?_
  refine kw_iload_n (pc := 25) X d_M_read_25 rfl 3 rfl ?_
  obtain ⟨a4, h_a4, hwp⟩ := hwp
  obtain ⟨f5, hwp⟩ := hwp
  obtain ⟨f6, hwp⟩ := hwp
  refine ka_iald (a := a4) (pc := 26) X d_M_read_26 h_a4 f5 f6 ?_
  refine kw_bipush (v := 11) (pc := 27) X d_M_read_27 (by decide) ?_
  refine kw_isub (pc := 29) X d_M_read_29 ?_
  refine kw_i2l (pc := 30) X d_M_read_30 ?_
  refine kw_lcmp_ge (tgt := 41) (pc := 31) X d_M_read_31 d_M_read_32 (by decide) (fun h => ?_) (fun h => ?_)
  · have hwp := ite_t h hwp
    refine kw_aload_n (pc := 41) X d_M_read_41 rfl 2 rfl ?_
    refine kg_83 (a := a0) (pc := 42) X d_M_read_42 x_1003 rfl f1 ?_
    refine kw_iload_n (pc := 45) X d_M_read_45 rfl 3 rfl ?_
    refine ka_iald (a := a4) (pc := 46) X d_M_read_46 h_a4 f5 f6 ?_
    refine kw_bipush (v := 11) (pc := 47) X d_M_read_47 (by decide) ?_
    refine kw_isub (pc := 49) X d_M_read_49 ?_
    exact kW.sub [2, 4, 5, 1] rfl (k_M_read_50 X hret  _ _ _ _ _ hwp)
  · have hwp := ite_f h hwp
    refine kw_lload (pc := 35) X d_M_read_35 0 rfl ?_
    refine kw_l2i (pc := 37) X d_M_read_37 ?_
    refine kw_goto (tgt := 50) (pc := 38) X d_M_read_38 (by decide) ?_
    exact kW.sub [2, 4, 5, 1] rfl (k_M_read_50 X hret  _ _ _ _ _ hwp)
set_option maxRecDepth 100000 in
set_option maxHeartbeats 4000000 in
theorem c_M_read (l : Launch) (t : TY) (G : GS) (a0 : Nat) (p1 : Int32) (p2 : Int32) (p3 : Int32) (K : GS → Prop) : Met l y_M_read (Cond.code y_M_read b_M_read 10 (Option.none : Option Jvm.ClassFile.FieldType) :: GW) rm_M_read (va_Pc [.ref a0, .int p1, .int p2, .int p3] (fun U => HB t G U.heap ∧ HK t U ∧ w_M_read t G a0 p1 p2 p3 K)) (va_Qv (fun u : GS => K u) (fun u T => HB t u T.heap) (tA t)) 0 0 (tA t) := by
  refine Met.ofW (cc := b_M_read) (maxL := 10) (ret := none) (by decide) rfl ?_
  intro p e s m args below meth c s₁ B hml hv
  obtain ⟨rfl, hB, hK, hwp⟩ := hv
  have hts := atoms_spec (ws := Cond.code y_M_read b_M_read 10 (Option.none : Option Jvm.ClassFile.FieldType) :: GW) B.pre
  have X : kX p s m _ meth c b_M_read 10 "TreeServerModel" t := ⟨B.exec, B.bytes, hml, findClass_of_methodNamed B.named, fun w h => hts w (List.mem_cons_of_mem _ h), B.notSynchronized, hK⟩
  have hZ : kZ t false s G s.heap [] := ⟨hB, va_S.rf, fun _ => ⟨rfl, rfl⟩⟩
  rw [lg_entry_eq]
  have hl := lv_entry ([.ref a0, .int p1, .int p2, .int p3]) (n := 10) (by simp [lg_sl, rf_cat, cat_i, cat_l, cat_r])
  exact k_M_read X B.returns _ _ _ _ hwp s.heap [] _ hl hZ
abbrev b_M_write : ByteArray := prog_13_method_56_code
def y_M_write : MethodName := ⟨"TreeServerModel", "write", "(II)V"⟩
theorem d_M_write_0 : decode b_M_write 0 = .ok (.aload_n 0, 1) := by decide +kernel
theorem d_M_write_1 : decode b_M_write 1 = .ok (.iload_n 2, 1) := by decide +kernel
theorem d_M_write_2 : decode b_M_write 2 = .ok (.iconst 3, 1) := by decide +kernel
theorem d_M_write_3 : decode b_M_write 3 = .ok (.invokevirtual 81, 3) := by decide +kernel
theorem d_M_write_6 : decode b_M_write 6 = .ok (.ldc_w 324, 3) := by decide +kernel
theorem d_M_write_9 : decode b_M_write 9 = .ok (.iand, 1) := by decide +kernel
theorem d_M_write_10 : decode b_M_write 10 = .ok (.ifCond .eq 14, 3) := by decide +kernel
theorem d_M_write_13 : decode b_M_write 13 = .ok (.aload_n 0, 1) := by decide +kernel
theorem d_M_write_14 : decode b_M_write 14 = .ok (.iload_n 2, 1) := by decide +kernel
theorem d_M_write_15 : decode b_M_write 15 = .ok (.bipush 18, 2) := by decide +kernel
theorem d_M_write_17 : decode b_M_write 17 = .ok (.invokevirtual 81, 3) := by decide +kernel
theorem d_M_write_20 : decode b_M_write 20 = .ok (.i2l, 1) := by decide +kernel
theorem d_M_write_21 : decode b_M_write 21 = .ok (.goto 11, 3) := by decide +kernel
theorem d_M_write_24 : decode b_M_write 24 = .ok (.aload_n 0, 1) := by decide +kernel
theorem d_M_write_25 : decode b_M_write 25 = .ok (.bipush 11, 2) := by decide +kernel
theorem d_M_write_27 : decode b_M_write 27 = .ok (.bipush 8, 2) := by decide +kernel
theorem d_M_write_29 : decode b_M_write 29 = .ok (.invokevirtual 85, 3) := by decide +kernel
theorem d_M_write_32 : decode b_M_write 32 = .ok (.lstore_n 3, 1) := by decide +kernel
theorem d_M_write_33 : decode b_M_write 33 = .ok (.aload_n 0, 1) := by decide +kernel
theorem d_M_write_34 : decode b_M_write 34 = .ok (.bipush 19, 2) := by decide +kernel
theorem d_M_write_36 : decode b_M_write 36 = .ok (.iconst 4, 1) := by decide +kernel
theorem d_M_write_37 : decode b_M_write 37 = .ok (.invokevirtual 85, 3) := by decide +kernel
theorem d_M_write_40 : decode b_M_write 40 = .ok (.l2i, 1) := by decide +kernel
theorem d_M_write_41 : decode b_M_write 41 = .ok (.istore 5, 2) := by decide +kernel
theorem d_M_write_43 : decode b_M_write 43 = .ok (.aload_n 0, 1) := by decide +kernel
theorem d_M_write_44 : decode b_M_write 44 = .ok (.getfield 58, 3) := by decide +kernel
theorem d_M_write_47 : decode b_M_write 47 = .ok (.iload_n 1, 1) := by decide +kernel
theorem d_M_write_48 : decode b_M_write 48 = .ok (.iaload, 1) := by decide +kernel
theorem d_M_write_49 : decode b_M_write 49 = .ok (.iconst 1, 1) := by decide +kernel
theorem d_M_write_50 : decode b_M_write 50 = .ok (.if_icmp .eq 23, 3) := by decide +kernel
theorem d_M_write_53 : decode b_M_write 53 = .ok (.aload_n 0, 1) := by decide +kernel
theorem d_M_write_54 : decode b_M_write 54 = .ok (.getfield 58, 3) := by decide +kernel
theorem d_M_write_57 : decode b_M_write 57 = .ok (.iload_n 1, 1) := by decide +kernel
theorem d_M_write_58 : decode b_M_write 58 = .ok (.iaload, 1) := by decide +kernel
theorem d_M_write_59 : decode b_M_write 59 = .ok (.iconst 2, 1) := by decide +kernel
theorem d_M_write_60 : decode b_M_write 60 = .ok (.if_icmp .eq 13, 3) := by decide +kernel
theorem d_M_write_63 : decode b_M_write 63 = .ok (.aload_n 0, 1) := by decide +kernel
theorem d_M_write_64 : decode b_M_write 64 = .ok (.ldc2_w 307, 3) := by decide +kernel
theorem d_M_write_67 : decode b_M_write 67 = .ok (.putfield 193, 3) := by decide +kernel
theorem d_M_write_70 : decode b_M_write 70 = .ok (.goto 33, 3) := by decide +kernel
theorem d_M_write_73 : decode b_M_write 73 = .ok (.iload 5, 2) := by decide +kernel
theorem d_M_write_75 : decode b_M_write 75 = .ok (.ifCond .le 28, 3) := by decide +kernel
theorem d_M_write_78 : decode b_M_write 78 = .ok (.lload_n 3, 1) := by decide +kernel
theorem d_M_write_79 : decode b_M_write 79 = .ok (.lconst 0, 1) := by decide +kernel
theorem d_M_write_80 : decode b_M_write 80 = .ok (.lcmp, 1) := by decide +kernel
theorem d_M_write_81 : decode b_M_write 81 = .ok (.ifCond .lt 15, 3) := by decide +kernel
theorem d_M_write_84 : decode b_M_write 84 = .ok (.lload_n 3, 1) := by decide +kernel
theorem d_M_write_85 : decode b_M_write 85 = .ok (.ldc2_w 362, 3) := by decide +kernel
theorem d_M_write_88 : decode b_M_write 88 = .ok (.iload 5, 2) := by decide +kernel
theorem d_M_write_90 : decode b_M_write 90 = .ok (.i2l, 1) := by decide +kernel
theorem d_M_write_91 : decode b_M_write 91 = .ok (.lsub, 1) := by decide +kernel
theorem d_M_write_92 : decode b_M_write 92 = .ok (.lcmp, 1) := by decide +kernel
theorem d_M_write_93 : decode b_M_write 93 = .ok (.ifCond .le 10, 3) := by decide +kernel
theorem d_M_write_96 : decode b_M_write 96 = .ok (.aload_n 0, 1) := by decide +kernel
theorem d_M_write_97 : decode b_M_write 97 = .ok (.ldc2_w 343, 3) := by decide +kernel
theorem d_M_write_100 : decode b_M_write 100 = .ok (.putfield 193, 3) := by decide +kernel
theorem d_M_write_103 : decode b_M_write 103 = .ok (.aload_n 0, 1) := by decide +kernel
theorem d_M_write_104 : decode b_M_write 104 = .ok (.getfield 193, 3) := by decide +kernel
theorem d_M_write_107 : decode b_M_write 107 = .ok (.lconst 0, 1) := by decide +kernel
theorem d_M_write_108 : decode b_M_write 108 = .ok (.lcmp, 1) := by decide +kernel
theorem d_M_write_109 : decode b_M_write 109 = .ok (.ifCond .eq 4, 3) := by decide +kernel
theorem d_M_write_112 : decode b_M_write 112 = .ok (.return_, 1) := by decide +kernel
theorem d_M_write_113 : decode b_M_write 113 = .ok (.iload 5, 2) := by decide +kernel
theorem d_M_write_115 : decode b_M_write 115 = .ok (.ifCond .le 152, 3) := by decide +kernel
theorem d_M_write_118 : decode b_M_write 118 = .ok (.aload_n 0, 1) := by decide +kernel
theorem d_M_write_119 : decode b_M_write 119 = .ok (.invokevirtual 170, 3) := by decide +kernel
theorem d_M_write_122 : decode b_M_write 122 = .ok (.lload_n 3, 1) := by decide +kernel
theorem d_M_write_123 : decode b_M_write 123 = .ok (.l2i, 1) := by decide +kernel
theorem d_M_write_124 : decode b_M_write 124 = .ok (.istore 6, 2) := by decide +kernel
theorem d_M_write_126 : decode b_M_write 126 = .ok (.aload_n 0, 1) := by decide +kernel
theorem d_M_write_127 : decode b_M_write 127 = .ok (.iload_n 2, 1) := by decide +kernel
theorem d_M_write_128 : decode b_M_write 128 = .ok (.bipush 18, 2) := by decide +kernel
theorem d_M_write_130 : decode b_M_write 130 = .ok (.invokevirtual 81, 3) := by decide +kernel
theorem d_M_write_133 : decode b_M_write 133 = .ok (.istore 7, 2) := by decide +kernel
theorem d_M_write_135 : decode b_M_write 135 = .ok (.iload 7, 2) := by decide +kernel
theorem d_M_write_137 : decode b_M_write 137 = .ok (.iload 6, 2) := by decide +kernel
theorem d_M_write_139 : decode b_M_write 139 = .ok (.if_icmp .ge 20, 3) := by decide +kernel
theorem d_M_write_142 : decode b_M_write 142 = .ok (.aload_n 0, 1) := by decide +kernel
theorem d_M_write_143 : decode b_M_write 143 = .ok (.iload_n 2, 1) := by decide +kernel
theorem d_M_write_144 : decode b_M_write 144 = .ok (.bipush 19, 2) := by decide +kernel
theorem d_M_write_146 : decode b_M_write 146 = .ok (.iload 7, 2) := by decide +kernel
theorem d_M_write_148 : decode b_M_write 148 = .ok (.iadd, 1) := by decide +kernel
theorem d_M_write_149 : decode b_M_write 149 = .ok (.iconst 0, 1) := by decide +kernel
theorem d_M_write_150 : decode b_M_write 150 = .ok (.invokevirtual 104, 3) := by decide +kernel
theorem d_M_write_153 : decode b_M_write 153 = .ok (.iinc 7 1, 3) := by decide +kernel
theorem d_M_write_156 : decode b_M_write 156 = .ok (.goto (-21), 3) := by decide +kernel
theorem d_M_write_159 : decode b_M_write 159 = .ok (.iconst 0, 1) := by decide +kernel
theorem d_M_write_160 : decode b_M_write 160 = .ok (.istore 7, 2) := by decide +kernel
theorem d_M_write_162 : decode b_M_write 162 = .ok (.iload 7, 2) := by decide +kernel
theorem d_M_write_164 : decode b_M_write 164 = .ok (.iload 5, 2) := by decide +kernel
theorem d_M_write_166 : decode b_M_write 166 = .ok (.if_icmp .ge 32, 3) := by decide +kernel
theorem d_M_write_169 : decode b_M_write 169 = .ok (.aload_n 0, 1) := by decide +kernel
theorem d_M_write_170 : decode b_M_write 170 = .ok (.iload_n 2, 1) := by decide +kernel
theorem d_M_write_171 : decode b_M_write 171 = .ok (.bipush 19, 2) := by decide +kernel
theorem d_M_write_173 : decode b_M_write 173 = .ok (.iload 6, 2) := by decide +kernel
theorem d_M_write_175 : decode b_M_write 175 = .ok (.iadd, 1) := by decide +kernel
theorem d_M_write_176 : decode b_M_write 176 = .ok (.iload 7, 2) := by decide +kernel
theorem d_M_write_178 : decode b_M_write 178 = .ok (.iadd, 1) := by decide +kernel
theorem d_M_write_179 : decode b_M_write 179 = .ok (.aload_n 0, 1) := by decide +kernel
theorem d_M_write_180 : decode b_M_write 180 = .ok (.getfield 70, 3) := by decide +kernel
theorem d_M_write_183 : decode b_M_write 183 = .ok (.bipush 23, 2) := by decide +kernel
theorem d_M_write_185 : decode b_M_write 185 = .ok (.iload 7, 2) := by decide +kernel
theorem d_M_write_187 : decode b_M_write 187 = .ok (.iadd, 1) := by decide +kernel
theorem d_M_write_188 : decode b_M_write 188 = .ok (.iaload, 1) := by decide +kernel
theorem d_M_write_189 : decode b_M_write 189 = .ok (.invokevirtual 104, 3) := by decide +kernel
theorem d_M_write_192 : decode b_M_write 192 = .ok (.iinc 7 1, 3) := by decide +kernel
theorem d_M_write_195 : decode b_M_write 195 = .ok (.goto (-33), 3) := by decide +kernel
theorem d_M_write_198 : decode b_M_write 198 = .ok (.aload_n 0, 1) := by decide +kernel
theorem d_M_write_199 : decode b_M_write 199 = .ok (.iload_n 2, 1) := by decide +kernel
theorem d_M_write_200 : decode b_M_write 200 = .ok (.bipush 18, 2) := by decide +kernel
theorem d_M_write_202 : decode b_M_write 202 = .ok (.invokevirtual 81, 3) := by decide +kernel
theorem d_M_write_205 : decode b_M_write 205 = .ok (.iload 6, 2) := by decide +kernel
theorem d_M_write_207 : decode b_M_write 207 = .ok (.iload 5, 2) := by decide +kernel
theorem d_M_write_209 : decode b_M_write 209 = .ok (.iadd, 1) := by decide +kernel
theorem d_M_write_210 : decode b_M_write 210 = .ok (.if_icmp .ge 15, 3) := by decide +kernel
theorem d_M_write_213 : decode b_M_write 213 = .ok (.aload_n 0, 1) := by decide +kernel
theorem d_M_write_214 : decode b_M_write 214 = .ok (.iload_n 2, 1) := by decide +kernel
theorem d_M_write_215 : decode b_M_write 215 = .ok (.bipush 18, 2) := by decide +kernel
theorem d_M_write_217 : decode b_M_write 217 = .ok (.iload 6, 2) := by decide +kernel
theorem d_M_write_219 : decode b_M_write 219 = .ok (.iload 5, 2) := by decide +kernel
theorem d_M_write_221 : decode b_M_write 221 = .ok (.iadd, 1) := by decide +kernel
theorem d_M_write_222 : decode b_M_write 222 = .ok (.invokevirtual 104, 3) := by decide +kernel
theorem d_M_write_225 : decode b_M_write 225 = .ok (.aload_n 0, 1) := by decide +kernel
theorem d_M_write_226 : decode b_M_write 226 = .ok (.iload_n 2, 1) := by decide +kernel
theorem d_M_write_227 : decode b_M_write 227 = .ok (.aload_n 0, 1) := by decide +kernel
theorem d_M_write_228 : decode b_M_write 228 = .ok (.getfield 276, 3) := by decide +kernel
theorem d_M_write_231 : decode b_M_write 231 = .ok (.invokevirtual 111, 3) := by decide +kernel
theorem d_M_write_234 : decode b_M_write 234 = .ok (.aload_n 0, 1) := by decide +kernel
theorem d_M_write_235 : decode b_M_write 235 = .ok (.invokevirtual 339, 3) := by decide +kernel
theorem d_M_write_238 : decode b_M_write 238 = .ok (.bipush 24, 2) := by decide +kernel
theorem d_M_write_240 : decode b_M_write 240 = .ok (.if_icmp .le 15, 3) := by decide +kernel
theorem d_M_write_243 : decode b_M_write 243 = .ok (.aload_n 0, 1) := by decide +kernel
theorem d_M_write_244 : decode b_M_write 244 = .ok (.invokevirtual 122, 3) := by decide +kernel
theorem d_M_write_247 : decode b_M_write 247 = .ok (.aload_n 0, 1) := by decide +kernel
theorem d_M_write_248 : decode b_M_write 248 = .ok (.ldc2_w 343, 3) := by decide +kernel
theorem d_M_write_251 : decode b_M_write 251 = .ok (.putfield 193, 3) := by decide +kernel
theorem d_M_write_254 : decode b_M_write 254 = .ok (.return_, 1) := by decide +kernel
theorem d_M_write_255 : decode b_M_write 255 = .ok (.aload_n 0, 1) := by decide +kernel
theorem d_M_write_256 : decode b_M_write 256 = .ok (.aload_n 0, 1) := by decide +kernel
theorem d_M_write_257 : decode b_M_write 257 = .ok (.getfield 187, 3) := by decide +kernel
theorem d_M_write_260 : decode b_M_write 260 = .ok (.invokevirtual 176, 3) := by decide +kernel
theorem d_M_write_263 : decode b_M_write 263 = .ok (.ifCond .ne 4, 3) := by decide +kernel
theorem d_M_write_266 : decode b_M_write 266 = .ok (.return_, 1) := by decide +kernel
theorem d_M_write_267 : decode b_M_write 267 = .ok (.aload_n 0, 1) := by decide +kernel
theorem d_M_write_268 : decode b_M_write 268 = .ok (.iload 5, 2) := by decide +kernel
theorem d_M_write_270 : decode b_M_write 270 = .ok (.i2l, 1) := by decide +kernel
theorem d_M_write_271 : decode b_M_write 271 = .ok (.iconst 4, 1) := by decide +kernel
theorem d_M_write_272 : decode b_M_write 272 = .ok (.invokevirtual 137, 3) := by decide +kernel
theorem d_M_write_275 : decode b_M_write 275 = .ok (.return_, 1) := by decide +kernel
abbrev rm_M_write : Room := { frames := 3, cells := 0, slots := 0, locals := 67 }
set_option maxRecDepth 100000 in
set_option maxHeartbeats 4000000 in
theorem k_M_write_267 {p : Program} {l : Launch} {e : Env} {s : State} {m : MethodId} {args : Array Value} {below : List Frame} {meth : Method} {c : Code} {t : TY} {a0 : Nat} {K : GS → Prop} (X : kX p s m args meth c b_M_write 8 "TreeServerModel" t) (hret : meth.sig.returnType = none) (l5 : Int32) (G : GS) (hwp : w_M_write_267 t a0 K l5 G) : kW p l e rm_M_write s m args below meth c (MQ below (va_Qv (fun u : GS => K u) (fun u T => HB t u T.heap) (tA t)) args s 0 0 (tA t)) 8 t false 267 [(0, va_rf (some a0)), (5, .int l5)] [] G := by
  unfold w_M_write_267 at hwp
  refine kw_aload_n (pc := 267) X d_M_write_267 rfl 0 rfl ?_
  refine kw_iload (pc := 268) X d_M_write_268 1 rfl ?_
  refine kw_i2l (pc := 270) X d_M_write_270 ?_
  refine kw_iconst (v := 4) (pc := 271) X d_M_write_271 (by decide) ?_
  obtain ⟨f1, hwp⟩ := hwp
  refine kcV_v (n := 2) (As := [.long l5.toInt64, .int (4 : Int32)]) (rest := []) (pc := 272) X rfl (c_M_put l t G a0 l5.toInt64 (4 : Int32) _) (cwV_of (C := "TreeServerModel") X x_1199 x_1196 x_1198 xp_60 x_13 (by decide +kernel) ⟨rfl, rfl⟩ (by decide)) (rv_10 X f1) rfl rfl (by decide) d_M_write_272 hwp (fun G2 hwp => ?_)
  exact kr_v (pc := 275) X hret d_M_write_275 hwp
set_option maxRecDepth 100000 in
set_option maxHeartbeats 4000000 in
theorem k_M_write_225 {p : Program} {l : Launch} {e : Env} {s : State} {m : MethodId} {args : Array Value} {below : List Frame} {meth : Method} {c : Code} {t : TY} {a0 : Nat} {K : GS → Prop} (X : kX p s m args meth c b_M_write 8 "TreeServerModel" t) (hret : meth.sig.returnType = none) (l2 : Int32) (l5 : Int32) (G : GS) (hwp : w_M_write_225 t a0 K l2 l5 G) : kW p l e rm_M_write s m args below meth c (MQ below (va_Qv (fun u : GS => K u) (fun u T => HB t u T.heap) (tA t)) args s 0 0 (tA t)) 8 t false 225 [(0, va_rf (some a0)), (2, .int l2), (5, .int l5)] [] G := by
  unfold w_M_write_225 at hwp
  refine kw_aload_n (pc := 225) X d_M_write_225 rfl 0 rfl ?_
  refine kw_iload_n (pc := 226) X d_M_write_226 rfl 1 rfl ?_
  refine kw_aload_n (pc := 227) X d_M_write_227 rfl 0 rfl ?_
  obtain ⟨f1, hwp⟩ := hwp
  refine kg_99 (a := a0) (pc := 228) X d_M_write_228 x_1019 rfl f1 ?_
  refine kcV_v (n := 2) (As := [.int l2, .int (gi G 99 a0)]) (rest := []) (pc := 231) X rfl (c_M_changes l t G a0 l2 (gi G 99 a0) _) (cwV_of (C := "TreeServerModel") X x_1143 x_1140 x_1142 xp_49 x_13 (by decide +kernel) ⟨rfl, rfl⟩ (by decide)) (rv_10 X f1) rfl rfl (by decide) d_M_write_231 hwp (fun G2 hwp => ?_)
  refine kw_aload_n (pc := 234) X d_M_write_234 rfl 0 rfl ?_
  refine kcVp_i (n := 0) (As := []) (rest := []) (pc := 235) X (c_M_blocks l t G2 a0 _) (cwV_of (C := "TreeServerModel") X x_1306 x_1303 x_1305 xp_80 x_13 (by decide +kernel) ⟨rfl, rfl⟩ (by decide)) (rv_10 X f1) rfl rfl (by decide) d_M_write_235 hwp (fun v3 hwp => ?_)
  refine kw_bipush (v := 24) (pc := 238) X d_M_write_238 (by decide) ?_
  refine kw_icmp_le (tgt := 255) (pc := 240) X d_M_write_240 (by decide) (fun h => ?_) (fun h => ?_)
  · have hwp := ite_t h hwp
    refine kw_aload_n (pc := 255) X d_M_write_255 rfl 0 rfl ?_
    refine kw_aload_n (pc := 256) X d_M_write_256 rfl 0 rfl ?_
    refine kg_95 (a := a0) (pc := 257) X d_M_write_257 x_1015 rfl f1 ?_
    refine kcV_i (n := 1) (As := [.int (gi G2 95 a0)]) (rest := []) (pc := 260) X rfl (c_M_commit l t G2 a0 (gi G2 95 a0) _) (cwV_of (C := "TreeServerModel") X x_1147 x_1144 x_1146 xp_50 x_13 (by decide +kernel) ⟨rfl, rfl⟩ (by decide)) (rv_10 X f1) rfl rfl (by decide) d_M_write_260 hwp (fun v5 G4 hwp => ?_)
    obtain ⟨b_v5, hwp⟩ := hwp
    refine kw_if_ne (tgt := 267) (pc := 263) X d_M_write_263 (by decide) (fun h => ?_) (fun h => ?_)
    · have hwp := ite_t h hwp
      exact kW.sub [0, 2] rfl (k_M_write_267 X hret  _ _ hwp)
    · have hwp := ite_f (not_not_intro h) hwp
      exact kr_v (pc := 266) X hret d_M_write_266 hwp
  · have hwp := ite_f h hwp
    refine kw_aload_n (pc := 243) X d_M_write_243 rfl 0 rfl ?_
    refine kcV_v (n := 0) (As := []) (rest := []) (pc := 244) X rfl (c_M_back l t G2 a0 _) (cwV_of (C := "TreeServerModel") X x_1151 x_1148 x_1150 xp_51 x_13 (by decide +kernel) ⟨rfl, rfl⟩ (by decide)) (rv_10 X f1) rfl rfl (by decide) d_M_write_244 hwp (fun G6 hwp => ?_)
    refine kw_aload_n (pc := 247) X d_M_write_247 rfl 0 rfl ?_
    refine kw_ldc2 (v := 1819047270) (pc := 248) X d_M_write_248 x_1307 ?_
    refine kp_98 (a := a0) (x := (1819047270 : Int64)) (pc := 251) X rfl d_M_write_251 x_1018 rfl f1 ?_
    obtain ⟨G7, e_G7⟩ : ∃ g, g = sl G6 98 a0 (1819047270 : Int64) := ⟨_, rfl⟩
    have hwp := hwp G7 e_G7
    refine kW.g e_G7.symm ?_
    exact kr_v (pc := 254) X hret d_M_write_254 hwp
set_option maxRecDepth 100000 in
set_option maxHeartbeats 4000000 in
theorem k_M_write_162 {p : Program} {l : Launch} {e : Env} {s : State} {m : MethodId} {args : Array Value} {below : List Frame} {meth : Method} {c : Code} {t : TY} {a0 : Nat} {K : GS → Prop} (X : kX p s m args meth c b_M_write 8 "TreeServerModel" t) (hret : meth.sig.returnType = none) : ∀ (n : Nat) (l2 : Int32) (l5 : Int32) (l6 : Int32) (l7 : Int32) (G : GS), w_M_write_162 t a0 K n l2 l5 l6 l7 G → kW p l e rm_M_write s m args below meth c (MQ below (va_Qv (fun u : GS => K u) (fun u T => HB t u T.heap) (tA t)) args s 0 0 (tA t)) 8 t false 162 [(0, va_rf (some a0)), (2, .int l2), (5, .int l5), (6, .int l6), (7, .int l7)] [] G := by
  intro n
  induction n with
  | zero => intro l2 l5 l6 l7 G hwp; exact hwp.elim
  | succ n hr_162 =>
    intro l2 l5 l6 l7 G hwp
    unfold w_M_write_162 at hwp
    dsimp only at hwp
    refine kw_iload (pc := 162) X d_M_write_162 4 rfl ?_
    refine kw_iload (pc := 164) X d_M_write_164 2 rfl ?_
    refine kw_icmp_ge (tgt := 198) (pc := 166) X d_M_write_166 (by decide) (fun h => ?_) (fun h => ?_)
    · have hwp := ite_t h hwp
      refine kw_aload_n (pc := 198) X d_M_write_198 rfl 0 rfl ?_
      refine kw_iload_n (pc := 199) X d_M_write_199 rfl 1 rfl ?_
      refine kw_bipush (v := 18) (pc := 200) X d_M_write_200 (by decide) ?_
      obtain ⟨f1, hwp⟩ := hwp
      refine kcVp_i (n := 2) (As := [.int l2, .int (18 : Int32)]) (rest := []) (pc := 202) X (c_M_at l t G a0 l2 (18 : Int32) _) (cwV_of (C := "TreeServerModel") X x_1111 x_1108 x_1110 xp_41 x_13 (by decide +kernel) ⟨rfl, rfl⟩ (by decide)) (rv_10 X f1) rfl rfl (by decide) d_M_write_202 hwp (fun v2 hwp => ?_)
      refine kw_iload (pc := 205) X d_M_write_205 3 rfl ?_
      refine kw_iload (pc := 207) X d_M_write_207 2 rfl ?_
      refine kw_iadd (pc := 209) X d_M_write_209 ?_
      refine kw_icmp_ge (tgt := 225) (pc := 210) X d_M_write_210 (by decide) (fun h => ?_) (fun h => ?_)
      · have hwp := ite_t h hwp
        exact kW.sub [0, 1, 2] rfl (k_M_write_225 X hret  _ _ _ hwp)
      · have hwp := ite_f h hwp
        refine kw_aload_n (pc := 213) X d_M_write_213 rfl 0 rfl ?_
        refine kw_iload_n (pc := 214) X d_M_write_214 rfl 1 rfl ?_
        refine kw_bipush (v := 18) (pc := 215) X d_M_write_215 (by decide) ?_
        refine kw_iload (pc := 217) X d_M_write_217 3 rfl ?_
        refine kw_iload (pc := 219) X d_M_write_219 2 rfl ?_
        refine kw_iadd (pc := 221) X d_M_write_221 ?_
        refine kcV_v (n := 3) (As := [.int l2, .int (18 : Int32), .int (l6 + l5)]) (rest := []) (pc := 222) X rfl (c_M_set l t G a0 l2 (18 : Int32) (l6 + l5) _) (cwV_of (C := "TreeServerModel") X x_1139 x_1136 x_1138 xp_48 x_13 (by decide +kernel) ⟨rfl, rfl⟩ (by decide)) (rv_10 X f1) rfl rfl (by decide) d_M_write_222 hwp (fun G3 hwp => ?_)
        exact kW.sub [0, 1, 2] rfl (k_M_write_225 X hret  _ _ _ hwp)
    · have hwp := ite_f h hwp
      refine kw_aload_n (pc := 169) X d_M_write_169 rfl 0 rfl ?_
      refine kw_iload_n (pc := 170) X d_M_write_170 rfl 1 rfl ?_
      refine kw_bipush (v := 19) (pc := 171) X d_M_write_171 (by decide) ?_
      refine kw_iload (pc := 173) X d_M_write_173 3 rfl ?_
      refine kw_iadd (pc := 175) X d_M_write_175 ?_
      refine kw_iload (pc := 176) X d_M_write_176 4 rfl ?_
      refine kw_iadd (pc := 178) X d_M_write_178 ?_
      refine kw_aload_n (pc := 179) X d_M_write_179 rfl 0 rfl ?_
      obtain ⟨f4, hwp⟩ := hwp
      refine kg_94 (a := a0) (pc := 180) X d_M_write_180 x_1014 rfl f4 ?_
      refine kw_bipush (v := 23) (pc := 183) X d_M_write_183 (by decide) ?_
      refine kw_iload (pc := 185) X d_M_write_185 4 rfl ?_
      refine kw_iadd (pc := 187) X d_M_write_187 ?_
      obtain ⟨a5, h_a5, hwp⟩ := hwp
      obtain ⟨f6, hwp⟩ := hwp
      obtain ⟨f7, hwp⟩ := hwp
      refine ka_iald (a := a5) (pc := 188) X d_M_write_188 h_a5 f6 f7 ?_
      refine kcV_v (n := 3) (As := [.int l2, .int (((19 : Int32) + l6) + l7), .int (ai G a5 ((23 : Int32) + l7).toNatClampNeg)]) (rest := []) (pc := 189) X rfl (c_M_set l t G a0 l2 (((19 : Int32) + l6) + l7) (ai G a5 ((23 : Int32) + l7).toNatClampNeg) _) (cwV_of (C := "TreeServerModel") X x_1139 x_1136 x_1138 xp_48 x_13 (by decide +kernel) ⟨rfl, rfl⟩ (by decide)) (rv_10 X f4) rfl rfl (by decide) d_M_write_189 hwp (fun G8 hwp => ?_)
      obtain ⟨v9, e_v9⟩ : ∃ z, z = (l7 + (1 : Int32)) := ⟨_, rfl⟩
      have hwp := hwp v9 e_v9
      refine kw_iinc (v := v9) (lv' := [(7, .int v9), (0, va_rf (some a0)), (2, .int l2), (5, .int l5), (6, .int l6)]) (pc := 192) X d_M_write_192 4 rfl (by rw [e_v9]; rfl) (by decide) rfl ?_
      refine kw_goto (tgt := 162) (pc := 195) X d_M_write_195 (by decide) ?_
      exact kW.sub [1, 2, 3, 4, 0] rfl (hr_162 _ _ _ _ _ hwp)
set_option maxRecDepth 100000 in
set_option maxHeartbeats 4000000 in
theorem k_M_write_135 {p : Program} {l : Launch} {e : Env} {s : State} {m : MethodId} {args : Array Value} {below : List Frame} {meth : Method} {c : Code} {t : TY} {a0 : Nat} {K : GS → Prop} (X : kX p s m args meth c b_M_write 8 "TreeServerModel" t) (hret : meth.sig.returnType = none) : ∀ (n : Nat) (l2 : Int32) (l5 : Int32) (l6 : Int32) (l7 : Int32) (G : GS), w_M_write_135 t a0 K n l2 l5 l6 l7 G → kW p l e rm_M_write s m args below meth c (MQ below (va_Qv (fun u : GS => K u) (fun u T => HB t u T.heap) (tA t)) args s 0 0 (tA t)) 8 t false 135 [(0, va_rf (some a0)), (2, .int l2), (5, .int l5), (6, .int l6), (7, .int l7)] [] G := by
  intro n
  induction n with
  | zero => intro l2 l5 l6 l7 G hwp; exact hwp.elim
  | succ n hr_135 =>
    intro l2 l5 l6 l7 G hwp
    unfold w_M_write_135 at hwp
    dsimp only at hwp
    refine kw_iload (pc := 135) X d_M_write_135 4 rfl ?_
    refine kw_iload (pc := 137) X d_M_write_137 3 rfl ?_
    refine kw_icmp_ge (tgt := 159) (pc := 139) X d_M_write_139 (by decide) (fun h => ?_) (fun h => ?_)
    · have hwp := ite_t h hwp
      refine kw_iconst (v := 0) (pc := 159) X d_M_write_159 (by decide) ?_
      refine kw_istore (i := 7) (lv' := [(7, .int (0 : Int32)), (0, va_rf (some a0)), (2, .int l2), (5, .int l5), (6, .int l6)]) (pc := 160) X d_M_write_160 (by decide) rfl ?_
      obtain ⟨n, hwp⟩ := hwp
      exact kW.sub [1, 2, 3, 4, 0] rfl (k_M_write_162 X hret  n _ _ _ _ _ hwp)
    · have hwp := ite_f h hwp
      refine kw_aload_n (pc := 142) X d_M_write_142 rfl 0 rfl ?_
      refine kw_iload_n (pc := 143) X d_M_write_143 rfl 1 rfl ?_
      refine kw_bipush (v := 19) (pc := 144) X d_M_write_144 (by decide) ?_
      refine kw_iload (pc := 146) X d_M_write_146 4 rfl ?_
      refine kw_iadd (pc := 148) X d_M_write_148 ?_
      refine kw_iconst (v := 0) (pc := 149) X d_M_write_149 (by decide) ?_
      obtain ⟨f1, hwp⟩ := hwp
      refine kcV_v (n := 3) (As := [.int l2, .int ((19 : Int32) + l7), .int (0 : Int32)]) (rest := []) (pc := 150) X rfl (c_M_set l t G a0 l2 ((19 : Int32) + l7) (0 : Int32) _) (cwV_of (C := "TreeServerModel") X x_1139 x_1136 x_1138 xp_48 x_13 (by decide +kernel) ⟨rfl, rfl⟩ (by decide)) (rv_10 X f1) rfl rfl (by decide) d_M_write_150 hwp (fun G2 hwp => ?_)
      obtain ⟨v3, e_v3⟩ : ∃ z, z = (l7 + (1 : Int32)) := ⟨_, rfl⟩
      have hwp := hwp v3 e_v3
      refine kw_iinc (v := v3) (lv' := [(7, .int v3), (0, va_rf (some a0)), (2, .int l2), (5, .int l5), (6, .int l6)]) (pc := 153) X d_M_write_153 4 rfl (by rw [e_v3]; rfl) (by decide) rfl ?_
      refine kw_goto (tgt := 135) (pc := 156) X d_M_write_156 (by decide) ?_
      exact kW.sub [1, 2, 3, 4, 0] rfl (hr_135 _ _ _ _ _ hwp)
set_option maxRecDepth 100000 in
set_option maxHeartbeats 4000000 in
theorem k_M_write_103 {p : Program} {l : Launch} {e : Env} {s : State} {m : MethodId} {args : Array Value} {below : List Frame} {meth : Method} {c : Code} {t : TY} {a0 : Nat} {K : GS → Prop} (X : kX p s m args meth c b_M_write 8 "TreeServerModel" t) (hret : meth.sig.returnType = none) (l2 : Int32) (l3 : Int64) (l5 : Int32) (G : GS) (hwp : w_M_write_103 t a0 K l2 l3 l5 G) : kW p l e rm_M_write s m args below meth c (MQ below (va_Qv (fun u : GS => K u) (fun u T => HB t u T.heap) (tA t)) args s 0 0 (tA t)) 8 t false 103 [(0, va_rf (some a0)), (2, .int l2), (3, .long l3), (5, .int l5)] [] G := by
  unfold w_M_write_103 at hwp
  refine kw_aload_n (pc := 103) X d_M_write_103 rfl 0 rfl ?_
  obtain ⟨f1, hwp⟩ := hwp
  refine kg_98 (a := a0) (pc := 104) X d_M_write_104 x_1018 rfl f1 ?_
  refine kw_lconst (v := 0) (pc := 107) X d_M_write_107 (by decide) ?_
  refine kw_lcmp_eq (tgt := 113) (pc := 108) X d_M_write_108 d_M_write_109 (by decide) (fun h => ?_) (fun h => ?_)
  · have hwp := ite_t h hwp
    refine kw_iload (pc := 113) X d_M_write_113 3 rfl ?_
    refine kw_if_le (tgt := 267) (pc := 115) X d_M_write_115 (by decide) (fun h => ?_) (fun h => ?_)
    · have hwp := ite_t h hwp
      exact kW.sub [0, 3] rfl (k_M_write_267 X hret  _ _ hwp)
    · have hwp := ite_f h hwp
      refine kw_aload_n (pc := 118) X d_M_write_118 rfl 0 rfl ?_
      refine kcV_v (n := 0) (As := []) (rest := []) (pc := 119) X rfl (c_M_begin l t G a0 _) (cwV_of (C := "TreeServerModel") X x_1131 x_1128 x_1130 xp_46 x_13 (by decide +kernel) ⟨rfl, rfl⟩ (by decide)) (rv_10 X f1) rfl rfl (by decide) d_M_write_119 hwp (fun G2 hwp => ?_)
      refine kw_lload_n (pc := 122) X d_M_write_122 rfl 2 rfl ?_
      refine kw_l2i (pc := 123) X d_M_write_123 ?_
      obtain ⟨v3, e_v3⟩ : ∃ z, z = l3.toInt32 := ⟨_, rfl⟩
      have hwp := hwp v3 e_v3
      refine kW.st (st' := .int v3 :: _) (by rw [e_v3]) ?_
      refine kw_istore (i := 6) (lv' := [(6, .int v3), (0, va_rf (some a0)), (2, .int l2), (3, .long l3), (5, .int l5)]) (pc := 124) X d_M_write_124 (by decide) rfl ?_
      refine kw_aload_n (pc := 126) X d_M_write_126 rfl 1 rfl ?_
      refine kw_iload_n (pc := 127) X d_M_write_127 rfl 2 rfl ?_
      refine kw_bipush (v := 18) (pc := 128) X d_M_write_128 (by decide) ?_
      refine kcVp_i (n := 2) (As := [.int l2, .int (18 : Int32)]) (rest := []) (pc := 130) X (c_M_at l t G2 a0 l2 (18 : Int32) _) (cwV_of (C := "TreeServerModel") X x_1111 x_1108 x_1110 xp_41 x_13 (by decide +kernel) ⟨rfl, rfl⟩ (by decide)) (rv_10 X f1) rfl rfl (by decide) d_M_write_130 hwp (fun v4 hwp => ?_)
      refine kw_istore (i := 7) (lv' := [(7, .int v4), (6, .int v3), (0, va_rf (some a0)), (2, .int l2), (3, .long l3), (5, .int l5)]) (pc := 133) X d_M_write_133 (by decide) rfl ?_
      obtain ⟨n, hwp⟩ := hwp
      exact kW.sub [2, 3, 5, 1, 0] rfl (k_M_write_135 X hret  n _ _ _ _ _ hwp)
  · have hwp := ite_f h hwp
    exact kr_v (pc := 112) X hret d_M_write_112 hwp
set_option maxRecDepth 100000 in
set_option maxHeartbeats 4000000 in
theorem k_M_write_96 {p : Program} {l : Launch} {e : Env} {s : State} {m : MethodId} {args : Array Value} {below : List Frame} {meth : Method} {c : Code} {t : TY} {a0 : Nat} {K : GS → Prop} (X : kX p s m args meth c b_M_write 8 "TreeServerModel" t) (hret : meth.sig.returnType = none) (l2 : Int32) (l3 : Int64) (l5 : Int32) (G : GS) (hwp : w_M_write_96 t a0 K l2 l3 l5 G) : kW p l e rm_M_write s m args below meth c (MQ below (va_Qv (fun u : GS => K u) (fun u T => HB t u T.heap) (tA t)) args s 0 0 (tA t)) 8 t false 96 [(0, va_rf (some a0)), (2, .int l2), (3, .long l3), (5, .int l5)] [] G := by
  unfold w_M_write_96 at hwp
  refine kw_aload_n (pc := 96) X d_M_write_96 rfl 0 rfl ?_
  refine kw_ldc2 (v := 1819047270) (pc := 97) X d_M_write_97 x_1307 ?_
  obtain ⟨f1, hwp⟩ := hwp
  refine kp_98 (a := a0) (x := (1819047270 : Int64)) (pc := 100) X rfl d_M_write_100 x_1018 rfl f1 ?_
  obtain ⟨G2, e_G2⟩ : ∃ g, g = sl G 98 a0 (1819047270 : Int64) := ⟨_, rfl⟩
  have hwp := hwp G2 e_G2
  refine kW.g e_G2.symm ?_
  exact kW.sub [0, 1, 2, 3] rfl (k_M_write_103 X hret  _ _ _ _ hwp)
set_option maxRecDepth 100000 in
set_option maxHeartbeats 4000000 in
theorem k_M_write_73 {p : Program} {l : Launch} {e : Env} {s : State} {m : MethodId} {args : Array Value} {below : List Frame} {meth : Method} {c : Code} {t : TY} {a0 : Nat} {K : GS → Prop} (X : kX p s m args meth c b_M_write 8 "TreeServerModel" t) (hret : meth.sig.returnType = none) (l2 : Int32) (l3 : Int64) (l5 : Int32) (G : GS) (hwp : w_M_write_73 t a0 K l2 l3 l5 G) : kW p l e rm_M_write s m args below meth c (MQ below (va_Qv (fun u : GS => K u) (fun u T => HB t u T.heap) (tA t)) args s 0 0 (tA t)) 8 t false 73 [(0, va_rf (some a0)), (2, .int l2), (3, .long l3), (5, .int l5)] [] G := by
  unfold w_M_write_73 at hwp
  refine kw_iload (pc := 73) X d_M_write_73 3 rfl ?_
  refine kw_if_le (tgt := 103) (pc := 75) X d_M_write_75 (by decide) (fun h => ?_) (fun h => ?_)
  · have hwp := ite_t h hwp
    exact kW.sub [0, 1, 2, 3] rfl (k_M_write_103 X hret  _ _ _ _ hwp)
  · have hwp := ite_f h hwp
    refine kw_lload_n (pc := 78) X d_M_write_78 rfl 2 rfl ?_
    refine kw_lconst (v := 0) (pc := 79) X d_M_write_79 (by decide) ?_
    refine kw_lcmp_lt (tgt := 96) (pc := 80) X d_M_write_80 d_M_write_81 (by decide) (fun h => ?_) (fun h => ?_)
    · have hwp := ite_t h hwp
      exact kW.sub [0, 1, 2, 3] rfl (k_M_write_96 X hret  _ _ _ _ hwp)
    · have hwp := ite_f h hwp
      refine kw_lload_n (pc := 84) X d_M_write_84 rfl 2 rfl ?_
      refine kw_ldc2 (v := 64) (pc := 85) X d_M_write_85 x_1337 ?_
      refine kw_iload (pc := 88) X d_M_write_88 3 rfl ?_
      refine kw_i2l (pc := 90) X d_M_write_90 ?_
      refine kw_lsub (pc := 91) X d_M_write_91 ?_
      refine kw_lcmp_le (tgt := 103) (pc := 92) X d_M_write_92 d_M_write_93 (by decide) (fun h => ?_) (fun h => ?_)
      · have hwp := ite_t h hwp
        exact kW.sub [0, 1, 2, 3] rfl (k_M_write_103 X hret  _ _ _ _ hwp)
      · have hwp := ite_f h hwp
        exact kW.sub [0, 1, 2, 3] rfl (k_M_write_96 X hret  _ _ _ _ hwp)
set_option maxRecDepth 100000 in
set_option maxHeartbeats 4000000 in
theorem k_M_write_32 {p : Program} {l : Launch} {e : Env} {s : State} {m : MethodId} {args : Array Value} {below : List Frame} {meth : Method} {c : Code} {t : TY} {a0 : Nat} {K : GS → Prop} (X : kX p s m args meth c b_M_write 8 "TreeServerModel" t) (hret : meth.sig.returnType = none) (l1 : Int32) (l2 : Int32) (s0 : Int64) (G : GS) (hwp : w_M_write_32 t a0 K l1 l2 s0 G) : kW p l e rm_M_write s m args below meth c (MQ below (va_Qv (fun u : GS => K u) (fun u T => HB t u T.heap) (tA t)) args s 0 0 (tA t)) 8 t false 32 [(0, va_rf (some a0)), (1, .int l1), (2, .int l2)] [.long s0] G := by
  unfold w_M_write_32 at hwp
  refine kw_lstore_n (i := 3) (lv' := [(3, .long s0), (0, va_rf (some a0)), (1, .int l1), (2, .int l2)]) (pc := 32) X d_M_write_32 rfl (by decide) rfl ?_
  refine kw_aload_n (pc := 33) X d_M_write_33 rfl 1 rfl ?_
  refine kw_bipush (v := 19) (pc := 34) X d_M_write_34 (by decide) ?_
  refine kw_iconst (v := 4) (pc := 36) X d_M_write_36 (by decide) ?_
  obtain ⟨f1, hwp⟩ := hwp
  refine kcVp_l (n := 2) (As := [.int (19 : Int32), .int (4 : Int32)]) (rest := []) (pc := 37) X (c_M_get l t G a0 (19 : Int32) (4 : Int32) _) (cwV_of (C := "TreeServerModel") X x_1175 x_1172 x_1174 xp_56 x_13 (by decide +kernel) ⟨rfl, rfl⟩ (by decide)) (rv_10 X f1) rfl rfl (by decide) d_M_write_37 hwp (fun v2 hwp => ?_)
  refine kw_l2i (pc := 40) X d_M_write_40 ?_
  obtain ⟨v3, e_v3⟩ : ∃ z, z = v2.toInt32 := ⟨_, rfl⟩
  have hwp := hwp v3 e_v3
  refine kW.st (st' := .int v3 :: _) (by rw [e_v3]) ?_
  refine kw_istore (i := 5) (lv' := [(5, .int v3), (3, .long s0), (0, va_rf (some a0)), (1, .int l1), (2, .int l2)]) (pc := 41) X d_M_write_41 (by decide) rfl ?_
  refine kw_aload_n (pc := 43) X d_M_write_43 rfl 2 rfl ?_
  refine kg_90 (a := a0) (pc := 44) X d_M_write_44 x_1010 rfl f1 ?_
  refine kw_iload_n (pc := 47) X d_M_write_47 rfl 3 rfl ?_
  obtain ⟨a4, h_a4, hwp⟩ := hwp
  obtain ⟨f5, hwp⟩ := hwp
  obtain ⟨f6, hwp⟩ := hwp
  refine ka_iald (a := a4) (pc := 48) X d_M_write_48 h_a4 f5 f6 ?_
  refine kw_iconst (v := 1) (pc := 49) X d_M_write_49 (by decide) ?_
  refine kw_icmp_eq (tgt := 73) (pc := 50) X d_M_write_50 (by decide) (fun h => ?_) (fun h => ?_)
  · have hwp := ite_t h hwp
    exact kW.sub [2, 4, 1, 0] rfl (k_M_write_73 X hret  _ _ _ _ hwp)
  · have hwp := ite_f h hwp
    refine kw_aload_n (pc := 53) X d_M_write_53 rfl 2 rfl ?_
    refine kg_90 (a := a0) (pc := 54) X d_M_write_54 x_1010 rfl f1 ?_
    refine kw_iload_n (pc := 57) X d_M_write_57 rfl 3 rfl ?_
    refine ka_iald (a := a4) (pc := 58) X d_M_write_58 h_a4 f5 f6 ?_
    refine kw_iconst (v := 2) (pc := 59) X d_M_write_59 (by decide) ?_
    refine kw_icmp_eq (tgt := 73) (pc := 60) X d_M_write_60 (by decide) (fun h => ?_) (fun h => ?_)
    · have hwp := ite_t h hwp
      exact kW.sub [2, 4, 1, 0] rfl (k_M_write_73 X hret  _ _ _ _ hwp)
    · have hwp := ite_f h hwp
      refine kw_aload_n (pc := 63) X d_M_write_63 rfl 2 rfl ?_
      refine kw_ldc2 (v := 1852141679) (pc := 64) X d_M_write_64 x_1260 ?_
      refine kp_98 (a := a0) (x := (1852141679 : Int64)) (pc := 67) X rfl d_M_write_67 x_1018 rfl f1 ?_
      obtain ⟨G7, e_G7⟩ : ∃ g, g = sl G 98 a0 (1852141679 : Int64) := ⟨_, rfl⟩
      have hwp := hwp G7 e_G7
      refine kW.g e_G7.symm ?_
      refine kw_goto (tgt := 103) (pc := 70) X d_M_write_70 (by decide) ?_
      exact kW.sub [2, 4, 1, 0] rfl (k_M_write_103 X hret  _ _ _ _ hwp)
set_option maxRecDepth 100000 in
set_option maxHeartbeats 4000000 in
theorem k_M_write {p : Program} {l : Launch} {e : Env} {s : State} {m : MethodId} {args : Array Value} {below : List Frame} {meth : Method} {c : Code} {t : TY} {a0 : Nat} {K : GS → Prop} (X : kX p s m args meth c b_M_write 8 "TreeServerModel" t) (hret : meth.sig.returnType = none) (G : GS) (p1 : Int32) (p2 : Int32) (hwp : w_M_write t G a0 p1 p2 K) : kW p l e rm_M_write s m args below meth c (MQ below (va_Qv (fun u : GS => K u) (fun u T => HB t u T.heap) (tA t)) args s 0 0 (tA t)) 8 t false 0 [(0, va_rf (some a0)), (1, .int p1), (2, .int p2)] [] G := by
  unfold w_M_write at hwp
  refine kw_aload_n (pc := 0) X d_M_write_0 rfl 0 rfl ?_
  refine kw_iload_n (pc := 1) X d_M_write_1 rfl 2 rfl ?_
  refine kw_iconst (v := 3) (pc := 2) X d_M_write_2 (by decide) ?_
  obtain ⟨f1, hwp⟩ := hwp
  refine kcVp_i (n := 2) (As := [.int p2, .int (3 : Int32)]) (rest := []) (pc := 3) X (c_M_at l t G a0 p2 (3 : Int32) _) (cwV_of (C := "TreeServerModel") X x_1111 x_1108 x_1110 xp_41 x_13 (by decide +kernel) ⟨rfl, rfl⟩ (by decide)) (rv_10 X f1) rfl rfl (by decide) d_M_write_3 hwp (fun v2 hwp => ?_)
  refine kw_ldcw (v := 1073741824) (pc := 6) X d_M_write_6 x_1279 ?_
  refine kw_iand (pc := 9) X d_M_write_9 ?_
  refine kw_if_eq (tgt := 24) (pc := 10) X d_M_write_10 (by decide) (fun h => ?_) (fun h => ?_)
  · have hwp := ite_t h hwp
    refine kw_aload_n (pc := 24) X d_M_write_24 rfl 0 rfl ?_
    refine kw_bipush (v := 11) (pc := 25) X d_M_write_25 (by decide) ?_
    refine kw_bipush (v := 8) (pc := 27) X d_M_write_27 (by decide) ?_
    refine kcVp_l (n := 2) (As := [.int (11 : Int32), .int (8 : Int32)]) (rest := []) (pc := 29) X (c_M_get l t G a0 (11 : Int32) (8 : Int32) _) (cwV_of (C := "TreeServerModel") X x_1175 x_1172 x_1174 xp_56 x_13 (by decide +kernel) ⟨rfl, rfl⟩ (by decide)) (rv_10 X f1) rfl rfl (by decide) d_M_write_29 hwp (fun v3 hwp => ?_)
    exact kW.sub [0, 1, 2] rfl (k_M_write_32 X hret  _ _ _ _ hwp)
  · have hwp := ite_f h hwp
    refine kw_aload_n (pc := 13) X d_M_write_13 rfl 0 rfl ?_
    refine kw_iload_n (pc := 14) X d_M_write_14 rfl 2 rfl ?_
    refine kw_bipush (v := 18) (pc := 15) X d_M_write_15 (by decide) ?_
    refine kcVp_i (n := 2) (As := [.int p2, .int (18 : Int32)]) (rest := []) (pc := 17) X (c_M_at l t G a0 p2 (18 : Int32) _) (cwV_of (C := "TreeServerModel") X x_1111 x_1108 x_1110 xp_41 x_13 (by decide +kernel) ⟨rfl, rfl⟩ (by decide)) (rv_10 X f1) rfl rfl (by decide) d_M_write_17 hwp (fun v4 hwp => ?_)
    refine kw_i2l (pc := 20) X d_M_write_20 ?_
    refine kw_goto (tgt := 32) (pc := 21) X d_M_write_21 (by decide) ?_
    exact kW.sub [0, 1, 2] rfl (k_M_write_32 X hret  _ _ _ _ hwp)
set_option maxRecDepth 100000 in
set_option maxHeartbeats 4000000 in
theorem c_M_write (l : Launch) (t : TY) (G : GS) (a0 : Nat) (p1 : Int32) (p2 : Int32) (K : GS → Prop) : Met l y_M_write (Cond.code y_M_write b_M_write 8 (Option.none : Option Jvm.ClassFile.FieldType) :: GW) rm_M_write (va_Pc [.ref a0, .int p1, .int p2] (fun U => HB t G U.heap ∧ HK t U ∧ w_M_write t G a0 p1 p2 K)) (va_Qv (fun u : GS => K u) (fun u T => HB t u T.heap) (tA t)) 0 0 (tA t) := by
  refine Met.ofW (cc := b_M_write) (maxL := 8) (ret := none) (by decide) rfl ?_
  intro p e s m args below meth c s₁ B hml hv
  obtain ⟨rfl, hB, hK, hwp⟩ := hv
  have hts := atoms_spec (ws := Cond.code y_M_write b_M_write 8 (Option.none : Option Jvm.ClassFile.FieldType) :: GW) B.pre
  have X : kX p s m _ meth c b_M_write 8 "TreeServerModel" t := ⟨B.exec, B.bytes, hml, findClass_of_methodNamed B.named, fun w h => hts w (List.mem_cons_of_mem _ h), B.notSynchronized, hK⟩
  have hZ : kZ t false s G s.heap [] := ⟨hB, va_S.rf, fun _ => ⟨rfl, rfl⟩⟩
  rw [lg_entry_eq]
  have hl := lv_entry ([.ref a0, .int p1, .int p2]) (n := 8) (by simp [lg_sl, rf_cat, cat_i, cat_l, cat_r])
  exact k_M_write X B.returns _ _ _ hwp s.heap [] _ hl hZ
