theorem d_M_make_0 : decode b_M_make 0 = .ok (.aload_n 0, 1) := by decide +kernel
theorem d_M_make_1 : decode b_M_make 1 = .ok (.invokevirtual 89, 3) := by decide +kernel
theorem d_M_make_4 : decode b_M_make 4 = .ok (.istore_n 2, 1) := by decide +kernel
theorem d_M_make_5 : decode b_M_make 5 = .ok (.aload_n 0, 1) := by decide +kernel
theorem d_M_make_6 : decode b_M_make 6 = .ok (.getfield 69, 3) := by decide +kernel
theorem d_M_make_9 : decode b_M_make 9 = .ok (.iload_n 2, 1) := by decide +kernel
theorem d_M_make_10 : decode b_M_make 10 = .ok (.iadd, 1) := by decide +kernel
theorem d_M_make_11 : decode b_M_make 11 = .ok (.istore_n 3, 1) := by decide +kernel
theorem d_M_make_12 : decode b_M_make 12 = .ok (.aload_n 0, 1) := by decide +kernel
theorem d_M_make_13 : decode b_M_make 13 = .ok (.invokevirtual 93, 3) := by decide +kernel
theorem d_M_make_16 : decode b_M_make 16 = .ok (.istore 4, 2) := by decide +kernel
theorem d_M_make_18 : decode b_M_make 18 = .ok (.iload_n 3, 1) := by decide +kernel
theorem d_M_make_19 : decode b_M_make 19 = .ok (.sipush (-16382), 3) := by decide +kernel
theorem d_M_make_22 : decode b_M_make 22 = .ok (.if_icmp .ge 7, 3) := by decide +kernel
theorem d_M_make_29 : decode b_M_make 29 = .ok (.iconst 0, 1) := by decide +kernel
theorem d_M_make_25 : decode b_M_make 25 = .ok (.iconst 1, 1) := by decide +kernel
theorem d_M_make_26 : decode b_M_make 26 = .ok (.goto 4, 3) := by decide +kernel
theorem d_M_make_30 : decode b_M_make 30 = .ok (.istore 5, 2) := by decide +kernel
theorem d_M_make_32 : decode b_M_make 32 = .ok (.iload 5, 2) := by decide +kernel
theorem d_M_make_34 : decode b_M_make 34 = .ok (.ifCond .eq 70, 3) := by decide +kernel
theorem d_M_make_104 : decode b_M_make 104 = .ok (.iload_n 3, 1) := by decide +kernel
theorem d_M_make_105 : decode b_M_make 105 = .ok (.iconst 1, 1) := by decide +kernel
theorem d_M_make_106 : decode b_M_make 106 = .ok (.iadd, 1) := by decide +kernel
theorem d_M_make_107 : decode b_M_make 107 = .ok (.iload 4, 2) := by decide +kernel
theorem d_M_make_109 : decode b_M_make 109 = .ok (.isub, 1) := by decide +kernel
theorem d_M_make_110 : decode b_M_make 110 = .ok (.istore 6, 2) := by decide +kernel
theorem d_M_make_112 : decode b_M_make 112 = .ok (.aload_n 0, 1) := by decide +kernel
theorem d_M_make_113 : decode b_M_make 113 = .ok (.iload 6, 2) := by decide +kernel
theorem d_M_make_115 : decode b_M_make 115 = .ok (.iload_n 1, 1) := by decide +kernel
theorem d_M_make_116 : decode b_M_make 116 = .ok (.invokevirtual 96, 3) := by decide +kernel
theorem d_M_make_119 : decode b_M_make 119 = .ok (.lstore 7, 2) := by decide +kernel
theorem d_M_make_121 : decode b_M_make 121 = .ok (.iload 4, 2) := by decide +kernel
theorem d_M_make_123 : decode b_M_make 123 = .ok (.bipush 64, 2) := by decide +kernel
theorem d_M_make_125 : decode b_M_make 125 = .ok (.if_icmp .ne 14, 3) := by decide +kernel
theorem d_M_make_139 : decode b_M_make 139 = .ok (.iconst 0, 1) := by decide +kernel
theorem d_M_make_128 : decode b_M_make 128 = .ok (.lload 7, 2) := by decide +kernel
theorem d_M_make_130 : decode b_M_make 130 = .ok (.lconst 0, 1) := by decide +kernel
theorem d_M_make_131 : decode b_M_make 131 = .ok (.lcmp, 1) := by decide +kernel
theorem d_M_make_132 : decode b_M_make 132 = .ok (.ifCond .ne 7, 3) := by decide +kernel
theorem d_M_make_135 : decode b_M_make 135 = .ok (.iconst 1, 1) := by decide +kernel
theorem d_M_make_136 : decode b_M_make 136 = .ok (.goto 4, 3) := by decide +kernel
theorem d_M_make_140 : decode b_M_make 140 = .ok (.istore 9, 2) := by decide +kernel
theorem d_M_make_142 : decode b_M_make 142 = .ok (.iload 9, 2) := by decide +kernel
theorem d_M_make_144 : decode b_M_make 144 = .ok (.ifCond .ne 20, 3) := by decide +kernel
theorem d_M_make_164 : decode b_M_make 164 = .ok (.iconst 1, 1) := by decide +kernel
theorem d_M_make_165 : decode b_M_make 165 = .ok (.goto 4, 3) := by decide +kernel
theorem d_M_make_147 : decode b_M_make 147 = .ok (.iload 4, 2) := by decide +kernel
theorem d_M_make_149 : decode b_M_make 149 = .ok (.bipush 64, 2) := by decide +kernel
theorem d_M_make_151 : decode b_M_make 151 = .ok (.if_icmp .ge 17, 3) := by decide +kernel
theorem d_M_make_168 : decode b_M_make 168 = .ok (.iconst 0, 1) := by decide +kernel
theorem d_M_make_154 : decode b_M_make 154 = .ok (.lload 7, 2) := by decide +kernel
theorem d_M_make_156 : decode b_M_make 156 = .ok (.iload 4, 2) := by decide +kernel
theorem d_M_make_158 : decode b_M_make 158 = .ok (.lshr, 1) := by decide +kernel
theorem d_M_make_159 : decode b_M_make 159 = .ok (.lconst 0, 1) := by decide +kernel
theorem d_M_make_160 : decode b_M_make 160 = .ok (.lcmp, 1) := by decide +kernel
theorem d_M_make_161 : decode b_M_make 161 = .ok (.ifCond .eq 7, 3) := by decide +kernel
theorem d_M_make_169 : decode b_M_make 169 = .ok (.istore 10, 2) := by decide +kernel
theorem d_M_make_171 : decode b_M_make 171 = .ok (.aload_n 0, 1) := by decide +kernel
theorem d_M_make_172 : decode b_M_make 172 = .ok (.aload_n 0, 1) := by decide +kernel
theorem d_M_make_173 : decode b_M_make 173 = .ok (.getfield 80, 3) := by decide +kernel
theorem d_M_make_176 : decode b_M_make 176 = .ok (.ifCond .eq 13, 3) := by decide +kernel
theorem d_M_make_189 : decode b_M_make 189 = .ok (.aload_n 0, 1) := by decide +kernel
theorem d_M_make_190 : decode b_M_make 190 = .ok (.getfield 48, 3) := by decide +kernel
theorem d_M_make_179 : decode b_M_make 179 = .ok (.aload_n 0, 1) := by decide +kernel
theorem d_M_make_180 : decode b_M_make 180 = .ok (.getfield 48, 3) := by decide +kernel
theorem d_M_make_183 : decode b_M_make 183 = .ok (.bipush 32, 2) := by decide +kernel
theorem d_M_make_185 : decode b_M_make 185 = .ok (.iadd, 1) := by decide +kernel
theorem d_M_make_186 : decode b_M_make 186 = .ok (.goto 7, 3) := by decide +kernel
theorem d_M_make_193 : decode b_M_make 193 = .ok (.putfield 48, 3) := by decide +kernel
theorem d_M_make_196 : decode b_M_make 196 = .ok (.iload 5, 2) := by decide +kernel
theorem d_M_make_198 : decode b_M_make 198 = .ok (.ifCond .eq 31, 3) := by decide +kernel
theorem d_M_make_229 : decode b_M_make 229 = .ok (.iload_n 3, 1) := by decide +kernel
theorem d_M_make_230 : decode b_M_make 230 = .ok (.iload 10, 2) := by decide +kernel
theorem d_M_make_232 : decode b_M_make 232 = .ok (.ifCond .eq 7, 3) := by decide +kernel
theorem d_M_make_239 : decode b_M_make 239 = .ok (.iconst 0, 1) := by decide +kernel
theorem d_M_make_235 : decode b_M_make 235 = .ok (.iconst 1, 1) := by decide +kernel
theorem d_M_make_236 : decode b_M_make 236 = .ok (.goto 4, 3) := by decide +kernel
theorem d_M_make_240 : decode b_M_make 240 = .ok (.iadd, 1) := by decide +kernel
theorem d_M_make_241 : decode b_M_make 241 = .ok (.sipush 16384, 3) := by decide +kernel
theorem d_M_make_244 : decode b_M_make 244 = .ok (.if_icmp .ge 18, 3) := by decide +kernel
theorem d_M_make_262 : decode b_M_make 262 = .ok (.aload_n 0, 1) := by decide +kernel
theorem d_M_make_263 : decode b_M_make 263 = .ok (.getfield 7, 3) := by decide +kernel
theorem d_M_make_266 : decode b_M_make 266 = .ok (.bipush 8, 2) := by decide +kernel
theorem d_M_make_268 : decode b_M_make 268 = .ok (.iand, 1) := by decide +kernel
theorem d_M_make_269 : decode b_M_make 269 = .ok (.ifCond .ne 31, 3) := by decide +kernel
theorem d_M_make_300 : decode b_M_make 300 = .ok (.aload_n 0, 1) := by decide +kernel
theorem d_M_make_301 : decode b_M_make 301 = .ok (.aload_n 0, 1) := by decide +kernel
theorem d_M_make_302 : decode b_M_make 302 = .ok (.getfield 48, 3) := by decide +kernel
theorem d_M_make_305 : decode b_M_make 305 = .ok (.bipush 8, 2) := by decide +kernel
theorem d_M_make_307 : decode b_M_make 307 = .ok (.iadd, 1) := by decide +kernel
theorem d_M_make_308 : decode b_M_make 308 = .ok (.aload_n 0, 1) := by decide +kernel
theorem d_M_make_309 : decode b_M_make 309 = .ok (.getfield 80, 3) := by decide +kernel
theorem d_M_make_312 : decode b_M_make 312 = .ok (.ifCond .eq 7, 3) := by decide +kernel
theorem d_M_make_319 : decode b_M_make 319 = .ok (.bipush 32, 2) := by decide +kernel
theorem d_M_make_315 : decode b_M_make 315 = .ok (.iconst 0, 1) := by decide +kernel
theorem d_M_make_316 : decode b_M_make 316 = .ok (.goto 5, 3) := by decide +kernel
theorem d_M_make_321 : decode b_M_make 321 = .ok (.iadd, 1) := by decide +kernel
theorem d_M_make_322 : decode b_M_make 322 = .ok (.putfield 48, 3) := by decide +kernel
theorem d_M_make_325 : decode b_M_make 325 = .ok (.aload_n 0, 1) := by decide +kernel
theorem d_M_make_326 : decode b_M_make 326 = .ok (.getfield 7, 3) := by decide +kernel
theorem d_M_make_329 : decode b_M_make 329 = .ok (.sipush 1024, 3) := by decide +kernel
theorem d_M_make_332 : decode b_M_make 332 = .ok (.idiv, 1) := by decide +kernel
theorem d_M_make_333 : decode b_M_make 333 = .ok (.iconst 4, 1) := by decide +kernel
theorem d_M_make_334 : decode b_M_make 334 = .ok (.irem, 1) := by decide +kernel
theorem d_M_make_335 : decode b_M_make 335 = .ok (.istore 11, 2) := by decide +kernel
theorem d_M_make_337 : decode b_M_make 337 = .ok (.iload 11, 2) := by decide +kernel
theorem d_M_make_339 : decode b_M_make 339 = .ok (.ifCond .eq 17, 3) := by decide +kernel
theorem d_M_make_356 : decode b_M_make 356 = .ok (.iconst 1, 1) := by decide +kernel
theorem d_M_make_357 : decode b_M_make 357 = .ok (.goto 4, 3) := by decide +kernel
theorem d_M_make_342 : decode b_M_make 342 = .ok (.iload 11, 2) := by decide +kernel
theorem d_M_make_344 : decode b_M_make 344 = .ok (.iload_n 1, 1) := by decide +kernel
theorem d_M_make_345 : decode b_M_make 345 = .ok (.ifCond .eq 7, 3) := by decide +kernel
theorem d_M_make_352 : decode b_M_make 352 = .ok (.iconst 2, 1) := by decide +kernel
theorem d_M_make_348 : decode b_M_make 348 = .ok (.iconst 1, 1) := by decide +kernel
theorem d_M_make_349 : decode b_M_make 349 = .ok (.goto 4, 3) := by decide +kernel
theorem d_M_make_353 : decode b_M_make 353 = .ok (.if_icmp .ne 7, 3) := by decide +kernel
theorem d_M_make_360 : decode b_M_make 360 = .ok (.iconst 0, 1) := by decide +kernel
theorem d_M_make_361 : decode b_M_make 361 = .ok (.istore 12, 2) := by decide +kernel
theorem d_M_make_363 : decode b_M_make 363 = .ok (.iload 12, 2) := by decide +kernel
theorem d_M_make_365 : decode b_M_make 365 = .ok (.ifCond .eq 17, 3) := by decide +kernel
theorem d_M_make_382 : decode b_M_make 382 = .ok (.aload_n 0, 1) := by decide +kernel
theorem d_M_make_383 : decode b_M_make 383 = .ok (.iload_n 1, 1) := by decide +kernel
theorem d_M_make_384 : decode b_M_make 384 = .ok (.sipush 32766, 3) := by decide +kernel
theorem d_M_make_387 : decode b_M_make 387 = .ok (.ldc2_w 104, 3) := by decide +kernel
theorem d_M_make_390 : decode b_M_make 390 = .ok (.bipush 64, 2) := by decide +kernel
theorem d_M_make_392 : decode b_M_make 392 = .ok (.iload 4, 2) := by decide +kernel
theorem d_M_make_394 : decode b_M_make 394 = .ok (.isub, 1) := by decide +kernel
theorem d_M_make_395 : decode b_M_make 395 = .ok (.lshl, 1) := by decide +kernel
theorem d_M_make_396 : decode b_M_make 396 = .ok (.invokevirtual 83, 3) := by decide +kernel
theorem d_M_make_399 : decode b_M_make 399 = .ok (.return_, 1) := by decide +kernel
theorem d_M_make_368 : decode b_M_make 368 = .ok (.aload_n 0, 1) := by decide +kernel
theorem d_M_make_369 : decode b_M_make 369 = .ok (.iload_n 1, 1) := by decide +kernel
theorem d_M_make_370 : decode b_M_make 370 = .ok (.sipush 32767, 3) := by decide +kernel
theorem d_M_make_373 : decode b_M_make 373 = .ok (.ldc2_w 87, 3) := by decide +kernel
theorem d_M_make_376 : decode b_M_make 376 = .ok (.invokevirtual 83, 3) := by decide +kernel
theorem d_M_make_379 : decode b_M_make 379 = .ok (.goto 20, 3) := by decide +kernel
theorem d_M_make_272 : decode b_M_make 272 = .ok (.aload_n 0, 1) := by decide +kernel
theorem d_M_make_273 : decode b_M_make 273 = .ok (.aload_n 0, 1) := by decide +kernel
theorem d_M_make_274 : decode b_M_make 274 = .ok (.getfield 48, 3) := by decide +kernel
theorem d_M_make_277 : decode b_M_make 277 = .ok (.bipush 8, 2) := by decide +kernel
theorem d_M_make_279 : decode b_M_make 279 = .ok (.iadd, 1) := by decide +kernel
theorem d_M_make_280 : decode b_M_make 280 = .ok (.putfield 48, 3) := by decide +kernel
theorem d_M_make_283 : decode b_M_make 283 = .ok (.aload_n 0, 1) := by decide +kernel
theorem d_M_make_284 : decode b_M_make 284 = .ok (.iload_n 1, 1) := by decide +kernel
theorem d_M_make_285 : decode b_M_make 285 = .ok (.lload 7, 2) := by decide +kernel
theorem d_M_make_287 : decode b_M_make 287 = .ok (.iload 9, 2) := by decide +kernel
theorem d_M_make_289 : decode b_M_make 289 = .ok (.iload 6, 2) := by decide +kernel
theorem d_M_make_291 : decode b_M_make 291 = .ok (.sipush (-24576), 3) := by decide +kernel
theorem d_M_make_294 : decode b_M_make 294 = .ok (.invokevirtual 100, 3) := by decide +kernel
theorem d_M_make_297 : decode b_M_make 297 = .ok (.goto 102, 3) := by decide +kernel
theorem d_M_make_247 : decode b_M_make 247 = .ok (.aload_n 0, 1) := by decide +kernel
theorem d_M_make_248 : decode b_M_make 248 = .ok (.iload_n 1, 1) := by decide +kernel
theorem d_M_make_249 : decode b_M_make 249 = .ok (.lload 7, 2) := by decide +kernel
theorem d_M_make_251 : decode b_M_make 251 = .ok (.iload 9, 2) := by decide +kernel
theorem d_M_make_253 : decode b_M_make 253 = .ok (.iload 6, 2) := by decide +kernel
theorem d_M_make_255 : decode b_M_make 255 = .ok (.iconst 0, 1) := by decide +kernel
theorem d_M_make_256 : decode b_M_make 256 = .ok (.invokevirtual 100, 3) := by decide +kernel
theorem d_M_make_259 : decode b_M_make 259 = .ok (.goto 140, 3) := by decide +kernel
theorem d_M_make_201 : decode b_M_make 201 = .ok (.aload_n 0, 1) := by decide +kernel
theorem d_M_make_202 : decode b_M_make 202 = .ok (.aload_n 0, 1) := by decide +kernel
theorem d_M_make_203 : decode b_M_make 203 = .ok (.getfield 48, 3) := by decide +kernel
theorem d_M_make_206 : decode b_M_make 206 = .ok (.bipush 16, 2) := by decide +kernel
theorem d_M_make_208 : decode b_M_make 208 = .ok (.iadd, 1) := by decide +kernel
theorem d_M_make_209 : decode b_M_make 209 = .ok (.putfield 48, 3) := by decide +kernel
theorem d_M_make_212 : decode b_M_make 212 = .ok (.aload_n 0, 1) := by decide +kernel
theorem d_M_make_213 : decode b_M_make 213 = .ok (.iload_n 1, 1) := by decide +kernel
theorem d_M_make_214 : decode b_M_make 214 = .ok (.lload 7, 2) := by decide +kernel
theorem d_M_make_216 : decode b_M_make 216 = .ok (.iload 9, 2) := by decide +kernel
theorem d_M_make_218 : decode b_M_make 218 = .ok (.iload 6, 2) := by decide +kernel
theorem d_M_make_220 : decode b_M_make 220 = .ok (.sipush 24576, 3) := by decide +kernel
theorem d_M_make_223 : decode b_M_make 223 = .ok (.invokevirtual 100, 3) := by decide +kernel
theorem d_M_make_226 : decode b_M_make 226 = .ok (.goto 173, 3) := by decide +kernel
theorem d_M_make_37 : decode b_M_make 37 = .ok (.aload_n 0, 1) := by decide +kernel
theorem d_M_make_38 : decode b_M_make 38 = .ok (.getfield 7, 3) := by decide +kernel
theorem d_M_make_41 : decode b_M_make 41 = .ok (.bipush 16, 2) := by decide +kernel
theorem d_M_make_43 : decode b_M_make 43 = .ok (.iand, 1) := by decide +kernel
theorem d_M_make_44 : decode b_M_make 44 = .ok (.ifCond .eq 60, 3) := by decide +kernel
theorem d_M_make_47 : decode b_M_make 47 = .ok (.aload_n 0, 1) := by decide +kernel
theorem d_M_make_48 : decode b_M_make 48 = .ok (.sipush (-16381), 3) := by decide +kernel
theorem d_M_make_51 : decode b_M_make 51 = .ok (.iload 4, 2) := by decide +kernel
theorem d_M_make_53 : decode b_M_make 53 = .ok (.isub, 1) := by decide +kernel
theorem d_M_make_54 : decode b_M_make 54 = .ok (.iload_n 1, 1) := by decide +kernel
theorem d_M_make_55 : decode b_M_make 55 = .ok (.invokevirtual 96, 3) := by decide +kernel
theorem d_M_make_58 : decode b_M_make 58 = .ok (.lstore 6, 2) := by decide +kernel
theorem d_M_make_60 : decode b_M_make 60 = .ok (.aload_n 0, 1) := by decide +kernel
theorem d_M_make_61 : decode b_M_make 61 = .ok (.aload_n 0, 1) := by decide +kernel
theorem d_M_make_62 : decode b_M_make 62 = .ok (.getfield 80, 3) := by decide +kernel
theorem d_M_make_65 : decode b_M_make 65 = .ok (.ifCond .eq 16, 3) := by decide +kernel
theorem d_M_make_81 : decode b_M_make 81 = .ok (.aload_n 0, 1) := by decide +kernel
theorem d_M_make_82 : decode b_M_make 82 = .ok (.getfield 48, 3) := by decide +kernel
theorem d_M_make_68 : decode b_M_make 68 = .ok (.aload_n 0, 1) := by decide +kernel
theorem d_M_make_69 : decode b_M_make 69 = .ok (.getfield 48, 3) := by decide +kernel
theorem d_M_make_72 : decode b_M_make 72 = .ok (.bipush 16, 2) := by decide +kernel
theorem d_M_make_74 : decode b_M_make 74 = .ok (.iadd, 1) := by decide +kernel
theorem d_M_make_75 : decode b_M_make 75 = .ok (.bipush 32, 2) := by decide +kernel
theorem d_M_make_77 : decode b_M_make 77 = .ok (.iadd, 1) := by decide +kernel
theorem d_M_make_78 : decode b_M_make 78 = .ok (.goto 7, 3) := by decide +kernel
theorem d_M_make_85 : decode b_M_make 85 = .ok (.putfield 48, 3) := by decide +kernel
theorem d_M_make_88 : decode b_M_make 88 = .ok (.aload_n 0, 1) := by decide +kernel
theorem d_M_make_89 : decode b_M_make 89 = .ok (.iload_n 1, 1) := by decide +kernel
theorem d_M_make_90 : decode b_M_make 90 = .ok (.lload 6, 2) := by decide +kernel
theorem d_M_make_92 : decode b_M_make 92 = .ok (.iconst 0, 1) := by decide +kernel
theorem d_M_make_93 : decode b_M_make 93 = .ok (.sipush (-16381), 3) := by decide +kernel
theorem d_M_make_96 : decode b_M_make 96 = .ok (.iload 4, 2) := by decide +kernel
theorem d_M_make_98 : decode b_M_make 98 = .ok (.isub, 1) := by decide +kernel
theorem d_M_make_99 : decode b_M_make 99 = .ok (.iconst 0, 1) := by decide +kernel
theorem d_M_make_100 : decode b_M_make 100 = .ok (.invokevirtual 100, 3) := by decide +kernel
theorem d_M_make_103 : decode b_M_make 103 = .ok (.return_, 1) := by decide +kernel
set_option maxHeartbeats 4000000 in
set_option maxRecDepth 100000 in
theorem c_M_make (l : Launch) (dC : Nat → ClassId) (dI : Nat → Nat → Nat) (kR : ClassId) (bM : Nat) (bR : Nat) (bT : Nat) (bF : Nat) (bN : Nat) (bP : Nat) (bQ : Nat) (sz : Nat) (cd : Int32) (wd : Int32) (al : Int32) (sz1 : Int32) (un : Int32) (mo : Bool) (tl : Int32) (sp : Bool) (tpo : Int32) (fro : Int64) (ly : Bool) (rb : Nat → Bool) (bs : Bool) (hz : okz sz1) : Met l y_M_make w_M_make ({ frames := 2, cells := 0, slots := 0, locals := 54 }) (cPc (dC, dI) [(kR, .boolean)] [.ref bM, .int (b2i bs)] [(bM, .inr (3, [.int cd, .int wd, .ref bT, .ref bF, .int al, .ref bN, .ref bP, .ref bQ, .ref bR, .int sz1, .int un, .int (b2i mo), .int tl, .int (b2i sp), .int tpo, .long fro, .int (b2i ly)])), (bR, .inl (kR, 33000, .inl (fun k => b2i (rb k))))] sz) (va_Qv (fun (_ : Unit) => True) (fun _ t => va_P (dC, dI) classes [(bM, .inr (3, [.int cd, .int wd, .ref bT, .ref bF, .int al, .ref bN, .ref bP, .ref bQ, .ref bR, .int sz1, .int un, .int (b2i mo), .int ((g_M_make wd sz1 un mo tl rb bs).1), .int (b2i sp), .int ((g_M_make wd sz1 un mo tl rb bs).2.1), .long ((g_M_make wd sz1 un mo tl rb bs).2.2.1), .int (b2i ((g_M_make wd sz1 un mo tl rb bs).2.2.2))])), (bR, .inl (kR, 33000, .inl (fun k => b2i (rb k))))] t.heap ∧ va_D (va_A [(bM, .inr (3, [.int cd, .int wd, .ref bT, .ref bF, .int al, .ref bN, .ref bP, .ref bQ, .ref bR, .int sz1, .int un, .int (b2i mo), .int tl, .int (b2i sp), .int tpo, .long fro, .int (b2i ly)])), (bR, .inl (kR, 33000, .inl (fun k => b2i (rb k))))] sz) [(bM, .inr (3, [.int cd, .int wd, .ref bT, .ref bF, .int al, .ref bN, .ref bP, .ref bQ, .ref bR, .int sz1, .int un, .int (b2i mo), .int ((g_M_make wd sz1 un mo tl rb bs).1), .int (b2i sp), .int ((g_M_make wd sz1 un mo tl rb bs).2.1), .long ((g_M_make wd sz1 un mo tl rb bs).2.2.1), .int (b2i ((g_M_make wd sz1 un mo tl rb bs).2.2.2))])), (bR, .inl (kR, 33000, .inl (fun k => b2i (rb k))))]) (va_A [(bM, .inr (3, [.int cd, .int wd, .ref bT, .ref bF, .int al, .ref bN, .ref bP, .ref bQ, .ref bR, .int sz1, .int un, .int (b2i mo), .int tl, .int (b2i sp), .int tpo, .long fro, .int (b2i ly)])), (bR, .inl (kR, 33000, .inl (fun k => b2i (rb k))))] sz)) 0 0 (va_A [(bM, .inr (3, [.int cd, .int wd, .ref bT, .ref bF, .int al, .ref bN, .ref bP, .ref bQ, .ref bR, .int sz1, .int un, .int (b2i mo), .int tl, .int (b2i sp), .int tpo, .long fro, .int (b2i ly)])), (bR, .inl (kR, 33000, .inl (fun k => b2i (rb k))))] sz) := by
  refine Met.ofW (cc := b_M_make) (maxL := 13) (ret := none) (by decide) rfl ?_
  intro p e s m args below meth c s₁ B hml hv
  obtain ⟨rfl, hsz, hP, hK, hD0, hnw⟩ := hv
  have hx := B.exec
  have hb := B.bytes
  have hr := B.returns
  have hts := atoms_spec (ws := w_M_make) B.pre
  have htA : ∀ w ∈ wAll, w.before _ s = true := fun w h => hts w (List.mem_cons_of_mem _ h)
  have hown : s.vm.findClass R_M = some m.cls := findClass_of_methodNamed B.named
  have hlocks := B.notSynchronized
  subst hsz
  have hD := hD0.self (sz := s.heap.size)
  generalize hAe : va_A [(bM, .inr (3, [.int cd, .int wd, .ref bT, .ref bF, .int al, .ref bN, .ref bP, .ref bQ, .ref bR, .int sz1, .int un, .int (b2i mo), .int tl, .int (b2i sp), .int tpo, .long fro, .int (b2i ly)])), (bR, .inl (kR, 33000, .inl (fun k => b2i (rb k))))] s.heap.size = A at hD ⊢
  have hA : ∀ q : Nat, s.heap.size ≤ q → A q := fun q h => by rw [← hAe]; exact Or.inr h
  have hS : va_S A s.heap s.heap [] := va_S.rf
  have hP : va_P (dC, dI) classes [(bM, .inr (3, [.int cd, .int wd, .ref bT, .ref bF, .int al, .ref bN, .ref bP, .ref bQ, .ref bR, .int sz1, .int un, .int (b2i mo), .int tl, .int (b2i sp), .int tpo, .long fro, .int (b2i ly)])), (bR, .inl (kR, 33000, .inl (fun k => b2i (rb k))))] s.heap := hP
  obtain ⟨H, eH⟩ : ∃ z, z = s.heap := ⟨_, rfl⟩
  rw [← eH] at hP
  have hS : va_S A s.heap H [] := by rw [eH]; exact hS
  rw [← eH]
  generalize ([] : List Loc) = locs at hS ⊢
  have hl := lv_entry ([.ref bM, .int (b2i bs)]) (n := 13) (Nat.le_of_ble_eq_true rfl)
  rw [lg_entry_eq]
  generalize (lg_sl ([.ref bM, .int (b2i bs)]) ++ List.replicate (13 - (lg_sl ([.ref bM, .int (b2i bs)])).length) Slot.unset).toArray = ls at hl ⊢
  have hl : lv_has ls 13 [(0, .ref bM), (1, .int (b2i bs))] := hl
  refine lv_aload_n hx hb d_M_make_0 rfl (lv_at hl 0 rfl) ?_
  have hPc := hP.sub (ws' := [(bM, .inr (3, [.int cd, .int wd, .ref bT, .ref bF, .int al, .ref bN, .ref bP, .ref bQ, .ref bR, .int sz1, .int un, .int (b2i mo), .int tl, .int (b2i sp), .int tpo, .long fro, .int (b2i ly)])), (bR, .inl (kR, 33000, .inl (fun k => b2i (rb k))))]) [0, 1] rfl
  have hDc := hD.sub (ws' := [(bM, .inr (3, [.int cd, .int wd, .ref bT, .ref bF, .int al, .ref bN, .ref bP, .ref bQ, .ref bR, .int sz1, .int un, .int (b2i mo), .int tl, .int (b2i sp), .int tpo, .long fro, .int (b2i ly)])), (bR, .inl (kR, 33000, .inl (fun k => b2i (rb k))))]) [0, 1] (by decide) rfl
  have hKc := hK.sub (tys' := [(kR, .boolean)]) [0] rfl
  have hFc := va_free (wc := [(bM, .inr (3, [.int cd, .int wd, .ref bT, .ref bF, .int al, .ref bN, .ref bP, .ref bQ, .ref bR, .int sz1, .int un, .int (b2i mo), .int tl, .int (b2i sp), .int tpo, .long fro, .int (b2i ly)])), (bR, .inl (kR, 33000, .inl (fun k => b2i (rb k))))]) hD hS hA [0, 1] rfl
  refine cc_i (va_runV (As := []) (rest := []) ⟨hx, hb, hml, hown, htA⟩ (c_M_highest l dC dI kR bM bR bT bF bN bP bQ H.size cd wd al sz1 un mo tl sp tpo fro ly rb (by assumption)) (cwV 0 htA (gi_V k_292 k_293 k_294 k_263 (gi_code k_274)) rfl rfl rfl (by decide +kernel) ⟨Nat.le_of_ble_eq_true rfl, Nat.le_of_ble_eq_true rfl⟩) (pre_V hnw hPc hKc hDc (ci := 3) (q0 := 0) rfl rfl) rfl rfl hl.1 rfl (lv_room (Nat.le_of_ble_eq_true rfl)) d_M_make_1 ⟨Nat.le_of_ble_eq_true rfl, Nat.le_of_ble_eq_true rfl⟩) hS hFc hP hD [0, 1] [] (wr := []) rfl rfl (by decide) (by decide) (fun H locs hP hD hS => ?_)
  have hP : va_P (dC, dI) classes [(bM, .inr (3, [.int cd, .int wd, .ref bT, .ref bF, .int al, .ref bN, .ref bP, .ref bQ, .ref bR, .int sz1, .int un, .int (b2i mo), .int tl, .int (b2i sp), .int tpo, .long fro, .int (b2i ly)])), (bR, .inl (kR, 33000, .inl (fun k => b2i (rb k))))] H := hP
  have hD : va_D A [(bM, .inr (3, [.int cd, .int wd, .ref bT, .ref bF, .int al, .ref bN, .ref bP, .ref bQ, .ref bR, .int sz1, .int un, .int (b2i mo), .int tl, .int (b2i sp), .int tpo, .long fro, .int (b2i ly)])), (bR, .inl (kR, 33000, .inl (fun k => b2i (rb k))))] := hD
  refine lv_istore_n (lv' := [(2, .int (g_M_highest sz1 rb)), (0, .ref bM), (1, .int (b2i bs))]) hx hb d_M_make_4 rfl hl (by decide) rfl (fun ls hl => ?_)
  refine lv_aload_n hx hb d_M_make_5 rfl (lv_at hl 1 rfl) ?_
  refine va_get (D := (dC, dI)) (ci := 3) (v := .int un) (C := R_M) (T := F_M) (N := 17) hx hb htA in_M hown hK hP 0 rfl rfl 10 (by decide) (htA _ k_277) (fun _ h9 => h9) rfl d_M_make_6 ?_
  refine lv_iload_n hx hb d_M_make_9 rfl (lv_at hl 0 rfl) ?_
  refine lv_iadd hx hb d_M_make_10 ?_
  refine lv_istore_n (lv' := [(3, .int (un + (g_M_highest sz1 rb))), (2, .int (g_M_highest sz1 rb)), (0, .ref bM), (1, .int (b2i bs))]) hx hb d_M_make_11 rfl hl (by decide) rfl (fun ls hl => ?_)
  refine lv_aload_n hx hb d_M_make_12 rfl (lv_at hl 2 rfl) ?_
  have hPc := hP.sub (ws' := [(bM, .inr (3, [.int cd, .int wd, .ref bT, .ref bF, .int al, .ref bN, .ref bP, .ref bQ, .ref bR, .int sz1, .int un, .int (b2i mo), .int tl, .int (b2i sp), .int tpo, .long fro, .int (b2i ly)]))]) [0] rfl
  have hDc := hD.sub (ws' := [(bM, .inr (3, [.int cd, .int wd, .ref bT, .ref bF, .int al, .ref bN, .ref bP, .ref bQ, .ref bR, .int sz1, .int un, .int (b2i mo), .int tl, .int (b2i sp), .int tpo, .long fro, .int (b2i ly)]))]) [0] (by decide) rfl
  have hKc := hK.sub (tys' := []) [] rfl
  have hFc := va_free (wc := [(bM, .inr (3, [.int cd, .int wd, .ref bT, .ref bF, .int al, .ref bN, .ref bP, .ref bQ, .ref bR, .int sz1, .int un, .int (b2i mo), .int tl, .int (b2i sp), .int tpo, .long fro, .int (b2i ly)]))]) hD hS hA [0] rfl
  refine cc_i (va_runV (As := []) (rest := []) ⟨hx, hb, hml, hown, htA⟩ (c_M_digits l dC dI bM bT bF bN bP bQ bR H.size cd wd al sz1 un mo tl sp tpo fro ly) (cwV 0 htA (gi_V k_295 k_296 k_297 k_263 (gi_code k_245)) rfl rfl rfl (by decide +kernel) ⟨Nat.le_of_ble_eq_true rfl, Nat.le_of_ble_eq_true rfl⟩) (pre_V hnw hPc hKc hDc (ci := 3) (q0 := 0) rfl rfl) rfl rfl hl.1 rfl (lv_room (Nat.le_of_ble_eq_true rfl)) d_M_make_13 ⟨Nat.le_of_ble_eq_true rfl, Nat.le_of_ble_eq_true rfl⟩) hS hFc hP hD [0] [1] (wr := [(bR, .inl (kR, 33000, .inl (fun k => b2i (rb k))))]) rfl rfl (by decide) (by decide) (fun H locs hP hD hS => ?_)
  have hP : va_P (dC, dI) classes [(bR, .inl (kR, 33000, .inl (fun k => b2i (rb k)))), (bM, .inr (3, [.int cd, .int wd, .ref bT, .ref bF, .int al, .ref bN, .ref bP, .ref bQ, .ref bR, .int sz1, .int un, .int (b2i mo), .int tl, .int (b2i sp), .int tpo, .long fro, .int (b2i ly)]))] H := hP
  have hD : va_D A [(bR, .inl (kR, 33000, .inl (fun k => b2i (rb k)))), (bM, .inr (3, [.int cd, .int wd, .ref bT, .ref bF, .int al, .ref bN, .ref bP, .ref bQ, .ref bR, .int sz1, .int un, .int (b2i mo), .int tl, .int (b2i sp), .int tpo, .long fro, .int (b2i ly)]))] := hD
  refine lv_istore (lv' := [(4, .int (g_M_digits wd)), (3, .int (un + (g_M_highest sz1 rb))), (2, .int (g_M_highest sz1 rb)), (0, .ref bM), (1, .int (b2i bs))]) hx hb d_M_make_16 hl (by decide) rfl (fun ls hl => ?_)
  refine lv_iload_n hx hb d_M_make_18 rfl (lv_at hl 1 rfl) ?_
  refine lv_sipush (v := (-16382)) hx hb d_M_make_19 (by decide) ?_
  refine cut_join (X := Bool) 0 0 (fun (x : Bool) (H : Heap) (locs : List Loc) (ls : Array Slot) => (if (-16382) ≤ (un + (g_M_highest sz1 rb)) then false else true) = x ∧ va_P (dC, dI) classes [(bR, .inl (kR, 33000, .inl (fun k => b2i (rb k)))), (bM, .inr (3, [.int cd, .int wd, .ref bT, .ref bF, .int al, .ref bN, .ref bP, .ref bQ, .ref bR, .int sz1, .int un, .int (b2i mo), .int tl, .int (b2i sp), .int tpo, .long fro, .int (b2i ly)]))] H ∧ va_D A [(bR, .inl (kR, 33000, .inl (fun k => b2i (rb k)))), (bM, .inr (3, [.int cd, .int wd, .ref bT, .ref bF, .int al, .ref bN, .ref bP, .ref bQ, .ref bR, .int sz1, .int un, .int (b2i mo), .int tl, .int (b2i sp), .int tpo, .long fro, .int (b2i ly)]))] ∧ va_S A s.heap H locs ∧ lv_has ls 13 [(0, .ref bM), (1, .int (b2i bs)), (2, .int (g_M_highest sz1 rb)), (3, .int (un + (g_M_highest sz1 rb))), (4, .int (g_M_digits wd))]) (fun x ls => F0 m 30 ls [.int (b2i x)]) ?_ (fun J30 => ?_)
  · skip
    rintro j30_0 H locs ls ⟨ej30_0, hP, hD, hS, hl⟩
    have ej30_0 : (if (-16382) ≤ (un + (g_M_highest sz1 rb)) then false else true) = j30_0 := ej30_0
    have hP : va_P (dC, dI) classes [(bR, .inl (kR, 33000, .inl (fun k => b2i (rb k)))), (bM, .inr (3, [.int cd, .int wd, .ref bT, .ref bF, .int al, .ref bN, .ref bP, .ref bQ, .ref bR, .int sz1, .int un, .int (b2i mo), .int tl, .int (b2i sp), .int tpo, .long fro, .int (b2i ly)]))] H := hP
    have hD : va_D A [(bR, .inl (kR, 33000, .inl (fun k => b2i (rb k)))), (bM, .inr (3, [.int cd, .int wd, .ref bT, .ref bF, .int al, .ref bN, .ref bP, .ref bQ, .ref bR, .int sz1, .int un, .int (b2i mo), .int tl, .int (b2i sp), .int tpo, .long fro, .int (b2i ly)]))] := hD
    have hl : lv_has ls 13 [(0, .ref bM), (1, .int (b2i bs)), (2, .int (g_M_highest sz1 rb)), (3, .int (un + (g_M_highest sz1 rb))), (4, .int (g_M_digits wd))] := hl
    refine lv_istore (lv' := [(5, .int (b2i j30_0)), (0, .ref bM), (1, .int (b2i bs)), (2, .int (g_M_highest sz1 rb)), (3, .int (un + (g_M_highest sz1 rb))), (4, .int (g_M_digits wd))]) hx hb d_M_make_30 hl (by decide) rfl (fun ls hl => ?_)
    refine lv_iload hx hb d_M_make_32 (lv_at hl 0 rfl) ?_
    refine lv_if_eq (tgt := 104) hx hb d_M_make_34 (by decide) (fun c_34 => ?_) (fun c_34 => ?_)
    · skip
      have c_34 : ¬ j30_0 = true := b2i_z c_34
      refine lv_iload_n hx hb d_M_make_104 rfl (lv_at hl 4 rfl) ?_
      refine lv_iconst (v := 1) hx hb d_M_make_105 (by decide) ?_
      refine lv_iadd hx hb d_M_make_106 ?_
      refine lv_iload hx hb d_M_make_107 (lv_at hl 5 rfl) ?_
      refine lv_isub hx hb d_M_make_109 ?_
      refine lv_istore (lv' := [(6, .int (((un + (g_M_highest sz1 rb)) + 1) - (g_M_digits wd))), (5, .int (b2i j30_0)), (0, .ref bM), (1, .int (b2i bs)), (2, .int (g_M_highest sz1 rb)), (3, .int (un + (g_M_highest sz1 rb))), (4, .int (g_M_digits wd))]) hx hb d_M_make_110 hl (by decide) rfl (fun ls hl => ?_)
      refine lv_aload_n hx hb d_M_make_112 rfl (lv_at hl 2 rfl) ?_
      refine lv_iload hx hb d_M_make_113 (lv_at hl 0 rfl) ?_
      refine lv_iload_n hx hb d_M_make_115 rfl (lv_at hl 3 rfl) ?_
      have hPc := hP.sub (ws' := [(bM, .inr (3, [.int cd, .int wd, .ref bT, .ref bF, .int al, .ref bN, .ref bP, .ref bQ, .ref bR, .int sz1, .int un, .int (b2i mo), .int tl, .int (b2i sp), .int tpo, .long fro, .int (b2i ly)])), (bR, .inl (kR, 33000, .inl (fun k => b2i (rb k))))]) [1, 0] rfl
      have hDc := hD.sub (ws' := [(bM, .inr (3, [.int cd, .int wd, .ref bT, .ref bF, .int al, .ref bN, .ref bP, .ref bQ, .ref bR, .int sz1, .int un, .int (b2i mo), .int tl, .int (b2i sp), .int tpo, .long fro, .int (b2i ly)])), (bR, .inl (kR, 33000, .inl (fun k => b2i (rb k))))]) [1, 0] (by decide) rfl
      have hKc := hK.sub (tys' := [(kR, .boolean)]) [0] rfl
      have hFc := va_free (wc := [(bM, .inr (3, [.int cd, .int wd, .ref bT, .ref bF, .int al, .ref bN, .ref bP, .ref bQ, .ref bR, .int sz1, .int un, .int (b2i mo), .int tl, .int (b2i sp), .int tpo, .long fro, .int (b2i ly)])), (bR, .inl (kR, 33000, .inl (fun k => b2i (rb k))))]) hD hS hA [1, 0] rfl
      refine cc_l (va_runV (As := [.int (((un + (g_M_highest sz1 rb)) + 1) - (g_M_digits wd)), .int (b2i bs)]) (rest := []) ⟨hx, hb, hml, hown, htA⟩ (c_M_times l dC dI kR bM bR bT bF bN bP bQ H.size cd wd al sz1 un mo tl sp tpo fro ly rb (((un + (g_M_highest sz1 rb)) + 1) - (g_M_digits wd)) bs (by assumption)) (cwV 2 htA (gi_V k_298 k_299 k_300 k_263 (gi_code k_286)) rfl rfl rfl (by decide +kernel) ⟨Nat.le_of_ble_eq_true rfl, Nat.le_of_ble_eq_true rfl⟩) (pre_V hnw hPc hKc hDc (ci := 3) (q0 := 0) rfl rfl) rfl rfl hl.1 rfl (lv_room (Nat.le_of_ble_eq_true rfl)) d_M_make_116 ⟨Nat.le_of_ble_eq_true rfl, Nat.le_of_ble_eq_true rfl⟩) hS hFc hP hD [1, 0] [] (wr := []) rfl rfl (by decide) (by decide) (fun H locs hP hD hS => ?_)
      obtain ⟨z116, ez116⟩ : ∃ z, g_M_times wd sz1 un mo rb (((un + (g_M_highest sz1 rb)) + 1) - (g_M_digits wd)) bs = z := ⟨_, rfl⟩
      rw [ez116] at hP hD ⊢
      have hP : va_P (dC, dI) classes [(bM, .inr (3, [.int cd, .int wd, .ref bT, .ref bF, .int al, .ref bN, .ref bP, .ref bQ, .ref bR, .int sz1, .int un, .int (b2i mo), .int tl, .int (b2i sp), .int tpo, .long fro, .int (b2i z116.2)])), (bR, .inl (kR, 33000, .inl (fun k => b2i (rb k))))] H := hP
      have hD : va_D A [(bM, .inr (3, [.int cd, .int wd, .ref bT, .ref bF, .int al, .ref bN, .ref bP, .ref bQ, .ref bR, .int sz1, .int un, .int (b2i mo), .int tl, .int (b2i sp), .int tpo, .long fro, .int (b2i z116.2)])), (bR, .inl (kR, 33000, .inl (fun k => b2i (rb k))))] := hD
      refine lv_lstore (lv' := [(7, .long z116.1), (6, .int (((un + (g_M_highest sz1 rb)) + 1) - (g_M_digits wd))), (5, .int (b2i j30_0)), (0, .ref bM), (1, .int (b2i bs)), (2, .int (g_M_highest sz1 rb)), (3, .int (un + (g_M_highest sz1 rb))), (4, .int (g_M_digits wd))]) hx hb d_M_make_119 hl (by decide) rfl (fun ls hl => ?_)
      refine lv_iload hx hb d_M_make_121 (lv_at hl 7 rfl) ?_
      refine lv_bipush (v := 64) hx hb d_M_make_123 (by decide) ?_
      refine cut_join (X := Bool) 0 0 (fun (x : Bool) (H : Heap) (locs : List Loc) (ls : Array Slot) => (if (g_M_digits wd) = 64 then if z116.1 = 0 then true else false else false) = x ∧ va_P (dC, dI) classes [(bM, .inr (3, [.int cd, .int wd, .ref bT, .ref bF, .int al, .ref bN, .ref bP, .ref bQ, .ref bR, .int sz1, .int un, .int (b2i mo), .int tl, .int (b2i sp), .int tpo, .long fro, .int (b2i z116.2)])), (bR, .inl (kR, 33000, .inl (fun k => b2i (rb k))))] H ∧ va_D A [(bM, .inr (3, [.int cd, .int wd, .ref bT, .ref bF, .int al, .ref bN, .ref bP, .ref bQ, .ref bR, .int sz1, .int un, .int (b2i mo), .int tl, .int (b2i sp), .int tpo, .long fro, .int (b2i z116.2)])), (bR, .inl (kR, 33000, .inl (fun k => b2i (rb k))))] ∧ va_S A s.heap H locs ∧ lv_has ls 13 [(0, .ref bM), (1, .int (b2i bs)), (2, .int (g_M_highest sz1 rb)), (3, .int (un + (g_M_highest sz1 rb))), (4, .int (g_M_digits wd)), (5, .int (b2i j30_0)), (6, .int (((un + (g_M_highest sz1 rb)) + 1) - (g_M_digits wd))), (7, .long z116.1)]) (fun x ls => F0 m 140 ls [.int (b2i x)]) ?_ (fun J140 => ?_)
      · skip
        rintro j140_0 H locs ls ⟨ej140_0, hP, hD, hS, hl⟩
        have ej140_0 : (if (g_M_digits wd) = 64 then if z116.1 = 0 then true else false else false) = j140_0 := ej140_0
        have hP : va_P (dC, dI) classes [(bM, .inr (3, [.int cd, .int wd, .ref bT, .ref bF, .int al, .ref bN, .ref bP, .ref bQ, .ref bR, .int sz1, .int un, .int (b2i mo), .int tl, .int (b2i sp), .int tpo, .long fro, .int (b2i z116.2)])), (bR, .inl (kR, 33000, .inl (fun k => b2i (rb k))))] H := hP
        have hD : va_D A [(bM, .inr (3, [.int cd, .int wd, .ref bT, .ref bF, .int al, .ref bN, .ref bP, .ref bQ, .ref bR, .int sz1, .int un, .int (b2i mo), .int tl, .int (b2i sp), .int tpo, .long fro, .int (b2i z116.2)])), (bR, .inl (kR, 33000, .inl (fun k => b2i (rb k))))] := hD
        have hl : lv_has ls 13 [(0, .ref bM), (1, .int (b2i bs)), (2, .int (g_M_highest sz1 rb)), (3, .int (un + (g_M_highest sz1 rb))), (4, .int (g_M_digits wd)), (5, .int (b2i j30_0)), (6, .int (((un + (g_M_highest sz1 rb)) + 1) - (g_M_digits wd))), (7, .long z116.1)] := hl
        refine lv_istore (lv' := [(9, .int (b2i j140_0)), (0, .ref bM), (1, .int (b2i bs)), (2, .int (g_M_highest sz1 rb)), (3, .int (un + (g_M_highest sz1 rb))), (4, .int (g_M_digits wd)), (5, .int (b2i j30_0)), (6, .int (((un + (g_M_highest sz1 rb)) + 1) - (g_M_digits wd))), (7, .long z116.1)]) hx hb d_M_make_140 hl (by decide) rfl (fun ls hl => ?_)
        refine lv_iload hx hb d_M_make_142 (lv_at hl 0 rfl) ?_
        refine cut_join (X := Bool) 0 0 (fun (x : Bool) (H : Heap) (locs : List Loc) (ls : Array Slot) => (if j140_0 = true then true else if 64 ≤ (g_M_digits wd) then false else if (aR z116.1 (g_M_digits wd)) = 0 then false else true) = x ∧ va_P (dC, dI) classes [(bM, .inr (3, [.int cd, .int wd, .ref bT, .ref bF, .int al, .ref bN, .ref bP, .ref bQ, .ref bR, .int sz1, .int un, .int (b2i mo), .int tl, .int (b2i sp), .int tpo, .long fro, .int (b2i z116.2)])), (bR, .inl (kR, 33000, .inl (fun k => b2i (rb k))))] H ∧ va_D A [(bM, .inr (3, [.int cd, .int wd, .ref bT, .ref bF, .int al, .ref bN, .ref bP, .ref bQ, .ref bR, .int sz1, .int un, .int (b2i mo), .int tl, .int (b2i sp), .int tpo, .long fro, .int (b2i z116.2)])), (bR, .inl (kR, 33000, .inl (fun k => b2i (rb k))))] ∧ va_S A s.heap H locs ∧ lv_has ls 13 [(0, .ref bM), (1, .int (b2i bs)), (2, .int (g_M_highest sz1 rb)), (3, .int (un + (g_M_highest sz1 rb))), (4, .int (g_M_digits wd)), (5, .int (b2i j30_0)), (6, .int (((un + (g_M_highest sz1 rb)) + 1) - (g_M_digits wd))), (7, .long z116.1), (9, .int (b2i j140_0))]) (fun x ls => F0 m 169 ls [.int (b2i x)]) ?_ (fun J169 => ?_)
        · skip
          rintro j169_0 H locs ls ⟨ej169_0, hP, hD, hS, hl⟩
          have ej169_0 : (if j140_0 = true then true else if 64 ≤ (g_M_digits wd) then false else if (aR z116.1 (g_M_digits wd)) = 0 then false else true) = j169_0 := ej169_0
          have hP : va_P (dC, dI) classes [(bM, .inr (3, [.int cd, .int wd, .ref bT, .ref bF, .int al, .ref bN, .ref bP, .ref bQ, .ref bR, .int sz1, .int un, .int (b2i mo), .int tl, .int (b2i sp), .int tpo, .long fro, .int (b2i z116.2)])), (bR, .inl (kR, 33000, .inl (fun k => b2i (rb k))))] H := hP
          have hD : va_D A [(bM, .inr (3, [.int cd, .int wd, .ref bT, .ref bF, .int al, .ref bN, .ref bP, .ref bQ, .ref bR, .int sz1, .int un, .int (b2i mo), .int tl, .int (b2i sp), .int tpo, .long fro, .int (b2i z116.2)])), (bR, .inl (kR, 33000, .inl (fun k => b2i (rb k))))] := hD
          have hl : lv_has ls 13 [(0, .ref bM), (1, .int (b2i bs)), (2, .int (g_M_highest sz1 rb)), (3, .int (un + (g_M_highest sz1 rb))), (4, .int (g_M_digits wd)), (5, .int (b2i j30_0)), (6, .int (((un + (g_M_highest sz1 rb)) + 1) - (g_M_digits wd))), (7, .long z116.1), (9, .int (b2i j140_0))] := hl
          refine lv_istore (lv' := [(10, .int (b2i j169_0)), (0, .ref bM), (1, .int (b2i bs)), (2, .int (g_M_highest sz1 rb)), (3, .int (un + (g_M_highest sz1 rb))), (4, .int (g_M_digits wd)), (5, .int (b2i j30_0)), (6, .int (((un + (g_M_highest sz1 rb)) + 1) - (g_M_digits wd))), (7, .long z116.1), (9, .int (b2i j140_0))]) hx hb d_M_make_169 hl (by decide) rfl (fun ls hl => ?_)
          refine lv_aload_n hx hb d_M_make_171 rfl (lv_at hl 1 rfl) ?_
          refine lv_aload_n hx hb d_M_make_172 rfl (lv_at hl 1 rfl) ?_
          refine va_get (D := (dC, dI)) (ci := 3) (v := .int (b2i z116.2)) (C := R_M) (T := F_M) (N := 17) hx hb htA in_M hown hK hP 0 rfl rfl 16 (by decide) (htA _ k_285) (fun _ h9 => h9) rfl d_M_make_173 ?_
          refine cut_join (X := Int32) 0 0 (fun (x : Int32) (H : Heap) (locs : List Loc) (ls : Array Slot) => (if z116.2 = true then (tl + 32) else tl) = x ∧ va_P (dC, dI) classes [(bM, .inr (3, [.int cd, .int wd, .ref bT, .ref bF, .int al, .ref bN, .ref bP, .ref bQ, .ref bR, .int sz1, .int un, .int (b2i mo), .int tl, .int (b2i sp), .int tpo, .long fro, .int (b2i z116.2)])), (bR, .inl (kR, 33000, .inl (fun k => b2i (rb k))))] H ∧ va_D A [(bM, .inr (3, [.int cd, .int wd, .ref bT, .ref bF, .int al, .ref bN, .ref bP, .ref bQ, .ref bR, .int sz1, .int un, .int (b2i mo), .int tl, .int (b2i sp), .int tpo, .long fro, .int (b2i z116.2)])), (bR, .inl (kR, 33000, .inl (fun k => b2i (rb k))))] ∧ va_S A s.heap H locs ∧ lv_has ls 13 [(0, .ref bM), (1, .int (b2i bs)), (2, .int (g_M_highest sz1 rb)), (3, .int (un + (g_M_highest sz1 rb))), (4, .int (g_M_digits wd)), (5, .int (b2i j30_0)), (6, .int (((un + (g_M_highest sz1 rb)) + 1) - (g_M_digits wd))), (7, .long z116.1), (9, .int (b2i j140_0)), (10, .int (b2i j169_0))]) (fun x ls => F0 m 193 ls [.int x, .ref bM]) ?_ (fun J193 => ?_)
          · skip
            rintro j193_0 H locs ls ⟨ej193_0, hP, hD, hS, hl⟩
            have ej193_0 : (if z116.2 = true then (tl + 32) else tl) = j193_0 := ej193_0
            have hP : va_P (dC, dI) classes [(bM, .inr (3, [.int cd, .int wd, .ref bT, .ref bF, .int al, .ref bN, .ref bP, .ref bQ, .ref bR, .int sz1, .int un, .int (b2i mo), .int tl, .int (b2i sp), .int tpo, .long fro, .int (b2i z116.2)])), (bR, .inl (kR, 33000, .inl (fun k => b2i (rb k))))] H := hP
            have hD : va_D A [(bM, .inr (3, [.int cd, .int wd, .ref bT, .ref bF, .int al, .ref bN, .ref bP, .ref bQ, .ref bR, .int sz1, .int un, .int (b2i mo), .int tl, .int (b2i sp), .int tpo, .long fro, .int (b2i z116.2)])), (bR, .inl (kR, 33000, .inl (fun k => b2i (rb k))))] := hD
            have hl : lv_has ls 13 [(0, .ref bM), (1, .int (b2i bs)), (2, .int (g_M_highest sz1 rb)), (3, .int (un + (g_M_highest sz1 rb))), (4, .int (g_M_digits wd)), (5, .int (b2i j30_0)), (6, .int (((un + (g_M_highest sz1 rb)) + 1) - (g_M_digits wd))), (7, .long z116.1), (9, .int (b2i j140_0)), (10, .int (b2i j169_0))] := hl
            refine va_put (D := (dC, dI)) (ci := 3) (v := .int j193_0) (ty := .int) (C := R_M) (T := F_M) (N := 17) hx hb htA in_M t_M t_M_ok n_M hown hK hP hD hS 0 rfl rfl 12 (by decide) (htA _ k_248) (fun _ h9 => h9) rfl (by decide +kernel) rfl rfl (Nat.le_of_ble_eq_true rfl) d_M_make_193 (fun H locs hP hD hS => ?_)
            have hP : va_P (dC, dI) classes [(bM, .inr (3, [.int cd, .int wd, .ref bT, .ref bF, .int al, .ref bN, .ref bP, .ref bQ, .ref bR, .int sz1, .int un, .int (b2i mo), .int j193_0, .int (b2i sp), .int tpo, .long fro, .int (b2i z116.2)])), (bR, .inl (kR, 33000, .inl (fun k => b2i (rb k))))] H := hP
            have hD : va_D A [(bM, .inr (3, [.int cd, .int wd, .ref bT, .ref bF, .int al, .ref bN, .ref bP, .ref bQ, .ref bR, .int sz1, .int un, .int (b2i mo), .int j193_0, .int (b2i sp), .int tpo, .long fro, .int (b2i z116.2)])), (bR, .inl (kR, 33000, .inl (fun k => b2i (rb k))))] := hD
            refine lv_iload hx hb d_M_make_196 (lv_at hl 5 rfl) ?_
            refine lv_if_eq (tgt := 229) hx hb d_M_make_198 (by decide) (fun c_198 => ?_) (fun c_198 => ?_)
            · skip
              have c_198 : ¬ j30_0 = true := b2i_z c_198
              refine lv_iload_n hx hb d_M_make_229 rfl (lv_at hl 3 rfl) ?_
              refine lv_iload hx hb d_M_make_230 (lv_at hl 9 rfl) ?_
              refine cut_join (X := Bool) 0 0 (fun (x : Bool) (H : Heap) (locs : List Loc) (ls : Array Slot) => (if j169_0 = true then true else false) = x ∧ va_P (dC, dI) classes [(bM, .inr (3, [.int cd, .int wd, .ref bT, .ref bF, .int al, .ref bN, .ref bP, .ref bQ, .ref bR, .int sz1, .int un, .int (b2i mo), .int j193_0, .int (b2i sp), .int tpo, .long fro, .int (b2i z116.2)])), (bR, .inl (kR, 33000, .inl (fun k => b2i (rb k))))] H ∧ va_D A [(bM, .inr (3, [.int cd, .int wd, .ref bT, .ref bF, .int al, .ref bN, .ref bP, .ref bQ, .ref bR, .int sz1, .int un, .int (b2i mo), .int j193_0, .int (b2i sp), .int tpo, .long fro, .int (b2i z116.2)])), (bR, .inl (kR, 33000, .inl (fun k => b2i (rb k))))] ∧ va_S A s.heap H locs ∧ lv_has ls 13 [(0, .ref bM), (1, .int (b2i bs)), (2, .int (g_M_highest sz1 rb)), (3, .int (un + (g_M_highest sz1 rb))), (4, .int (g_M_digits wd)), (5, .int (b2i j30_0)), (6, .int (((un + (g_M_highest sz1 rb)) + 1) - (g_M_digits wd))), (7, .long z116.1), (9, .int (b2i j140_0)), (10, .int (b2i j169_0))]) (fun x ls => F0 m 240 ls [.int (b2i x), .int (un + (g_M_highest sz1 rb))]) ?_ (fun J240 => ?_)
              · skip
                rintro j240_0 H locs ls ⟨ej240_0, hP, hD, hS, hl⟩
                have ej240_0 : (if j169_0 = true then true else false) = j240_0 := ej240_0
                have hP : va_P (dC, dI) classes [(bM, .inr (3, [.int cd, .int wd, .ref bT, .ref bF, .int al, .ref bN, .ref bP, .ref bQ, .ref bR, .int sz1, .int un, .int (b2i mo), .int j193_0, .int (b2i sp), .int tpo, .long fro, .int (b2i z116.2)])), (bR, .inl (kR, 33000, .inl (fun k => b2i (rb k))))] H := hP
                have hD : va_D A [(bM, .inr (3, [.int cd, .int wd, .ref bT, .ref bF, .int al, .ref bN, .ref bP, .ref bQ, .ref bR, .int sz1, .int un, .int (b2i mo), .int j193_0, .int (b2i sp), .int tpo, .long fro, .int (b2i z116.2)])), (bR, .inl (kR, 33000, .inl (fun k => b2i (rb k))))] := hD
                have hl : lv_has ls 13 [(0, .ref bM), (1, .int (b2i bs)), (2, .int (g_M_highest sz1 rb)), (3, .int (un + (g_M_highest sz1 rb))), (4, .int (g_M_digits wd)), (5, .int (b2i j30_0)), (6, .int (((un + (g_M_highest sz1 rb)) + 1) - (g_M_digits wd))), (7, .long z116.1), (9, .int (b2i j140_0)), (10, .int (b2i j169_0))] := hl
                refine lv_iadd hx hb d_M_make_240 ?_
                refine lv_sipush (v := 16384) hx hb d_M_make_241 (by decide) ?_
                refine lv_icmp_ge (tgt := 262) hx hb d_M_make_244 (by decide) (fun c_244 => ?_) (fun c_244 => ?_)
                · skip
                  refine lv_aload_n hx hb d_M_make_262 rfl (lv_at hl 0 rfl) ?_
                  refine va_get (D := (dC, dI)) (ci := 3) (v := .int wd) (C := R_M) (T := F_M) (N := 17) hx hb htA in_M hown hK hP 0 rfl rfl 1 (by decide) (htA _ k_244) (fun _ h9 => h9) rfl d_M_make_263 ?_
                  refine lv_bipush (v := 8) hx hb d_M_make_266 (by decide) ?_
                  refine lv_iand hx hb d_M_make_268 ?_
                  refine lv_if_ne (tgt := 300) hx hb d_M_make_269 (by decide) (fun c_269 => ?_) (fun c_269 => ?_)
                  · skip
                    refine lv_aload_n hx hb d_M_make_300 rfl (lv_at hl 0 rfl) ?_
                    refine lv_aload_n hx hb d_M_make_301 rfl (lv_at hl 0 rfl) ?_
                    refine va_get (D := (dC, dI)) (ci := 3) (v := .int j193_0) (C := R_M) (T := F_M) (N := 17) hx hb htA in_M hown hK hP 0 rfl rfl 12 (by decide) (htA _ k_248) (fun _ h9 => h9) rfl d_M_make_302 ?_
                    refine lv_bipush (v := 8) hx hb d_M_make_305 (by decide) ?_
                    refine lv_iadd hx hb d_M_make_307 ?_
                    refine lv_aload_n hx hb d_M_make_308 rfl (lv_at hl 0 rfl) ?_
                    refine va_get (D := (dC, dI)) (ci := 3) (v := .int (b2i z116.2)) (C := R_M) (T := F_M) (N := 17) hx hb htA in_M hown hK hP 0 rfl rfl 16 (by decide) (htA _ k_285) (fun _ h9 => h9) rfl d_M_make_309 ?_
                    refine cut_join (X := Int32) 0 0 (fun (x : Int32) (H : Heap) (locs : List Loc) (ls : Array Slot) => (if z116.2 = true then 0 else 32) = x ∧ va_P (dC, dI) classes [(bM, .inr (3, [.int cd, .int wd, .ref bT, .ref bF, .int al, .ref bN, .ref bP, .ref bQ, .ref bR, .int sz1, .int un, .int (b2i mo), .int j193_0, .int (b2i sp), .int tpo, .long fro, .int (b2i z116.2)])), (bR, .inl (kR, 33000, .inl (fun k => b2i (rb k))))] H ∧ va_D A [(bM, .inr (3, [.int cd, .int wd, .ref bT, .ref bF, .int al, .ref bN, .ref bP, .ref bQ, .ref bR, .int sz1, .int un, .int (b2i mo), .int j193_0, .int (b2i sp), .int tpo, .long fro, .int (b2i z116.2)])), (bR, .inl (kR, 33000, .inl (fun k => b2i (rb k))))] ∧ va_S A s.heap H locs ∧ lv_has ls 13 [(0, .ref bM), (1, .int (b2i bs)), (2, .int (g_M_highest sz1 rb)), (3, .int (un + (g_M_highest sz1 rb))), (4, .int (g_M_digits wd)), (5, .int (b2i j30_0)), (6, .int (((un + (g_M_highest sz1 rb)) + 1) - (g_M_digits wd))), (7, .long z116.1), (9, .int (b2i j140_0)), (10, .int (b2i j169_0))]) (fun x ls => F0 m 321 ls [.int x, .int (j193_0 + 8), .ref bM]) ?_ (fun J321 => ?_)
                    · skip
                      rintro j321_0 H locs ls ⟨ej321_0, hP, hD, hS, hl⟩
                      have ej321_0 : (if z116.2 = true then 0 else 32) = j321_0 := ej321_0
                      have hP : va_P (dC, dI) classes [(bM, .inr (3, [.int cd, .int wd, .ref bT, .ref bF, .int al, .ref bN, .ref bP, .ref bQ, .ref bR, .int sz1, .int un, .int (b2i mo), .int j193_0, .int (b2i sp), .int tpo, .long fro, .int (b2i z116.2)])), (bR, .inl (kR, 33000, .inl (fun k => b2i (rb k))))] H := hP
                      have hD : va_D A [(bM, .inr (3, [.int cd, .int wd, .ref bT, .ref bF, .int al, .ref bN, .ref bP, .ref bQ, .ref bR, .int sz1, .int un, .int (b2i mo), .int j193_0, .int (b2i sp), .int tpo, .long fro, .int (b2i z116.2)])), (bR, .inl (kR, 33000, .inl (fun k => b2i (rb k))))] := hD
                      have hl : lv_has ls 13 [(0, .ref bM), (1, .int (b2i bs)), (2, .int (g_M_highest sz1 rb)), (3, .int (un + (g_M_highest sz1 rb))), (4, .int (g_M_digits wd)), (5, .int (b2i j30_0)), (6, .int (((un + (g_M_highest sz1 rb)) + 1) - (g_M_digits wd))), (7, .long z116.1), (9, .int (b2i j140_0)), (10, .int (b2i j169_0))] := hl
                      refine lv_iadd hx hb d_M_make_321 ?_
                      refine va_put (D := (dC, dI)) (ci := 3) (v := .int ((j193_0 + 8) + j321_0)) (ty := .int) (C := R_M) (T := F_M) (N := 17) hx hb htA in_M t_M t_M_ok n_M hown hK hP hD hS 0 rfl rfl 12 (by decide) (htA _ k_248) (fun _ h9 => h9) rfl (by decide +kernel) rfl rfl (Nat.le_of_ble_eq_true rfl) d_M_make_322 (fun H locs hP hD hS => ?_)
                      have hP : va_P (dC, dI) classes [(bM, .inr (3, [.int cd, .int wd, .ref bT, .ref bF, .int al, .ref bN, .ref bP, .ref bQ, .ref bR, .int sz1, .int un, .int (b2i mo), .int ((j193_0 + 8) + j321_0), .int (b2i sp), .int tpo, .long fro, .int (b2i z116.2)])), (bR, .inl (kR, 33000, .inl (fun k => b2i (rb k))))] H := hP
                      have hD : va_D A [(bM, .inr (3, [.int cd, .int wd, .ref bT, .ref bF, .int al, .ref bN, .ref bP, .ref bQ, .ref bR, .int sz1, .int un, .int (b2i mo), .int ((j193_0 + 8) + j321_0), .int (b2i sp), .int tpo, .long fro, .int (b2i z116.2)])), (bR, .inl (kR, 33000, .inl (fun k => b2i (rb k))))] := hD
                      refine lv_aload_n hx hb d_M_make_325 rfl (lv_at hl 0 rfl) ?_
                      refine va_get (D := (dC, dI)) (ci := 3) (v := .int wd) (C := R_M) (T := F_M) (N := 17) hx hb htA in_M hown hK hP 0 rfl rfl 1 (by decide) (htA _ k_244) (fun _ h9 => h9) rfl d_M_make_326 ?_
                      refine lv_sipush (v := 1024) hx hb d_M_make_329 (by decide) ?_
                      refine lv_idiv hx hb d_M_make_332 (by decide) ?_
                      refine lv_iconst (v := 4) hx hb d_M_make_333 (by decide) ?_
                      refine lv_irem hx hb d_M_make_334 (by decide) ?_
                      refine lv_istore (lv' := [(11, .int ((wd / 1024) - (wd / 1024) / 4 * 4)), (0, .ref bM), (1, .int (b2i bs)), (2, .int (g_M_highest sz1 rb)), (3, .int (un + (g_M_highest sz1 rb))), (4, .int (g_M_digits wd)), (5, .int (b2i j30_0)), (6, .int (((un + (g_M_highest sz1 rb)) + 1) - (g_M_digits wd))), (7, .long z116.1), (9, .int (b2i j140_0)), (10, .int (b2i j169_0))]) hx hb d_M_make_335 hl (by decide) rfl (fun ls hl => ?_)
                      refine lv_iload hx hb d_M_make_337 (lv_at hl 0 rfl) ?_
                      refine cut_join (X := Bool) 0 0 (fun (x : Bool) (H : Heap) (locs : List Loc) (ls : Array Slot) => (if ((wd / 1024) - (wd / 1024) / 4 * 4) = 0 then true else let j353_0 : Int32 := if bs = true then 1 else 2; (if ((wd / 1024) - (wd / 1024) / 4 * 4) = j353_0 then true else false)) = x ∧ va_P (dC, dI) classes [(bM, .inr (3, [.int cd, .int wd, .ref bT, .ref bF, .int al, .ref bN, .ref bP, .ref bQ, .ref bR, .int sz1, .int un, .int (b2i mo), .int ((j193_0 + 8) + j321_0), .int (b2i sp), .int tpo, .long fro, .int (b2i z116.2)])), (bR, .inl (kR, 33000, .inl (fun k => b2i (rb k))))] H ∧ va_D A [(bM, .inr (3, [.int cd, .int wd, .ref bT, .ref bF, .int al, .ref bN, .ref bP, .ref bQ, .ref bR, .int sz1, .int un, .int (b2i mo), .int ((j193_0 + 8) + j321_0), .int (b2i sp), .int tpo, .long fro, .int (b2i z116.2)])), (bR, .inl (kR, 33000, .inl (fun k => b2i (rb k))))] ∧ va_S A s.heap H locs ∧ lv_has ls 13 [(0, .ref bM), (1, .int (b2i bs)), (2, .int (g_M_highest sz1 rb)), (3, .int (un + (g_M_highest sz1 rb))), (4, .int (g_M_digits wd)), (5, .int (b2i j30_0)), (6, .int (((un + (g_M_highest sz1 rb)) + 1) - (g_M_digits wd))), (7, .long z116.1), (9, .int (b2i j140_0)), (10, .int (b2i j169_0)), (11, .int ((wd / 1024) - (wd / 1024) / 4 * 4))]) (fun x ls => F0 m 361 ls [.int (b2i x)]) ?_ (fun J361 => ?_)
                      · skip
                        rintro j361_0 H locs ls ⟨ej361_0, hP, hD, hS, hl⟩
                        have ej361_0 : (if ((wd / 1024) - (wd / 1024) / 4 * 4) = 0 then true else let j353_0 : Int32 := if bs = true then 1 else 2; (if ((wd / 1024) - (wd / 1024) / 4 * 4) = j353_0 then true else false)) = j361_0 := ej361_0
                        have hP : va_P (dC, dI) classes [(bM, .inr (3, [.int cd, .int wd, .ref bT, .ref bF, .int al, .ref bN, .ref bP, .ref bQ, .ref bR, .int sz1, .int un, .int (b2i mo), .int ((j193_0 + 8) + j321_0), .int (b2i sp), .int tpo, .long fro, .int (b2i z116.2)])), (bR, .inl (kR, 33000, .inl (fun k => b2i (rb k))))] H := hP
                        have hD : va_D A [(bM, .inr (3, [.int cd, .int wd, .ref bT, .ref bF, .int al, .ref bN, .ref bP, .ref bQ, .ref bR, .int sz1, .int un, .int (b2i mo), .int ((j193_0 + 8) + j321_0), .int (b2i sp), .int tpo, .long fro, .int (b2i z116.2)])), (bR, .inl (kR, 33000, .inl (fun k => b2i (rb k))))] := hD
                        have hl : lv_has ls 13 [(0, .ref bM), (1, .int (b2i bs)), (2, .int (g_M_highest sz1 rb)), (3, .int (un + (g_M_highest sz1 rb))), (4, .int (g_M_digits wd)), (5, .int (b2i j30_0)), (6, .int (((un + (g_M_highest sz1 rb)) + 1) - (g_M_digits wd))), (7, .long z116.1), (9, .int (b2i j140_0)), (10, .int (b2i j169_0)), (11, .int ((wd / 1024) - (wd / 1024) / 4 * 4))] := hl
                        refine lv_istore (lv' := [(12, .int (b2i j361_0)), (0, .ref bM), (1, .int (b2i bs)), (2, .int (g_M_highest sz1 rb)), (3, .int (un + (g_M_highest sz1 rb))), (4, .int (g_M_digits wd)), (5, .int (b2i j30_0)), (6, .int (((un + (g_M_highest sz1 rb)) + 1) - (g_M_digits wd))), (7, .long z116.1), (9, .int (b2i j140_0)), (10, .int (b2i j169_0)), (11, .int ((wd / 1024) - (wd / 1024) / 4 * 4))]) hx hb d_M_make_361 hl (by decide) rfl (fun ls hl => ?_)
                        refine lv_iload hx hb d_M_make_363 (lv_at hl 0 rfl) ?_
                        refine lv_if_eq (tgt := 382) hx hb d_M_make_365 (by decide) (fun c_365 => ?_) (fun c_365 => ?_)
                        · skip
                          have c_365 : ¬ j361_0 = true := b2i_z c_365
                          refine lv_aload_n hx hb d_M_make_382 rfl (lv_at hl 1 rfl) ?_
                          refine lv_iload_n hx hb d_M_make_383 rfl (lv_at hl 2 rfl) ?_
                          refine lv_sipush (v := 32766) hx hb d_M_make_384 (by decide) ?_
                          refine lv_ldc2 (v := (-1)) hx hb hown (htA _ k_301) d_M_make_387 ?_
                          refine lv_bipush (v := 64) hx hb d_M_make_390 (by decide) ?_
                          refine lv_iload hx hb d_M_make_392 (lv_at hl 5 rfl) ?_
                          refine lv_isub hx hb d_M_make_394 ?_
                          refine lv_lshl (v := (sL (-1) (64 - (g_M_digits wd)))) hx hb d_M_make_395 rfl ?_
                          have hPc := hP.sub (ws' := [(bM, .inr (3, [.int cd, .int wd, .ref bT, .ref bF, .int al, .ref bN, .ref bP, .ref bQ, .ref bR, .int sz1, .int un, .int (b2i mo), .int ((j193_0 + 8) + j321_0), .int (b2i sp), .int tpo, .long fro, .int (b2i z116.2)]))]) [0] rfl
                          have hDc := hD.sub (ws' := [(bM, .inr (3, [.int cd, .int wd, .ref bT, .ref bF, .int al, .ref bN, .ref bP, .ref bQ, .ref bR, .int sz1, .int un, .int (b2i mo), .int ((j193_0 + 8) + j321_0), .int (b2i sp), .int tpo, .long fro, .int (b2i z116.2)]))]) [0] (by decide) rfl
                          have hKc := hK.sub (tys' := []) [] rfl
                          have hFc := va_free (wc := [(bM, .inr (3, [.int cd, .int wd, .ref bT, .ref bF, .int al, .ref bN, .ref bP, .ref bQ, .ref bR, .int sz1, .int un, .int (b2i mo), .int ((j193_0 + 8) + j321_0), .int (b2i sp), .int tpo, .long fro, .int (b2i z116.2)]))]) hD hS hA [0] rfl
                          refine cc_v (va_runV (As := [.int (b2i bs), .int 32766, .long (sL (-1) (64 - (g_M_digits wd)))]) (rest := []) ⟨hx, hb, hml, hown, htA⟩ (c_M_answer l dC dI bM bT bF bN bP bQ bR H.size cd wd al sz1 un mo ((j193_0 + 8) + j321_0) sp tpo fro z116.2 bs 32766 (sL (-1) (64 - (g_M_digits wd)))) (cwV 3 htA (gi_V k_288 k_289 k_290 k_263 (gi_code k_254)) rfl rfl rfl (by decide +kernel) ⟨Nat.le_of_ble_eq_true rfl, Nat.le_of_ble_eq_true rfl⟩) (pre_V hnw hPc hKc hDc (ci := 3) (q0 := 0) rfl rfl) rfl rfl hl.1 rfl (lv_room (Nat.le_of_ble_eq_true rfl)) d_M_make_396 ⟨Nat.le_of_ble_eq_true rfl, Nat.le_of_ble_eq_true rfl⟩) hS hFc hP hD [0] [1] (wr := [(bR, .inl (kR, 33000, .inl (fun k => b2i (rb k))))]) rfl rfl (by decide) (by decide) (fun H locs hP hD hS => ?_)
                          have hP : va_P (dC, dI) classes [(bR, .inl (kR, 33000, .inl (fun k => b2i (rb k)))), (bM, .inr (3, [.int cd, .int wd, .ref bT, .ref bF, .int al, .ref bN, .ref bP, .ref bQ, .ref bR, .int sz1, .int un, .int (b2i mo), .int ((j193_0 + 8) + j321_0), .int (b2i sp), .int (g_M_answer bs 32766), .long (sL (-1) (64 - (g_M_digits wd))), .int (b2i z116.2)]))] H := hP
                          have hD : va_D A [(bR, .inl (kR, 33000, .inl (fun k => b2i (rb k)))), (bM, .inr (3, [.int cd, .int wd, .ref bT, .ref bF, .int al, .ref bN, .ref bP, .ref bQ, .ref bR, .int sz1, .int un, .int (b2i mo), .int ((j193_0 + 8) + j321_0), .int (b2i sp), .int (g_M_answer bs 32766), .long (sL (-1) (64 - (g_M_digits wd))), .int (b2i z116.2)]))] := hD
                          have hE : g_M_make wd sz1 un mo tl rb bs = (((j193_0 + 8) + j321_0), (g_M_answer bs 32766), (sL (-1) (64 - (g_M_digits wd))), z116.2) := by clear hP hD hl hS; subst ej361_0; subst ej321_0; subst ej240_0; subst ej193_0; subst ej169_0; subst ej140_0; subst ez116; subst ej30_0; unfold g_M_make; (try dsimp only); rw [if_neg c_34, if_neg c_198, if_pos c_244, if_neg c_269, if_neg c_365]
                          have hP9 : va_P (dC, dI) classes [(bM, .inr (3, [.int cd, .int wd, .ref bT, .ref bF, .int al, .ref bN, .ref bP, .ref bQ, .ref bR, .int sz1, .int un, .int (b2i mo), .int ((g_M_make wd sz1 un mo tl rb bs).1), .int (b2i sp), .int ((g_M_make wd sz1 un mo tl rb bs).2.1), .long ((g_M_make wd sz1 un mo tl rb bs).2.2.1), .int (b2i ((g_M_make wd sz1 un mo tl rb bs).2.2.2))])), (bR, .inl (kR, 33000, .inl (fun k => b2i (rb k))))] H := by rw [hE]; exact hP.sub [1, 0] rfl
                          have hD9 : va_D A [(bM, .inr (3, [.int cd, .int wd, .ref bT, .ref bF, .int al, .ref bN, .ref bP, .ref bQ, .ref bR, .int sz1, .int un, .int (b2i mo), .int ((g_M_make wd sz1 un mo tl rb bs).1), .int (b2i sp), .int ((g_M_make wd sz1 un mo tl rb bs).2.1), .long ((g_M_make wd sz1 un mo tl rb bs).2.2.1), .int (b2i ((g_M_make wd sz1 un mo tl rb bs).2.2.2))])), (bR, .inl (kR, 33000, .inl (fun k => b2i (rb k))))] := by rw [hE]; exact hD.sub [1, 0] (by decide) rfl
                          exact W.vret hx hb hr (fun t ht hW => ⟨⟨(), rfl, trivial, by rw [ht]; exact hP9, hD9⟩, hS.F ht⟩) hS.2.2 d_M_make_399
                        · skip
                          have c_365 : j361_0 = true := b2i_nz c_365
                          refine lv_aload_n hx hb d_M_make_368 rfl (lv_at hl 1 rfl) ?_
                          refine lv_iload_n hx hb d_M_make_369 rfl (lv_at hl 2 rfl) ?_
                          refine lv_sipush (v := 32767) hx hb d_M_make_370 (by decide) ?_
                          refine lv_ldc2 (v := (-9223372036854775808)) hx hb hown (htA _ k_287) d_M_make_373 ?_
                          have hPc := hP.sub (ws' := [(bM, .inr (3, [.int cd, .int wd, .ref bT, .ref bF, .int al, .ref bN, .ref bP, .ref bQ, .ref bR, .int sz1, .int un, .int (b2i mo), .int ((j193_0 + 8) + j321_0), .int (b2i sp), .int tpo, .long fro, .int (b2i z116.2)]))]) [0] rfl
                          have hDc := hD.sub (ws' := [(bM, .inr (3, [.int cd, .int wd, .ref bT, .ref bF, .int al, .ref bN, .ref bP, .ref bQ, .ref bR, .int sz1, .int un, .int (b2i mo), .int ((j193_0 + 8) + j321_0), .int (b2i sp), .int tpo, .long fro, .int (b2i z116.2)]))]) [0] (by decide) rfl
                          have hKc := hK.sub (tys' := []) [] rfl
                          have hFc := va_free (wc := [(bM, .inr (3, [.int cd, .int wd, .ref bT, .ref bF, .int al, .ref bN, .ref bP, .ref bQ, .ref bR, .int sz1, .int un, .int (b2i mo), .int ((j193_0 + 8) + j321_0), .int (b2i sp), .int tpo, .long fro, .int (b2i z116.2)]))]) hD hS hA [0] rfl
                          refine cc_v (va_runV (As := [.int (b2i bs), .int 32767, .long (-9223372036854775808)]) (rest := []) ⟨hx, hb, hml, hown, htA⟩ (c_M_answer l dC dI bM bT bF bN bP bQ bR H.size cd wd al sz1 un mo ((j193_0 + 8) + j321_0) sp tpo fro z116.2 bs 32767 (-9223372036854775808)) (cwV 3 htA (gi_V k_288 k_289 k_290 k_263 (gi_code k_254)) rfl rfl rfl (by decide +kernel) ⟨Nat.le_of_ble_eq_true rfl, Nat.le_of_ble_eq_true rfl⟩) (pre_V hnw hPc hKc hDc (ci := 3) (q0 := 0) rfl rfl) rfl rfl hl.1 rfl (lv_room (Nat.le_of_ble_eq_true rfl)) d_M_make_376 ⟨Nat.le_of_ble_eq_true rfl, Nat.le_of_ble_eq_true rfl⟩) hS hFc hP hD [0] [1] (wr := [(bR, .inl (kR, 33000, .inl (fun k => b2i (rb k))))]) rfl rfl (by decide) (by decide) (fun H locs hP hD hS => ?_)
                          have hP : va_P (dC, dI) classes [(bR, .inl (kR, 33000, .inl (fun k => b2i (rb k)))), (bM, .inr (3, [.int cd, .int wd, .ref bT, .ref bF, .int al, .ref bN, .ref bP, .ref bQ, .ref bR, .int sz1, .int un, .int (b2i mo), .int ((j193_0 + 8) + j321_0), .int (b2i sp), .int (g_M_answer bs 32767), .long (-9223372036854775808), .int (b2i z116.2)]))] H := hP
                          have hD : va_D A [(bR, .inl (kR, 33000, .inl (fun k => b2i (rb k)))), (bM, .inr (3, [.int cd, .int wd, .ref bT, .ref bF, .int al, .ref bN, .ref bP, .ref bQ, .ref bR, .int sz1, .int un, .int (b2i mo), .int ((j193_0 + 8) + j321_0), .int (b2i sp), .int (g_M_answer bs 32767), .long (-9223372036854775808), .int (b2i z116.2)]))] := hD
                          refine lv_goto (tgt := 399) hx hb d_M_make_379 (by decide) ?_
                          have hE : g_M_make wd sz1 un mo tl rb bs = (((j193_0 + 8) + j321_0), (g_M_answer bs 32767), (-9223372036854775808), z116.2) := by clear hP hD hl hS; subst ej361_0; subst ej321_0; subst ej240_0; subst ej193_0; subst ej169_0; subst ej140_0; subst ez116; subst ej30_0; unfold g_M_make; (try dsimp only); rw [if_neg c_34, if_neg c_198, if_pos c_244, if_neg c_269, if_pos c_365]
                          have hP9 : va_P (dC, dI) classes [(bM, .inr (3, [.int cd, .int wd, .ref bT, .ref bF, .int al, .ref bN, .ref bP, .ref bQ, .ref bR, .int sz1, .int un, .int (b2i mo), .int ((g_M_make wd sz1 un mo tl rb bs).1), .int (b2i sp), .int ((g_M_make wd sz1 un mo tl rb bs).2.1), .long ((g_M_make wd sz1 un mo tl rb bs).2.2.1), .int (b2i ((g_M_make wd sz1 un mo tl rb bs).2.2.2))])), (bR, .inl (kR, 33000, .inl (fun k => b2i (rb k))))] H := by rw [hE]; exact hP.sub [1, 0] rfl
                          have hD9 : va_D A [(bM, .inr (3, [.int cd, .int wd, .ref bT, .ref bF, .int al, .ref bN, .ref bP, .ref bQ, .ref bR, .int sz1, .int un, .int (b2i mo), .int ((g_M_make wd sz1 un mo tl rb bs).1), .int (b2i sp), .int ((g_M_make wd sz1 un mo tl rb bs).2.1), .long ((g_M_make wd sz1 un mo tl rb bs).2.2.1), .int (b2i ((g_M_make wd sz1 un mo tl rb bs).2.2.2))])), (bR, .inl (kR, 33000, .inl (fun k => b2i (rb k))))] := by rw [hE]; exact hD.sub [1, 0] (by decide) rfl
                          exact W.vret hx hb hr (fun t ht hW => ⟨⟨(), rfl, trivial, by rw [ht]; exact hP9, hD9⟩, hS.F ht⟩) hS.2.2 d_M_make_399
                      · skip
                        refine lv_if_eq (tgt := 356) hx hb d_M_make_339 (by decide) (fun c_339 => ?_) (fun c_339 => ?_)
                        · skip
                          refine lv_iconst (v := 1) hx hb d_M_make_356 (by decide) ?_
                          refine lv_goto (tgt := 361) hx hb d_M_make_357 (by decide) ?_
                          exact J361 (true) H locs ls ⟨by clear hP hD hl hS; (try dsimp only); rw [if_pos c_339], hP.sub [0, 1] rfl, hD.sub [0, 1] (by decide) rfl, hS, lv_sub hl [1, 2, 3, 4, 5, 6, 7, 8, 9, 10, 0] rfl⟩
                        · skip
                          refine lv_iload hx hb d_M_make_342 (lv_at hl 0 rfl) ?_
                          refine lv_iload_n hx hb d_M_make_344 rfl (lv_at hl 2 rfl) ?_
                          refine cut_join (X := Int32) 0 0 (fun (x : Int32) (H : Heap) (locs : List Loc) (ls : Array Slot) => (if bs = true then 1 else 2) = x ∧ va_P (dC, dI) classes [(bM, .inr (3, [.int cd, .int wd, .ref bT, .ref bF, .int al, .ref bN, .ref bP, .ref bQ, .ref bR, .int sz1, .int un, .int (b2i mo), .int ((j193_0 + 8) + j321_0), .int (b2i sp), .int tpo, .long fro, .int (b2i z116.2)])), (bR, .inl (kR, 33000, .inl (fun k => b2i (rb k))))] H ∧ va_D A [(bM, .inr (3, [.int cd, .int wd, .ref bT, .ref bF, .int al, .ref bN, .ref bP, .ref bQ, .ref bR, .int sz1, .int un, .int (b2i mo), .int ((j193_0 + 8) + j321_0), .int (b2i sp), .int tpo, .long fro, .int (b2i z116.2)])), (bR, .inl (kR, 33000, .inl (fun k => b2i (rb k))))] ∧ va_S A s.heap H locs ∧ lv_has ls 13 [(0, .ref bM), (1, .int (b2i bs)), (2, .int (g_M_highest sz1 rb)), (3, .int (un + (g_M_highest sz1 rb))), (4, .int (g_M_digits wd)), (5, .int (b2i j30_0)), (6, .int (((un + (g_M_highest sz1 rb)) + 1) - (g_M_digits wd))), (7, .long z116.1), (9, .int (b2i j140_0)), (10, .int (b2i j169_0)), (11, .int ((wd / 1024) - (wd / 1024) / 4 * 4))]) (fun x ls => F0 m 353 ls [.int x, .int ((wd / 1024) - (wd / 1024) / 4 * 4)]) ?_ (fun J353 => ?_)
                          · skip
                            rintro j353_0 H locs ls ⟨ej353_0, hP, hD, hS, hl⟩
                            have ej353_0 : (if bs = true then 1 else 2) = j353_0 := ej353_0
                            have hP : va_P (dC, dI) classes [(bM, .inr (3, [.int cd, .int wd, .ref bT, .ref bF, .int al, .ref bN, .ref bP, .ref bQ, .ref bR, .int sz1, .int un, .int (b2i mo), .int ((j193_0 + 8) + j321_0), .int (b2i sp), .int tpo, .long fro, .int (b2i z116.2)])), (bR, .inl (kR, 33000, .inl (fun k => b2i (rb k))))] H := hP
                            have hD : va_D A [(bM, .inr (3, [.int cd, .int wd, .ref bT, .ref bF, .int al, .ref bN, .ref bP, .ref bQ, .ref bR, .int sz1, .int un, .int (b2i mo), .int ((j193_0 + 8) + j321_0), .int (b2i sp), .int tpo, .long fro, .int (b2i z116.2)])), (bR, .inl (kR, 33000, .inl (fun k => b2i (rb k))))] := hD
                            have hl : lv_has ls 13 [(0, .ref bM), (1, .int (b2i bs)), (2, .int (g_M_highest sz1 rb)), (3, .int (un + (g_M_highest sz1 rb))), (4, .int (g_M_digits wd)), (5, .int (b2i j30_0)), (6, .int (((un + (g_M_highest sz1 rb)) + 1) - (g_M_digits wd))), (7, .long z116.1), (9, .int (b2i j140_0)), (10, .int (b2i j169_0)), (11, .int ((wd / 1024) - (wd / 1024) / 4 * 4))] := hl
                            refine lv_icmp_ne (tgt := 360) hx hb d_M_make_353 (by decide) (fun c_353 => ?_) (fun c_353 => ?_)
                            · skip
                              refine lv_iconst (v := 0) hx hb d_M_make_360 (by decide) ?_
                              exact J361 (false) H locs ls ⟨by clear hP hD hl hS; subst ej353_0; (try dsimp only); rw [if_neg c_339, if_neg c_353], hP.sub [0, 1] rfl, hD.sub [0, 1] (by decide) rfl, hS, lv_sub hl [0, 1, 2, 3, 4, 5, 6, 7, 8, 9, 10] rfl⟩
                            · skip
                              refine lv_iconst (v := 1) hx hb d_M_make_356 (by decide) ?_
                              refine lv_goto (tgt := 361) hx hb d_M_make_357 (by decide) ?_
                              exact J361 (true) H locs ls ⟨by clear hP hD hl hS; subst ej353_0; (try dsimp only); rw [if_neg c_339, if_pos c_353], hP.sub [0, 1] rfl, hD.sub [0, 1] (by decide) rfl, hS, lv_sub hl [0, 1, 2, 3, 4, 5, 6, 7, 8, 9, 10] rfl⟩
                          · skip
                            refine lv_if_eq (tgt := 352) hx hb d_M_make_345 (by decide) (fun c_345 => ?_) (fun c_345 => ?_)
                            · skip
                              have c_345 : ¬ bs = true := b2i_z c_345
                              refine lv_iconst (v := 2) hx hb d_M_make_352 (by decide) ?_
                              exact J353 (2) H locs ls ⟨by clear hP hD hl hS; (try dsimp only); rw [if_neg c_345], hP.sub [0, 1] rfl, hD.sub [0, 1] (by decide) rfl, hS, lv_sub hl [1, 2, 3, 4, 5, 6, 7, 8, 9, 10, 0] rfl⟩
                            · skip
                              have c_345 : bs = true := b2i_nz c_345
                              refine lv_iconst (v := 1) hx hb d_M_make_348 (by decide) ?_
                              refine lv_goto (tgt := 353) hx hb d_M_make_349 (by decide) ?_
                              exact J353 (1) H locs ls ⟨by clear hP hD hl hS; (try dsimp only); rw [if_pos c_345], hP.sub [0, 1] rfl, hD.sub [0, 1] (by decide) rfl, hS, lv_sub hl [1, 2, 3, 4, 5, 6, 7, 8, 9, 10, 0] rfl⟩
                    · skip
                      refine lv_if_eq (tgt := 319) hx hb d_M_make_312 (by decide) (fun c_312 => ?_) (fun c_312 => ?_)
                      · skip
                        have c_312 : ¬ z116.2 = true := b2i_z c_312
                        refine lv_bipush (v := 32) hx hb d_M_make_319 (by decide) ?_
                        exact J321 (32) H locs ls ⟨by clear hP hD hl hS; (try dsimp only); rw [if_neg c_312], hP.sub [0, 1] rfl, hD.sub [0, 1] (by decide) rfl, hS, lv_sub hl [0, 1, 2, 3, 4, 5, 6, 7, 8, 9] rfl⟩
                      · skip
                        have c_312 : z116.2 = true := b2i_nz c_312
                        refine lv_iconst (v := 0) hx hb d_M_make_315 (by decide) ?_
                        refine lv_goto (tgt := 321) hx hb d_M_make_316 (by decide) ?_
                        exact J321 (0) H locs ls ⟨by clear hP hD hl hS; (try dsimp only); rw [if_pos c_312], hP.sub [0, 1] rfl, hD.sub [0, 1] (by decide) rfl, hS, lv_sub hl [0, 1, 2, 3, 4, 5, 6, 7, 8, 9] rfl⟩
                  · skip
                    refine lv_aload_n hx hb d_M_make_272 rfl (lv_at hl 0 rfl) ?_
                    refine lv_aload_n hx hb d_M_make_273 rfl (lv_at hl 0 rfl) ?_
                    refine va_get (D := (dC, dI)) (ci := 3) (v := .int j193_0) (C := R_M) (T := F_M) (N := 17) hx hb htA in_M hown hK hP 0 rfl rfl 12 (by decide) (htA _ k_248) (fun _ h9 => h9) rfl d_M_make_274 ?_
                    refine lv_bipush (v := 8) hx hb d_M_make_277 (by decide) ?_
                    refine lv_iadd hx hb d_M_make_279 ?_
                    refine va_put (D := (dC, dI)) (ci := 3) (v := .int (j193_0 + 8)) (ty := .int) (C := R_M) (T := F_M) (N := 17) hx hb htA in_M t_M t_M_ok n_M hown hK hP hD hS 0 rfl rfl 12 (by decide) (htA _ k_248) (fun _ h9 => h9) rfl (by decide +kernel) rfl rfl (Nat.le_of_ble_eq_true rfl) d_M_make_280 (fun H locs hP hD hS => ?_)
                    have hP : va_P (dC, dI) classes [(bM, .inr (3, [.int cd, .int wd, .ref bT, .ref bF, .int al, .ref bN, .ref bP, .ref bQ, .ref bR, .int sz1, .int un, .int (b2i mo), .int (j193_0 + 8), .int (b2i sp), .int tpo, .long fro, .int (b2i z116.2)])), (bR, .inl (kR, 33000, .inl (fun k => b2i (rb k))))] H := hP
                    have hD : va_D A [(bM, .inr (3, [.int cd, .int wd, .ref bT, .ref bF, .int al, .ref bN, .ref bP, .ref bQ, .ref bR, .int sz1, .int un, .int (b2i mo), .int (j193_0 + 8), .int (b2i sp), .int tpo, .long fro, .int (b2i z116.2)])), (bR, .inl (kR, 33000, .inl (fun k => b2i (rb k))))] := hD
                    refine lv_aload_n hx hb d_M_make_283 rfl (lv_at hl 0 rfl) ?_
                    refine lv_iload_n hx hb d_M_make_284 rfl (lv_at hl 1 rfl) ?_
                    refine lv_lload hx hb d_M_make_285 (lv_at hl 7 rfl) ?_
                    refine lv_iload hx hb d_M_make_287 (lv_at hl 8 rfl) ?_
                    refine lv_iload hx hb d_M_make_289 (lv_at hl 6 rfl) ?_
                    refine lv_sipush (v := (-24576)) hx hb d_M_make_291 (by decide) ?_
                    have hPc := hP.sub (ws' := [(bM, .inr (3, [.int cd, .int wd, .ref bT, .ref bF, .int al, .ref bN, .ref bP, .ref bQ, .ref bR, .int sz1, .int un, .int (b2i mo), .int (j193_0 + 8), .int (b2i sp), .int tpo, .long fro, .int (b2i z116.2)]))]) [0] rfl
                    have hDc := hD.sub (ws' := [(bM, .inr (3, [.int cd, .int wd, .ref bT, .ref bF, .int al, .ref bN, .ref bP, .ref bQ, .ref bR, .int sz1, .int un, .int (b2i mo), .int (j193_0 + 8), .int (b2i sp), .int tpo, .long fro, .int (b2i z116.2)]))]) [0] (by decide) rfl
                    have hKc := hK.sub (tys' := []) [] rfl
                    have hFc := va_free (wc := [(bM, .inr (3, [.int cd, .int wd, .ref bT, .ref bF, .int al, .ref bN, .ref bP, .ref bQ, .ref bR, .int sz1, .int un, .int (b2i mo), .int (j193_0 + 8), .int (b2i sp), .int tpo, .long fro, .int (b2i z116.2)]))]) hD hS hA [0] rfl
                    refine cc_v (va_runV (As := [.int (b2i bs), .long z116.1, .int (b2i j140_0), .int (((un + (g_M_highest sz1 rb)) + 1) - (g_M_digits wd)), .int (-24576)]) (rest := []) ⟨hx, hb, hml, hown, htA⟩ (c_M_put l dC dI bM bT bF bN bP bQ bR H.size cd wd al sz1 un mo (j193_0 + 8) sp tpo fro z116.2 bs z116.1 j140_0 (((un + (g_M_highest sz1 rb)) + 1) - (g_M_digits wd)) (-24576)) (cwV 5 htA (gi_V k_302 k_303 k_304 k_263 (gi_code k_291)) rfl rfl rfl (by decide +kernel) ⟨Nat.le_of_ble_eq_true rfl, Nat.le_of_ble_eq_true rfl⟩) (pre_V hnw hPc hKc hDc (ci := 3) (q0 := 0) rfl rfl) rfl rfl hl.1 rfl (lv_room (Nat.le_of_ble_eq_true rfl)) d_M_make_294 ⟨Nat.le_of_ble_eq_true rfl, Nat.le_of_ble_eq_true rfl⟩) hS hFc hP hD [0] [1] (wr := [(bR, .inl (kR, 33000, .inl (fun k => b2i (rb k))))]) rfl rfl (by decide) (by decide) (fun H locs hP hD hS => ?_)
                    obtain ⟨z294, ez294⟩ : ∃ z, g_M_put bs z116.1 j140_0 (((un + (g_M_highest sz1 rb)) + 1) - (g_M_digits wd)) (-24576) = z := ⟨_, rfl⟩
                    rw [ez294] at hP hD
                    have hP : va_P (dC, dI) classes [(bR, .inl (kR, 33000, .inl (fun k => b2i (rb k)))), (bM, .inr (3, [.int cd, .int wd, .ref bT, .ref bF, .int al, .ref bN, .ref bP, .ref bQ, .ref bR, .int sz1, .int un, .int (b2i mo), .int (j193_0 + 8), .int (b2i sp), .int z294.1, .long z294.2, .int (b2i z116.2)]))] H := hP
                    have hD : va_D A [(bR, .inl (kR, 33000, .inl (fun k => b2i (rb k)))), (bM, .inr (3, [.int cd, .int wd, .ref bT, .ref bF, .int al, .ref bN, .ref bP, .ref bQ, .ref bR, .int sz1, .int un, .int (b2i mo), .int (j193_0 + 8), .int (b2i sp), .int z294.1, .long z294.2, .int (b2i z116.2)]))] := hD
                    refine lv_goto (tgt := 399) hx hb d_M_make_297 (by decide) ?_
                    have hE : g_M_make wd sz1 un mo tl rb bs = ((j193_0 + 8), z294.1, z294.2, z116.2) := by clear hP hD hl hS; subst ez294; subst ej240_0; subst ej193_0; subst ej169_0; subst ej140_0; subst ez116; subst ej30_0; unfold g_M_make; (try dsimp only); rw [if_neg c_34, if_neg c_198, if_pos c_244, if_pos c_269]
                    have hP9 : va_P (dC, dI) classes [(bM, .inr (3, [.int cd, .int wd, .ref bT, .ref bF, .int al, .ref bN, .ref bP, .ref bQ, .ref bR, .int sz1, .int un, .int (b2i mo), .int ((g_M_make wd sz1 un mo tl rb bs).1), .int (b2i sp), .int ((g_M_make wd sz1 un mo tl rb bs).2.1), .long ((g_M_make wd sz1 un mo tl rb bs).2.2.1), .int (b2i ((g_M_make wd sz1 un mo tl rb bs).2.2.2))])), (bR, .inl (kR, 33000, .inl (fun k => b2i (rb k))))] H := by rw [hE]; exact hP.sub [1, 0] rfl
                    have hD9 : va_D A [(bM, .inr (3, [.int cd, .int wd, .ref bT, .ref bF, .int al, .ref bN, .ref bP, .ref bQ, .ref bR, .int sz1, .int un, .int (b2i mo), .int ((g_M_make wd sz1 un mo tl rb bs).1), .int (b2i sp), .int ((g_M_make wd sz1 un mo tl rb bs).2.1), .long ((g_M_make wd sz1 un mo tl rb bs).2.2.1), .int (b2i ((g_M_make wd sz1 un mo tl rb bs).2.2.2))])), (bR, .inl (kR, 33000, .inl (fun k => b2i (rb k))))] := by rw [hE]; exact hD.sub [1, 0] (by decide) rfl
                    exact W.vret hx hb hr (fun t ht hW => ⟨⟨(), rfl, trivial, by rw [ht]; exact hP9, hD9⟩, hS.F ht⟩) hS.2.2 d_M_make_399
                · skip
                  refine lv_aload_n hx hb d_M_make_247 rfl (lv_at hl 0 rfl) ?_
                  refine lv_iload_n hx hb d_M_make_248 rfl (lv_at hl 1 rfl) ?_
                  refine lv_lload hx hb d_M_make_249 (lv_at hl 7 rfl) ?_
                  refine lv_iload hx hb d_M_make_251 (lv_at hl 8 rfl) ?_
                  refine lv_iload hx hb d_M_make_253 (lv_at hl 6 rfl) ?_
                  refine lv_iconst (v := 0) hx hb d_M_make_255 (by decide) ?_
                  have hPc := hP.sub (ws' := [(bM, .inr (3, [.int cd, .int wd, .ref bT, .ref bF, .int al, .ref bN, .ref bP, .ref bQ, .ref bR, .int sz1, .int un, .int (b2i mo), .int j193_0, .int (b2i sp), .int tpo, .long fro, .int (b2i z116.2)]))]) [0] rfl
                  have hDc := hD.sub (ws' := [(bM, .inr (3, [.int cd, .int wd, .ref bT, .ref bF, .int al, .ref bN, .ref bP, .ref bQ, .ref bR, .int sz1, .int un, .int (b2i mo), .int j193_0, .int (b2i sp), .int tpo, .long fro, .int (b2i z116.2)]))]) [0] (by decide) rfl
                  have hKc := hK.sub (tys' := []) [] rfl
                  have hFc := va_free (wc := [(bM, .inr (3, [.int cd, .int wd, .ref bT, .ref bF, .int al, .ref bN, .ref bP, .ref bQ, .ref bR, .int sz1, .int un, .int (b2i mo), .int j193_0, .int (b2i sp), .int tpo, .long fro, .int (b2i z116.2)]))]) hD hS hA [0] rfl
                  refine cc_v (va_runV (As := [.int (b2i bs), .long z116.1, .int (b2i j140_0), .int (((un + (g_M_highest sz1 rb)) + 1) - (g_M_digits wd)), .int 0]) (rest := []) ⟨hx, hb, hml, hown, htA⟩ (c_M_put l dC dI bM bT bF bN bP bQ bR H.size cd wd al sz1 un mo j193_0 sp tpo fro z116.2 bs z116.1 j140_0 (((un + (g_M_highest sz1 rb)) + 1) - (g_M_digits wd)) 0) (cwV 5 htA (gi_V k_302 k_303 k_304 k_263 (gi_code k_291)) rfl rfl rfl (by decide +kernel) ⟨Nat.le_of_ble_eq_true rfl, Nat.le_of_ble_eq_true rfl⟩) (pre_V hnw hPc hKc hDc (ci := 3) (q0 := 0) rfl rfl) rfl rfl hl.1 rfl (lv_room (Nat.le_of_ble_eq_true rfl)) d_M_make_256 ⟨Nat.le_of_ble_eq_true rfl, Nat.le_of_ble_eq_true rfl⟩) hS hFc hP hD [0] [1] (wr := [(bR, .inl (kR, 33000, .inl (fun k => b2i (rb k))))]) rfl rfl (by decide) (by decide) (fun H locs hP hD hS => ?_)
                  obtain ⟨z256, ez256⟩ : ∃ z, g_M_put bs z116.1 j140_0 (((un + (g_M_highest sz1 rb)) + 1) - (g_M_digits wd)) 0 = z := ⟨_, rfl⟩
                  rw [ez256] at hP hD
                  have hP : va_P (dC, dI) classes [(bR, .inl (kR, 33000, .inl (fun k => b2i (rb k)))), (bM, .inr (3, [.int cd, .int wd, .ref bT, .ref bF, .int al, .ref bN, .ref bP, .ref bQ, .ref bR, .int sz1, .int un, .int (b2i mo), .int j193_0, .int (b2i sp), .int z256.1, .long z256.2, .int (b2i z116.2)]))] H := hP
                  have hD : va_D A [(bR, .inl (kR, 33000, .inl (fun k => b2i (rb k)))), (bM, .inr (3, [.int cd, .int wd, .ref bT, .ref bF, .int al, .ref bN, .ref bP, .ref bQ, .ref bR, .int sz1, .int un, .int (b2i mo), .int j193_0, .int (b2i sp), .int z256.1, .long z256.2, .int (b2i z116.2)]))] := hD
                  refine lv_goto (tgt := 399) hx hb d_M_make_259 (by decide) ?_
                  have hE : g_M_make wd sz1 un mo tl rb bs = (j193_0, z256.1, z256.2, z116.2) := by clear hP hD hl hS; subst ez256; subst ej240_0; subst ej193_0; subst ej169_0; subst ej140_0; subst ez116; subst ej30_0; unfold g_M_make; (try dsimp only); rw [if_neg c_34, if_neg c_198, if_neg c_244]
                  have hP9 : va_P (dC, dI) classes [(bM, .inr (3, [.int cd, .int wd, .ref bT, .ref bF, .int al, .ref bN, .ref bP, .ref bQ, .ref bR, .int sz1, .int un, .int (b2i mo), .int ((g_M_make wd sz1 un mo tl rb bs).1), .int (b2i sp), .int ((g_M_make wd sz1 un mo tl rb bs).2.1), .long ((g_M_make wd sz1 un mo tl rb bs).2.2.1), .int (b2i ((g_M_make wd sz1 un mo tl rb bs).2.2.2))])), (bR, .inl (kR, 33000, .inl (fun k => b2i (rb k))))] H := by rw [hE]; exact hP.sub [1, 0] rfl
                  have hD9 : va_D A [(bM, .inr (3, [.int cd, .int wd, .ref bT, .ref bF, .int al, .ref bN, .ref bP, .ref bQ, .ref bR, .int sz1, .int un, .int (b2i mo), .int ((g_M_make wd sz1 un mo tl rb bs).1), .int (b2i sp), .int ((g_M_make wd sz1 un mo tl rb bs).2.1), .long ((g_M_make wd sz1 un mo tl rb bs).2.2.1), .int (b2i ((g_M_make wd sz1 un mo tl rb bs).2.2.2))])), (bR, .inl (kR, 33000, .inl (fun k => b2i (rb k))))] := by rw [hE]; exact hD.sub [1, 0] (by decide) rfl
                  exact W.vret hx hb hr (fun t ht hW => ⟨⟨(), rfl, trivial, by rw [ht]; exact hP9, hD9⟩, hS.F ht⟩) hS.2.2 d_M_make_399
              · skip
                refine lv_if_eq (tgt := 239) hx hb d_M_make_232 (by decide) (fun c_232 => ?_) (fun c_232 => ?_)
                · skip
                  have c_232 : ¬ j169_0 = true := b2i_z c_232
                  refine lv_iconst (v := 0) hx hb d_M_make_239 (by decide) ?_
                  exact J240 (false) H locs ls ⟨by clear hP hD hl hS; (try dsimp only); rw [if_neg c_232], hP.sub [0, 1] rfl, hD.sub [0, 1] (by decide) rfl, hS, lv_sub hl [0, 1, 2, 3, 4, 5, 6, 7, 8, 9] rfl⟩
                · skip
                  have c_232 : j169_0 = true := b2i_nz c_232
                  refine lv_iconst (v := 1) hx hb d_M_make_235 (by decide) ?_
                  refine lv_goto (tgt := 240) hx hb d_M_make_236 (by decide) ?_
                  exact J240 (true) H locs ls ⟨by clear hP hD hl hS; (try dsimp only); rw [if_pos c_232], hP.sub [0, 1] rfl, hD.sub [0, 1] (by decide) rfl, hS, lv_sub hl [0, 1, 2, 3, 4, 5, 6, 7, 8, 9] rfl⟩
            · skip
              have c_198 : j30_0 = true := b2i_nz c_198
              refine lv_aload_n hx hb d_M_make_201 rfl (lv_at hl 0 rfl) ?_
              refine lv_aload_n hx hb d_M_make_202 rfl (lv_at hl 0 rfl) ?_
              refine va_get (D := (dC, dI)) (ci := 3) (v := .int j193_0) (C := R_M) (T := F_M) (N := 17) hx hb htA in_M hown hK hP 0 rfl rfl 12 (by decide) (htA _ k_248) (fun _ h9 => h9) rfl d_M_make_203 ?_
              refine lv_bipush (v := 16) hx hb d_M_make_206 (by decide) ?_
              refine lv_iadd hx hb d_M_make_208 ?_
              refine va_put (D := (dC, dI)) (ci := 3) (v := .int (j193_0 + 16)) (ty := .int) (C := R_M) (T := F_M) (N := 17) hx hb htA in_M t_M t_M_ok n_M hown hK hP hD hS 0 rfl rfl 12 (by decide) (htA _ k_248) (fun _ h9 => h9) rfl (by decide +kernel) rfl rfl (Nat.le_of_ble_eq_true rfl) d_M_make_209 (fun H locs hP hD hS => ?_)
              have hP : va_P (dC, dI) classes [(bM, .inr (3, [.int cd, .int wd, .ref bT, .ref bF, .int al, .ref bN, .ref bP, .ref bQ, .ref bR, .int sz1, .int un, .int (b2i mo), .int (j193_0 + 16), .int (b2i sp), .int tpo, .long fro, .int (b2i z116.2)])), (bR, .inl (kR, 33000, .inl (fun k => b2i (rb k))))] H := hP
              have hD : va_D A [(bM, .inr (3, [.int cd, .int wd, .ref bT, .ref bF, .int al, .ref bN, .ref bP, .ref bQ, .ref bR, .int sz1, .int un, .int (b2i mo), .int (j193_0 + 16), .int (b2i sp), .int tpo, .long fro, .int (b2i z116.2)])), (bR, .inl (kR, 33000, .inl (fun k => b2i (rb k))))] := hD
              refine lv_aload_n hx hb d_M_make_212 rfl (lv_at hl 0 rfl) ?_
              refine lv_iload_n hx hb d_M_make_213 rfl (lv_at hl 1 rfl) ?_
              refine lv_lload hx hb d_M_make_214 (lv_at hl 7 rfl) ?_
              refine lv_iload hx hb d_M_make_216 (lv_at hl 8 rfl) ?_
              refine lv_iload hx hb d_M_make_218 (lv_at hl 6 rfl) ?_
              refine lv_sipush (v := 24576) hx hb d_M_make_220 (by decide) ?_
              have hPc := hP.sub (ws' := [(bM, .inr (3, [.int cd, .int wd, .ref bT, .ref bF, .int al, .ref bN, .ref bP, .ref bQ, .ref bR, .int sz1, .int un, .int (b2i mo), .int (j193_0 + 16), .int (b2i sp), .int tpo, .long fro, .int (b2i z116.2)]))]) [0] rfl
              have hDc := hD.sub (ws' := [(bM, .inr (3, [.int cd, .int wd, .ref bT, .ref bF, .int al, .ref bN, .ref bP, .ref bQ, .ref bR, .int sz1, .int un, .int (b2i mo), .int (j193_0 + 16), .int (b2i sp), .int tpo, .long fro, .int (b2i z116.2)]))]) [0] (by decide) rfl
              have hKc := hK.sub (tys' := []) [] rfl
              have hFc := va_free (wc := [(bM, .inr (3, [.int cd, .int wd, .ref bT, .ref bF, .int al, .ref bN, .ref bP, .ref bQ, .ref bR, .int sz1, .int un, .int (b2i mo), .int (j193_0 + 16), .int (b2i sp), .int tpo, .long fro, .int (b2i z116.2)]))]) hD hS hA [0] rfl
              refine cc_v (va_runV (As := [.int (b2i bs), .long z116.1, .int (b2i j140_0), .int (((un + (g_M_highest sz1 rb)) + 1) - (g_M_digits wd)), .int 24576]) (rest := []) ⟨hx, hb, hml, hown, htA⟩ (c_M_put l dC dI bM bT bF bN bP bQ bR H.size cd wd al sz1 un mo (j193_0 + 16) sp tpo fro z116.2 bs z116.1 j140_0 (((un + (g_M_highest sz1 rb)) + 1) - (g_M_digits wd)) 24576) (cwV 5 htA (gi_V k_302 k_303 k_304 k_263 (gi_code k_291)) rfl rfl rfl (by decide +kernel) ⟨Nat.le_of_ble_eq_true rfl, Nat.le_of_ble_eq_true rfl⟩) (pre_V hnw hPc hKc hDc (ci := 3) (q0 := 0) rfl rfl) rfl rfl hl.1 rfl (lv_room (Nat.le_of_ble_eq_true rfl)) d_M_make_223 ⟨Nat.le_of_ble_eq_true rfl, Nat.le_of_ble_eq_true rfl⟩) hS hFc hP hD [0] [1] (wr := [(bR, .inl (kR, 33000, .inl (fun k => b2i (rb k))))]) rfl rfl (by decide) (by decide) (fun H locs hP hD hS => ?_)
              obtain ⟨z223, ez223⟩ : ∃ z, g_M_put bs z116.1 j140_0 (((un + (g_M_highest sz1 rb)) + 1) - (g_M_digits wd)) 24576 = z := ⟨_, rfl⟩
              rw [ez223] at hP hD
              have hP : va_P (dC, dI) classes [(bR, .inl (kR, 33000, .inl (fun k => b2i (rb k)))), (bM, .inr (3, [.int cd, .int wd, .ref bT, .ref bF, .int al, .ref bN, .ref bP, .ref bQ, .ref bR, .int sz1, .int un, .int (b2i mo), .int (j193_0 + 16), .int (b2i sp), .int z223.1, .long z223.2, .int (b2i z116.2)]))] H := hP
              have hD : va_D A [(bR, .inl (kR, 33000, .inl (fun k => b2i (rb k)))), (bM, .inr (3, [.int cd, .int wd, .ref bT, .ref bF, .int al, .ref bN, .ref bP, .ref bQ, .ref bR, .int sz1, .int un, .int (b2i mo), .int (j193_0 + 16), .int (b2i sp), .int z223.1, .long z223.2, .int (b2i z116.2)]))] := hD
              refine lv_goto (tgt := 399) hx hb d_M_make_226 (by decide) ?_
              have hE : g_M_make wd sz1 un mo tl rb bs = ((j193_0 + 16), z223.1, z223.2, z116.2) := by clear hP hD hl hS; subst ez223; subst ej193_0; subst ej169_0; subst ej140_0; subst ez116; subst ej30_0; unfold g_M_make; (try dsimp only); rw [if_neg c_34, if_pos c_198]
              have hP9 : va_P (dC, dI) classes [(bM, .inr (3, [.int cd, .int wd, .ref bT, .ref bF, .int al, .ref bN, .ref bP, .ref bQ, .ref bR, .int sz1, .int un, .int (b2i mo), .int ((g_M_make wd sz1 un mo tl rb bs).1), .int (b2i sp), .int ((g_M_make wd sz1 un mo tl rb bs).2.1), .long ((g_M_make wd sz1 un mo tl rb bs).2.2.1), .int (b2i ((g_M_make wd sz1 un mo tl rb bs).2.2.2))])), (bR, .inl (kR, 33000, .inl (fun k => b2i (rb k))))] H := by rw [hE]; exact hP.sub [1, 0] rfl
              have hD9 : va_D A [(bM, .inr (3, [.int cd, .int wd, .ref bT, .ref bF, .int al, .ref bN, .ref bP, .ref bQ, .ref bR, .int sz1, .int un, .int (b2i mo), .int ((g_M_make wd sz1 un mo tl rb bs).1), .int (b2i sp), .int ((g_M_make wd sz1 un mo tl rb bs).2.1), .long ((g_M_make wd sz1 un mo tl rb bs).2.2.1), .int (b2i ((g_M_make wd sz1 un mo tl rb bs).2.2.2))])), (bR, .inl (kR, 33000, .inl (fun k => b2i (rb k))))] := by rw [hE]; exact hD.sub [1, 0] (by decide) rfl
              exact W.vret hx hb hr (fun t ht hW => ⟨⟨(), rfl, trivial, by rw [ht]; exact hP9, hD9⟩, hS.F ht⟩) hS.2.2 d_M_make_399
          · skip
            refine lv_if_eq (tgt := 189) hx hb d_M_make_176 (by decide) (fun c_176 => ?_) (fun c_176 => ?_)
            · skip
              have c_176 : ¬ z116.2 = true := b2i_z c_176
              refine lv_aload_n hx hb d_M_make_189 rfl (lv_at hl 1 rfl) ?_
              refine va_get (D := (dC, dI)) (ci := 3) (v := .int tl) (C := R_M) (T := F_M) (N := 17) hx hb htA in_M hown hK hP 0 rfl rfl 12 (by decide) (htA _ k_248) (fun _ h9 => h9) rfl d_M_make_190 ?_
              exact J193 (tl) H locs ls ⟨by clear hP hD hl hS; (try dsimp only); rw [if_neg c_176], hP.sub [0, 1] rfl, hD.sub [0, 1] (by decide) rfl, hS, lv_sub hl [1, 2, 3, 4, 5, 6, 7, 8, 9, 0] rfl⟩
            · skip
              have c_176 : z116.2 = true := b2i_nz c_176
              refine lv_aload_n hx hb d_M_make_179 rfl (lv_at hl 1 rfl) ?_
              refine va_get (D := (dC, dI)) (ci := 3) (v := .int tl) (C := R_M) (T := F_M) (N := 17) hx hb htA in_M hown hK hP 0 rfl rfl 12 (by decide) (htA _ k_248) (fun _ h9 => h9) rfl d_M_make_180 ?_
              refine lv_bipush (v := 32) hx hb d_M_make_183 (by decide) ?_
              refine lv_iadd hx hb d_M_make_185 ?_
              refine lv_goto (tgt := 193) hx hb d_M_make_186 (by decide) ?_
              exact J193 ((tl + 32)) H locs ls ⟨by clear hP hD hl hS; (try dsimp only); rw [if_pos c_176], hP.sub [0, 1] rfl, hD.sub [0, 1] (by decide) rfl, hS, lv_sub hl [1, 2, 3, 4, 5, 6, 7, 8, 9, 0] rfl⟩
        · skip
          refine lv_if_ne (tgt := 164) hx hb d_M_make_144 (by decide) (fun c_144 => ?_) (fun c_144 => ?_)
          · skip
            have c_144 : j140_0 = true := b2i_nz c_144
            refine lv_iconst (v := 1) hx hb d_M_make_164 (by decide) ?_
            refine lv_goto (tgt := 169) hx hb d_M_make_165 (by decide) ?_
            exact J169 (true) H locs ls ⟨by clear hP hD hl hS; (try dsimp only); rw [if_pos c_144], hP.sub [0, 1] rfl, hD.sub [0, 1] (by decide) rfl, hS, lv_sub hl [1, 2, 3, 4, 5, 6, 7, 8, 0] rfl⟩
          · skip
            have c_144 : ¬ j140_0 = true := b2i_z c_144
            refine lv_iload hx hb d_M_make_147 (lv_at hl 5 rfl) ?_
            refine lv_bipush (v := 64) hx hb d_M_make_149 (by decide) ?_
            refine lv_icmp_ge (tgt := 168) hx hb d_M_make_151 (by decide) (fun c_151 => ?_) (fun c_151 => ?_)
            · skip
              refine lv_iconst (v := 0) hx hb d_M_make_168 (by decide) ?_
              exact J169 (false) H locs ls ⟨by clear hP hD hl hS; (try dsimp only); rw [if_neg c_144, if_pos c_151], hP.sub [0, 1] rfl, hD.sub [0, 1] (by decide) rfl, hS, lv_sub hl [1, 2, 3, 4, 5, 6, 7, 8, 0] rfl⟩
            · skip
              refine lv_lload hx hb d_M_make_154 (lv_at hl 8 rfl) ?_
              refine lv_iload hx hb d_M_make_156 (lv_at hl 5 rfl) ?_
              refine lv_lshr (v := (aR z116.1 (g_M_digits wd))) hx hb d_M_make_158 rfl ?_
              refine lv_lconst (v := 0) hx hb d_M_make_159 (by decide) ?_
              refine W.lcmp hx hb d_M_make_160 ?_
              refine lv_if_eq (tgt := 168) hx hb d_M_make_161 (by decide) (fun c_161 => ?_) (fun c_161 => ?_)
              · skip
                have c_161 : (aR z116.1 (g_M_digits wd)) = 0 := (lg_cmp_eq _ _).mp c_161
                refine lv_iconst (v := 0) hx hb d_M_make_168 (by decide) ?_
                exact J169 (false) H locs ls ⟨by clear hP hD hl hS; (try dsimp only); rw [if_neg c_144, if_neg c_151, if_pos c_161], hP.sub [0, 1] rfl, hD.sub [0, 1] (by decide) rfl, hS, lv_sub hl [1, 2, 3, 4, 5, 6, 7, 8, 0] rfl⟩
              · skip
                have c_161 : ¬ (aR z116.1 (g_M_digits wd)) = 0 := fun h9 => c_161 ((lg_cmp_eq _ _).mpr h9)
                refine lv_iconst (v := 1) hx hb d_M_make_164 (by decide) ?_
                refine lv_goto (tgt := 169) hx hb d_M_make_165 (by decide) ?_
                exact J169 (true) H locs ls ⟨by clear hP hD hl hS; (try dsimp only); rw [if_neg c_144, if_neg c_151, if_neg c_161], hP.sub [0, 1] rfl, hD.sub [0, 1] (by decide) rfl, hS, lv_sub hl [1, 2, 3, 4, 5, 6, 7, 8, 0] rfl⟩
      · skip
        refine lv_icmp_ne (tgt := 139) hx hb d_M_make_125 (by decide) (fun c_125 => ?_) (fun c_125 => ?_)
        · skip
          refine lv_iconst (v := 0) hx hb d_M_make_139 (by decide) ?_
          exact J140 (false) H locs ls ⟨by clear hP hD hl hS; (try dsimp only); rw [if_neg c_125], hP.sub [0, 1] rfl, hD.sub [0, 1] (by decide) rfl, hS, lv_sub hl [3, 4, 5, 6, 7, 2, 1, 0] rfl⟩
        · skip
          refine lv_lload hx hb d_M_make_128 (lv_at hl 0 rfl) ?_
          refine lv_lconst (v := 0) hx hb d_M_make_130 (by decide) ?_
          refine W.lcmp hx hb d_M_make_131 ?_
          refine lv_if_ne (tgt := 139) hx hb d_M_make_132 (by decide) (fun c_132 => ?_) (fun c_132 => ?_)
          · skip
            have c_132 : ¬ z116.1 = 0 := fun h9 => c_132 ((lg_cmp_eq _ _).mpr h9)
            refine lv_iconst (v := 0) hx hb d_M_make_139 (by decide) ?_
            exact J140 (false) H locs ls ⟨by clear hP hD hl hS; (try dsimp only); rw [if_pos c_125, if_neg c_132], hP.sub [0, 1] rfl, hD.sub [0, 1] (by decide) rfl, hS, lv_sub hl [3, 4, 5, 6, 7, 2, 1, 0] rfl⟩
          · skip
            have c_132 : z116.1 = 0 := (lg_cmp_eq _ _).mp c_132
            refine lv_iconst (v := 1) hx hb d_M_make_135 (by decide) ?_
            refine lv_goto (tgt := 140) hx hb d_M_make_136 (by decide) ?_
            exact J140 (true) H locs ls ⟨by clear hP hD hl hS; (try dsimp only); rw [if_pos c_125, if_pos c_132], hP.sub [0, 1] rfl, hD.sub [0, 1] (by decide) rfl, hS, lv_sub hl [3, 4, 5, 6, 7, 2, 1, 0] rfl⟩
    · skip
      have c_34 : j30_0 = true := b2i_nz c_34
      refine lv_aload_n hx hb d_M_make_37 rfl (lv_at hl 1 rfl) ?_
      refine va_get (D := (dC, dI)) (ci := 3) (v := .int wd) (C := R_M) (T := F_M) (N := 17) hx hb htA in_M hown hK hP 1 rfl rfl 1 (by decide) (htA _ k_244) (fun _ h9 => h9) rfl d_M_make_38 ?_
      refine lv_bipush (v := 16) hx hb d_M_make_41 (by decide) ?_
      refine lv_iand hx hb d_M_make_43 ?_
      refine lv_if_eq (tgt := 104) hx hb d_M_make_44 (by decide) (fun c_44 => ?_) (fun c_44 => ?_)
      · skip
        refine lv_iload_n hx hb d_M_make_104 rfl (lv_at hl 4 rfl) ?_
        refine lv_iconst (v := 1) hx hb d_M_make_105 (by decide) ?_
        refine lv_iadd hx hb d_M_make_106 ?_
        refine lv_iload hx hb d_M_make_107 (lv_at hl 5 rfl) ?_
        refine lv_isub hx hb d_M_make_109 ?_
        refine lv_istore (lv' := [(6, .int (((un + (g_M_highest sz1 rb)) + 1) - (g_M_digits wd))), (5, .int (b2i j30_0)), (0, .ref bM), (1, .int (b2i bs)), (2, .int (g_M_highest sz1 rb)), (3, .int (un + (g_M_highest sz1 rb))), (4, .int (g_M_digits wd))]) hx hb d_M_make_110 hl (by decide) rfl (fun ls hl => ?_)
        refine lv_aload_n hx hb d_M_make_112 rfl (lv_at hl 2 rfl) ?_
        refine lv_iload hx hb d_M_make_113 (lv_at hl 0 rfl) ?_
        refine lv_iload_n hx hb d_M_make_115 rfl (lv_at hl 3 rfl) ?_
        have hPc := hP.sub (ws' := [(bM, .inr (3, [.int cd, .int wd, .ref bT, .ref bF, .int al, .ref bN, .ref bP, .ref bQ, .ref bR, .int sz1, .int un, .int (b2i mo), .int tl, .int (b2i sp), .int tpo, .long fro, .int (b2i ly)])), (bR, .inl (kR, 33000, .inl (fun k => b2i (rb k))))]) [1, 0] rfl
        have hDc := hD.sub (ws' := [(bM, .inr (3, [.int cd, .int wd, .ref bT, .ref bF, .int al, .ref bN, .ref bP, .ref bQ, .ref bR, .int sz1, .int un, .int (b2i mo), .int tl, .int (b2i sp), .int tpo, .long fro, .int (b2i ly)])), (bR, .inl (kR, 33000, .inl (fun k => b2i (rb k))))]) [1, 0] (by decide) rfl
        have hKc := hK.sub (tys' := [(kR, .boolean)]) [0] rfl
        have hFc := va_free (wc := [(bM, .inr (3, [.int cd, .int wd, .ref bT, .ref bF, .int al, .ref bN, .ref bP, .ref bQ, .ref bR, .int sz1, .int un, .int (b2i mo), .int tl, .int (b2i sp), .int tpo, .long fro, .int (b2i ly)])), (bR, .inl (kR, 33000, .inl (fun k => b2i (rb k))))]) hD hS hA [1, 0] rfl
        refine cc_l (va_runV (As := [.int (((un + (g_M_highest sz1 rb)) + 1) - (g_M_digits wd)), .int (b2i bs)]) (rest := []) ⟨hx, hb, hml, hown, htA⟩ (c_M_times l dC dI kR bM bR bT bF bN bP bQ H.size cd wd al sz1 un mo tl sp tpo fro ly rb (((un + (g_M_highest sz1 rb)) + 1) - (g_M_digits wd)) bs (by assumption)) (cwV 2 htA (gi_V k_298 k_299 k_300 k_263 (gi_code k_286)) rfl rfl rfl (by decide +kernel) ⟨Nat.le_of_ble_eq_true rfl, Nat.le_of_ble_eq_true rfl⟩) (pre_V hnw hPc hKc hDc (ci := 3) (q0 := 0) rfl rfl) rfl rfl hl.1 rfl (lv_room (Nat.le_of_ble_eq_true rfl)) d_M_make_116 ⟨Nat.le_of_ble_eq_true rfl, Nat.le_of_ble_eq_true rfl⟩) hS hFc hP hD [1, 0] [] (wr := []) rfl rfl (by decide) (by decide) (fun H locs hP hD hS => ?_)
        obtain ⟨z116, ez116⟩ : ∃ z, g_M_times wd sz1 un mo rb (((un + (g_M_highest sz1 rb)) + 1) - (g_M_digits wd)) bs = z := ⟨_, rfl⟩
        rw [ez116] at hP hD ⊢
        have hP : va_P (dC, dI) classes [(bM, .inr (3, [.int cd, .int wd, .ref bT, .ref bF, .int al, .ref bN, .ref bP, .ref bQ, .ref bR, .int sz1, .int un, .int (b2i mo), .int tl, .int (b2i sp), .int tpo, .long fro, .int (b2i z116.2)])), (bR, .inl (kR, 33000, .inl (fun k => b2i (rb k))))] H := hP
        have hD : va_D A [(bM, .inr (3, [.int cd, .int wd, .ref bT, .ref bF, .int al, .ref bN, .ref bP, .ref bQ, .ref bR, .int sz1, .int un, .int (b2i mo), .int tl, .int (b2i sp), .int tpo, .long fro, .int (b2i z116.2)])), (bR, .inl (kR, 33000, .inl (fun k => b2i (rb k))))] := hD
        refine lv_lstore (lv' := [(7, .long z116.1), (6, .int (((un + (g_M_highest sz1 rb)) + 1) - (g_M_digits wd))), (5, .int (b2i j30_0)), (0, .ref bM), (1, .int (b2i bs)), (2, .int (g_M_highest sz1 rb)), (3, .int (un + (g_M_highest sz1 rb))), (4, .int (g_M_digits wd))]) hx hb d_M_make_119 hl (by decide) rfl (fun ls hl => ?_)
        refine lv_iload hx hb d_M_make_121 (lv_at hl 7 rfl) ?_
        refine lv_bipush (v := 64) hx hb d_M_make_123 (by decide) ?_
        refine cut_join (X := Bool) 0 0 (fun (x : Bool) (H : Heap) (locs : List Loc) (ls : Array Slot) => (if (g_M_digits wd) = 64 then if z116.1 = 0 then true else false else false) = x ∧ va_P (dC, dI) classes [(bM, .inr (3, [.int cd, .int wd, .ref bT, .ref bF, .int al, .ref bN, .ref bP, .ref bQ, .ref bR, .int sz1, .int un, .int (b2i mo), .int tl, .int (b2i sp), .int tpo, .long fro, .int (b2i z116.2)])), (bR, .inl (kR, 33000, .inl (fun k => b2i (rb k))))] H ∧ va_D A [(bM, .inr (3, [.int cd, .int wd, .ref bT, .ref bF, .int al, .ref bN, .ref bP, .ref bQ, .ref bR, .int sz1, .int un, .int (b2i mo), .int tl, .int (b2i sp), .int tpo, .long fro, .int (b2i z116.2)])), (bR, .inl (kR, 33000, .inl (fun k => b2i (rb k))))] ∧ va_S A s.heap H locs ∧ lv_has ls 13 [(0, .ref bM), (1, .int (b2i bs)), (2, .int (g_M_highest sz1 rb)), (3, .int (un + (g_M_highest sz1 rb))), (4, .int (g_M_digits wd)), (5, .int (b2i j30_0)), (6, .int (((un + (g_M_highest sz1 rb)) + 1) - (g_M_digits wd))), (7, .long z116.1)]) (fun x ls => F0 m 140 ls [.int (b2i x)]) ?_ (fun J140 => ?_)
        · skip
          rintro j140_0 H locs ls ⟨ej140_0, hP, hD, hS, hl⟩
          have ej140_0 : (if (g_M_digits wd) = 64 then if z116.1 = 0 then true else false else false) = j140_0 := ej140_0
          have hP : va_P (dC, dI) classes [(bM, .inr (3, [.int cd, .int wd, .ref bT, .ref bF, .int al, .ref bN, .ref bP, .ref bQ, .ref bR, .int sz1, .int un, .int (b2i mo), .int tl, .int (b2i sp), .int tpo, .long fro, .int (b2i z116.2)])), (bR, .inl (kR, 33000, .inl (fun k => b2i (rb k))))] H := hP
          have hD : va_D A [(bM, .inr (3, [.int cd, .int wd, .ref bT, .ref bF, .int al, .ref bN, .ref bP, .ref bQ, .ref bR, .int sz1, .int un, .int (b2i mo), .int tl, .int (b2i sp), .int tpo, .long fro, .int (b2i z116.2)])), (bR, .inl (kR, 33000, .inl (fun k => b2i (rb k))))] := hD
          have hl : lv_has ls 13 [(0, .ref bM), (1, .int (b2i bs)), (2, .int (g_M_highest sz1 rb)), (3, .int (un + (g_M_highest sz1 rb))), (4, .int (g_M_digits wd)), (5, .int (b2i j30_0)), (6, .int (((un + (g_M_highest sz1 rb)) + 1) - (g_M_digits wd))), (7, .long z116.1)] := hl
          refine lv_istore (lv' := [(9, .int (b2i j140_0)), (0, .ref bM), (1, .int (b2i bs)), (2, .int (g_M_highest sz1 rb)), (3, .int (un + (g_M_highest sz1 rb))), (4, .int (g_M_digits wd)), (5, .int (b2i j30_0)), (6, .int (((un + (g_M_highest sz1 rb)) + 1) - (g_M_digits wd))), (7, .long z116.1)]) hx hb d_M_make_140 hl (by decide) rfl (fun ls hl => ?_)
          refine lv_iload hx hb d_M_make_142 (lv_at hl 0 rfl) ?_
          refine cut_join (X := Bool) 0 0 (fun (x : Bool) (H : Heap) (locs : List Loc) (ls : Array Slot) => (if j140_0 = true then true else if 64 ≤ (g_M_digits wd) then false else if (aR z116.1 (g_M_digits wd)) = 0 then false else true) = x ∧ va_P (dC, dI) classes [(bM, .inr (3, [.int cd, .int wd, .ref bT, .ref bF, .int al, .ref bN, .ref bP, .ref bQ, .ref bR, .int sz1, .int un, .int (b2i mo), .int tl, .int (b2i sp), .int tpo, .long fro, .int (b2i z116.2)])), (bR, .inl (kR, 33000, .inl (fun k => b2i (rb k))))] H ∧ va_D A [(bM, .inr (3, [.int cd, .int wd, .ref bT, .ref bF, .int al, .ref bN, .ref bP, .ref bQ, .ref bR, .int sz1, .int un, .int (b2i mo), .int tl, .int (b2i sp), .int tpo, .long fro, .int (b2i z116.2)])), (bR, .inl (kR, 33000, .inl (fun k => b2i (rb k))))] ∧ va_S A s.heap H locs ∧ lv_has ls 13 [(0, .ref bM), (1, .int (b2i bs)), (2, .int (g_M_highest sz1 rb)), (3, .int (un + (g_M_highest sz1 rb))), (4, .int (g_M_digits wd)), (5, .int (b2i j30_0)), (6, .int (((un + (g_M_highest sz1 rb)) + 1) - (g_M_digits wd))), (7, .long z116.1), (9, .int (b2i j140_0))]) (fun x ls => F0 m 169 ls [.int (b2i x)]) ?_ (fun J169 => ?_)
          · skip
            rintro j169_0 H locs ls ⟨ej169_0, hP, hD, hS, hl⟩
            have ej169_0 : (if j140_0 = true then true else if 64 ≤ (g_M_digits wd) then false else if (aR z116.1 (g_M_digits wd)) = 0 then false else true) = j169_0 := ej169_0
            have hP : va_P (dC, dI) classes [(bM, .inr (3, [.int cd, .int wd, .ref bT, .ref bF, .int al, .ref bN, .ref bP, .ref bQ, .ref bR, .int sz1, .int un, .int (b2i mo), .int tl, .int (b2i sp), .int tpo, .long fro, .int (b2i z116.2)])), (bR, .inl (kR, 33000, .inl (fun k => b2i (rb k))))] H := hP
            have hD : va_D A [(bM, .inr (3, [.int cd, .int wd, .ref bT, .ref bF, .int al, .ref bN, .ref bP, .ref bQ, .ref bR, .int sz1, .int un, .int (b2i mo), .int tl, .int (b2i sp), .int tpo, .long fro, .int (b2i z116.2)])), (bR, .inl (kR, 33000, .inl (fun k => b2i (rb k))))] := hD
            have hl : lv_has ls 13 [(0, .ref bM), (1, .int (b2i bs)), (2, .int (g_M_highest sz1 rb)), (3, .int (un + (g_M_highest sz1 rb))), (4, .int (g_M_digits wd)), (5, .int (b2i j30_0)), (6, .int (((un + (g_M_highest sz1 rb)) + 1) - (g_M_digits wd))), (7, .long z116.1), (9, .int (b2i j140_0))] := hl
            refine lv_istore (lv' := [(10, .int (b2i j169_0)), (0, .ref bM), (1, .int (b2i bs)), (2, .int (g_M_highest sz1 rb)), (3, .int (un + (g_M_highest sz1 rb))), (4, .int (g_M_digits wd)), (5, .int (b2i j30_0)), (6, .int (((un + (g_M_highest sz1 rb)) + 1) - (g_M_digits wd))), (7, .long z116.1), (9, .int (b2i j140_0))]) hx hb d_M_make_169 hl (by decide) rfl (fun ls hl => ?_)
            refine lv_aload_n hx hb d_M_make_171 rfl (lv_at hl 1 rfl) ?_
            refine lv_aload_n hx hb d_M_make_172 rfl (lv_at hl 1 rfl) ?_
            refine va_get (D := (dC, dI)) (ci := 3) (v := .int (b2i z116.2)) (C := R_M) (T := F_M) (N := 17) hx hb htA in_M hown hK hP 0 rfl rfl 16 (by decide) (htA _ k_285) (fun _ h9 => h9) rfl d_M_make_173 ?_
            refine cut_join (X := Int32) 0 0 (fun (x : Int32) (H : Heap) (locs : List Loc) (ls : Array Slot) => (if z116.2 = true then (tl + 32) else tl) = x ∧ va_P (dC, dI) classes [(bM, .inr (3, [.int cd, .int wd, .ref bT, .ref bF, .int al, .ref bN, .ref bP, .ref bQ, .ref bR, .int sz1, .int un, .int (b2i mo), .int tl, .int (b2i sp), .int tpo, .long fro, .int (b2i z116.2)])), (bR, .inl (kR, 33000, .inl (fun k => b2i (rb k))))] H ∧ va_D A [(bM, .inr (3, [.int cd, .int wd, .ref bT, .ref bF, .int al, .ref bN, .ref bP, .ref bQ, .ref bR, .int sz1, .int un, .int (b2i mo), .int tl, .int (b2i sp), .int tpo, .long fro, .int (b2i z116.2)])), (bR, .inl (kR, 33000, .inl (fun k => b2i (rb k))))] ∧ va_S A s.heap H locs ∧ lv_has ls 13 [(0, .ref bM), (1, .int (b2i bs)), (2, .int (g_M_highest sz1 rb)), (3, .int (un + (g_M_highest sz1 rb))), (4, .int (g_M_digits wd)), (5, .int (b2i j30_0)), (6, .int (((un + (g_M_highest sz1 rb)) + 1) - (g_M_digits wd))), (7, .long z116.1), (9, .int (b2i j140_0)), (10, .int (b2i j169_0))]) (fun x ls => F0 m 193 ls [.int x, .ref bM]) ?_ (fun J193 => ?_)
            · skip
              rintro j193_0 H locs ls ⟨ej193_0, hP, hD, hS, hl⟩
              have ej193_0 : (if z116.2 = true then (tl + 32) else tl) = j193_0 := ej193_0
              have hP : va_P (dC, dI) classes [(bM, .inr (3, [.int cd, .int wd, .ref bT, .ref bF, .int al, .ref bN, .ref bP, .ref bQ, .ref bR, .int sz1, .int un, .int (b2i mo), .int tl, .int (b2i sp), .int tpo, .long fro, .int (b2i z116.2)])), (bR, .inl (kR, 33000, .inl (fun k => b2i (rb k))))] H := hP
              have hD : va_D A [(bM, .inr (3, [.int cd, .int wd, .ref bT, .ref bF, .int al, .ref bN, .ref bP, .ref bQ, .ref bR, .int sz1, .int un, .int (b2i mo), .int tl, .int (b2i sp), .int tpo, .long fro, .int (b2i z116.2)])), (bR, .inl (kR, 33000, .inl (fun k => b2i (rb k))))] := hD
              have hl : lv_has ls 13 [(0, .ref bM), (1, .int (b2i bs)), (2, .int (g_M_highest sz1 rb)), (3, .int (un + (g_M_highest sz1 rb))), (4, .int (g_M_digits wd)), (5, .int (b2i j30_0)), (6, .int (((un + (g_M_highest sz1 rb)) + 1) - (g_M_digits wd))), (7, .long z116.1), (9, .int (b2i j140_0)), (10, .int (b2i j169_0))] := hl
              refine va_put (D := (dC, dI)) (ci := 3) (v := .int j193_0) (ty := .int) (C := R_M) (T := F_M) (N := 17) hx hb htA in_M t_M t_M_ok n_M hown hK hP hD hS 0 rfl rfl 12 (by decide) (htA _ k_248) (fun _ h9 => h9) rfl (by decide +kernel) rfl rfl (Nat.le_of_ble_eq_true rfl) d_M_make_193 (fun H locs hP hD hS => ?_)
              have hP : va_P (dC, dI) classes [(bM, .inr (3, [.int cd, .int wd, .ref bT, .ref bF, .int al, .ref bN, .ref bP, .ref bQ, .ref bR, .int sz1, .int un, .int (b2i mo), .int j193_0, .int (b2i sp), .int tpo, .long fro, .int (b2i z116.2)])), (bR, .inl (kR, 33000, .inl (fun k => b2i (rb k))))] H := hP
              have hD : va_D A [(bM, .inr (3, [.int cd, .int wd, .ref bT, .ref bF, .int al, .ref bN, .ref bP, .ref bQ, .ref bR, .int sz1, .int un, .int (b2i mo), .int j193_0, .int (b2i sp), .int tpo, .long fro, .int (b2i z116.2)])), (bR, .inl (kR, 33000, .inl (fun k => b2i (rb k))))] := hD
              refine lv_iload hx hb d_M_make_196 (lv_at hl 5 rfl) ?_
              refine lv_if_eq (tgt := 229) hx hb d_M_make_198 (by decide) (fun c_198 => ?_) (fun c_198 => ?_)
              · skip
                have c_198 : ¬ j30_0 = true := b2i_z c_198
                refine lv_iload_n hx hb d_M_make_229 rfl (lv_at hl 3 rfl) ?_
                refine lv_iload hx hb d_M_make_230 (lv_at hl 9 rfl) ?_
                refine cut_join (X := Bool) 0 0 (fun (x : Bool) (H : Heap) (locs : List Loc) (ls : Array Slot) => (if j169_0 = true then true else false) = x ∧ va_P (dC, dI) classes [(bM, .inr (3, [.int cd, .int wd, .ref bT, .ref bF, .int al, .ref bN, .ref bP, .ref bQ, .ref bR, .int sz1, .int un, .int (b2i mo), .int j193_0, .int (b2i sp), .int tpo, .long fro, .int (b2i z116.2)])), (bR, .inl (kR, 33000, .inl (fun k => b2i (rb k))))] H ∧ va_D A [(bM, .inr (3, [.int cd, .int wd, .ref bT, .ref bF, .int al, .ref bN, .ref bP, .ref bQ, .ref bR, .int sz1, .int un, .int (b2i mo), .int j193_0, .int (b2i sp), .int tpo, .long fro, .int (b2i z116.2)])), (bR, .inl (kR, 33000, .inl (fun k => b2i (rb k))))] ∧ va_S A s.heap H locs ∧ lv_has ls 13 [(0, .ref bM), (1, .int (b2i bs)), (2, .int (g_M_highest sz1 rb)), (3, .int (un + (g_M_highest sz1 rb))), (4, .int (g_M_digits wd)), (5, .int (b2i j30_0)), (6, .int (((un + (g_M_highest sz1 rb)) + 1) - (g_M_digits wd))), (7, .long z116.1), (9, .int (b2i j140_0)), (10, .int (b2i j169_0))]) (fun x ls => F0 m 240 ls [.int (b2i x), .int (un + (g_M_highest sz1 rb))]) ?_ (fun J240 => ?_)
                · skip
                  rintro j240_0 H locs ls ⟨ej240_0, hP, hD, hS, hl⟩
                  have ej240_0 : (if j169_0 = true then true else false) = j240_0 := ej240_0
                  have hP : va_P (dC, dI) classes [(bM, .inr (3, [.int cd, .int wd, .ref bT, .ref bF, .int al, .ref bN, .ref bP, .ref bQ, .ref bR, .int sz1, .int un, .int (b2i mo), .int j193_0, .int (b2i sp), .int tpo, .long fro, .int (b2i z116.2)])), (bR, .inl (kR, 33000, .inl (fun k => b2i (rb k))))] H := hP
                  have hD : va_D A [(bM, .inr (3, [.int cd, .int wd, .ref bT, .ref bF, .int al, .ref bN, .ref bP, .ref bQ, .ref bR, .int sz1, .int un, .int (b2i mo), .int j193_0, .int (b2i sp), .int tpo, .long fro, .int (b2i z116.2)])), (bR, .inl (kR, 33000, .inl (fun k => b2i (rb k))))] := hD
                  have hl : lv_has ls 13 [(0, .ref bM), (1, .int (b2i bs)), (2, .int (g_M_highest sz1 rb)), (3, .int (un + (g_M_highest sz1 rb))), (4, .int (g_M_digits wd)), (5, .int (b2i j30_0)), (6, .int (((un + (g_M_highest sz1 rb)) + 1) - (g_M_digits wd))), (7, .long z116.1), (9, .int (b2i j140_0)), (10, .int (b2i j169_0))] := hl
                  refine lv_iadd hx hb d_M_make_240 ?_
                  refine lv_sipush (v := 16384) hx hb d_M_make_241 (by decide) ?_
                  refine lv_icmp_ge (tgt := 262) hx hb d_M_make_244 (by decide) (fun c_244 => ?_) (fun c_244 => ?_)
                  · skip
                    refine lv_aload_n hx hb d_M_make_262 rfl (lv_at hl 0 rfl) ?_
                    refine va_get (D := (dC, dI)) (ci := 3) (v := .int wd) (C := R_M) (T := F_M) (N := 17) hx hb htA in_M hown hK hP 0 rfl rfl 1 (by decide) (htA _ k_244) (fun _ h9 => h9) rfl d_M_make_263 ?_
                    refine lv_bipush (v := 8) hx hb d_M_make_266 (by decide) ?_
                    refine lv_iand hx hb d_M_make_268 ?_
                    refine lv_if_ne (tgt := 300) hx hb d_M_make_269 (by decide) (fun c_269 => ?_) (fun c_269 => ?_)
                    · skip
                      refine lv_aload_n hx hb d_M_make_300 rfl (lv_at hl 0 rfl) ?_
                      refine lv_aload_n hx hb d_M_make_301 rfl (lv_at hl 0 rfl) ?_
                      refine va_get (D := (dC, dI)) (ci := 3) (v := .int j193_0) (C := R_M) (T := F_M) (N := 17) hx hb htA in_M hown hK hP 0 rfl rfl 12 (by decide) (htA _ k_248) (fun _ h9 => h9) rfl d_M_make_302 ?_
                      refine lv_bipush (v := 8) hx hb d_M_make_305 (by decide) ?_
                      refine lv_iadd hx hb d_M_make_307 ?_
                      refine lv_aload_n hx hb d_M_make_308 rfl (lv_at hl 0 rfl) ?_
                      refine va_get (D := (dC, dI)) (ci := 3) (v := .int (b2i z116.2)) (C := R_M) (T := F_M) (N := 17) hx hb htA in_M hown hK hP 0 rfl rfl 16 (by decide) (htA _ k_285) (fun _ h9 => h9) rfl d_M_make_309 ?_
                      refine cut_join (X := Int32) 0 0 (fun (x : Int32) (H : Heap) (locs : List Loc) (ls : Array Slot) => (if z116.2 = true then 0 else 32) = x ∧ va_P (dC, dI) classes [(bM, .inr (3, [.int cd, .int wd, .ref bT, .ref bF, .int al, .ref bN, .ref bP, .ref bQ, .ref bR, .int sz1, .int un, .int (b2i mo), .int j193_0, .int (b2i sp), .int tpo, .long fro, .int (b2i z116.2)])), (bR, .inl (kR, 33000, .inl (fun k => b2i (rb k))))] H ∧ va_D A [(bM, .inr (3, [.int cd, .int wd, .ref bT, .ref bF, .int al, .ref bN, .ref bP, .ref bQ, .ref bR, .int sz1, .int un, .int (b2i mo), .int j193_0, .int (b2i sp), .int tpo, .long fro, .int (b2i z116.2)])), (bR, .inl (kR, 33000, .inl (fun k => b2i (rb k))))] ∧ va_S A s.heap H locs ∧ lv_has ls 13 [(0, .ref bM), (1, .int (b2i bs)), (2, .int (g_M_highest sz1 rb)), (3, .int (un + (g_M_highest sz1 rb))), (4, .int (g_M_digits wd)), (5, .int (b2i j30_0)), (6, .int (((un + (g_M_highest sz1 rb)) + 1) - (g_M_digits wd))), (7, .long z116.1), (9, .int (b2i j140_0)), (10, .int (b2i j169_0))]) (fun x ls => F0 m 321 ls [.int x, .int (j193_0 + 8), .ref bM]) ?_ (fun J321 => ?_)
                      · skip
                        rintro j321_0 H locs ls ⟨ej321_0, hP, hD, hS, hl⟩
                        have ej321_0 : (if z116.2 = true then 0 else 32) = j321_0 := ej321_0
                        have hP : va_P (dC, dI) classes [(bM, .inr (3, [.int cd, .int wd, .ref bT, .ref bF, .int al, .ref bN, .ref bP, .ref bQ, .ref bR, .int sz1, .int un, .int (b2i mo), .int j193_0, .int (b2i sp), .int tpo, .long fro, .int (b2i z116.2)])), (bR, .inl (kR, 33000, .inl (fun k => b2i (rb k))))] H := hP
                        have hD : va_D A [(bM, .inr (3, [.int cd, .int wd, .ref bT, .ref bF, .int al, .ref bN, .ref bP, .ref bQ, .ref bR, .int sz1, .int un, .int (b2i mo), .int j193_0, .int (b2i sp), .int tpo, .long fro, .int (b2i z116.2)])), (bR, .inl (kR, 33000, .inl (fun k => b2i (rb k))))] := hD
                        have hl : lv_has ls 13 [(0, .ref bM), (1, .int (b2i bs)), (2, .int (g_M_highest sz1 rb)), (3, .int (un + (g_M_highest sz1 rb))), (4, .int (g_M_digits wd)), (5, .int (b2i j30_0)), (6, .int (((un + (g_M_highest sz1 rb)) + 1) - (g_M_digits wd))), (7, .long z116.1), (9, .int (b2i j140_0)), (10, .int (b2i j169_0))] := hl
                        refine lv_iadd hx hb d_M_make_321 ?_
                        refine va_put (D := (dC, dI)) (ci := 3) (v := .int ((j193_0 + 8) + j321_0)) (ty := .int) (C := R_M) (T := F_M) (N := 17) hx hb htA in_M t_M t_M_ok n_M hown hK hP hD hS 0 rfl rfl 12 (by decide) (htA _ k_248) (fun _ h9 => h9) rfl (by decide +kernel) rfl rfl (Nat.le_of_ble_eq_true rfl) d_M_make_322 (fun H locs hP hD hS => ?_)
                        have hP : va_P (dC, dI) classes [(bM, .inr (3, [.int cd, .int wd, .ref bT, .ref bF, .int al, .ref bN, .ref bP, .ref bQ, .ref bR, .int sz1, .int un, .int (b2i mo), .int ((j193_0 + 8) + j321_0), .int (b2i sp), .int tpo, .long fro, .int (b2i z116.2)])), (bR, .inl (kR, 33000, .inl (fun k => b2i (rb k))))] H := hP
                        have hD : va_D A [(bM, .inr (3, [.int cd, .int wd, .ref bT, .ref bF, .int al, .ref bN, .ref bP, .ref bQ, .ref bR, .int sz1, .int un, .int (b2i mo), .int ((j193_0 + 8) + j321_0), .int (b2i sp), .int tpo, .long fro, .int (b2i z116.2)])), (bR, .inl (kR, 33000, .inl (fun k => b2i (rb k))))] := hD
                        refine lv_aload_n hx hb d_M_make_325 rfl (lv_at hl 0 rfl) ?_
                        refine va_get (D := (dC, dI)) (ci := 3) (v := .int wd) (C := R_M) (T := F_M) (N := 17) hx hb htA in_M hown hK hP 0 rfl rfl 1 (by decide) (htA _ k_244) (fun _ h9 => h9) rfl d_M_make_326 ?_
                        refine lv_sipush (v := 1024) hx hb d_M_make_329 (by decide) ?_
                        refine lv_idiv hx hb d_M_make_332 (by decide) ?_
                        refine lv_iconst (v := 4) hx hb d_M_make_333 (by decide) ?_
                        refine lv_irem hx hb d_M_make_334 (by decide) ?_
                        refine lv_istore (lv' := [(11, .int ((wd / 1024) - (wd / 1024) / 4 * 4)), (0, .ref bM), (1, .int (b2i bs)), (2, .int (g_M_highest sz1 rb)), (3, .int (un + (g_M_highest sz1 rb))), (4, .int (g_M_digits wd)), (5, .int (b2i j30_0)), (6, .int (((un + (g_M_highest sz1 rb)) + 1) - (g_M_digits wd))), (7, .long z116.1), (9, .int (b2i j140_0)), (10, .int (b2i j169_0))]) hx hb d_M_make_335 hl (by decide) rfl (fun ls hl => ?_)
                        refine lv_iload hx hb d_M_make_337 (lv_at hl 0 rfl) ?_
                        refine cut_join (X := Bool) 0 0 (fun (x : Bool) (H : Heap) (locs : List Loc) (ls : Array Slot) => (if ((wd / 1024) - (wd / 1024) / 4 * 4) = 0 then true else let j353_0 : Int32 := if bs = true then 1 else 2; (if ((wd / 1024) - (wd / 1024) / 4 * 4) = j353_0 then true else false)) = x ∧ va_P (dC, dI) classes [(bM, .inr (3, [.int cd, .int wd, .ref bT, .ref bF, .int al, .ref bN, .ref bP, .ref bQ, .ref bR, .int sz1, .int un, .int (b2i mo), .int ((j193_0 + 8) + j321_0), .int (b2i sp), .int tpo, .long fro, .int (b2i z116.2)])), (bR, .inl (kR, 33000, .inl (fun k => b2i (rb k))))] H ∧ va_D A [(bM, .inr (3, [.int cd, .int wd, .ref bT, .ref bF, .int al, .ref bN, .ref bP, .ref bQ, .ref bR, .int sz1, .int un, .int (b2i mo), .int ((j193_0 + 8) + j321_0), .int (b2i sp), .int tpo, .long fro, .int (b2i z116.2)])), (bR, .inl (kR, 33000, .inl (fun k => b2i (rb k))))] ∧ va_S A s.heap H locs ∧ lv_has ls 13 [(0, .ref bM), (1, .int (b2i bs)), (2, .int (g_M_highest sz1 rb)), (3, .int (un + (g_M_highest sz1 rb))), (4, .int (g_M_digits wd)), (5, .int (b2i j30_0)), (6, .int (((un + (g_M_highest sz1 rb)) + 1) - (g_M_digits wd))), (7, .long z116.1), (9, .int (b2i j140_0)), (10, .int (b2i j169_0)), (11, .int ((wd / 1024) - (wd / 1024) / 4 * 4))]) (fun x ls => F0 m 361 ls [.int (b2i x)]) ?_ (fun J361 => ?_)
                        · skip
                          rintro j361_0 H locs ls ⟨ej361_0, hP, hD, hS, hl⟩
                          have ej361_0 : (if ((wd / 1024) - (wd / 1024) / 4 * 4) = 0 then true else let j353_0 : Int32 := if bs = true then 1 else 2; (if ((wd / 1024) - (wd / 1024) / 4 * 4) = j353_0 then true else false)) = j361_0 := ej361_0
                          have hP : va_P (dC, dI) classes [(bM, .inr (3, [.int cd, .int wd, .ref bT, .ref bF, .int al, .ref bN, .ref bP, .ref bQ, .ref bR, .int sz1, .int un, .int (b2i mo), .int ((j193_0 + 8) + j321_0), .int (b2i sp), .int tpo, .long fro, .int (b2i z116.2)])), (bR, .inl (kR, 33000, .inl (fun k => b2i (rb k))))] H := hP
                          have hD : va_D A [(bM, .inr (3, [.int cd, .int wd, .ref bT, .ref bF, .int al, .ref bN, .ref bP, .ref bQ, .ref bR, .int sz1, .int un, .int (b2i mo), .int ((j193_0 + 8) + j321_0), .int (b2i sp), .int tpo, .long fro, .int (b2i z116.2)])), (bR, .inl (kR, 33000, .inl (fun k => b2i (rb k))))] := hD
                          have hl : lv_has ls 13 [(0, .ref bM), (1, .int (b2i bs)), (2, .int (g_M_highest sz1 rb)), (3, .int (un + (g_M_highest sz1 rb))), (4, .int (g_M_digits wd)), (5, .int (b2i j30_0)), (6, .int (((un + (g_M_highest sz1 rb)) + 1) - (g_M_digits wd))), (7, .long z116.1), (9, .int (b2i j140_0)), (10, .int (b2i j169_0)), (11, .int ((wd / 1024) - (wd / 1024) / 4 * 4))] := hl
                          refine lv_istore (lv' := [(12, .int (b2i j361_0)), (0, .ref bM), (1, .int (b2i bs)), (2, .int (g_M_highest sz1 rb)), (3, .int (un + (g_M_highest sz1 rb))), (4, .int (g_M_digits wd)), (5, .int (b2i j30_0)), (6, .int (((un + (g_M_highest sz1 rb)) + 1) - (g_M_digits wd))), (7, .long z116.1), (9, .int (b2i j140_0)), (10, .int (b2i j169_0)), (11, .int ((wd / 1024) - (wd / 1024) / 4 * 4))]) hx hb d_M_make_361 hl (by decide) rfl (fun ls hl => ?_)
                          refine lv_iload hx hb d_M_make_363 (lv_at hl 0 rfl) ?_
                          refine lv_if_eq (tgt := 382) hx hb d_M_make_365 (by decide) (fun c_365 => ?_) (fun c_365 => ?_)
                          · skip
                            have c_365 : ¬ j361_0 = true := b2i_z c_365
                            refine lv_aload_n hx hb d_M_make_382 rfl (lv_at hl 1 rfl) ?_
                            refine lv_iload_n hx hb d_M_make_383 rfl (lv_at hl 2 rfl) ?_
                            refine lv_sipush (v := 32766) hx hb d_M_make_384 (by decide) ?_
                            refine lv_ldc2 (v := (-1)) hx hb hown (htA _ k_301) d_M_make_387 ?_
                            refine lv_bipush (v := 64) hx hb d_M_make_390 (by decide) ?_
                            refine lv_iload hx hb d_M_make_392 (lv_at hl 5 rfl) ?_
                            refine lv_isub hx hb d_M_make_394 ?_
                            refine lv_lshl (v := (sL (-1) (64 - (g_M_digits wd)))) hx hb d_M_make_395 rfl ?_
                            have hPc := hP.sub (ws' := [(bM, .inr (3, [.int cd, .int wd, .ref bT, .ref bF, .int al, .ref bN, .ref bP, .ref bQ, .ref bR, .int sz1, .int un, .int (b2i mo), .int ((j193_0 + 8) + j321_0), .int (b2i sp), .int tpo, .long fro, .int (b2i z116.2)]))]) [0] rfl
                            have hDc := hD.sub (ws' := [(bM, .inr (3, [.int cd, .int wd, .ref bT, .ref bF, .int al, .ref bN, .ref bP, .ref bQ, .ref bR, .int sz1, .int un, .int (b2i mo), .int ((j193_0 + 8) + j321_0), .int (b2i sp), .int tpo, .long fro, .int (b2i z116.2)]))]) [0] (by decide) rfl
                            have hKc := hK.sub (tys' := []) [] rfl
                            have hFc := va_free (wc := [(bM, .inr (3, [.int cd, .int wd, .ref bT, .ref bF, .int al, .ref bN, .ref bP, .ref bQ, .ref bR, .int sz1, .int un, .int (b2i mo), .int ((j193_0 + 8) + j321_0), .int (b2i sp), .int tpo, .long fro, .int (b2i z116.2)]))]) hD hS hA [0] rfl
                            refine cc_v (va_runV (As := [.int (b2i bs), .int 32766, .long (sL (-1) (64 - (g_M_digits wd)))]) (rest := []) ⟨hx, hb, hml, hown, htA⟩ (c_M_answer l dC dI bM bT bF bN bP bQ bR H.size cd wd al sz1 un mo ((j193_0 + 8) + j321_0) sp tpo fro z116.2 bs 32766 (sL (-1) (64 - (g_M_digits wd)))) (cwV 3 htA (gi_V k_288 k_289 k_290 k_263 (gi_code k_254)) rfl rfl rfl (by decide +kernel) ⟨Nat.le_of_ble_eq_true rfl, Nat.le_of_ble_eq_true rfl⟩) (pre_V hnw hPc hKc hDc (ci := 3) (q0 := 0) rfl rfl) rfl rfl hl.1 rfl (lv_room (Nat.le_of_ble_eq_true rfl)) d_M_make_396 ⟨Nat.le_of_ble_eq_true rfl, Nat.le_of_ble_eq_true rfl⟩) hS hFc hP hD [0] [1] (wr := [(bR, .inl (kR, 33000, .inl (fun k => b2i (rb k))))]) rfl rfl (by decide) (by decide) (fun H locs hP hD hS => ?_)
                            have hP : va_P (dC, dI) classes [(bR, .inl (kR, 33000, .inl (fun k => b2i (rb k)))), (bM, .inr (3, [.int cd, .int wd, .ref bT, .ref bF, .int al, .ref bN, .ref bP, .ref bQ, .ref bR, .int sz1, .int un, .int (b2i mo), .int ((j193_0 + 8) + j321_0), .int (b2i sp), .int (g_M_answer bs 32766), .long (sL (-1) (64 - (g_M_digits wd))), .int (b2i z116.2)]))] H := hP
                            have hD : va_D A [(bR, .inl (kR, 33000, .inl (fun k => b2i (rb k)))), (bM, .inr (3, [.int cd, .int wd, .ref bT, .ref bF, .int al, .ref bN, .ref bP, .ref bQ, .ref bR, .int sz1, .int un, .int (b2i mo), .int ((j193_0 + 8) + j321_0), .int (b2i sp), .int (g_M_answer bs 32766), .long (sL (-1) (64 - (g_M_digits wd))), .int (b2i z116.2)]))] := hD
                            have hE : g_M_make wd sz1 un mo tl rb bs = (((j193_0 + 8) + j321_0), (g_M_answer bs 32766), (sL (-1) (64 - (g_M_digits wd))), z116.2) := by clear hP hD hl hS; subst ej361_0; subst ej321_0; subst ej240_0; subst ej193_0; subst ej169_0; subst ej140_0; subst ez116; subst ej30_0; unfold g_M_make; (try dsimp only); rw [if_pos c_34, if_pos c_44, if_neg c_198, if_pos c_244, if_neg c_269, if_neg c_365]
                            have hP9 : va_P (dC, dI) classes [(bM, .inr (3, [.int cd, .int wd, .ref bT, .ref bF, .int al, .ref bN, .ref bP, .ref bQ, .ref bR, .int sz1, .int un, .int (b2i mo), .int ((g_M_make wd sz1 un mo tl rb bs).1), .int (b2i sp), .int ((g_M_make wd sz1 un mo tl rb bs).2.1), .long ((g_M_make wd sz1 un mo tl rb bs).2.2.1), .int (b2i ((g_M_make wd sz1 un mo tl rb bs).2.2.2))])), (bR, .inl (kR, 33000, .inl (fun k => b2i (rb k))))] H := by rw [hE]; exact hP.sub [1, 0] rfl
                            have hD9 : va_D A [(bM, .inr (3, [.int cd, .int wd, .ref bT, .ref bF, .int al, .ref bN, .ref bP, .ref bQ, .ref bR, .int sz1, .int un, .int (b2i mo), .int ((g_M_make wd sz1 un mo tl rb bs).1), .int (b2i sp), .int ((g_M_make wd sz1 un mo tl rb bs).2.1), .long ((g_M_make wd sz1 un mo tl rb bs).2.2.1), .int (b2i ((g_M_make wd sz1 un mo tl rb bs).2.2.2))])), (bR, .inl (kR, 33000, .inl (fun k => b2i (rb k))))] := by rw [hE]; exact hD.sub [1, 0] (by decide) rfl
                            exact W.vret hx hb hr (fun t ht hW => ⟨⟨(), rfl, trivial, by rw [ht]; exact hP9, hD9⟩, hS.F ht⟩) hS.2.2 d_M_make_399
                          · skip
                            have c_365 : j361_0 = true := b2i_nz c_365
                            refine lv_aload_n hx hb d_M_make_368 rfl (lv_at hl 1 rfl) ?_
                            refine lv_iload_n hx hb d_M_make_369 rfl (lv_at hl 2 rfl) ?_
                            refine lv_sipush (v := 32767) hx hb d_M_make_370 (by decide) ?_
                            refine lv_ldc2 (v := (-9223372036854775808)) hx hb hown (htA _ k_287) d_M_make_373 ?_
                            have hPc := hP.sub (ws' := [(bM, .inr (3, [.int cd, .int wd, .ref bT, .ref bF, .int al, .ref bN, .ref bP, .ref bQ, .ref bR, .int sz1, .int un, .int (b2i mo), .int ((j193_0 + 8) + j321_0), .int (b2i sp), .int tpo, .long fro, .int (b2i z116.2)]))]) [0] rfl
                            have hDc := hD.sub (ws' := [(bM, .inr (3, [.int cd, .int wd, .ref bT, .ref bF, .int al, .ref bN, .ref bP, .ref bQ, .ref bR, .int sz1, .int un, .int (b2i mo), .int ((j193_0 + 8) + j321_0), .int (b2i sp), .int tpo, .long fro, .int (b2i z116.2)]))]) [0] (by decide) rfl
                            have hKc := hK.sub (tys' := []) [] rfl
                            have hFc := va_free (wc := [(bM, .inr (3, [.int cd, .int wd, .ref bT, .ref bF, .int al, .ref bN, .ref bP, .ref bQ, .ref bR, .int sz1, .int un, .int (b2i mo), .int ((j193_0 + 8) + j321_0), .int (b2i sp), .int tpo, .long fro, .int (b2i z116.2)]))]) hD hS hA [0] rfl
                            refine cc_v (va_runV (As := [.int (b2i bs), .int 32767, .long (-9223372036854775808)]) (rest := []) ⟨hx, hb, hml, hown, htA⟩ (c_M_answer l dC dI bM bT bF bN bP bQ bR H.size cd wd al sz1 un mo ((j193_0 + 8) + j321_0) sp tpo fro z116.2 bs 32767 (-9223372036854775808)) (cwV 3 htA (gi_V k_288 k_289 k_290 k_263 (gi_code k_254)) rfl rfl rfl (by decide +kernel) ⟨Nat.le_of_ble_eq_true rfl, Nat.le_of_ble_eq_true rfl⟩) (pre_V hnw hPc hKc hDc (ci := 3) (q0 := 0) rfl rfl) rfl rfl hl.1 rfl (lv_room (Nat.le_of_ble_eq_true rfl)) d_M_make_376 ⟨Nat.le_of_ble_eq_true rfl, Nat.le_of_ble_eq_true rfl⟩) hS hFc hP hD [0] [1] (wr := [(bR, .inl (kR, 33000, .inl (fun k => b2i (rb k))))]) rfl rfl (by decide) (by decide) (fun H locs hP hD hS => ?_)
                            have hP : va_P (dC, dI) classes [(bR, .inl (kR, 33000, .inl (fun k => b2i (rb k)))), (bM, .inr (3, [.int cd, .int wd, .ref bT, .ref bF, .int al, .ref bN, .ref bP, .ref bQ, .ref bR, .int sz1, .int un, .int (b2i mo), .int ((j193_0 + 8) + j321_0), .int (b2i sp), .int (g_M_answer bs 32767), .long (-9223372036854775808), .int (b2i z116.2)]))] H := hP
                            have hD : va_D A [(bR, .inl (kR, 33000, .inl (fun k => b2i (rb k)))), (bM, .inr (3, [.int cd, .int wd, .ref bT, .ref bF, .int al, .ref bN, .ref bP, .ref bQ, .ref bR, .int sz1, .int un, .int (b2i mo), .int ((j193_0 + 8) + j321_0), .int (b2i sp), .int (g_M_answer bs 32767), .long (-9223372036854775808), .int (b2i z116.2)]))] := hD
                            refine lv_goto (tgt := 399) hx hb d_M_make_379 (by decide) ?_
                            have hE : g_M_make wd sz1 un mo tl rb bs = (((j193_0 + 8) + j321_0), (g_M_answer bs 32767), (-9223372036854775808), z116.2) := by clear hP hD hl hS; subst ej361_0; subst ej321_0; subst ej240_0; subst ej193_0; subst ej169_0; subst ej140_0; subst ez116; subst ej30_0; unfold g_M_make; (try dsimp only); rw [if_pos c_34, if_pos c_44, if_neg c_198, if_pos c_244, if_neg c_269, if_pos c_365]
                            have hP9 : va_P (dC, dI) classes [(bM, .inr (3, [.int cd, .int wd, .ref bT, .ref bF, .int al, .ref bN, .ref bP, .ref bQ, .ref bR, .int sz1, .int un, .int (b2i mo), .int ((g_M_make wd sz1 un mo tl rb bs).1), .int (b2i sp), .int ((g_M_make wd sz1 un mo tl rb bs).2.1), .long ((g_M_make wd sz1 un mo tl rb bs).2.2.1), .int (b2i ((g_M_make wd sz1 un mo tl rb bs).2.2.2))])), (bR, .inl (kR, 33000, .inl (fun k => b2i (rb k))))] H := by rw [hE]; exact hP.sub [1, 0] rfl
                            have hD9 : va_D A [(bM, .inr (3, [.int cd, .int wd, .ref bT, .ref bF, .int al, .ref bN, .ref bP, .ref bQ, .ref bR, .int sz1, .int un, .int (b2i mo), .int ((g_M_make wd sz1 un mo tl rb bs).1), .int (b2i sp), .int ((g_M_make wd sz1 un mo tl rb bs).2.1), .long ((g_M_make wd sz1 un mo tl rb bs).2.2.1), .int (b2i ((g_M_make wd sz1 un mo tl rb bs).2.2.2))])), (bR, .inl (kR, 33000, .inl (fun k => b2i (rb k))))] := by rw [hE]; exact hD.sub [1, 0] (by decide) rfl
                            exact W.vret hx hb hr (fun t ht hW => ⟨⟨(), rfl, trivial, by rw [ht]; exact hP9, hD9⟩, hS.F ht⟩) hS.2.2 d_M_make_399
                        · skip
                          refine lv_if_eq (tgt := 356) hx hb d_M_make_339 (by decide) (fun c_339 => ?_) (fun c_339 => ?_)
                          · skip
                            refine lv_iconst (v := 1) hx hb d_M_make_356 (by decide) ?_
                            refine lv_goto (tgt := 361) hx hb d_M_make_357 (by decide) ?_
                            exact J361 (true) H locs ls ⟨by clear hP hD hl hS; (try dsimp only); rw [if_pos c_339], hP.sub [0, 1] rfl, hD.sub [0, 1] (by decide) rfl, hS, lv_sub hl [1, 2, 3, 4, 5, 6, 7, 8, 9, 10, 0] rfl⟩
                          · skip
                            refine lv_iload hx hb d_M_make_342 (lv_at hl 0 rfl) ?_
                            refine lv_iload_n hx hb d_M_make_344 rfl (lv_at hl 2 rfl) ?_
                            refine cut_join (X := Int32) 0 0 (fun (x : Int32) (H : Heap) (locs : List Loc) (ls : Array Slot) => (if bs = true then 1 else 2) = x ∧ va_P (dC, dI) classes [(bM, .inr (3, [.int cd, .int wd, .ref bT, .ref bF, .int al, .ref bN, .ref bP, .ref bQ, .ref bR, .int sz1, .int un, .int (b2i mo), .int ((j193_0 + 8) + j321_0), .int (b2i sp), .int tpo, .long fro, .int (b2i z116.2)])), (bR, .inl (kR, 33000, .inl (fun k => b2i (rb k))))] H ∧ va_D A [(bM, .inr (3, [.int cd, .int wd, .ref bT, .ref bF, .int al, .ref bN, .ref bP, .ref bQ, .ref bR, .int sz1, .int un, .int (b2i mo), .int ((j193_0 + 8) + j321_0), .int (b2i sp), .int tpo, .long fro, .int (b2i z116.2)])), (bR, .inl (kR, 33000, .inl (fun k => b2i (rb k))))] ∧ va_S A s.heap H locs ∧ lv_has ls 13 [(0, .ref bM), (1, .int (b2i bs)), (2, .int (g_M_highest sz1 rb)), (3, .int (un + (g_M_highest sz1 rb))), (4, .int (g_M_digits wd)), (5, .int (b2i j30_0)), (6, .int (((un + (g_M_highest sz1 rb)) + 1) - (g_M_digits wd))), (7, .long z116.1), (9, .int (b2i j140_0)), (10, .int (b2i j169_0)), (11, .int ((wd / 1024) - (wd / 1024) / 4 * 4))]) (fun x ls => F0 m 353 ls [.int x, .int ((wd / 1024) - (wd / 1024) / 4 * 4)]) ?_ (fun J353 => ?_)
                            · skip
                              rintro j353_0 H locs ls ⟨ej353_0, hP, hD, hS, hl⟩
                              have ej353_0 : (if bs = true then 1 else 2) = j353_0 := ej353_0
                              have hP : va_P (dC, dI) classes [(bM, .inr (3, [.int cd, .int wd, .ref bT, .ref bF, .int al, .ref bN, .ref bP, .ref bQ, .ref bR, .int sz1, .int un, .int (b2i mo), .int ((j193_0 + 8) + j321_0), .int (b2i sp), .int tpo, .long fro, .int (b2i z116.2)])), (bR, .inl (kR, 33000, .inl (fun k => b2i (rb k))))] H := hP
                              have hD : va_D A [(bM, .inr (3, [.int cd, .int wd, .ref bT, .ref bF, .int al, .ref bN, .ref bP, .ref bQ, .ref bR, .int sz1, .int un, .int (b2i mo), .int ((j193_0 + 8) + j321_0), .int (b2i sp), .int tpo, .long fro, .int (b2i z116.2)])), (bR, .inl (kR, 33000, .inl (fun k => b2i (rb k))))] := hD
                              have hl : lv_has ls 13 [(0, .ref bM), (1, .int (b2i bs)), (2, .int (g_M_highest sz1 rb)), (3, .int (un + (g_M_highest sz1 rb))), (4, .int (g_M_digits wd)), (5, .int (b2i j30_0)), (6, .int (((un + (g_M_highest sz1 rb)) + 1) - (g_M_digits wd))), (7, .long z116.1), (9, .int (b2i j140_0)), (10, .int (b2i j169_0)), (11, .int ((wd / 1024) - (wd / 1024) / 4 * 4))] := hl
                              refine lv_icmp_ne (tgt := 360) hx hb d_M_make_353 (by decide) (fun c_353 => ?_) (fun c_353 => ?_)
                              · skip
                                refine lv_iconst (v := 0) hx hb d_M_make_360 (by decide) ?_
                                exact J361 (false) H locs ls ⟨by clear hP hD hl hS; subst ej353_0; (try dsimp only); rw [if_neg c_339, if_neg c_353], hP.sub [0, 1] rfl, hD.sub [0, 1] (by decide) rfl, hS, lv_sub hl [0, 1, 2, 3, 4, 5, 6, 7, 8, 9, 10] rfl⟩
                              · skip
                                refine lv_iconst (v := 1) hx hb d_M_make_356 (by decide) ?_
                                refine lv_goto (tgt := 361) hx hb d_M_make_357 (by decide) ?_
                                exact J361 (true) H locs ls ⟨by clear hP hD hl hS; subst ej353_0; (try dsimp only); rw [if_neg c_339, if_pos c_353], hP.sub [0, 1] rfl, hD.sub [0, 1] (by decide) rfl, hS, lv_sub hl [0, 1, 2, 3, 4, 5, 6, 7, 8, 9, 10] rfl⟩
                            · skip
                              refine lv_if_eq (tgt := 352) hx hb d_M_make_345 (by decide) (fun c_345 => ?_) (fun c_345 => ?_)
                              · skip
                                have c_345 : ¬ bs = true := b2i_z c_345
                                refine lv_iconst (v := 2) hx hb d_M_make_352 (by decide) ?_
                                exact J353 (2) H locs ls ⟨by clear hP hD hl hS; (try dsimp only); rw [if_neg c_345], hP.sub [0, 1] rfl, hD.sub [0, 1] (by decide) rfl, hS, lv_sub hl [1, 2, 3, 4, 5, 6, 7, 8, 9, 10, 0] rfl⟩
                              · skip
                                have c_345 : bs = true := b2i_nz c_345
                                refine lv_iconst (v := 1) hx hb d_M_make_348 (by decide) ?_
                                refine lv_goto (tgt := 353) hx hb d_M_make_349 (by decide) ?_
                                exact J353 (1) H locs ls ⟨by clear hP hD hl hS; (try dsimp only); rw [if_pos c_345], hP.sub [0, 1] rfl, hD.sub [0, 1] (by decide) rfl, hS, lv_sub hl [1, 2, 3, 4, 5, 6, 7, 8, 9, 10, 0] rfl⟩
                      · skip
                        refine lv_if_eq (tgt := 319) hx hb d_M_make_312 (by decide) (fun c_312 => ?_) (fun c_312 => ?_)
                        · skip
                          have c_312 : ¬ z116.2 = true := b2i_z c_312
                          refine lv_bipush (v := 32) hx hb d_M_make_319 (by decide) ?_
                          exact J321 (32) H locs ls ⟨by clear hP hD hl hS; (try dsimp only); rw [if_neg c_312], hP.sub [0, 1] rfl, hD.sub [0, 1] (by decide) rfl, hS, lv_sub hl [0, 1, 2, 3, 4, 5, 6, 7, 8, 9] rfl⟩
                        · skip
                          have c_312 : z116.2 = true := b2i_nz c_312
                          refine lv_iconst (v := 0) hx hb d_M_make_315 (by decide) ?_
                          refine lv_goto (tgt := 321) hx hb d_M_make_316 (by decide) ?_
                          exact J321 (0) H locs ls ⟨by clear hP hD hl hS; (try dsimp only); rw [if_pos c_312], hP.sub [0, 1] rfl, hD.sub [0, 1] (by decide) rfl, hS, lv_sub hl [0, 1, 2, 3, 4, 5, 6, 7, 8, 9] rfl⟩
                    · skip
                      refine lv_aload_n hx hb d_M_make_272 rfl (lv_at hl 0 rfl) ?_
                      refine lv_aload_n hx hb d_M_make_273 rfl (lv_at hl 0 rfl) ?_
                      refine va_get (D := (dC, dI)) (ci := 3) (v := .int j193_0) (C := R_M) (T := F_M) (N := 17) hx hb htA in_M hown hK hP 0 rfl rfl 12 (by decide) (htA _ k_248) (fun _ h9 => h9) rfl d_M_make_274 ?_
                      refine lv_bipush (v := 8) hx hb d_M_make_277 (by decide) ?_
                      refine lv_iadd hx hb d_M_make_279 ?_
                      refine va_put (D := (dC, dI)) (ci := 3) (v := .int (j193_0 + 8)) (ty := .int) (C := R_M) (T := F_M) (N := 17) hx hb htA in_M t_M t_M_ok n_M hown hK hP hD hS 0 rfl rfl 12 (by decide) (htA _ k_248) (fun _ h9 => h9) rfl (by decide +kernel) rfl rfl (Nat.le_of_ble_eq_true rfl) d_M_make_280 (fun H locs hP hD hS => ?_)
                      have hP : va_P (dC, dI) classes [(bM, .inr (3, [.int cd, .int wd, .ref bT, .ref bF, .int al, .ref bN, .ref bP, .ref bQ, .ref bR, .int sz1, .int un, .int (b2i mo), .int (j193_0 + 8), .int (b2i sp), .int tpo, .long fro, .int (b2i z116.2)])), (bR, .inl (kR, 33000, .inl (fun k => b2i (rb k))))] H := hP
                      have hD : va_D A [(bM, .inr (3, [.int cd, .int wd, .ref bT, .ref bF, .int al, .ref bN, .ref bP, .ref bQ, .ref bR, .int sz1, .int un, .int (b2i mo), .int (j193_0 + 8), .int (b2i sp), .int tpo, .long fro, .int (b2i z116.2)])), (bR, .inl (kR, 33000, .inl (fun k => b2i (rb k))))] := hD
                      refine lv_aload_n hx hb d_M_make_283 rfl (lv_at hl 0 rfl) ?_
                      refine lv_iload_n hx hb d_M_make_284 rfl (lv_at hl 1 rfl) ?_
                      refine lv_lload hx hb d_M_make_285 (lv_at hl 7 rfl) ?_
                      refine lv_iload hx hb d_M_make_287 (lv_at hl 8 rfl) ?_
                      refine lv_iload hx hb d_M_make_289 (lv_at hl 6 rfl) ?_
                      refine lv_sipush (v := (-24576)) hx hb d_M_make_291 (by decide) ?_
                      have hPc := hP.sub (ws' := [(bM, .inr (3, [.int cd, .int wd, .ref bT, .ref bF, .int al, .ref bN, .ref bP, .ref bQ, .ref bR, .int sz1, .int un, .int (b2i mo), .int (j193_0 + 8), .int (b2i sp), .int tpo, .long fro, .int (b2i z116.2)]))]) [0] rfl
                      have hDc := hD.sub (ws' := [(bM, .inr (3, [.int cd, .int wd, .ref bT, .ref bF, .int al, .ref bN, .ref bP, .ref bQ, .ref bR, .int sz1, .int un, .int (b2i mo), .int (j193_0 + 8), .int (b2i sp), .int tpo, .long fro, .int (b2i z116.2)]))]) [0] (by decide) rfl
                      have hKc := hK.sub (tys' := []) [] rfl
                      have hFc := va_free (wc := [(bM, .inr (3, [.int cd, .int wd, .ref bT, .ref bF, .int al, .ref bN, .ref bP, .ref bQ, .ref bR, .int sz1, .int un, .int (b2i mo), .int (j193_0 + 8), .int (b2i sp), .int tpo, .long fro, .int (b2i z116.2)]))]) hD hS hA [0] rfl
                      refine cc_v (va_runV (As := [.int (b2i bs), .long z116.1, .int (b2i j140_0), .int (((un + (g_M_highest sz1 rb)) + 1) - (g_M_digits wd)), .int (-24576)]) (rest := []) ⟨hx, hb, hml, hown, htA⟩ (c_M_put l dC dI bM bT bF bN bP bQ bR H.size cd wd al sz1 un mo (j193_0 + 8) sp tpo fro z116.2 bs z116.1 j140_0 (((un + (g_M_highest sz1 rb)) + 1) - (g_M_digits wd)) (-24576)) (cwV 5 htA (gi_V k_302 k_303 k_304 k_263 (gi_code k_291)) rfl rfl rfl (by decide +kernel) ⟨Nat.le_of_ble_eq_true rfl, Nat.le_of_ble_eq_true rfl⟩) (pre_V hnw hPc hKc hDc (ci := 3) (q0 := 0) rfl rfl) rfl rfl hl.1 rfl (lv_room (Nat.le_of_ble_eq_true rfl)) d_M_make_294 ⟨Nat.le_of_ble_eq_true rfl, Nat.le_of_ble_eq_true rfl⟩) hS hFc hP hD [0] [1] (wr := [(bR, .inl (kR, 33000, .inl (fun k => b2i (rb k))))]) rfl rfl (by decide) (by decide) (fun H locs hP hD hS => ?_)
                      obtain ⟨z294, ez294⟩ : ∃ z, g_M_put bs z116.1 j140_0 (((un + (g_M_highest sz1 rb)) + 1) - (g_M_digits wd)) (-24576) = z := ⟨_, rfl⟩
                      rw [ez294] at hP hD
                      have hP : va_P (dC, dI) classes [(bR, .inl (kR, 33000, .inl (fun k => b2i (rb k)))), (bM, .inr (3, [.int cd, .int wd, .ref bT, .ref bF, .int al, .ref bN, .ref bP, .ref bQ, .ref bR, .int sz1, .int un, .int (b2i mo), .int (j193_0 + 8), .int (b2i sp), .int z294.1, .long z294.2, .int (b2i z116.2)]))] H := hP
                      have hD : va_D A [(bR, .inl (kR, 33000, .inl (fun k => b2i (rb k)))), (bM, .inr (3, [.int cd, .int wd, .ref bT, .ref bF, .int al, .ref bN, .ref bP, .ref bQ, .ref bR, .int sz1, .int un, .int (b2i mo), .int (j193_0 + 8), .int (b2i sp), .int z294.1, .long z294.2, .int (b2i z116.2)]))] := hD
                      refine lv_goto (tgt := 399) hx hb d_M_make_297 (by decide) ?_
                      have hE : g_M_make wd sz1 un mo tl rb bs = ((j193_0 + 8), z294.1, z294.2, z116.2) := by clear hP hD hl hS; subst ez294; subst ej240_0; subst ej193_0; subst ej169_0; subst ej140_0; subst ez116; subst ej30_0; unfold g_M_make; (try dsimp only); rw [if_pos c_34, if_pos c_44, if_neg c_198, if_pos c_244, if_pos c_269]
                      have hP9 : va_P (dC, dI) classes [(bM, .inr (3, [.int cd, .int wd, .ref bT, .ref bF, .int al, .ref bN, .ref bP, .ref bQ, .ref bR, .int sz1, .int un, .int (b2i mo), .int ((g_M_make wd sz1 un mo tl rb bs).1), .int (b2i sp), .int ((g_M_make wd sz1 un mo tl rb bs).2.1), .long ((g_M_make wd sz1 un mo tl rb bs).2.2.1), .int (b2i ((g_M_make wd sz1 un mo tl rb bs).2.2.2))])), (bR, .inl (kR, 33000, .inl (fun k => b2i (rb k))))] H := by rw [hE]; exact hP.sub [1, 0] rfl
                      have hD9 : va_D A [(bM, .inr (3, [.int cd, .int wd, .ref bT, .ref bF, .int al, .ref bN, .ref bP, .ref bQ, .ref bR, .int sz1, .int un, .int (b2i mo), .int ((g_M_make wd sz1 un mo tl rb bs).1), .int (b2i sp), .int ((g_M_make wd sz1 un mo tl rb bs).2.1), .long ((g_M_make wd sz1 un mo tl rb bs).2.2.1), .int (b2i ((g_M_make wd sz1 un mo tl rb bs).2.2.2))])), (bR, .inl (kR, 33000, .inl (fun k => b2i (rb k))))] := by rw [hE]; exact hD.sub [1, 0] (by decide) rfl
                      exact W.vret hx hb hr (fun t ht hW => ⟨⟨(), rfl, trivial, by rw [ht]; exact hP9, hD9⟩, hS.F ht⟩) hS.2.2 d_M_make_399
                  · skip
                    refine lv_aload_n hx hb d_M_make_247 rfl (lv_at hl 0 rfl) ?_
                    refine lv_iload_n hx hb d_M_make_248 rfl (lv_at hl 1 rfl) ?_
                    refine lv_lload hx hb d_M_make_249 (lv_at hl 7 rfl) ?_
                    refine lv_iload hx hb d_M_make_251 (lv_at hl 8 rfl) ?_
                    refine lv_iload hx hb d_M_make_253 (lv_at hl 6 rfl) ?_
                    refine lv_iconst (v := 0) hx hb d_M_make_255 (by decide) ?_
                    have hPc := hP.sub (ws' := [(bM, .inr (3, [.int cd, .int wd, .ref bT, .ref bF, .int al, .ref bN, .ref bP, .ref bQ, .ref bR, .int sz1, .int un, .int (b2i mo), .int j193_0, .int (b2i sp), .int tpo, .long fro, .int (b2i z116.2)]))]) [0] rfl
                    have hDc := hD.sub (ws' := [(bM, .inr (3, [.int cd, .int wd, .ref bT, .ref bF, .int al, .ref bN, .ref bP, .ref bQ, .ref bR, .int sz1, .int un, .int (b2i mo), .int j193_0, .int (b2i sp), .int tpo, .long fro, .int (b2i z116.2)]))]) [0] (by decide) rfl
                    have hKc := hK.sub (tys' := []) [] rfl
                    have hFc := va_free (wc := [(bM, .inr (3, [.int cd, .int wd, .ref bT, .ref bF, .int al, .ref bN, .ref bP, .ref bQ, .ref bR, .int sz1, .int un, .int (b2i mo), .int j193_0, .int (b2i sp), .int tpo, .long fro, .int (b2i z116.2)]))]) hD hS hA [0] rfl
                    refine cc_v (va_runV (As := [.int (b2i bs), .long z116.1, .int (b2i j140_0), .int (((un + (g_M_highest sz1 rb)) + 1) - (g_M_digits wd)), .int 0]) (rest := []) ⟨hx, hb, hml, hown, htA⟩ (c_M_put l dC dI bM bT bF bN bP bQ bR H.size cd wd al sz1 un mo j193_0 sp tpo fro z116.2 bs z116.1 j140_0 (((un + (g_M_highest sz1 rb)) + 1) - (g_M_digits wd)) 0) (cwV 5 htA (gi_V k_302 k_303 k_304 k_263 (gi_code k_291)) rfl rfl rfl (by decide +kernel) ⟨Nat.le_of_ble_eq_true rfl, Nat.le_of_ble_eq_true rfl⟩) (pre_V hnw hPc hKc hDc (ci := 3) (q0 := 0) rfl rfl) rfl rfl hl.1 rfl (lv_room (Nat.le_of_ble_eq_true rfl)) d_M_make_256 ⟨Nat.le_of_ble_eq_true rfl, Nat.le_of_ble_eq_true rfl⟩) hS hFc hP hD [0] [1] (wr := [(bR, .inl (kR, 33000, .inl (fun k => b2i (rb k))))]) rfl rfl (by decide) (by decide) (fun H locs hP hD hS => ?_)
                    obtain ⟨z256, ez256⟩ : ∃ z, g_M_put bs z116.1 j140_0 (((un + (g_M_highest sz1 rb)) + 1) - (g_M_digits wd)) 0 = z := ⟨_, rfl⟩
                    rw [ez256] at hP hD
                    have hP : va_P (dC, dI) classes [(bR, .inl (kR, 33000, .inl (fun k => b2i (rb k)))), (bM, .inr (3, [.int cd, .int wd, .ref bT, .ref bF, .int al, .ref bN, .ref bP, .ref bQ, .ref bR, .int sz1, .int un, .int (b2i mo), .int j193_0, .int (b2i sp), .int z256.1, .long z256.2, .int (b2i z116.2)]))] H := hP
                    have hD : va_D A [(bR, .inl (kR, 33000, .inl (fun k => b2i (rb k)))), (bM, .inr (3, [.int cd, .int wd, .ref bT, .ref bF, .int al, .ref bN, .ref bP, .ref bQ, .ref bR, .int sz1, .int un, .int (b2i mo), .int j193_0, .int (b2i sp), .int z256.1, .long z256.2, .int (b2i z116.2)]))] := hD
                    refine lv_goto (tgt := 399) hx hb d_M_make_259 (by decide) ?_
                    have hE : g_M_make wd sz1 un mo tl rb bs = (j193_0, z256.1, z256.2, z116.2) := by clear hP hD hl hS; subst ez256; subst ej240_0; subst ej193_0; subst ej169_0; subst ej140_0; subst ez116; subst ej30_0; unfold g_M_make; (try dsimp only); rw [if_pos c_34, if_pos c_44, if_neg c_198, if_neg c_244]
                    have hP9 : va_P (dC, dI) classes [(bM, .inr (3, [.int cd, .int wd, .ref bT, .ref bF, .int al, .ref bN, .ref bP, .ref bQ, .ref bR, .int sz1, .int un, .int (b2i mo), .int ((g_M_make wd sz1 un mo tl rb bs).1), .int (b2i sp), .int ((g_M_make wd sz1 un mo tl rb bs).2.1), .long ((g_M_make wd sz1 un mo tl rb bs).2.2.1), .int (b2i ((g_M_make wd sz1 un mo tl rb bs).2.2.2))])), (bR, .inl (kR, 33000, .inl (fun k => b2i (rb k))))] H := by rw [hE]; exact hP.sub [1, 0] rfl
                    have hD9 : va_D A [(bM, .inr (3, [.int cd, .int wd, .ref bT, .ref bF, .int al, .ref bN, .ref bP, .ref bQ, .ref bR, .int sz1, .int un, .int (b2i mo), .int ((g_M_make wd sz1 un mo tl rb bs).1), .int (b2i sp), .int ((g_M_make wd sz1 un mo tl rb bs).2.1), .long ((g_M_make wd sz1 un mo tl rb bs).2.2.1), .int (b2i ((g_M_make wd sz1 un mo tl rb bs).2.2.2))])), (bR, .inl (kR, 33000, .inl (fun k => b2i (rb k))))] := by rw [hE]; exact hD.sub [1, 0] (by decide) rfl
                    exact W.vret hx hb hr (fun t ht hW => ⟨⟨(), rfl, trivial, by rw [ht]; exact hP9, hD9⟩, hS.F ht⟩) hS.2.2 d_M_make_399
                · skip
                  refine lv_if_eq (tgt := 239) hx hb d_M_make_232 (by decide) (fun c_232 => ?_) (fun c_232 => ?_)
                  · skip
                    have c_232 : ¬ j169_0 = true := b2i_z c_232
                    refine lv_iconst (v := 0) hx hb d_M_make_239 (by decide) ?_
                    exact J240 (false) H locs ls ⟨by clear hP hD hl hS; (try dsimp only); rw [if_neg c_232], hP.sub [0, 1] rfl, hD.sub [0, 1] (by decide) rfl, hS, lv_sub hl [0, 1, 2, 3, 4, 5, 6, 7, 8, 9] rfl⟩
                  · skip
                    have c_232 : j169_0 = true := b2i_nz c_232
                    refine lv_iconst (v := 1) hx hb d_M_make_235 (by decide) ?_
                    refine lv_goto (tgt := 240) hx hb d_M_make_236 (by decide) ?_
                    exact J240 (true) H locs ls ⟨by clear hP hD hl hS; (try dsimp only); rw [if_pos c_232], hP.sub [0, 1] rfl, hD.sub [0, 1] (by decide) rfl, hS, lv_sub hl [0, 1, 2, 3, 4, 5, 6, 7, 8, 9] rfl⟩
              · skip
                have c_198 : j30_0 = true := b2i_nz c_198
                refine lv_aload_n hx hb d_M_make_201 rfl (lv_at hl 0 rfl) ?_
                refine lv_aload_n hx hb d_M_make_202 rfl (lv_at hl 0 rfl) ?_
                refine va_get (D := (dC, dI)) (ci := 3) (v := .int j193_0) (C := R_M) (T := F_M) (N := 17) hx hb htA in_M hown hK hP 0 rfl rfl 12 (by decide) (htA _ k_248) (fun _ h9 => h9) rfl d_M_make_203 ?_
                refine lv_bipush (v := 16) hx hb d_M_make_206 (by decide) ?_
                refine lv_iadd hx hb d_M_make_208 ?_
                refine va_put (D := (dC, dI)) (ci := 3) (v := .int (j193_0 + 16)) (ty := .int) (C := R_M) (T := F_M) (N := 17) hx hb htA in_M t_M t_M_ok n_M hown hK hP hD hS 0 rfl rfl 12 (by decide) (htA _ k_248) (fun _ h9 => h9) rfl (by decide +kernel) rfl rfl (Nat.le_of_ble_eq_true rfl) d_M_make_209 (fun H locs hP hD hS => ?_)
                have hP : va_P (dC, dI) classes [(bM, .inr (3, [.int cd, .int wd, .ref bT, .ref bF, .int al, .ref bN, .ref bP, .ref bQ, .ref bR, .int sz1, .int un, .int (b2i mo), .int (j193_0 + 16), .int (b2i sp), .int tpo, .long fro, .int (b2i z116.2)])), (bR, .inl (kR, 33000, .inl (fun k => b2i (rb k))))] H := hP
                have hD : va_D A [(bM, .inr (3, [.int cd, .int wd, .ref bT, .ref bF, .int al, .ref bN, .ref bP, .ref bQ, .ref bR, .int sz1, .int un, .int (b2i mo), .int (j193_0 + 16), .int (b2i sp), .int tpo, .long fro, .int (b2i z116.2)])), (bR, .inl (kR, 33000, .inl (fun k => b2i (rb k))))] := hD
                refine lv_aload_n hx hb d_M_make_212 rfl (lv_at hl 0 rfl) ?_
                refine lv_iload_n hx hb d_M_make_213 rfl (lv_at hl 1 rfl) ?_
                refine lv_lload hx hb d_M_make_214 (lv_at hl 7 rfl) ?_
                refine lv_iload hx hb d_M_make_216 (lv_at hl 8 rfl) ?_
                refine lv_iload hx hb d_M_make_218 (lv_at hl 6 rfl) ?_
                refine lv_sipush (v := 24576) hx hb d_M_make_220 (by decide) ?_
                have hPc := hP.sub (ws' := [(bM, .inr (3, [.int cd, .int wd, .ref bT, .ref bF, .int al, .ref bN, .ref bP, .ref bQ, .ref bR, .int sz1, .int un, .int (b2i mo), .int (j193_0 + 16), .int (b2i sp), .int tpo, .long fro, .int (b2i z116.2)]))]) [0] rfl
                have hDc := hD.sub (ws' := [(bM, .inr (3, [.int cd, .int wd, .ref bT, .ref bF, .int al, .ref bN, .ref bP, .ref bQ, .ref bR, .int sz1, .int un, .int (b2i mo), .int (j193_0 + 16), .int (b2i sp), .int tpo, .long fro, .int (b2i z116.2)]))]) [0] (by decide) rfl
                have hKc := hK.sub (tys' := []) [] rfl
                have hFc := va_free (wc := [(bM, .inr (3, [.int cd, .int wd, .ref bT, .ref bF, .int al, .ref bN, .ref bP, .ref bQ, .ref bR, .int sz1, .int un, .int (b2i mo), .int (j193_0 + 16), .int (b2i sp), .int tpo, .long fro, .int (b2i z116.2)]))]) hD hS hA [0] rfl
                refine cc_v (va_runV (As := [.int (b2i bs), .long z116.1, .int (b2i j140_0), .int (((un + (g_M_highest sz1 rb)) + 1) - (g_M_digits wd)), .int 24576]) (rest := []) ⟨hx, hb, hml, hown, htA⟩ (c_M_put l dC dI bM bT bF bN bP bQ bR H.size cd wd al sz1 un mo (j193_0 + 16) sp tpo fro z116.2 bs z116.1 j140_0 (((un + (g_M_highest sz1 rb)) + 1) - (g_M_digits wd)) 24576) (cwV 5 htA (gi_V k_302 k_303 k_304 k_263 (gi_code k_291)) rfl rfl rfl (by decide +kernel) ⟨Nat.le_of_ble_eq_true rfl, Nat.le_of_ble_eq_true rfl⟩) (pre_V hnw hPc hKc hDc (ci := 3) (q0 := 0) rfl rfl) rfl rfl hl.1 rfl (lv_room (Nat.le_of_ble_eq_true rfl)) d_M_make_223 ⟨Nat.le_of_ble_eq_true rfl, Nat.le_of_ble_eq_true rfl⟩) hS hFc hP hD [0] [1] (wr := [(bR, .inl (kR, 33000, .inl (fun k => b2i (rb k))))]) rfl rfl (by decide) (by decide) (fun H locs hP hD hS => ?_)
                obtain ⟨z223, ez223⟩ : ∃ z, g_M_put bs z116.1 j140_0 (((un + (g_M_highest sz1 rb)) + 1) - (g_M_digits wd)) 24576 = z := ⟨_, rfl⟩
                rw [ez223] at hP hD
                have hP : va_P (dC, dI) classes [(bR, .inl (kR, 33000, .inl (fun k => b2i (rb k)))), (bM, .inr (3, [.int cd, .int wd, .ref bT, .ref bF, .int al, .ref bN, .ref bP, .ref bQ, .ref bR, .int sz1, .int un, .int (b2i mo), .int (j193_0 + 16), .int (b2i sp), .int z223.1, .long z223.2, .int (b2i z116.2)]))] H := hP
                have hD : va_D A [(bR, .inl (kR, 33000, .inl (fun k => b2i (rb k)))), (bM, .inr (3, [.int cd, .int wd, .ref bT, .ref bF, .int al, .ref bN, .ref bP, .ref bQ, .ref bR, .int sz1, .int un, .int (b2i mo), .int (j193_0 + 16), .int (b2i sp), .int z223.1, .long z223.2, .int (b2i z116.2)]))] := hD
                refine lv_goto (tgt := 399) hx hb d_M_make_226 (by decide) ?_
                have hE : g_M_make wd sz1 un mo tl rb bs = ((j193_0 + 16), z223.1, z223.2, z116.2) := by clear hP hD hl hS; subst ez223; subst ej193_0; subst ej169_0; subst ej140_0; subst ez116; subst ej30_0; unfold g_M_make; (try dsimp only); rw [if_pos c_34, if_pos c_44, if_pos c_198]
                have hP9 : va_P (dC, dI) classes [(bM, .inr (3, [.int cd, .int wd, .ref bT, .ref bF, .int al, .ref bN, .ref bP, .ref bQ, .ref bR, .int sz1, .int un, .int (b2i mo), .int ((g_M_make wd sz1 un mo tl rb bs).1), .int (b2i sp), .int ((g_M_make wd sz1 un mo tl rb bs).2.1), .long ((g_M_make wd sz1 un mo tl rb bs).2.2.1), .int (b2i ((g_M_make wd sz1 un mo tl rb bs).2.2.2))])), (bR, .inl (kR, 33000, .inl (fun k => b2i (rb k))))] H := by rw [hE]; exact hP.sub [1, 0] rfl
                have hD9 : va_D A [(bM, .inr (3, [.int cd, .int wd, .ref bT, .ref bF, .int al, .ref bN, .ref bP, .ref bQ, .ref bR, .int sz1, .int un, .int (b2i mo), .int ((g_M_make wd sz1 un mo tl rb bs).1), .int (b2i sp), .int ((g_M_make wd sz1 un mo tl rb bs).2.1), .long ((g_M_make wd sz1 un mo tl rb bs).2.2.1), .int (b2i ((g_M_make wd sz1 un mo tl rb bs).2.2.2))])), (bR, .inl (kR, 33000, .inl (fun k => b2i (rb k))))] := by rw [hE]; exact hD.sub [1, 0] (by decide) rfl
                exact W.vret hx hb hr (fun t ht hW => ⟨⟨(), rfl, trivial, by rw [ht]; exact hP9, hD9⟩, hS.F ht⟩) hS.2.2 d_M_make_399
            · skip
              refine lv_if_eq (tgt := 189) hx hb d_M_make_176 (by decide) (fun c_176 => ?_) (fun c_176 => ?_)
              · skip
                have c_176 : ¬ z116.2 = true := b2i_z c_176
                refine lv_aload_n hx hb d_M_make_189 rfl (lv_at hl 1 rfl) ?_
                refine va_get (D := (dC, dI)) (ci := 3) (v := .int tl) (C := R_M) (T := F_M) (N := 17) hx hb htA in_M hown hK hP 0 rfl rfl 12 (by decide) (htA _ k_248) (fun _ h9 => h9) rfl d_M_make_190 ?_
                exact J193 (tl) H locs ls ⟨by clear hP hD hl hS; (try dsimp only); rw [if_neg c_176], hP.sub [0, 1] rfl, hD.sub [0, 1] (by decide) rfl, hS, lv_sub hl [1, 2, 3, 4, 5, 6, 7, 8, 9, 0] rfl⟩
              · skip
                have c_176 : z116.2 = true := b2i_nz c_176
                refine lv_aload_n hx hb d_M_make_179 rfl (lv_at hl 1 rfl) ?_
                refine va_get (D := (dC, dI)) (ci := 3) (v := .int tl) (C := R_M) (T := F_M) (N := 17) hx hb htA in_M hown hK hP 0 rfl rfl 12 (by decide) (htA _ k_248) (fun _ h9 => h9) rfl d_M_make_180 ?_
                refine lv_bipush (v := 32) hx hb d_M_make_183 (by decide) ?_
                refine lv_iadd hx hb d_M_make_185 ?_
                refine lv_goto (tgt := 193) hx hb d_M_make_186 (by decide) ?_
                exact J193 ((tl + 32)) H locs ls ⟨by clear hP hD hl hS; (try dsimp only); rw [if_pos c_176], hP.sub [0, 1] rfl, hD.sub [0, 1] (by decide) rfl, hS, lv_sub hl [1, 2, 3, 4, 5, 6, 7, 8, 9, 0] rfl⟩
          · skip
            refine lv_if_ne (tgt := 164) hx hb d_M_make_144 (by decide) (fun c_144 => ?_) (fun c_144 => ?_)
            · skip
              have c_144 : j140_0 = true := b2i_nz c_144
              refine lv_iconst (v := 1) hx hb d_M_make_164 (by decide) ?_
              refine lv_goto (tgt := 169) hx hb d_M_make_165 (by decide) ?_
              exact J169 (true) H locs ls ⟨by clear hP hD hl hS; (try dsimp only); rw [if_pos c_144], hP.sub [0, 1] rfl, hD.sub [0, 1] (by decide) rfl, hS, lv_sub hl [1, 2, 3, 4, 5, 6, 7, 8, 0] rfl⟩
            · skip
              have c_144 : ¬ j140_0 = true := b2i_z c_144
              refine lv_iload hx hb d_M_make_147 (lv_at hl 5 rfl) ?_
              refine lv_bipush (v := 64) hx hb d_M_make_149 (by decide) ?_
              refine lv_icmp_ge (tgt := 168) hx hb d_M_make_151 (by decide) (fun c_151 => ?_) (fun c_151 => ?_)
              · skip
                refine lv_iconst (v := 0) hx hb d_M_make_168 (by decide) ?_
                exact J169 (false) H locs ls ⟨by clear hP hD hl hS; (try dsimp only); rw [if_neg c_144, if_pos c_151], hP.sub [0, 1] rfl, hD.sub [0, 1] (by decide) rfl, hS, lv_sub hl [1, 2, 3, 4, 5, 6, 7, 8, 0] rfl⟩
              · skip
                refine lv_lload hx hb d_M_make_154 (lv_at hl 8 rfl) ?_
                refine lv_iload hx hb d_M_make_156 (lv_at hl 5 rfl) ?_
                refine lv_lshr (v := (aR z116.1 (g_M_digits wd))) hx hb d_M_make_158 rfl ?_
                refine lv_lconst (v := 0) hx hb d_M_make_159 (by decide) ?_
                refine W.lcmp hx hb d_M_make_160 ?_
                refine lv_if_eq (tgt := 168) hx hb d_M_make_161 (by decide) (fun c_161 => ?_) (fun c_161 => ?_)
                · skip
                  have c_161 : (aR z116.1 (g_M_digits wd)) = 0 := (lg_cmp_eq _ _).mp c_161
                  refine lv_iconst (v := 0) hx hb d_M_make_168 (by decide) ?_
                  exact J169 (false) H locs ls ⟨by clear hP hD hl hS; (try dsimp only); rw [if_neg c_144, if_neg c_151, if_pos c_161], hP.sub [0, 1] rfl, hD.sub [0, 1] (by decide) rfl, hS, lv_sub hl [1, 2, 3, 4, 5, 6, 7, 8, 0] rfl⟩
                · skip
                  have c_161 : ¬ (aR z116.1 (g_M_digits wd)) = 0 := fun h9 => c_161 ((lg_cmp_eq _ _).mpr h9)
                  refine lv_iconst (v := 1) hx hb d_M_make_164 (by decide) ?_
                  refine lv_goto (tgt := 169) hx hb d_M_make_165 (by decide) ?_
                  exact J169 (true) H locs ls ⟨by clear hP hD hl hS; (try dsimp only); rw [if_neg c_144, if_neg c_151, if_neg c_161], hP.sub [0, 1] rfl, hD.sub [0, 1] (by decide) rfl, hS, lv_sub hl [1, 2, 3, 4, 5, 6, 7, 8, 0] rfl⟩
        · skip
          refine lv_icmp_ne (tgt := 139) hx hb d_M_make_125 (by decide) (fun c_125 => ?_) (fun c_125 => ?_)
          · skip
            refine lv_iconst (v := 0) hx hb d_M_make_139 (by decide) ?_
            exact J140 (false) H locs ls ⟨by clear hP hD hl hS; (try dsimp only); rw [if_neg c_125], hP.sub [0, 1] rfl, hD.sub [0, 1] (by decide) rfl, hS, lv_sub hl [3, 4, 5, 6, 7, 2, 1, 0] rfl⟩
          · skip
            refine lv_lload hx hb d_M_make_128 (lv_at hl 0 rfl) ?_
            refine lv_lconst (v := 0) hx hb d_M_make_130 (by decide) ?_
            refine W.lcmp hx hb d_M_make_131 ?_
            refine lv_if_ne (tgt := 139) hx hb d_M_make_132 (by decide) (fun c_132 => ?_) (fun c_132 => ?_)
            · skip
              have c_132 : ¬ z116.1 = 0 := fun h9 => c_132 ((lg_cmp_eq _ _).mpr h9)
              refine lv_iconst (v := 0) hx hb d_M_make_139 (by decide) ?_
              exact J140 (false) H locs ls ⟨by clear hP hD hl hS; (try dsimp only); rw [if_pos c_125, if_neg c_132], hP.sub [0, 1] rfl, hD.sub [0, 1] (by decide) rfl, hS, lv_sub hl [3, 4, 5, 6, 7, 2, 1, 0] rfl⟩
            · skip
              have c_132 : z116.1 = 0 := (lg_cmp_eq _ _).mp c_132
              refine lv_iconst (v := 1) hx hb d_M_make_135 (by decide) ?_
              refine lv_goto (tgt := 140) hx hb d_M_make_136 (by decide) ?_
              exact J140 (true) H locs ls ⟨by clear hP hD hl hS; (try dsimp only); rw [if_pos c_125, if_pos c_132], hP.sub [0, 1] rfl, hD.sub [0, 1] (by decide) rfl, hS, lv_sub hl [3, 4, 5, 6, 7, 2, 1, 0] rfl⟩
      · skip
        refine lv_aload_n hx hb d_M_make_47 rfl (lv_at hl 1 rfl) ?_
        refine lv_sipush (v := (-16381)) hx hb d_M_make_48 (by decide) ?_
        refine lv_iload hx hb d_M_make_51 (lv_at hl 5 rfl) ?_
        refine lv_isub hx hb d_M_make_53 ?_
        refine lv_iload_n hx hb d_M_make_54 rfl (lv_at hl 2 rfl) ?_
        have hPc := hP.sub (ws' := [(bM, .inr (3, [.int cd, .int wd, .ref bT, .ref bF, .int al, .ref bN, .ref bP, .ref bQ, .ref bR, .int sz1, .int un, .int (b2i mo), .int tl, .int (b2i sp), .int tpo, .long fro, .int (b2i ly)])), (bR, .inl (kR, 33000, .inl (fun k => b2i (rb k))))]) [1, 0] rfl
        have hDc := hD.sub (ws' := [(bM, .inr (3, [.int cd, .int wd, .ref bT, .ref bF, .int al, .ref bN, .ref bP, .ref bQ, .ref bR, .int sz1, .int un, .int (b2i mo), .int tl, .int (b2i sp), .int tpo, .long fro, .int (b2i ly)])), (bR, .inl (kR, 33000, .inl (fun k => b2i (rb k))))]) [1, 0] (by decide) rfl
        have hKc := hK.sub (tys' := [(kR, .boolean)]) [0] rfl
        have hFc := va_free (wc := [(bM, .inr (3, [.int cd, .int wd, .ref bT, .ref bF, .int al, .ref bN, .ref bP, .ref bQ, .ref bR, .int sz1, .int un, .int (b2i mo), .int tl, .int (b2i sp), .int tpo, .long fro, .int (b2i ly)])), (bR, .inl (kR, 33000, .inl (fun k => b2i (rb k))))]) hD hS hA [1, 0] rfl
        refine cc_l (va_runV (As := [.int ((-16381) - (g_M_digits wd)), .int (b2i bs)]) (rest := []) ⟨hx, hb, hml, hown, htA⟩ (c_M_times l dC dI kR bM bR bT bF bN bP bQ H.size cd wd al sz1 un mo tl sp tpo fro ly rb ((-16381) - (g_M_digits wd)) bs (by assumption)) (cwV 2 htA (gi_V k_298 k_299 k_300 k_263 (gi_code k_286)) rfl rfl rfl (by decide +kernel) ⟨Nat.le_of_ble_eq_true rfl, Nat.le_of_ble_eq_true rfl⟩) (pre_V hnw hPc hKc hDc (ci := 3) (q0 := 0) rfl rfl) rfl rfl hl.1 rfl (lv_room (Nat.le_of_ble_eq_true rfl)) d_M_make_55 ⟨Nat.le_of_ble_eq_true rfl, Nat.le_of_ble_eq_true rfl⟩) hS hFc hP hD [1, 0] [] (wr := []) rfl rfl (by decide) (by decide) (fun H locs hP hD hS => ?_)
        obtain ⟨z55, ez55⟩ : ∃ z, g_M_times wd sz1 un mo rb ((-16381) - (g_M_digits wd)) bs = z := ⟨_, rfl⟩
        rw [ez55] at hP hD ⊢
        have hP : va_P (dC, dI) classes [(bM, .inr (3, [.int cd, .int wd, .ref bT, .ref bF, .int al, .ref bN, .ref bP, .ref bQ, .ref bR, .int sz1, .int un, .int (b2i mo), .int tl, .int (b2i sp), .int tpo, .long fro, .int (b2i z55.2)])), (bR, .inl (kR, 33000, .inl (fun k => b2i (rb k))))] H := hP
        have hD : va_D A [(bM, .inr (3, [.int cd, .int wd, .ref bT, .ref bF, .int al, .ref bN, .ref bP, .ref bQ, .ref bR, .int sz1, .int un, .int (b2i mo), .int tl, .int (b2i sp), .int tpo, .long fro, .int (b2i z55.2)])), (bR, .inl (kR, 33000, .inl (fun k => b2i (rb k))))] := hD
        refine lv_lstore (lv' := [(6, .long z55.1), (5, .int (b2i j30_0)), (0, .ref bM), (1, .int (b2i bs)), (2, .int (g_M_highest sz1 rb)), (3, .int (un + (g_M_highest sz1 rb))), (4, .int (g_M_digits wd))]) hx hb d_M_make_58 hl (by decide) rfl (fun ls hl => ?_)
        refine lv_aload_n hx hb d_M_make_60 rfl (lv_at hl 2 rfl) ?_
        refine lv_aload_n hx hb d_M_make_61 rfl (lv_at hl 2 rfl) ?_
        refine va_get (D := (dC, dI)) (ci := 3) (v := .int (b2i z55.2)) (C := R_M) (T := F_M) (N := 17) hx hb htA in_M hown hK hP 0 rfl rfl 16 (by decide) (htA _ k_285) (fun _ h9 => h9) rfl d_M_make_62 ?_
        refine cut_join (X := Int32) 0 0 (fun (x : Int32) (H : Heap) (locs : List Loc) (ls : Array Slot) => (if z55.2 = true then ((tl + 16) + 32) else tl) = x ∧ va_P (dC, dI) classes [(bM, .inr (3, [.int cd, .int wd, .ref bT, .ref bF, .int al, .ref bN, .ref bP, .ref bQ, .ref bR, .int sz1, .int un, .int (b2i mo), .int tl, .int (b2i sp), .int tpo, .long fro, .int (b2i z55.2)])), (bR, .inl (kR, 33000, .inl (fun k => b2i (rb k))))] H ∧ va_D A [(bM, .inr (3, [.int cd, .int wd, .ref bT, .ref bF, .int al, .ref bN, .ref bP, .ref bQ, .ref bR, .int sz1, .int un, .int (b2i mo), .int tl, .int (b2i sp), .int tpo, .long fro, .int (b2i z55.2)])), (bR, .inl (kR, 33000, .inl (fun k => b2i (rb k))))] ∧ va_S A s.heap H locs ∧ lv_has ls 13 [(0, .ref bM), (1, .int (b2i bs)), (2, .int (g_M_highest sz1 rb)), (3, .int (un + (g_M_highest sz1 rb))), (4, .int (g_M_digits wd)), (5, .int (b2i j30_0)), (6, .long z55.1)]) (fun x ls => F0 m 85 ls [.int x, .ref bM]) ?_ (fun J85 => ?_)
        · skip
          rintro j85_0 H locs ls ⟨ej85_0, hP, hD, hS, hl⟩
          have ej85_0 : (if z55.2 = true then ((tl + 16) + 32) else tl) = j85_0 := ej85_0
          have hP : va_P (dC, dI) classes [(bM, .inr (3, [.int cd, .int wd, .ref bT, .ref bF, .int al, .ref bN, .ref bP, .ref bQ, .ref bR, .int sz1, .int un, .int (b2i mo), .int tl, .int (b2i sp), .int tpo, .long fro, .int (b2i z55.2)])), (bR, .inl (kR, 33000, .inl (fun k => b2i (rb k))))] H := hP
          have hD : va_D A [(bM, .inr (3, [.int cd, .int wd, .ref bT, .ref bF, .int al, .ref bN, .ref bP, .ref bQ, .ref bR, .int sz1, .int un, .int (b2i mo), .int tl, .int (b2i sp), .int tpo, .long fro, .int (b2i z55.2)])), (bR, .inl (kR, 33000, .inl (fun k => b2i (rb k))))] := hD
          have hl : lv_has ls 13 [(0, .ref bM), (1, .int (b2i bs)), (2, .int (g_M_highest sz1 rb)), (3, .int (un + (g_M_highest sz1 rb))), (4, .int (g_M_digits wd)), (5, .int (b2i j30_0)), (6, .long z55.1)] := hl
          refine va_put (D := (dC, dI)) (ci := 3) (v := .int j85_0) (ty := .int) (C := R_M) (T := F_M) (N := 17) hx hb htA in_M t_M t_M_ok n_M hown hK hP hD hS 0 rfl rfl 12 (by decide) (htA _ k_248) (fun _ h9 => h9) rfl (by decide +kernel) rfl rfl (Nat.le_of_ble_eq_true rfl) d_M_make_85 (fun H locs hP hD hS => ?_)
          have hP : va_P (dC, dI) classes [(bM, .inr (3, [.int cd, .int wd, .ref bT, .ref bF, .int al, .ref bN, .ref bP, .ref bQ, .ref bR, .int sz1, .int un, .int (b2i mo), .int j85_0, .int (b2i sp), .int tpo, .long fro, .int (b2i z55.2)])), (bR, .inl (kR, 33000, .inl (fun k => b2i (rb k))))] H := hP
          have hD : va_D A [(bM, .inr (3, [.int cd, .int wd, .ref bT, .ref bF, .int al, .ref bN, .ref bP, .ref bQ, .ref bR, .int sz1, .int un, .int (b2i mo), .int j85_0, .int (b2i sp), .int tpo, .long fro, .int (b2i z55.2)])), (bR, .inl (kR, 33000, .inl (fun k => b2i (rb k))))] := hD
          refine lv_aload_n hx hb d_M_make_88 rfl (lv_at hl 0 rfl) ?_
          refine lv_iload_n hx hb d_M_make_89 rfl (lv_at hl 1 rfl) ?_
          refine lv_lload hx hb d_M_make_90 (lv_at hl 6 rfl) ?_
          refine lv_iconst (v := 0) hx hb d_M_make_92 (by decide) ?_
          refine lv_sipush (v := (-16381)) hx hb d_M_make_93 (by decide) ?_
          refine lv_iload hx hb d_M_make_96 (lv_at hl 4 rfl) ?_
          refine lv_isub hx hb d_M_make_98 ?_
          refine lv_iconst (v := 0) hx hb d_M_make_99 (by decide) ?_
          have hPc := hP.sub (ws' := [(bM, .inr (3, [.int cd, .int wd, .ref bT, .ref bF, .int al, .ref bN, .ref bP, .ref bQ, .ref bR, .int sz1, .int un, .int (b2i mo), .int j85_0, .int (b2i sp), .int tpo, .long fro, .int (b2i z55.2)]))]) [0] rfl
          have hDc := hD.sub (ws' := [(bM, .inr (3, [.int cd, .int wd, .ref bT, .ref bF, .int al, .ref bN, .ref bP, .ref bQ, .ref bR, .int sz1, .int un, .int (b2i mo), .int j85_0, .int (b2i sp), .int tpo, .long fro, .int (b2i z55.2)]))]) [0] (by decide) rfl
          have hKc := hK.sub (tys' := []) [] rfl
          have hFc := va_free (wc := [(bM, .inr (3, [.int cd, .int wd, .ref bT, .ref bF, .int al, .ref bN, .ref bP, .ref bQ, .ref bR, .int sz1, .int un, .int (b2i mo), .int j85_0, .int (b2i sp), .int tpo, .long fro, .int (b2i z55.2)]))]) hD hS hA [0] rfl
          refine cc_v (va_runV (As := [.int (b2i bs), .long z55.1, .int (b2i false), .int ((-16381) - (g_M_digits wd)), .int 0]) (rest := []) ⟨hx, hb, hml, hown, htA⟩ (c_M_put l dC dI bM bT bF bN bP bQ bR H.size cd wd al sz1 un mo j85_0 sp tpo fro z55.2 bs z55.1 false ((-16381) - (g_M_digits wd)) 0) (cwV 5 htA (gi_V k_302 k_303 k_304 k_263 (gi_code k_291)) rfl rfl rfl (by decide +kernel) ⟨Nat.le_of_ble_eq_true rfl, Nat.le_of_ble_eq_true rfl⟩) (pre_V hnw hPc hKc hDc (ci := 3) (q0 := 0) rfl rfl) rfl rfl hl.1 rfl (lv_room (Nat.le_of_ble_eq_true rfl)) d_M_make_100 ⟨Nat.le_of_ble_eq_true rfl, Nat.le_of_ble_eq_true rfl⟩) hS hFc hP hD [0] [1] (wr := [(bR, .inl (kR, 33000, .inl (fun k => b2i (rb k))))]) rfl rfl (by decide) (by decide) (fun H locs hP hD hS => ?_)
          obtain ⟨z100, ez100⟩ : ∃ z, g_M_put bs z55.1 false ((-16381) - (g_M_digits wd)) 0 = z := ⟨_, rfl⟩
          rw [ez100] at hP hD
          have hP : va_P (dC, dI) classes [(bR, .inl (kR, 33000, .inl (fun k => b2i (rb k)))), (bM, .inr (3, [.int cd, .int wd, .ref bT, .ref bF, .int al, .ref bN, .ref bP, .ref bQ, .ref bR, .int sz1, .int un, .int (b2i mo), .int j85_0, .int (b2i sp), .int z100.1, .long z100.2, .int (b2i z55.2)]))] H := hP
          have hD : va_D A [(bR, .inl (kR, 33000, .inl (fun k => b2i (rb k)))), (bM, .inr (3, [.int cd, .int wd, .ref bT, .ref bF, .int al, .ref bN, .ref bP, .ref bQ, .ref bR, .int sz1, .int un, .int (b2i mo), .int j85_0, .int (b2i sp), .int z100.1, .long z100.2, .int (b2i z55.2)]))] := hD
          have hE : g_M_make wd sz1 un mo tl rb bs = (j85_0, z100.1, z100.2, z55.2) := by clear hP hD hl hS; subst ez100; subst ej85_0; subst ez55; subst ej30_0; unfold g_M_make; (try dsimp only); rw [if_pos c_34, if_neg c_44]
          have hP9 : va_P (dC, dI) classes [(bM, .inr (3, [.int cd, .int wd, .ref bT, .ref bF, .int al, .ref bN, .ref bP, .ref bQ, .ref bR, .int sz1, .int un, .int (b2i mo), .int ((g_M_make wd sz1 un mo tl rb bs).1), .int (b2i sp), .int ((g_M_make wd sz1 un mo tl rb bs).2.1), .long ((g_M_make wd sz1 un mo tl rb bs).2.2.1), .int (b2i ((g_M_make wd sz1 un mo tl rb bs).2.2.2))])), (bR, .inl (kR, 33000, .inl (fun k => b2i (rb k))))] H := by rw [hE]; exact hP.sub [1, 0] rfl
          have hD9 : va_D A [(bM, .inr (3, [.int cd, .int wd, .ref bT, .ref bF, .int al, .ref bN, .ref bP, .ref bQ, .ref bR, .int sz1, .int un, .int (b2i mo), .int ((g_M_make wd sz1 un mo tl rb bs).1), .int (b2i sp), .int ((g_M_make wd sz1 un mo tl rb bs).2.1), .long ((g_M_make wd sz1 un mo tl rb bs).2.2.1), .int (b2i ((g_M_make wd sz1 un mo tl rb bs).2.2.2))])), (bR, .inl (kR, 33000, .inl (fun k => b2i (rb k))))] := by rw [hE]; exact hD.sub [1, 0] (by decide) rfl
          exact W.vret hx hb hr (fun t ht hW => ⟨⟨(), rfl, trivial, by rw [ht]; exact hP9, hD9⟩, hS.F ht⟩) hS.2.2 d_M_make_103
        · skip
          refine lv_if_eq (tgt := 81) hx hb d_M_make_65 (by decide) (fun c_65 => ?_) (fun c_65 => ?_)
          · skip
            have c_65 : ¬ z55.2 = true := b2i_z c_65
            refine lv_aload_n hx hb d_M_make_81 rfl (lv_at hl 2 rfl) ?_
            refine va_get (D := (dC, dI)) (ci := 3) (v := .int tl) (C := R_M) (T := F_M) (N := 17) hx hb htA in_M hown hK hP 0 rfl rfl 12 (by decide) (htA _ k_248) (fun _ h9 => h9) rfl d_M_make_82 ?_
            exact J85 (tl) H locs ls ⟨by clear hP hD hl hS; (try dsimp only); rw [if_neg c_65], hP.sub [0, 1] rfl, hD.sub [0, 1] (by decide) rfl, hS, lv_sub hl [2, 3, 4, 5, 6, 1, 0] rfl⟩
          · skip
            have c_65 : z55.2 = true := b2i_nz c_65
            refine lv_aload_n hx hb d_M_make_68 rfl (lv_at hl 2 rfl) ?_
            refine va_get (D := (dC, dI)) (ci := 3) (v := .int tl) (C := R_M) (T := F_M) (N := 17) hx hb htA in_M hown hK hP 0 rfl rfl 12 (by decide) (htA _ k_248) (fun _ h9 => h9) rfl d_M_make_69 ?_
            refine lv_bipush (v := 16) hx hb d_M_make_72 (by decide) ?_
            refine lv_iadd hx hb d_M_make_74 ?_
            refine lv_bipush (v := 32) hx hb d_M_make_75 (by decide) ?_
            refine lv_iadd hx hb d_M_make_77 ?_
            refine lv_goto (tgt := 85) hx hb d_M_make_78 (by decide) ?_
            exact J85 (((tl + 16) + 32)) H locs ls ⟨by clear hP hD hl hS; (try dsimp only); rw [if_pos c_65], hP.sub [0, 1] rfl, hD.sub [0, 1] (by decide) rfl, hS, lv_sub hl [2, 3, 4, 5, 6, 1, 0] rfl⟩
  · skip
    refine lv_icmp_ge (tgt := 29) hx hb d_M_make_22 (by decide) (fun c_22 => ?_) (fun c_22 => ?_)
    · skip
      refine lv_iconst (v := 0) hx hb d_M_make_29 (by decide) ?_
      exact J30 (false) H locs ls ⟨by clear hP hD hl hS; (try dsimp only); rw [if_pos c_22], hP.sub [0, 1] rfl, hD.sub [0, 1] (by decide) rfl, hS, lv_sub hl [3, 4, 2, 1, 0] rfl⟩
    · skip
      refine lv_iconst (v := 1) hx hb d_M_make_25 (by decide) ?_
      refine lv_goto (tgt := 30) hx hb d_M_make_26 (by decide) ?_
      exact J30 (true) H locs ls ⟨by clear hP hD hl hS; (try dsimp only); rw [if_neg c_22], hP.sub [0, 1] rfl, hD.sub [0, 1] (by decide) rfl, hS, lv_sub hl [3, 4, 2, 1, 0] rfl⟩
