theorem d_M_root_0 : decode b_M_root 0 = .ok (.aload_n 0, 1) := by decide +kernel
theorem d_M_root_1 : decode b_M_root 1 = .ok (.iconst 0, 1) := by decide +kernel
theorem d_M_root_2 : decode b_M_root 2 = .ok (.invokevirtual 126, 3) := by decide +kernel
theorem d_M_root_5 : decode b_M_root 5 = .ok (.ifCond .eq 16, 3) := by decide +kernel
theorem d_M_root_21 : decode b_M_root 21 = .ok (.aload_n 0, 1) := by decide +kernel
theorem d_M_root_22 : decode b_M_root 22 = .ok (.iconst 0, 1) := by decide +kernel
theorem d_M_root_23 : decode b_M_root 23 = .ok (.invokevirtual 106, 3) := by decide +kernel
theorem d_M_root_26 : decode b_M_root 26 = .ok (.istore_n 1, 1) := by decide +kernel
theorem d_M_root_27 : decode b_M_root 27 = .ok (.iload_n 1, 1) := by decide +kernel
theorem d_M_root_28 : decode b_M_root 28 = .ok (.iconst 2, 1) := by decide +kernel
theorem d_M_root_29 : decode b_M_root 29 = .ok (.irem, 1) := by decide +kernel
theorem d_M_root_30 : decode b_M_root 30 = .ok (.ifCond .eq 7, 3) := by decide +kernel
theorem d_M_root_37 : decode b_M_root 37 = .ok (.iconst 0, 1) := by decide +kernel
theorem d_M_root_33 : decode b_M_root 33 = .ok (.iconst 1, 1) := by decide +kernel
theorem d_M_root_34 : decode b_M_root 34 = .ok (.goto 4, 3) := by decide +kernel
theorem d_M_root_38 : decode b_M_root 38 = .ok (.istore_n 2, 1) := by decide +kernel
theorem d_M_root_39 : decode b_M_root 39 = .ok (.iload_n 2, 1) := by decide +kernel
theorem d_M_root_40 : decode b_M_root 40 = .ok (.ifCond .eq 9, 3) := by decide +kernel
theorem d_M_root_49 : decode b_M_root 49 = .ok (.iload_n 1, 1) := by decide +kernel
theorem d_M_root_43 : decode b_M_root 43 = .ok (.iload_n 1, 1) := by decide +kernel
theorem d_M_root_44 : decode b_M_root 44 = .ok (.iconst 1, 1) := by decide +kernel
theorem d_M_root_45 : decode b_M_root 45 = .ok (.isub, 1) := by decide +kernel
theorem d_M_root_46 : decode b_M_root 46 = .ok (.goto 4, 3) := by decide +kernel
theorem d_M_root_50 : decode b_M_root 50 = .ok (.iconst 2, 1) := by decide +kernel
theorem d_M_root_51 : decode b_M_root 51 = .ok (.idiv, 1) := by decide +kernel
theorem d_M_root_52 : decode b_M_root 52 = .ok (.istore_n 3, 1) := by decide +kernel
theorem d_M_root_53 : decode b_M_root 53 = .ok (.aload_n 0, 1) := by decide +kernel
theorem d_M_root_54 : decode b_M_root 54 = .ok (.bipush 104, 2) := by decide +kernel
theorem d_M_root_56 : decode b_M_root 56 = .ok (.iload_n 3, 1) := by decide +kernel
theorem d_M_root_57 : decode b_M_root 57 = .ok (.bipush 70, 2) := by decide +kernel
theorem d_M_root_59 : decode b_M_root 59 = .ok (.isub, 1) := by decide +kernel
theorem d_M_root_60 : decode b_M_root 60 = .ok (.invokevirtual 114, 3) := by decide +kernel
theorem d_M_root_63 : decode b_M_root 63 = .ok (.lconst 0, 1) := by decide +kernel
theorem d_M_root_64 : decode b_M_root 64 = .ok (.lstore 4, 2) := by decide +kernel
theorem d_M_root_66 : decode b_M_root 66 = .ok (.lconst 0, 1) := by decide +kernel
theorem d_M_root_67 : decode b_M_root 67 = .ok (.lstore 6, 2) := by decide +kernel
theorem d_M_root_69 : decode b_M_root 69 = .ok (.lconst 0, 1) := by decide +kernel
theorem d_M_root_70 : decode b_M_root 70 = .ok (.lstore 8, 2) := by decide +kernel
theorem d_M_root_72 : decode b_M_root 72 = .ok (.lconst 0, 1) := by decide +kernel
theorem d_M_root_73 : decode b_M_root 73 = .ok (.lstore 10, 2) := by decide +kernel
theorem d_M_root_75 : decode b_M_root 75 = .ok (.bipush 103, 2) := by decide +kernel
theorem d_M_root_77 : decode b_M_root 77 = .ok (.istore 12, 2) := by decide +kernel
theorem d_M_root_79 : decode b_M_root 79 = .ok (.iload 12, 2) := by decide +kernel
theorem d_M_root_81 : decode b_M_root 81 = .ok (.ifCond .lt 242, 3) := by decide +kernel
theorem d_M_root_84 : decode b_M_root 84 = .ok (.iconst 0, 1) := by decide +kernel
theorem d_M_root_85 : decode b_M_root 85 = .ok (.istore 13, 2) := by decide +kernel
theorem d_M_root_87 : decode b_M_root 87 = .ok (.iconst 1, 1) := by decide +kernel
theorem d_M_root_88 : decode b_M_root 88 = .ok (.istore 14, 2) := by decide +kernel
theorem d_M_root_90 : decode b_M_root 90 = .ok (.iload 14, 2) := by decide +kernel
theorem d_M_root_92 : decode b_M_root 92 = .ok (.ifCond .lt 67, 3) := by decide +kernel
theorem d_M_root_95 : decode b_M_root 95 = .ok (.iconst 2, 1) := by decide +kernel
theorem d_M_root_96 : decode b_M_root 96 = .ok (.iload 12, 2) := by decide +kernel
theorem d_M_root_98 : decode b_M_root 98 = .ok (.imul, 1) := by decide +kernel
theorem d_M_root_99 : decode b_M_root 99 = .ok (.iload 14, 2) := by decide +kernel
theorem d_M_root_101 : decode b_M_root 101 = .ok (.iadd, 1) := by decide +kernel
theorem d_M_root_102 : decode b_M_root 102 = .ok (.sipush 140, 3) := by decide +kernel
theorem d_M_root_105 : decode b_M_root 105 = .ok (.isub, 1) := by decide +kernel
theorem d_M_root_106 : decode b_M_root 106 = .ok (.iload_n 2, 1) := by decide +kernel
theorem d_M_root_107 : decode b_M_root 107 = .ok (.ifCond .eq 7, 3) := by decide +kernel
theorem d_M_root_114 : decode b_M_root 114 = .ok (.iconst 0, 1) := by decide +kernel
theorem d_M_root_110 : decode b_M_root 110 = .ok (.iconst 1, 1) := by decide +kernel
theorem d_M_root_111 : decode b_M_root 111 = .ok (.goto 4, 3) := by decide +kernel
theorem d_M_root_115 : decode b_M_root 115 = .ok (.isub, 1) := by decide +kernel
theorem d_M_root_116 : decode b_M_root 116 = .ok (.istore 15, 2) := by decide +kernel
theorem d_M_root_118 : decode b_M_root 118 = .ok (.iconst 2, 1) := by decide +kernel
theorem d_M_root_119 : decode b_M_root 119 = .ok (.iload 13, 2) := by decide +kernel
theorem d_M_root_121 : decode b_M_root 121 = .ok (.imul, 1) := by decide +kernel
theorem d_M_root_122 : decode b_M_root 122 = .ok (.iload 15, 2) := by decide +kernel
theorem d_M_root_124 : decode b_M_root 124 = .ok (.ifCond .lt 25, 3) := by decide +kernel
theorem d_M_root_149 : decode b_M_root 149 = .ok (.iconst 0, 1) := by decide +kernel
theorem d_M_root_127 : decode b_M_root 127 = .ok (.iload 15, 2) := by decide +kernel
theorem d_M_root_129 : decode b_M_root 129 = .ok (.bipush 64, 2) := by decide +kernel
theorem d_M_root_131 : decode b_M_root 131 = .ok (.if_icmp .ge 18, 3) := by decide +kernel
theorem d_M_root_134 : decode b_M_root 134 = .ok (.aload_n 0, 1) := by decide +kernel
theorem d_M_root_135 : decode b_M_root 135 = .ok (.getfield 28, 3) := by decide +kernel
theorem d_M_root_138 : decode b_M_root 138 = .ok (.iconst 0, 1) := by decide +kernel
theorem d_M_root_139 : decode b_M_root 139 = .ok (.laload, 1) := by decide +kernel
theorem d_M_root_140 : decode b_M_root 140 = .ok (.iload 15, 2) := by decide +kernel
theorem d_M_root_142 : decode b_M_root 142 = .ok (.lshr, 1) := by decide +kernel
theorem d_M_root_143 : decode b_M_root 143 = .ok (.lconst 1, 1) := by decide +kernel
theorem d_M_root_144 : decode b_M_root 144 = .ok (.land, 1) := by decide +kernel
theorem d_M_root_145 : decode b_M_root 145 = .ok (.l2i, 1) := by decide +kernel
theorem d_M_root_146 : decode b_M_root 146 = .ok (.goto 4, 3) := by decide +kernel
theorem d_M_root_150 : decode b_M_root 150 = .ok (.iadd, 1) := by decide +kernel
theorem d_M_root_151 : decode b_M_root 151 = .ok (.istore 13, 2) := by decide +kernel
theorem d_M_root_153 : decode b_M_root 153 = .ok (.iinc 14 (-1), 3) := by decide +kernel
theorem d_M_root_156 : decode b_M_root 156 = .ok (.goto (-66), 3) := by decide +kernel
theorem d_M_root_159 : decode b_M_root 159 = .ok (.lload 4, 2) := by decide +kernel
theorem d_M_root_161 : decode b_M_root 161 = .ok (.iconst 2, 1) := by decide +kernel
theorem d_M_root_162 : decode b_M_root 162 = .ok (.lshl, 1) := by decide +kernel
theorem d_M_root_163 : decode b_M_root 163 = .ok (.lload 6, 2) := by decide +kernel
theorem d_M_root_165 : decode b_M_root 165 = .ok (.bipush 62, 2) := by decide +kernel
theorem d_M_root_167 : decode b_M_root 167 = .ok (.lushr, 1) := by decide +kernel
theorem d_M_root_168 : decode b_M_root 168 = .ok (.lor, 1) := by decide +kernel
theorem d_M_root_169 : decode b_M_root 169 = .ok (.lstore 4, 2) := by decide +kernel
theorem d_M_root_171 : decode b_M_root 171 = .ok (.lload 6, 2) := by decide +kernel
theorem d_M_root_173 : decode b_M_root 173 = .ok (.iconst 2, 1) := by decide +kernel
theorem d_M_root_174 : decode b_M_root 174 = .ok (.lshl, 1) := by decide +kernel
theorem d_M_root_175 : decode b_M_root 175 = .ok (.iload 13, 2) := by decide +kernel
theorem d_M_root_177 : decode b_M_root 177 = .ok (.i2l, 1) := by decide +kernel
theorem d_M_root_178 : decode b_M_root 178 = .ok (.lor, 1) := by decide +kernel
theorem d_M_root_179 : decode b_M_root 179 = .ok (.lstore 6, 2) := by decide +kernel
theorem d_M_root_181 : decode b_M_root 181 = .ok (.lload 8, 2) := by decide +kernel
theorem d_M_root_183 : decode b_M_root 183 = .ok (.iconst 2, 1) := by decide +kernel
theorem d_M_root_184 : decode b_M_root 184 = .ok (.lshl, 1) := by decide +kernel
theorem d_M_root_185 : decode b_M_root 185 = .ok (.lload 10, 2) := by decide +kernel
theorem d_M_root_187 : decode b_M_root 187 = .ok (.bipush 62, 2) := by decide +kernel
theorem d_M_root_189 : decode b_M_root 189 = .ok (.lushr, 1) := by decide +kernel
theorem d_M_root_190 : decode b_M_root 190 = .ok (.lor, 1) := by decide +kernel
theorem d_M_root_191 : decode b_M_root 191 = .ok (.lstore 14, 2) := by decide +kernel
theorem d_M_root_193 : decode b_M_root 193 = .ok (.lload 10, 2) := by decide +kernel
theorem d_M_root_195 : decode b_M_root 195 = .ok (.iconst 2, 1) := by decide +kernel
theorem d_M_root_196 : decode b_M_root 196 = .ok (.lshl, 1) := by decide +kernel
theorem d_M_root_197 : decode b_M_root 197 = .ok (.lconst 1, 1) := by decide +kernel
theorem d_M_root_198 : decode b_M_root 198 = .ok (.lor, 1) := by decide +kernel
theorem d_M_root_199 : decode b_M_root 199 = .ok (.lstore 16, 2) := by decide +kernel
theorem d_M_root_201 : decode b_M_root 201 = .ok (.lload 4, 2) := by decide +kernel
theorem d_M_root_203 : decode b_M_root 203 = .ok (.lload 14, 2) := by decide +kernel
theorem d_M_root_205 : decode b_M_root 205 = .ok (.lcmp, 1) := by decide +kernel
theorem d_M_root_206 : decode b_M_root 206 = .ok (.ifCond .eq 21, 3) := by decide +kernel
theorem d_M_root_227 : decode b_M_root 227 = .ok (.lload 6, 2) := by decide +kernel
theorem d_M_root_229 : decode b_M_root 229 = .ok (.lload 16, 2) := by decide +kernel
theorem d_M_root_231 : decode b_M_root 231 = .ok (.invokestatic 129, 3) := by decide +kernel
theorem d_M_root_234 : decode b_M_root 234 = .ok (.ifCond .ne 7, 3) := by decide +kernel
theorem d_M_root_241 : decode b_M_root 241 = .ok (.iconst 0, 1) := by decide +kernel
theorem d_M_root_237 : decode b_M_root 237 = .ok (.iconst 1, 1) := by decide +kernel
theorem d_M_root_238 : decode b_M_root 238 = .ok (.goto 4, 3) := by decide +kernel
theorem d_M_root_209 : decode b_M_root 209 = .ok (.lload 4, 2) := by decide +kernel
theorem d_M_root_211 : decode b_M_root 211 = .ok (.lload 14, 2) := by decide +kernel
theorem d_M_root_213 : decode b_M_root 213 = .ok (.invokestatic 129, 3) := by decide +kernel
theorem d_M_root_216 : decode b_M_root 216 = .ok (.ifCond .ne 7, 3) := by decide +kernel
theorem d_M_root_223 : decode b_M_root 223 = .ok (.iconst 0, 1) := by decide +kernel
theorem d_M_root_224 : decode b_M_root 224 = .ok (.goto 18, 3) := by decide +kernel
theorem d_M_root_219 : decode b_M_root 219 = .ok (.iconst 1, 1) := by decide +kernel
theorem d_M_root_220 : decode b_M_root 220 = .ok (.goto 22, 3) := by decide +kernel
theorem d_M_root_242 : decode b_M_root 242 = .ok (.istore 18, 2) := by decide +kernel
theorem d_M_root_244 : decode b_M_root 244 = .ok (.iload 18, 2) := by decide +kernel
theorem d_M_root_246 : decode b_M_root 246 = .ok (.ifCond .eq 33, 3) := by decide +kernel
theorem d_M_root_249 : decode b_M_root 249 = .ok (.lload 4, 2) := by decide +kernel
theorem d_M_root_251 : decode b_M_root 251 = .ok (.lload 14, 2) := by decide +kernel
theorem d_M_root_253 : decode b_M_root 253 = .ok (.lsub, 1) := by decide +kernel
theorem d_M_root_254 : decode b_M_root 254 = .ok (.lload 6, 2) := by decide +kernel
theorem d_M_root_256 : decode b_M_root 256 = .ok (.lload 16, 2) := by decide +kernel
theorem d_M_root_258 : decode b_M_root 258 = .ok (.invokestatic 129, 3) := by decide +kernel
theorem d_M_root_261 : decode b_M_root 261 = .ok (.ifCond .eq 7, 3) := by decide +kernel
theorem d_M_root_268 : decode b_M_root 268 = .ok (.lconst 0, 1) := by decide +kernel
theorem d_M_root_264 : decode b_M_root 264 = .ok (.lconst 1, 1) := by decide +kernel
theorem d_M_root_265 : decode b_M_root 265 = .ok (.goto 4, 3) := by decide +kernel
theorem d_M_root_269 : decode b_M_root 269 = .ok (.lsub, 1) := by decide +kernel
theorem d_M_root_270 : decode b_M_root 270 = .ok (.lstore 4, 2) := by decide +kernel
theorem d_M_root_272 : decode b_M_root 272 = .ok (.lload 6, 2) := by decide +kernel
theorem d_M_root_274 : decode b_M_root 274 = .ok (.lload 16, 2) := by decide +kernel
theorem d_M_root_276 : decode b_M_root 276 = .ok (.lsub, 1) := by decide +kernel
theorem d_M_root_277 : decode b_M_root 277 = .ok (.lstore 6, 2) := by decide +kernel
theorem d_M_root_279 : decode b_M_root 279 = .ok (.lload 8, 2) := by decide +kernel
theorem d_M_root_281 : decode b_M_root 281 = .ok (.iconst 1, 1) := by decide +kernel
theorem d_M_root_282 : decode b_M_root 282 = .ok (.lshl, 1) := by decide +kernel
theorem d_M_root_283 : decode b_M_root 283 = .ok (.lload 10, 2) := by decide +kernel
theorem d_M_root_285 : decode b_M_root 285 = .ok (.bipush 63, 2) := by decide +kernel
theorem d_M_root_287 : decode b_M_root 287 = .ok (.lushr, 1) := by decide +kernel
theorem d_M_root_288 : decode b_M_root 288 = .ok (.lor, 1) := by decide +kernel
theorem d_M_root_289 : decode b_M_root 289 = .ok (.lstore 8, 2) := by decide +kernel
theorem d_M_root_291 : decode b_M_root 291 = .ok (.lload 10, 2) := by decide +kernel
theorem d_M_root_293 : decode b_M_root 293 = .ok (.iconst 1, 1) := by decide +kernel
theorem d_M_root_294 : decode b_M_root 294 = .ok (.lshl, 1) := by decide +kernel
theorem d_M_root_295 : decode b_M_root 295 = .ok (.iload 18, 2) := by decide +kernel
theorem d_M_root_297 : decode b_M_root 297 = .ok (.ifCond .eq 7, 3) := by decide +kernel
theorem d_M_root_304 : decode b_M_root 304 = .ok (.lconst 0, 1) := by decide +kernel
theorem d_M_root_300 : decode b_M_root 300 = .ok (.lconst 1, 1) := by decide +kernel
theorem d_M_root_301 : decode b_M_root 301 = .ok (.goto 4, 3) := by decide +kernel
theorem d_M_root_305 : decode b_M_root 305 = .ok (.lor, 1) := by decide +kernel
theorem d_M_root_306 : decode b_M_root 306 = .ok (.lstore 10, 2) := by decide +kernel
theorem d_M_root_308 : decode b_M_root 308 = .ok (.aload_n 0, 1) := by decide +kernel
theorem d_M_root_309 : decode b_M_root 309 = .ok (.getfield 32, 3) := by decide +kernel
theorem d_M_root_312 : decode b_M_root 312 = .ok (.iload 12, 2) := by decide +kernel
theorem d_M_root_314 : decode b_M_root 314 = .ok (.iload 18, 2) := by decide +kernel
theorem d_M_root_316 : decode b_M_root 316 = .ok (.bastore, 1) := by decide +kernel
theorem d_M_root_317 : decode b_M_root 317 = .ok (.iinc 12 (-1), 3) := by decide +kernel
theorem d_M_root_320 : decode b_M_root 320 = .ok (.goto (-241), 3) := by decide +kernel
theorem d_M_root_323 : decode b_M_root 323 = .ok (.aload_n 0, 1) := by decide +kernel
theorem d_M_root_324 : decode b_M_root 324 = .ok (.lload 4, 2) := by decide +kernel
theorem d_M_root_326 : decode b_M_root 326 = .ok (.lload 6, 2) := by decide +kernel
theorem d_M_root_328 : decode b_M_root 328 = .ok (.lor, 1) := by decide +kernel
theorem d_M_root_329 : decode b_M_root 329 = .ok (.lconst 0, 1) := by decide +kernel
theorem d_M_root_330 : decode b_M_root 330 = .ok (.lcmp, 1) := by decide +kernel
theorem d_M_root_331 : decode b_M_root 331 = .ok (.ifCond .eq 7, 3) := by decide +kernel
theorem d_M_root_338 : decode b_M_root 338 = .ok (.iconst 0, 1) := by decide +kernel
theorem d_M_root_334 : decode b_M_root 334 = .ok (.iconst 1, 1) := by decide +kernel
theorem d_M_root_335 : decode b_M_root 335 = .ok (.goto 4, 3) := by decide +kernel
theorem d_M_root_339 : decode b_M_root 339 = .ok (.putfield 66, 3) := by decide +kernel
theorem d_M_root_342 : decode b_M_root 342 = .ok (.aload_n 0, 1) := by decide +kernel
theorem d_M_root_343 : decode b_M_root 343 = .ok (.iconst 0, 1) := by decide +kernel
theorem d_M_root_344 : decode b_M_root 344 = .ok (.invokevirtual 122, 3) := by decide +kernel
theorem d_M_root_347 : decode b_M_root 347 = .ok (.return_, 1) := by decide +kernel
theorem d_M_root_8 : decode b_M_root 8 = .ok (.aload_n 0, 1) := by decide +kernel
theorem d_M_root_9 : decode b_M_root 9 = .ok (.aload_n 0, 1) := by decide +kernel
theorem d_M_root_10 : decode b_M_root 10 = .ok (.getfield 21, 3) := by decide +kernel
theorem d_M_root_13 : decode b_M_root 13 = .ok (.iconst 0, 1) := by decide +kernel
theorem d_M_root_14 : decode b_M_root 14 = .ok (.baload, 1) := by decide +kernel
theorem d_M_root_15 : decode b_M_root 15 = .ok (.iconst 0, 1) := by decide +kernel
theorem d_M_root_16 : decode b_M_root 16 = .ok (.lconst 0, 1) := by decide +kernel
theorem d_M_root_17 : decode b_M_root 17 = .ok (.invokevirtual 83, 3) := by decide +kernel
theorem d_M_root_20 : decode b_M_root 20 = .ok (.return_, 1) := by decide +kernel
set_option maxHeartbeats 4000000 in
set_option maxRecDepth 100000 in
theorem c_M_root (l : Launch) (dC : Nat → ClassId) (dI : Nat → Nat → Nat) (kN : ClassId) (kP : ClassId) (kQ : ClassId) (kR : ClassId) (bM : Nat) (bN : Nat) (bP : Nat) (bQ : Nat) (bR : Nat) (bT : Nat) (bF : Nat) (sz : Nat) (cd : Int32) (wd : Int32) (al : Int32) (sz1 : Int32) (un : Int32) (mo : Bool) (tl : Int32) (sp : Bool) (tpo : Int32) (fro : Int64) (ly : Bool) (mi : Nat → Bool) (pw : Nat → Int32) (pt : Nat → Int64) (rb : Nat → Bool) : Met l y_M_root w_M_root ({ frames := 3, cells := 0, slots := 0, locals := 86 }) (cPc (dC, dI) [(kN, .boolean), (kP, .int), (kQ, .long), (kR, .boolean)] [.ref bM] [(bM, .inr (3, [.int cd, .int wd, .ref bT, .ref bF, .int al, .ref bN, .ref bP, .ref bQ, .ref bR, .int sz1, .int un, .int (b2i mo), .int tl, .int (b2i sp), .int tpo, .long fro, .int (b2i ly)])), (bN, .inl (kN, 2, .inl (fun k => b2i (mi k)))), (bP, .inl (kP, 2, .inl pw)), (bQ, .inl (kQ, 2, .inr (.inl pt))), (bR, .inl (kR, 33000, .inl (fun k => b2i (rb k))))] sz) (va_Qv (fun (_ : Unit) => True) (fun _ t => va_P (dC, dI) classes [(bM, .inr (3, [.int cd, .int wd, .ref bT, .ref bF, .int al, .ref bN, .ref bP, .ref bQ, .ref bR, .int ((g_M_root wd sz1 un mo tl ly mi pw pt rb).1), .int ((g_M_root wd sz1 un mo tl ly mi pw pt rb).2.1), .int (b2i ((g_M_root wd sz1 un mo tl ly mi pw pt rb).2.2.1)), .int ((g_M_root wd sz1 un mo tl ly mi pw pt rb).2.2.2.1), .int (b2i sp), .int ((g_M_root wd sz1 un mo tl ly mi pw pt rb).2.2.2.2.1), .long ((g_M_root wd sz1 un mo tl ly mi pw pt rb).2.2.2.2.2.1), .int (b2i ((g_M_root wd sz1 un mo tl ly mi pw pt rb).2.2.2.2.2.2.1))])), (bN, .inl (kN, 2, .inl (fun k => b2i (mi k)))), (bP, .inl (kP, 2, .inl pw)), (bQ, .inl (kQ, 2, .inr (.inl pt))), (bR, .inl (kR, 33000, .inl (fun k => b2i (((g_M_root wd sz1 un mo tl ly mi pw pt rb).2.2.2.2.2.2.2) k))))] t.heap ∧ va_D (va_A [(bM, .inr (3, [.int cd, .int wd, .ref bT, .ref bF, .int al, .ref bN, .ref bP, .ref bQ, .ref bR, .int sz1, .int un, .int (b2i mo), .int tl, .int (b2i sp), .int tpo, .long fro, .int (b2i ly)])), (bN, .inl (kN, 2, .inl (fun k => b2i (mi k)))), (bP, .inl (kP, 2, .inl pw)), (bQ, .inl (kQ, 2, .inr (.inl pt))), (bR, .inl (kR, 33000, .inl (fun k => b2i (rb k))))] sz) [(bM, .inr (3, [.int cd, .int wd, .ref bT, .ref bF, .int al, .ref bN, .ref bP, .ref bQ, .ref bR, .int ((g_M_root wd sz1 un mo tl ly mi pw pt rb).1), .int ((g_M_root wd sz1 un mo tl ly mi pw pt rb).2.1), .int (b2i ((g_M_root wd sz1 un mo tl ly mi pw pt rb).2.2.1)), .int ((g_M_root wd sz1 un mo tl ly mi pw pt rb).2.2.2.1), .int (b2i sp), .int ((g_M_root wd sz1 un mo tl ly mi pw pt rb).2.2.2.2.1), .long ((g_M_root wd sz1 un mo tl ly mi pw pt rb).2.2.2.2.2.1), .int (b2i ((g_M_root wd sz1 un mo tl ly mi pw pt rb).2.2.2.2.2.2.1))])), (bN, .inl (kN, 2, .inl (fun k => b2i (mi k)))), (bP, .inl (kP, 2, .inl pw)), (bQ, .inl (kQ, 2, .inr (.inl pt))), (bR, .inl (kR, 33000, .inl (fun k => b2i (((g_M_root wd sz1 un mo tl ly mi pw pt rb).2.2.2.2.2.2.2) k))))]) (va_A [(bM, .inr (3, [.int cd, .int wd, .ref bT, .ref bF, .int al, .ref bN, .ref bP, .ref bQ, .ref bR, .int sz1, .int un, .int (b2i mo), .int tl, .int (b2i sp), .int tpo, .long fro, .int (b2i ly)])), (bN, .inl (kN, 2, .inl (fun k => b2i (mi k)))), (bP, .inl (kP, 2, .inl pw)), (bQ, .inl (kQ, 2, .inr (.inl pt))), (bR, .inl (kR, 33000, .inl (fun k => b2i (rb k))))] sz)) 0 0 (va_A [(bM, .inr (3, [.int cd, .int wd, .ref bT, .ref bF, .int al, .ref bN, .ref bP, .ref bQ, .ref bR, .int sz1, .int un, .int (b2i mo), .int tl, .int (b2i sp), .int tpo, .long fro, .int (b2i ly)])), (bN, .inl (kN, 2, .inl (fun k => b2i (mi k)))), (bP, .inl (kP, 2, .inl pw)), (bQ, .inl (kQ, 2, .inr (.inl pt))), (bR, .inl (kR, 33000, .inl (fun k => b2i (rb k))))] sz) := by
  refine Met.ofW (cc := b_M_root) (maxL := 19) (ret := none) (by decide) rfl ?_
  intro p e s m args below meth c s₁ B hml hv
  obtain ⟨rfl, hsz, hP, hK, hD0, hnw⟩ := hv
  have hx := B.exec
  have hb := B.bytes
  have hr := B.returns
  have hts := atoms_spec (ws := w_M_root) B.pre
  have htA : ∀ w ∈ wAll, w.before _ s = true := fun w h => hts w (List.mem_cons_of_mem _ h)
  have hown : s.vm.findClass R_M = some m.cls := findClass_of_methodNamed B.named
  have hlocks := B.notSynchronized
  subst hsz
  have hD := hD0.self (sz := s.heap.size)
  generalize hAe : va_A [(bM, .inr (3, [.int cd, .int wd, .ref bT, .ref bF, .int al, .ref bN, .ref bP, .ref bQ, .ref bR, .int sz1, .int un, .int (b2i mo), .int tl, .int (b2i sp), .int tpo, .long fro, .int (b2i ly)])), (bN, .inl (kN, 2, .inl (fun k => b2i (mi k)))), (bP, .inl (kP, 2, .inl pw)), (bQ, .inl (kQ, 2, .inr (.inl pt))), (bR, .inl (kR, 33000, .inl (fun k => b2i (rb k))))] s.heap.size = A at hD ⊢
  have hA : ∀ q : Nat, s.heap.size ≤ q → A q := fun q h => by rw [← hAe]; exact Or.inr h
  have hS : va_S A s.heap s.heap [] := va_S.rf
  have hP : va_P (dC, dI) classes [(bM, .inr (3, [.int cd, .int wd, .ref bT, .ref bF, .int al, .ref bN, .ref bP, .ref bQ, .ref bR, .int sz1, .int un, .int (b2i mo), .int tl, .int (b2i sp), .int tpo, .long fro, .int (b2i ly)])), (bN, .inl (kN, 2, .inl (fun k => b2i (mi k)))), (bP, .inl (kP, 2, .inl pw)), (bQ, .inl (kQ, 2, .inr (.inl pt))), (bR, .inl (kR, 33000, .inl (fun k => b2i (rb k))))] s.heap := hP
  obtain ⟨H, eH⟩ : ∃ z, z = s.heap := ⟨_, rfl⟩
  rw [← eH] at hP
  have hS : va_S A s.heap H [] := by rw [eH]; exact hS
  rw [← eH]
  generalize ([] : List Loc) = locs at hS ⊢
  have hl := lv_entry ([.ref bM]) (n := 19) (Nat.le_of_ble_eq_true rfl)
  rw [lg_entry_eq]
  generalize (lg_sl ([.ref bM]) ++ List.replicate (19 - (lg_sl ([.ref bM])).length) Slot.unset).toArray = ls at hl ⊢
  have hl : lv_has ls 19 [(0, .ref bM)] := hl
  refine lv_aload_n hx hb d_M_root_0 rfl (lv_at hl 0 rfl) ?_
  refine lv_iconst (v := 0) hx hb d_M_root_1 (by decide) ?_
  have hPc := hP.sub (ws' := [(bM, .inr (3, [.int cd, .int wd, .ref bT, .ref bF, .int al, .ref bN, .ref bP, .ref bQ, .ref bR, .int sz1, .int un, .int (b2i mo), .int tl, .int (b2i sp), .int tpo, .long fro, .int (b2i ly)])), (bP, .inl (kP, 2, .inl pw)), (bQ, .inl (kQ, 2, .inr (.inl pt)))]) [0, 2, 3] rfl
  have hDc := hD.sub (ws' := [(bM, .inr (3, [.int cd, .int wd, .ref bT, .ref bF, .int al, .ref bN, .ref bP, .ref bQ, .ref bR, .int sz1, .int un, .int (b2i mo), .int tl, .int (b2i sp), .int tpo, .long fro, .int (b2i ly)])), (bP, .inl (kP, 2, .inl pw)), (bQ, .inl (kQ, 2, .inr (.inl pt)))]) [0, 2, 3] (by decide) rfl
  have hKc := hK.sub (tys' := [(kP, .int), (kQ, .long)]) [1, 2] rfl
  have hFc := va_free (wc := [(bM, .inr (3, [.int cd, .int wd, .ref bT, .ref bF, .int al, .ref bN, .ref bP, .ref bQ, .ref bR, .int sz1, .int un, .int (b2i mo), .int tl, .int (b2i sp), .int tpo, .long fro, .int (b2i ly)])), (bP, .inl (kP, 2, .inl pw)), (bQ, .inl (kQ, 2, .inr (.inl pt)))]) hD hS hA [0, 2, 3] rfl
  refine cc_i (va_runV (As := [.int 0]) (rest := []) ⟨hx, hb, hml, hown, htA⟩ (c_M_isNothing l dC dI kP kQ bM bP bQ bT bF bN bR H.size cd wd al sz1 un mo tl sp tpo fro ly pw pt 0 in2_0) (cwV 1 htA (gi_V k_322 k_323 k_324 k_263 (gi_code k_259)) rfl rfl rfl (by decide +kernel) ⟨Nat.le_of_ble_eq_true rfl, Nat.le_of_ble_eq_true rfl⟩) (pre_V hnw hPc hKc hDc (ci := 3) (q0 := 0) rfl rfl) rfl rfl hl.1 rfl (lv_room (Nat.le_of_ble_eq_true rfl)) d_M_root_2 ⟨Nat.le_of_ble_eq_true rfl, Nat.le_of_ble_eq_true rfl⟩) hS hFc hP hD [0, 2, 3] [1, 4] (wr := [(bN, .inl (kN, 2, .inl (fun k => b2i (mi k)))), (bR, .inl (kR, 33000, .inl (fun k => b2i (rb k))))]) rfl rfl (by decide) (by decide) (fun H locs hP hD hS => ?_)
  have hP : va_P (dC, dI) classes [(bN, .inl (kN, 2, .inl (fun k => b2i (mi k)))), (bR, .inl (kR, 33000, .inl (fun k => b2i (rb k)))), (bM, .inr (3, [.int cd, .int wd, .ref bT, .ref bF, .int al, .ref bN, .ref bP, .ref bQ, .ref bR, .int sz1, .int un, .int (b2i mo), .int tl, .int (b2i sp), .int tpo, .long fro, .int (b2i ly)])), (bP, .inl (kP, 2, .inl pw)), (bQ, .inl (kQ, 2, .inr (.inl pt)))] H := hP
  have hD : va_D A [(bN, .inl (kN, 2, .inl (fun k => b2i (mi k)))), (bR, .inl (kR, 33000, .inl (fun k => b2i (rb k)))), (bM, .inr (3, [.int cd, .int wd, .ref bT, .ref bF, .int al, .ref bN, .ref bP, .ref bQ, .ref bR, .int sz1, .int un, .int (b2i mo), .int tl, .int (b2i sp), .int tpo, .long fro, .int (b2i ly)])), (bP, .inl (kP, 2, .inl pw)), (bQ, .inl (kQ, 2, .inr (.inl pt)))] := hD
  refine lv_if_eq (tgt := 21) hx hb d_M_root_5 (by decide) (fun c_5 => ?_) (fun c_5 => ?_)
  · skip
    have c_5 : ¬ (g_M_isNothing pw pt 0) = true := b2i_z c_5
    refine lv_aload_n hx hb d_M_root_21 rfl (lv_at hl 0 rfl) ?_
    refine lv_iconst (v := 0) hx hb d_M_root_22 (by decide) ?_
    have hPc := hP.sub (ws' := [(bM, .inr (3, [.int cd, .int wd, .ref bT, .ref bF, .int al, .ref bN, .ref bP, .ref bQ, .ref bR, .int sz1, .int un, .int (b2i mo), .int tl, .int (b2i sp), .int tpo, .long fro, .int (b2i ly)])), (bP, .inl (kP, 2, .inl pw))]) [2, 3] rfl
    have hDc := hD.sub (ws' := [(bM, .inr (3, [.int cd, .int wd, .ref bT, .ref bF, .int al, .ref bN, .ref bP, .ref bQ, .ref bR, .int sz1, .int un, .int (b2i mo), .int tl, .int (b2i sp), .int tpo, .long fro, .int (b2i ly)])), (bP, .inl (kP, 2, .inl pw))]) [2, 3] (by decide) rfl
    have hKc := hK.sub (tys' := [(kP, .int)]) [1] rfl
    have hFc := va_free (wc := [(bM, .inr (3, [.int cd, .int wd, .ref bT, .ref bF, .int al, .ref bN, .ref bP, .ref bQ, .ref bR, .int sz1, .int un, .int (b2i mo), .int tl, .int (b2i sp), .int tpo, .long fro, .int (b2i ly)])), (bP, .inl (kP, 2, .inl pw))]) hD hS hA [2, 3] rfl
    refine cc_i (va_runV (As := [.int 0]) (rest := []) ⟨hx, hb, hml, hown, htA⟩ (c_M_unitOf l dC dI kP bM bP bT bF bN bQ bR H.size cd wd al sz1 un mo tl sp tpo fro ly pw 0 in2_0) (cwV 1 htA (gi_V k_308 k_309 k_310 k_263 (gi_code k_262)) rfl rfl rfl (by decide +kernel) ⟨Nat.le_of_ble_eq_true rfl, Nat.le_of_ble_eq_true rfl⟩) (pre_V hnw hPc hKc hDc (ci := 3) (q0 := 0) rfl rfl) rfl rfl hl.1 rfl (lv_room (Nat.le_of_ble_eq_true rfl)) d_M_root_23 ⟨Nat.le_of_ble_eq_true rfl, Nat.le_of_ble_eq_true rfl⟩) hS hFc hP hD [2, 3] [0, 1, 4] (wr := [(bN, .inl (kN, 2, .inl (fun k => b2i (mi k)))), (bR, .inl (kR, 33000, .inl (fun k => b2i (rb k)))), (bQ, .inl (kQ, 2, .inr (.inl pt)))]) rfl rfl (by decide) (by decide) (fun H locs hP hD hS => ?_)
    have hP : va_P (dC, dI) classes [(bN, .inl (kN, 2, .inl (fun k => b2i (mi k)))), (bR, .inl (kR, 33000, .inl (fun k => b2i (rb k)))), (bQ, .inl (kQ, 2, .inr (.inl pt))), (bM, .inr (3, [.int cd, .int wd, .ref bT, .ref bF, .int al, .ref bN, .ref bP, .ref bQ, .ref bR, .int sz1, .int un, .int (b2i mo), .int tl, .int (b2i sp), .int tpo, .long fro, .int (b2i ly)])), (bP, .inl (kP, 2, .inl pw))] H := hP
    have hD : va_D A [(bN, .inl (kN, 2, .inl (fun k => b2i (mi k)))), (bR, .inl (kR, 33000, .inl (fun k => b2i (rb k)))), (bQ, .inl (kQ, 2, .inr (.inl pt))), (bM, .inr (3, [.int cd, .int wd, .ref bT, .ref bF, .int al, .ref bN, .ref bP, .ref bQ, .ref bR, .int sz1, .int un, .int (b2i mo), .int tl, .int (b2i sp), .int tpo, .long fro, .int (b2i ly)])), (bP, .inl (kP, 2, .inl pw))] := hD
    refine lv_istore_n (lv' := [(1, .int (g_M_unitOf pw 0)), (0, .ref bM)]) hx hb d_M_root_26 rfl hl (by decide) rfl (fun ls hl => ?_)
    refine lv_iload_n hx hb d_M_root_27 rfl (lv_at hl 0 rfl) ?_
    refine lv_iconst (v := 2) hx hb d_M_root_28 (by decide) ?_
    refine lv_irem hx hb d_M_root_29 (by decide) ?_
    refine cut_join (X := Bool) 0 0 (fun (x : Bool) (H : Heap) (locs : List Loc) (ls : Array Slot) => (if ((g_M_unitOf pw 0) - (g_M_unitOf pw 0) / 2 * 2) = 0 then false else true) = x ∧ va_P (dC, dI) classes [(bN, .inl (kN, 2, .inl (fun k => b2i (mi k)))), (bR, .inl (kR, 33000, .inl (fun k => b2i (rb k)))), (bQ, .inl (kQ, 2, .inr (.inl pt))), (bM, .inr (3, [.int cd, .int wd, .ref bT, .ref bF, .int al, .ref bN, .ref bP, .ref bQ, .ref bR, .int sz1, .int un, .int (b2i mo), .int tl, .int (b2i sp), .int tpo, .long fro, .int (b2i ly)])), (bP, .inl (kP, 2, .inl pw))] H ∧ va_D A [(bN, .inl (kN, 2, .inl (fun k => b2i (mi k)))), (bR, .inl (kR, 33000, .inl (fun k => b2i (rb k)))), (bQ, .inl (kQ, 2, .inr (.inl pt))), (bM, .inr (3, [.int cd, .int wd, .ref bT, .ref bF, .int al, .ref bN, .ref bP, .ref bQ, .ref bR, .int sz1, .int un, .int (b2i mo), .int tl, .int (b2i sp), .int tpo, .long fro, .int (b2i ly)])), (bP, .inl (kP, 2, .inl pw))] ∧ va_S A s.heap H locs ∧ lv_has ls 19 [(0, .ref bM), (1, .int (g_M_unitOf pw 0))]) (fun x ls => F0 m 38 ls [.int (b2i x)]) ?_ (fun J38 => ?_)
    · skip
      rintro j38_0 H locs ls ⟨ej38_0, hP, hD, hS, hl⟩
      have ej38_0 : (if ((g_M_unitOf pw 0) - (g_M_unitOf pw 0) / 2 * 2) = 0 then false else true) = j38_0 := ej38_0
      have hP : va_P (dC, dI) classes [(bN, .inl (kN, 2, .inl (fun k => b2i (mi k)))), (bR, .inl (kR, 33000, .inl (fun k => b2i (rb k)))), (bQ, .inl (kQ, 2, .inr (.inl pt))), (bM, .inr (3, [.int cd, .int wd, .ref bT, .ref bF, .int al, .ref bN, .ref bP, .ref bQ, .ref bR, .int sz1, .int un, .int (b2i mo), .int tl, .int (b2i sp), .int tpo, .long fro, .int (b2i ly)])), (bP, .inl (kP, 2, .inl pw))] H := hP
      have hD : va_D A [(bN, .inl (kN, 2, .inl (fun k => b2i (mi k)))), (bR, .inl (kR, 33000, .inl (fun k => b2i (rb k)))), (bQ, .inl (kQ, 2, .inr (.inl pt))), (bM, .inr (3, [.int cd, .int wd, .ref bT, .ref bF, .int al, .ref bN, .ref bP, .ref bQ, .ref bR, .int sz1, .int un, .int (b2i mo), .int tl, .int (b2i sp), .int tpo, .long fro, .int (b2i ly)])), (bP, .inl (kP, 2, .inl pw))] := hD
      have hl : lv_has ls 19 [(0, .ref bM), (1, .int (g_M_unitOf pw 0))] := hl
      refine lv_istore_n (lv' := [(2, .int (b2i j38_0)), (0, .ref bM), (1, .int (g_M_unitOf pw 0))]) hx hb d_M_root_38 rfl hl (by decide) rfl (fun ls hl => ?_)
      refine lv_iload_n hx hb d_M_root_39 rfl (lv_at hl 0 rfl) ?_
      refine cut_join (X := Int32) 0 0 (fun (x : Int32) (H : Heap) (locs : List Loc) (ls : Array Slot) => (if j38_0 = true then ((g_M_unitOf pw 0) - 1) else (g_M_unitOf pw 0)) = x ∧ va_P (dC, dI) classes [(bN, .inl (kN, 2, .inl (fun k => b2i (mi k)))), (bR, .inl (kR, 33000, .inl (fun k => b2i (rb k)))), (bQ, .inl (kQ, 2, .inr (.inl pt))), (bM, .inr (3, [.int cd, .int wd, .ref bT, .ref bF, .int al, .ref bN, .ref bP, .ref bQ, .ref bR, .int sz1, .int un, .int (b2i mo), .int tl, .int (b2i sp), .int tpo, .long fro, .int (b2i ly)])), (bP, .inl (kP, 2, .inl pw))] H ∧ va_D A [(bN, .inl (kN, 2, .inl (fun k => b2i (mi k)))), (bR, .inl (kR, 33000, .inl (fun k => b2i (rb k)))), (bQ, .inl (kQ, 2, .inr (.inl pt))), (bM, .inr (3, [.int cd, .int wd, .ref bT, .ref bF, .int al, .ref bN, .ref bP, .ref bQ, .ref bR, .int sz1, .int un, .int (b2i mo), .int tl, .int (b2i sp), .int tpo, .long fro, .int (b2i ly)])), (bP, .inl (kP, 2, .inl pw))] ∧ va_S A s.heap H locs ∧ lv_has ls 19 [(0, .ref bM), (1, .int (g_M_unitOf pw 0)), (2, .int (b2i j38_0))]) (fun x ls => F0 m 50 ls [.int x]) ?_ (fun J50 => ?_)
      · skip
        rintro j50_0 H locs ls ⟨ej50_0, hP, hD, hS, hl⟩
        have ej50_0 : (if j38_0 = true then ((g_M_unitOf pw 0) - 1) else (g_M_unitOf pw 0)) = j50_0 := ej50_0
        have hP : va_P (dC, dI) classes [(bN, .inl (kN, 2, .inl (fun k => b2i (mi k)))), (bR, .inl (kR, 33000, .inl (fun k => b2i (rb k)))), (bQ, .inl (kQ, 2, .inr (.inl pt))), (bM, .inr (3, [.int cd, .int wd, .ref bT, .ref bF, .int al, .ref bN, .ref bP, .ref bQ, .ref bR, .int sz1, .int un, .int (b2i mo), .int tl, .int (b2i sp), .int tpo, .long fro, .int (b2i ly)])), (bP, .inl (kP, 2, .inl pw))] H := hP
        have hD : va_D A [(bN, .inl (kN, 2, .inl (fun k => b2i (mi k)))), (bR, .inl (kR, 33000, .inl (fun k => b2i (rb k)))), (bQ, .inl (kQ, 2, .inr (.inl pt))), (bM, .inr (3, [.int cd, .int wd, .ref bT, .ref bF, .int al, .ref bN, .ref bP, .ref bQ, .ref bR, .int sz1, .int un, .int (b2i mo), .int tl, .int (b2i sp), .int tpo, .long fro, .int (b2i ly)])), (bP, .inl (kP, 2, .inl pw))] := hD
        have hl : lv_has ls 19 [(0, .ref bM), (1, .int (g_M_unitOf pw 0)), (2, .int (b2i j38_0))] := hl
        refine lv_iconst (v := 2) hx hb d_M_root_50 (by decide) ?_
        refine lv_idiv hx hb d_M_root_51 (by decide) ?_
        refine lv_istore_n (lv' := [(3, .int (j50_0 / 2)), (0, .ref bM), (1, .int (g_M_unitOf pw 0)), (2, .int (b2i j38_0))]) hx hb d_M_root_52 rfl hl (by decide) rfl (fun ls hl => ?_)
        refine lv_aload_n hx hb d_M_root_53 rfl (lv_at hl 1 rfl) ?_
        refine lv_bipush (v := 104) hx hb d_M_root_54 (by decide) ?_
        refine lv_iload_n hx hb d_M_root_56 rfl (lv_at hl 0 rfl) ?_
        refine lv_bipush (v := 70) hx hb d_M_root_57 (by decide) ?_
        refine lv_isub hx hb d_M_root_59 ?_
        have hPc := hP.sub (ws' := [(bM, .inr (3, [.int cd, .int wd, .ref bT, .ref bF, .int al, .ref bN, .ref bP, .ref bQ, .ref bR, .int sz1, .int un, .int (b2i mo), .int tl, .int (b2i sp), .int tpo, .long fro, .int (b2i ly)])), (bR, .inl (kR, 33000, .inl (fun k => b2i (rb k))))]) [3, 1] rfl
        have hDc := hD.sub (ws' := [(bM, .inr (3, [.int cd, .int wd, .ref bT, .ref bF, .int al, .ref bN, .ref bP, .ref bQ, .ref bR, .int sz1, .int un, .int (b2i mo), .int tl, .int (b2i sp), .int tpo, .long fro, .int (b2i ly)])), (bR, .inl (kR, 33000, .inl (fun k => b2i (rb k))))]) [3, 1] (by decide) rfl
        have hKc := hK.sub (tys' := [(kR, .boolean)]) [3] rfl
        have hFc := va_free (wc := [(bM, .inr (3, [.int cd, .int wd, .ref bT, .ref bF, .int al, .ref bN, .ref bP, .ref bQ, .ref bR, .int sz1, .int un, .int (b2i mo), .int tl, .int (b2i sp), .int tpo, .long fro, .int (b2i ly)])), (bR, .inl (kR, 33000, .inl (fun k => b2i (rb k))))]) hD hS hA [3, 1] rfl
        refine cc_v (va_runV (As := [.int 104, .int ((j50_0 / 2) - 70)]) (rest := []) ⟨hx, hb, hml, hown, htA⟩ (c_M_empty l dC dI kR bM bR bT bF bN bP bQ H.size cd wd al sz1 un mo tl sp tpo fro ly rb 104 ((j50_0 / 2) - 70) okz_104) (cwV 2 htA (gi_V k_316 k_317 k_318 k_263 (gi_code k_306)) rfl rfl rfl (by decide +kernel) ⟨Nat.le_of_ble_eq_true rfl, Nat.le_of_ble_eq_true rfl⟩) (pre_V hnw hPc hKc hDc (ci := 3) (q0 := 0) rfl rfl) rfl rfl hl.1 rfl (lv_room (Nat.le_of_ble_eq_true rfl)) d_M_root_60 ⟨Nat.le_of_ble_eq_true rfl, Nat.le_of_ble_eq_true rfl⟩) hS hFc hP hD [3, 1] [0, 2, 4] (wr := [(bN, .inl (kN, 2, .inl (fun k => b2i (mi k)))), (bQ, .inl (kQ, 2, .inr (.inl pt))), (bP, .inl (kP, 2, .inl pw))]) rfl rfl (by decide) (by decide) (fun H locs hP hD hS => ?_)
        have hP : va_P (dC, dI) classes [(bN, .inl (kN, 2, .inl (fun k => b2i (mi k)))), (bQ, .inl (kQ, 2, .inr (.inl pt))), (bP, .inl (kP, 2, .inl pw)), (bM, .inr (3, [.int cd, .int wd, .ref bT, .ref bF, .int al, .ref bN, .ref bP, .ref bQ, .ref bR, .int 104, .int ((j50_0 / 2) - 70), .int (b2i false), .int tl, .int (b2i sp), .int tpo, .long fro, .int (b2i ly)])), (bR, .inl (kR, 33000, .inl (fun k => b2i ((g_M_empty rb 104) k))))] H := hP
        have hD : va_D A [(bN, .inl (kN, 2, .inl (fun k => b2i (mi k)))), (bQ, .inl (kQ, 2, .inr (.inl pt))), (bP, .inl (kP, 2, .inl pw)), (bM, .inr (3, [.int cd, .int wd, .ref bT, .ref bF, .int al, .ref bN, .ref bP, .ref bQ, .ref bR, .int 104, .int ((j50_0 / 2) - 70), .int (b2i false), .int tl, .int (b2i sp), .int tpo, .long fro, .int (b2i ly)])), (bR, .inl (kR, 33000, .inl (fun k => b2i ((g_M_empty rb 104) k))))] := hD
        refine lv_lconst (v := 0) hx hb d_M_root_63 (by decide) ?_
        refine lv_lstore (lv' := [(4, .long 0), (3, .int (j50_0 / 2)), (0, .ref bM), (1, .int (g_M_unitOf pw 0)), (2, .int (b2i j38_0))]) hx hb d_M_root_64 hl (by decide) rfl (fun ls hl => ?_)
        refine lv_lconst (v := 0) hx hb d_M_root_66 (by decide) ?_
        refine lv_lstore (lv' := [(6, .long 0), (4, .long 0), (3, .int (j50_0 / 2)), (0, .ref bM), (1, .int (g_M_unitOf pw 0)), (2, .int (b2i j38_0))]) hx hb d_M_root_67 hl (by decide) rfl (fun ls hl => ?_)
        refine lv_lconst (v := 0) hx hb d_M_root_69 (by decide) ?_
        refine lv_lstore (lv' := [(8, .long 0), (6, .long 0), (4, .long 0), (3, .int (j50_0 / 2)), (0, .ref bM), (1, .int (g_M_unitOf pw 0)), (2, .int (b2i j38_0))]) hx hb d_M_root_70 hl (by decide) rfl (fun ls hl => ?_)
        refine lv_lconst (v := 0) hx hb d_M_root_72 (by decide) ?_
        refine lv_lstore (lv' := [(10, .long 0), (8, .long 0), (6, .long 0), (4, .long 0), (3, .int (j50_0 / 2)), (0, .ref bM), (1, .int (g_M_unitOf pw 0)), (2, .int (b2i j38_0))]) hx hb d_M_root_73 hl (by decide) rfl (fun ls hl => ?_)
        refine lv_bipush (v := 103) hx hb d_M_root_75 (by decide) ?_
        refine lv_istore (lv' := [(12, .int 103), (10, .long 0), (8, .long 0), (6, .long 0), (4, .long 0), (3, .int (j50_0 / 2)), (0, .ref bM), (1, .int (g_M_unitOf pw 0)), (2, .int (b2i j38_0))]) hx hb d_M_root_77 hl (by decide) rfl (fun ls hl => ?_)
        refine loop_cut (S := Int64 × Int64 × Int64 × Int64 × Int32 × (Nat → Bool)) (nx_M_root_79 pt j38_0) 104 (0, 0, 0, 0, 103, (g_M_empty rb 104)) (M_root_end ..) 0 0 (fun (x : Int64 × Int64 × Int64 × Int64 × Int32 × (Nat → Bool)) (H : Heap) (locs : List Loc) (ls : Array Slot) => x.2.2.2.2.1.toInt ≤ 103 ∧ va_P (dC, dI) classes [(bN, .inl (kN, 2, .inl (fun k => b2i (mi k)))), (bQ, .inl (kQ, 2, .inr (.inl pt))), (bP, .inl (kP, 2, .inl pw)), (bM, .inr (3, [.int cd, .int wd, .ref bT, .ref bF, .int al, .ref bN, .ref bP, .ref bQ, .ref bR, .int 104, .int ((j50_0 / 2) - 70), .int (b2i false), .int tl, .int (b2i sp), .int tpo, .long fro, .int (b2i ly)])), (bR, .inl (kR, 33000, .inl (fun k => b2i (x.2.2.2.2.2 k))))] H ∧ va_D A [(bN, .inl (kN, 2, .inl (fun k => b2i (mi k)))), (bQ, .inl (kQ, 2, .inr (.inl pt))), (bP, .inl (kP, 2, .inl pw)), (bM, .inr (3, [.int cd, .int wd, .ref bT, .ref bF, .int al, .ref bN, .ref bP, .ref bQ, .ref bR, .int 104, .int ((j50_0 / 2) - 70), .int (b2i false), .int tl, .int (b2i sp), .int tpo, .long fro, .int (b2i ly)])), (bR, .inl (kR, 33000, .inl (fun k => b2i (x.2.2.2.2.2 k))))] ∧ va_S A s.heap H locs ∧ lv_has ls 19 [(0, .ref bM), (1, .int (g_M_unitOf pw 0)), (2, .int (b2i j38_0)), (3, .int (j50_0 / 2)), (4, .long x.1), (6, .long x.2.1), (8, .long x.2.2.1), (10, .long x.2.2.2.1), (12, .int x.2.2.2.2.1)]) (fun x ls => F0 m 79 ls []) (fun x ls => F0 m 323 ls []) ?_ ?_ H locs ls ⟨le_103, hP.sub [0, 1, 2, 3, 4] rfl, hD.sub [0, 1, 2, 3, 4] (by decide) rfl, hS, lv_sub hl [6, 7, 8, 5, 4, 3, 2, 1, 0] rfl⟩
        · skip
          rintro ⟨v79_0, v79_1, v79_2, v79_3, v79_4, v79_5⟩ hex hbk H locs ls ⟨hinv, hP, hD, hS, hl⟩
          have hinv : v79_4.toInt ≤ 103 := hinv
          have hP : va_P (dC, dI) classes [(bN, .inl (kN, 2, .inl (fun k => b2i (mi k)))), (bQ, .inl (kQ, 2, .inr (.inl pt))), (bP, .inl (kP, 2, .inl pw)), (bM, .inr (3, [.int cd, .int wd, .ref bT, .ref bF, .int al, .ref bN, .ref bP, .ref bQ, .ref bR, .int 104, .int ((j50_0 / 2) - 70), .int (b2i false), .int tl, .int (b2i sp), .int tpo, .long fro, .int (b2i ly)])), (bR, .inl (kR, 33000, .inl (fun k => b2i (v79_5 k))))] H := hP
          have hD : va_D A [(bN, .inl (kN, 2, .inl (fun k => b2i (mi k)))), (bQ, .inl (kQ, 2, .inr (.inl pt))), (bP, .inl (kP, 2, .inl pw)), (bM, .inr (3, [.int cd, .int wd, .ref bT, .ref bF, .int al, .ref bN, .ref bP, .ref bQ, .ref bR, .int 104, .int ((j50_0 / 2) - 70), .int (b2i false), .int tl, .int (b2i sp), .int tpo, .long fro, .int (b2i ly)])), (bR, .inl (kR, 33000, .inl (fun k => b2i (v79_5 k))))] := hD
          have hl : lv_has ls 19 [(0, .ref bM), (1, .int (g_M_unitOf pw 0)), (2, .int (b2i j38_0)), (3, .int (j50_0 / 2)), (4, .long v79_0), (6, .long v79_1), (8, .long v79_2), (10, .long v79_3), (12, .int v79_4)] := hl
          refine lv_iload hx hb d_M_root_79 (lv_at hl 8 rfl) ?_
          refine lv_if_lt (tgt := 323) hx hb d_M_root_81 (by decide) (fun c_81 => ?_) (fun c_81 => ?_)
          · skip
            exact hex (by clear hP hD hl hS; unfold nx_M_root_79; (try dsimp only); rw [if_pos c_81]) H locs ls ⟨hinv, hP.sub [0, 1, 2, 3, 4] rfl, hD.sub [0, 1, 2, 3, 4] (by decide) rfl, hS, lv_sub hl [0, 1, 2, 3, 4, 5, 6, 7, 8] rfl⟩
          · skip
            refine lv_iconst (v := 0) hx hb d_M_root_84 (by decide) ?_
            refine lv_istore (lv' := [(13, .int 0), (0, .ref bM), (1, .int (g_M_unitOf pw 0)), (2, .int (b2i j38_0)), (3, .int (j50_0 / 2)), (4, .long v79_0), (6, .long v79_1), (8, .long v79_2), (10, .long v79_3), (12, .int v79_4)]) hx hb d_M_root_85 hl (by decide) rfl (fun ls hl => ?_)
            refine lv_iconst (v := 1) hx hb d_M_root_87 (by decide) ?_
            refine lv_istore (lv' := [(14, .int 1), (13, .int 0), (0, .ref bM), (1, .int (g_M_unitOf pw 0)), (2, .int (b2i j38_0)), (3, .int (j50_0 / 2)), (4, .long v79_0), (6, .long v79_1), (8, .long v79_2), (10, .long v79_3), (12, .int v79_4)]) hx hb d_M_root_88 hl (by decide) rfl (fun ls hl => ?_)
            refine loop_cut (S := Int32 × Int32) (nx_M_root_90 pt j38_0 v79_4) 2 (0, 1) (M_root2_end ..) 0 0 (fun (x : Int32 × Int32) (H : Heap) (locs : List Loc) (ls : Array Slot) => va_P (dC, dI) classes [(bN, .inl (kN, 2, .inl (fun k => b2i (mi k)))), (bQ, .inl (kQ, 2, .inr (.inl pt))), (bP, .inl (kP, 2, .inl pw)), (bM, .inr (3, [.int cd, .int wd, .ref bT, .ref bF, .int al, .ref bN, .ref bP, .ref bQ, .ref bR, .int 104, .int ((j50_0 / 2) - 70), .int (b2i false), .int tl, .int (b2i sp), .int tpo, .long fro, .int (b2i ly)])), (bR, .inl (kR, 33000, .inl (fun k => b2i (v79_5 k))))] H ∧ va_D A [(bN, .inl (kN, 2, .inl (fun k => b2i (mi k)))), (bQ, .inl (kQ, 2, .inr (.inl pt))), (bP, .inl (kP, 2, .inl pw)), (bM, .inr (3, [.int cd, .int wd, .ref bT, .ref bF, .int al, .ref bN, .ref bP, .ref bQ, .ref bR, .int 104, .int ((j50_0 / 2) - 70), .int (b2i false), .int tl, .int (b2i sp), .int tpo, .long fro, .int (b2i ly)])), (bR, .inl (kR, 33000, .inl (fun k => b2i (v79_5 k))))] ∧ va_S A s.heap H locs ∧ lv_has ls 19 [(0, .ref bM), (1, .int (g_M_unitOf pw 0)), (2, .int (b2i j38_0)), (3, .int (j50_0 / 2)), (4, .long v79_0), (6, .long v79_1), (8, .long v79_2), (10, .long v79_3), (12, .int v79_4), (13, .int x.1), (14, .int x.2)]) (fun x ls => F0 m 90 ls []) (fun x ls => F0 m 159 ls []) ?_ ?_ H locs ls ⟨hP.sub [0, 1, 2, 3, 4] rfl, hD.sub [0, 1, 2, 3, 4] (by decide) rfl, hS, lv_sub hl [2, 3, 4, 5, 6, 7, 8, 9, 10, 1, 0] rfl⟩
            · skip
              rintro ⟨v90_0, v90_1⟩ hex hbk H locs ls ⟨hP, hD, hS, hl⟩
              have hP : va_P (dC, dI) classes [(bN, .inl (kN, 2, .inl (fun k => b2i (mi k)))), (bQ, .inl (kQ, 2, .inr (.inl pt))), (bP, .inl (kP, 2, .inl pw)), (bM, .inr (3, [.int cd, .int wd, .ref bT, .ref bF, .int al, .ref bN, .ref bP, .ref bQ, .ref bR, .int 104, .int ((j50_0 / 2) - 70), .int (b2i false), .int tl, .int (b2i sp), .int tpo, .long fro, .int (b2i ly)])), (bR, .inl (kR, 33000, .inl (fun k => b2i (v79_5 k))))] H := hP
              have hD : va_D A [(bN, .inl (kN, 2, .inl (fun k => b2i (mi k)))), (bQ, .inl (kQ, 2, .inr (.inl pt))), (bP, .inl (kP, 2, .inl pw)), (bM, .inr (3, [.int cd, .int wd, .ref bT, .ref bF, .int al, .ref bN, .ref bP, .ref bQ, .ref bR, .int 104, .int ((j50_0 / 2) - 70), .int (b2i false), .int tl, .int (b2i sp), .int tpo, .long fro, .int (b2i ly)])), (bR, .inl (kR, 33000, .inl (fun k => b2i (v79_5 k))))] := hD
              have hl : lv_has ls 19 [(0, .ref bM), (1, .int (g_M_unitOf pw 0)), (2, .int (b2i j38_0)), (3, .int (j50_0 / 2)), (4, .long v79_0), (6, .long v79_1), (8, .long v79_2), (10, .long v79_3), (12, .int v79_4), (13, .int v90_0), (14, .int v90_1)] := hl
              refine lv_iload hx hb d_M_root_90 (lv_at hl 10 rfl) ?_
              refine lv_if_lt (tgt := 159) hx hb d_M_root_92 (by decide) (fun c_92 => ?_) (fun c_92 => ?_)
              · skip
                exact hex (by clear hP hD hl hS; unfold nx_M_root_90; (try dsimp only); rw [if_pos c_92]) H locs ls ⟨hP.sub [0, 1, 2, 3, 4] rfl, hD.sub [0, 1, 2, 3, 4] (by decide) rfl, hS, lv_sub hl [0, 1, 2, 3, 4, 5, 6, 7, 8, 9, 10] rfl⟩
              · skip
                refine lv_iconst (v := 2) hx hb d_M_root_95 (by decide) ?_
                refine lv_iload hx hb d_M_root_96 (lv_at hl 8 rfl) ?_
                refine lv_imul hx hb d_M_root_98 ?_
                refine lv_iload hx hb d_M_root_99 (lv_at hl 10 rfl) ?_
                refine lv_iadd hx hb d_M_root_101 ?_
                refine lv_sipush (v := 140) hx hb d_M_root_102 (by decide) ?_
                refine lv_isub hx hb d_M_root_105 ?_
                refine lv_iload_n hx hb d_M_root_106 rfl (lv_at hl 2 rfl) ?_
                refine cut_join (X := Bool) 0 0 (fun (x : Bool) (H : Heap) (locs : List Loc) (ls : Array Slot) => (if j38_0 = true then true else false) = x ∧ va_P (dC, dI) classes [(bN, .inl (kN, 2, .inl (fun k => b2i (mi k)))), (bQ, .inl (kQ, 2, .inr (.inl pt))), (bP, .inl (kP, 2, .inl pw)), (bM, .inr (3, [.int cd, .int wd, .ref bT, .ref bF, .int al, .ref bN, .ref bP, .ref bQ, .ref bR, .int 104, .int ((j50_0 / 2) - 70), .int (b2i false), .int tl, .int (b2i sp), .int tpo, .long fro, .int (b2i ly)])), (bR, .inl (kR, 33000, .inl (fun k => b2i (v79_5 k))))] H ∧ va_D A [(bN, .inl (kN, 2, .inl (fun k => b2i (mi k)))), (bQ, .inl (kQ, 2, .inr (.inl pt))), (bP, .inl (kP, 2, .inl pw)), (bM, .inr (3, [.int cd, .int wd, .ref bT, .ref bF, .int al, .ref bN, .ref bP, .ref bQ, .ref bR, .int 104, .int ((j50_0 / 2) - 70), .int (b2i false), .int tl, .int (b2i sp), .int tpo, .long fro, .int (b2i ly)])), (bR, .inl (kR, 33000, .inl (fun k => b2i (v79_5 k))))] ∧ va_S A s.heap H locs ∧ lv_has ls 19 [(0, .ref bM), (1, .int (g_M_unitOf pw 0)), (2, .int (b2i j38_0)), (3, .int (j50_0 / 2)), (4, .long v79_0), (6, .long v79_1), (8, .long v79_2), (10, .long v79_3), (12, .int v79_4), (13, .int v90_0), (14, .int v90_1)]) (fun x ls => F0 m 115 ls [.int (b2i x), .int (((2 * v79_4) + v90_1) - 140)]) ?_ (fun J115 => ?_)
                · skip
                  rintro j115_0 H locs ls ⟨ej115_0, hP, hD, hS, hl⟩
                  have ej115_0 : (if j38_0 = true then true else false) = j115_0 := ej115_0
                  have hP : va_P (dC, dI) classes [(bN, .inl (kN, 2, .inl (fun k => b2i (mi k)))), (bQ, .inl (kQ, 2, .inr (.inl pt))), (bP, .inl (kP, 2, .inl pw)), (bM, .inr (3, [.int cd, .int wd, .ref bT, .ref bF, .int al, .ref bN, .ref bP, .ref bQ, .ref bR, .int 104, .int ((j50_0 / 2) - 70), .int (b2i false), .int tl, .int (b2i sp), .int tpo, .long fro, .int (b2i ly)])), (bR, .inl (kR, 33000, .inl (fun k => b2i (v79_5 k))))] H := hP
                  have hD : va_D A [(bN, .inl (kN, 2, .inl (fun k => b2i (mi k)))), (bQ, .inl (kQ, 2, .inr (.inl pt))), (bP, .inl (kP, 2, .inl pw)), (bM, .inr (3, [.int cd, .int wd, .ref bT, .ref bF, .int al, .ref bN, .ref bP, .ref bQ, .ref bR, .int 104, .int ((j50_0 / 2) - 70), .int (b2i false), .int tl, .int (b2i sp), .int tpo, .long fro, .int (b2i ly)])), (bR, .inl (kR, 33000, .inl (fun k => b2i (v79_5 k))))] := hD
                  have hl : lv_has ls 19 [(0, .ref bM), (1, .int (g_M_unitOf pw 0)), (2, .int (b2i j38_0)), (3, .int (j50_0 / 2)), (4, .long v79_0), (6, .long v79_1), (8, .long v79_2), (10, .long v79_3), (12, .int v79_4), (13, .int v90_0), (14, .int v90_1)] := hl
                  refine lv_isub hx hb d_M_root_115 ?_
                  refine lv_istore (lv' := [(15, .int ((((2 * v79_4) + v90_1) - 140) - (b2i j115_0))), (0, .ref bM), (1, .int (g_M_unitOf pw 0)), (2, .int (b2i j38_0)), (3, .int (j50_0 / 2)), (4, .long v79_0), (6, .long v79_1), (8, .long v79_2), (10, .long v79_3), (12, .int v79_4), (13, .int v90_0), (14, .int v90_1)]) hx hb d_M_root_116 hl (by decide) rfl (fun ls hl => ?_)
                  refine lv_iconst (v := 2) hx hb d_M_root_118 (by decide) ?_
                  refine lv_iload hx hb d_M_root_119 (lv_at hl 10 rfl) ?_
                  refine lv_imul hx hb d_M_root_121 ?_
                  refine lv_iload hx hb d_M_root_122 (lv_at hl 0 rfl) ?_
                  refine cut_join (X := Int32) 0 0 (fun (x : Int32) (H : Heap) (locs : List Loc) (ls : Array Slot) => (if ((((2 * v79_4) + v90_1) - 140) - (b2i j115_0)) < 0 then 0 else if 64 ≤ ((((2 * v79_4) + v90_1) - 140) - (b2i j115_0)) then 0 else (((aR (pt (0 : Int32).toNatClampNeg) ((((2 * v79_4) + v90_1) - 140) - (b2i j115_0))) &&& 1).toInt32)) = x ∧ va_P (dC, dI) classes [(bN, .inl (kN, 2, .inl (fun k => b2i (mi k)))), (bQ, .inl (kQ, 2, .inr (.inl pt))), (bP, .inl (kP, 2, .inl pw)), (bM, .inr (3, [.int cd, .int wd, .ref bT, .ref bF, .int al, .ref bN, .ref bP, .ref bQ, .ref bR, .int 104, .int ((j50_0 / 2) - 70), .int (b2i false), .int tl, .int (b2i sp), .int tpo, .long fro, .int (b2i ly)])), (bR, .inl (kR, 33000, .inl (fun k => b2i (v79_5 k))))] H ∧ va_D A [(bN, .inl (kN, 2, .inl (fun k => b2i (mi k)))), (bQ, .inl (kQ, 2, .inr (.inl pt))), (bP, .inl (kP, 2, .inl pw)), (bM, .inr (3, [.int cd, .int wd, .ref bT, .ref bF, .int al, .ref bN, .ref bP, .ref bQ, .ref bR, .int 104, .int ((j50_0 / 2) - 70), .int (b2i false), .int tl, .int (b2i sp), .int tpo, .long fro, .int (b2i ly)])), (bR, .inl (kR, 33000, .inl (fun k => b2i (v79_5 k))))] ∧ va_S A s.heap H locs ∧ lv_has ls 19 [(0, .ref bM), (1, .int (g_M_unitOf pw 0)), (2, .int (b2i j38_0)), (3, .int (j50_0 / 2)), (4, .long v79_0), (6, .long v79_1), (8, .long v79_2), (10, .long v79_3), (12, .int v79_4), (13, .int v90_0), (14, .int v90_1), (15, .int ((((2 * v79_4) + v90_1) - 140) - (b2i j115_0)))]) (fun x ls => F0 m 150 ls [.int x, .int (2 * v90_0)]) ?_ (fun J150 => ?_)
                  · skip
                    rintro j150_0 H locs ls ⟨ej150_0, hP, hD, hS, hl⟩
                    have ej150_0 : (if ((((2 * v79_4) + v90_1) - 140) - (b2i j115_0)) < 0 then 0 else if 64 ≤ ((((2 * v79_4) + v90_1) - 140) - (b2i j115_0)) then 0 else (((aR (pt (0 : Int32).toNatClampNeg) ((((2 * v79_4) + v90_1) - 140) - (b2i j115_0))) &&& 1).toInt32)) = j150_0 := ej150_0
                    have hP : va_P (dC, dI) classes [(bN, .inl (kN, 2, .inl (fun k => b2i (mi k)))), (bQ, .inl (kQ, 2, .inr (.inl pt))), (bP, .inl (kP, 2, .inl pw)), (bM, .inr (3, [.int cd, .int wd, .ref bT, .ref bF, .int al, .ref bN, .ref bP, .ref bQ, .ref bR, .int 104, .int ((j50_0 / 2) - 70), .int (b2i false), .int tl, .int (b2i sp), .int tpo, .long fro, .int (b2i ly)])), (bR, .inl (kR, 33000, .inl (fun k => b2i (v79_5 k))))] H := hP
                    have hD : va_D A [(bN, .inl (kN, 2, .inl (fun k => b2i (mi k)))), (bQ, .inl (kQ, 2, .inr (.inl pt))), (bP, .inl (kP, 2, .inl pw)), (bM, .inr (3, [.int cd, .int wd, .ref bT, .ref bF, .int al, .ref bN, .ref bP, .ref bQ, .ref bR, .int 104, .int ((j50_0 / 2) - 70), .int (b2i false), .int tl, .int (b2i sp), .int tpo, .long fro, .int (b2i ly)])), (bR, .inl (kR, 33000, .inl (fun k => b2i (v79_5 k))))] := hD
                    have hl : lv_has ls 19 [(0, .ref bM), (1, .int (g_M_unitOf pw 0)), (2, .int (b2i j38_0)), (3, .int (j50_0 / 2)), (4, .long v79_0), (6, .long v79_1), (8, .long v79_2), (10, .long v79_3), (12, .int v79_4), (13, .int v90_0), (14, .int v90_1), (15, .int ((((2 * v79_4) + v90_1) - 140) - (b2i j115_0)))] := hl
                    refine lv_iadd hx hb d_M_root_150 ?_
                    refine lv_istore (lv' := [(13, .int ((2 * v90_0) + j150_0)), (0, .ref bM), (1, .int (g_M_unitOf pw 0)), (2, .int (b2i j38_0)), (3, .int (j50_0 / 2)), (4, .long v79_0), (6, .long v79_1), (8, .long v79_2), (10, .long v79_3), (12, .int v79_4), (14, .int v90_1), (15, .int ((((2 * v79_4) + v90_1) - 140) - (b2i j115_0)))]) hx hb d_M_root_151 hl (by decide) rfl (fun ls hl => ?_)
                    refine lv_iinc (v := (v90_1 + (-1))) (lv' := [(14, .int (v90_1 + (-1))), (13, .int ((2 * v90_0) + j150_0)), (0, .ref bM), (1, .int (g_M_unitOf pw 0)), (2, .int (b2i j38_0)), (3, .int (j50_0 / 2)), (4, .long v79_0), (6, .long v79_1), (8, .long v79_2), (10, .long v79_3), (12, .int v79_4), (15, .int ((((2 * v79_4) + v90_1) - 140) - (b2i j115_0)))]) hx hb d_M_root_153 hl (k := 10) rfl rfl (by decide) rfl (fun ls hl => ?_)
                    refine lv_goto (tgt := 90) hx hb d_M_root_156 (by decide) ?_
                    exact hbk (((2 * v90_0) + j150_0), (v90_1 + (-1))) (by clear hP hD hl hS; subst ej150_0; subst ej115_0; unfold nx_M_root_90; (try dsimp only); rw [if_neg c_92]) H locs ls ⟨hP.sub [0, 1, 2, 3, 4] rfl, hD.sub [0, 1, 2, 3, 4] (by decide) rfl, hS, lv_sub hl [2, 3, 4, 5, 6, 7, 8, 9, 10, 1, 0] rfl⟩
                  · skip
                    refine lv_if_lt (tgt := 149) hx hb d_M_root_124 (by decide) (fun c_124 => ?_) (fun c_124 => ?_)
                    · skip
                      refine lv_iconst (v := 0) hx hb d_M_root_149 (by decide) ?_
                      exact J150 (0) H locs ls ⟨by clear hP hD hl hS; (try dsimp only); rw [if_pos c_124], hP.sub [0, 1, 2, 3, 4] rfl, hD.sub [0, 1, 2, 3, 4] (by decide) rfl, hS, lv_sub hl [1, 2, 3, 4, 5, 6, 7, 8, 9, 10, 11, 0] rfl⟩
                    · skip
                      refine lv_iload hx hb d_M_root_127 (lv_at hl 0 rfl) ?_
                      refine lv_bipush (v := 64) hx hb d_M_root_129 (by decide) ?_
                      refine lv_icmp_ge (tgt := 149) hx hb d_M_root_131 (by decide) (fun c_131 => ?_) (fun c_131 => ?_)
                      · skip
                        refine lv_iconst (v := 0) hx hb d_M_root_149 (by decide) ?_
                        exact J150 (0) H locs ls ⟨by clear hP hD hl hS; (try dsimp only); rw [if_neg c_124, if_pos c_131], hP.sub [0, 1, 2, 3, 4] rfl, hD.sub [0, 1, 2, 3, 4] (by decide) rfl, hS, lv_sub hl [1, 2, 3, 4, 5, 6, 7, 8, 9, 10, 11, 0] rfl⟩
                      · skip
                        refine lv_aload_n hx hb d_M_root_134 rfl (lv_at hl 1 rfl) ?_
                        refine va_get (D := (dC, dI)) (ci := 3) (v := .ref bQ) (C := R_M) (T := F_M) (N := 17) hx hb htA in_M hown hK hP 3 rfl rfl 7 (by decide) (htA _ k_256) (fun _ h9 => h9) rfl d_M_root_135 ?_
                        refine lv_iconst (v := 0) hx hb d_M_root_138 (by decide) ?_
                        refine va_lald hx hb hK hP 1 2 rfl rfl in2_0 d_M_root_139 ?_
                        refine lv_iload hx hb d_M_root_140 (lv_at hl 0 rfl) ?_
                        refine lv_lshr (v := (aR (pt (0 : Int32).toNatClampNeg) ((((2 * v79_4) + v90_1) - 140) - (b2i j115_0)))) hx hb d_M_root_142 rfl ?_
                        refine lv_lconst (v := 1) hx hb d_M_root_143 (by decide) ?_
                        refine lv_land hx hb d_M_root_144 ?_
                        refine lv_l2i (v := ((aR (pt (0 : Int32).toNatClampNeg) ((((2 * v79_4) + v90_1) - 140) - (b2i j115_0))) &&& 1).toInt32) hx hb d_M_root_145 rfl ?_
                        refine lv_goto (tgt := 150) hx hb d_M_root_146 (by decide) ?_
                        exact J150 ((((aR (pt (0 : Int32).toNatClampNeg) ((((2 * v79_4) + v90_1) - 140) - (b2i j115_0))) &&& 1).toInt32)) H locs ls ⟨by clear hP hD hl hS; (try dsimp only); rw [if_neg c_124, if_neg c_131], hP.sub [0, 1, 2, 3, 4] rfl, hD.sub [0, 1, 2, 3, 4] (by decide) rfl, hS, lv_sub hl [1, 2, 3, 4, 5, 6, 7, 8, 9, 10, 11, 0] rfl⟩
                · skip
                  refine lv_if_eq (tgt := 114) hx hb d_M_root_107 (by decide) (fun c_107 => ?_) (fun c_107 => ?_)
                  · skip
                    have c_107 : ¬ j38_0 = true := b2i_z c_107
                    refine lv_iconst (v := 0) hx hb d_M_root_114 (by decide) ?_
                    exact J115 (false) H locs ls ⟨by clear hP hD hl hS; (try dsimp only); rw [if_neg c_107], hP.sub [0, 1, 2, 3, 4] rfl, hD.sub [0, 1, 2, 3, 4] (by decide) rfl, hS, lv_sub hl [0, 1, 2, 3, 4, 5, 6, 7, 8, 9, 10] rfl⟩
                  · skip
                    have c_107 : j38_0 = true := b2i_nz c_107
                    refine lv_iconst (v := 1) hx hb d_M_root_110 (by decide) ?_
                    refine lv_goto (tgt := 115) hx hb d_M_root_111 (by decide) ?_
                    exact J115 (true) H locs ls ⟨by clear hP hD hl hS; (try dsimp only); rw [if_pos c_107], hP.sub [0, 1, 2, 3, 4] rfl, hD.sub [0, 1, 2, 3, 4] (by decide) rfl, hS, lv_sub hl [0, 1, 2, 3, 4, 5, 6, 7, 8, 9, 10] rfl⟩
            · skip
              rintro ⟨v90_0, v90_1⟩ H locs ls ev ⟨hP, hD, hS, hl⟩
              have ev90_0 : (lrun (nx_M_root_90 pt j38_0 v79_4) 2 (0, 1)).1 = v90_0 := by rw [← ev]
              have ev90_1 : (lrun (nx_M_root_90 pt j38_0 v79_4) 2 (0, 1)).2 = v90_1 := by rw [← ev]
              clear ev
              have hP : va_P (dC, dI) classes [(bN, .inl (kN, 2, .inl (fun k => b2i (mi k)))), (bQ, .inl (kQ, 2, .inr (.inl pt))), (bP, .inl (kP, 2, .inl pw)), (bM, .inr (3, [.int cd, .int wd, .ref bT, .ref bF, .int al, .ref bN, .ref bP, .ref bQ, .ref bR, .int 104, .int ((j50_0 / 2) - 70), .int (b2i false), .int tl, .int (b2i sp), .int tpo, .long fro, .int (b2i ly)])), (bR, .inl (kR, 33000, .inl (fun k => b2i (v79_5 k))))] H := hP
              have hD : va_D A [(bN, .inl (kN, 2, .inl (fun k => b2i (mi k)))), (bQ, .inl (kQ, 2, .inr (.inl pt))), (bP, .inl (kP, 2, .inl pw)), (bM, .inr (3, [.int cd, .int wd, .ref bT, .ref bF, .int al, .ref bN, .ref bP, .ref bQ, .ref bR, .int 104, .int ((j50_0 / 2) - 70), .int (b2i false), .int tl, .int (b2i sp), .int tpo, .long fro, .int (b2i ly)])), (bR, .inl (kR, 33000, .inl (fun k => b2i (v79_5 k))))] := hD
              have hl : lv_has ls 19 [(0, .ref bM), (1, .int (g_M_unitOf pw 0)), (2, .int (b2i j38_0)), (3, .int (j50_0 / 2)), (4, .long v79_0), (6, .long v79_1), (8, .long v79_2), (10, .long v79_3), (12, .int v79_4), (13, .int v90_0), (14, .int v90_1)] := hl
              refine lv_lload hx hb d_M_root_159 (lv_at hl 4 rfl) ?_
              refine lv_iconst (v := 2) hx hb d_M_root_161 (by decide) ?_
              refine lv_lshl (v := (sL v79_0 2)) hx hb d_M_root_162 rfl ?_
              refine lv_lload hx hb d_M_root_163 (lv_at hl 5 rfl) ?_
              refine lv_bipush (v := 62) hx hb d_M_root_165 (by decide) ?_
              refine lv_lushr (v := (uR v79_1 62)) hx hb d_M_root_167 rfl ?_
              refine lv_lor hx hb d_M_root_168 ?_
              refine lv_lstore (lv' := [(4, .long ((sL v79_0 2) ||| (uR v79_1 62))), (0, .ref bM), (1, .int (g_M_unitOf pw 0)), (2, .int (b2i j38_0)), (3, .int (j50_0 / 2)), (6, .long v79_1), (8, .long v79_2), (10, .long v79_3), (12, .int v79_4), (13, .int v90_0), (14, .int v90_1)]) hx hb d_M_root_169 hl (by decide) rfl (fun ls hl => ?_)
              refine lv_lload hx hb d_M_root_171 (lv_at hl 5 rfl) ?_
              refine lv_iconst (v := 2) hx hb d_M_root_173 (by decide) ?_
              refine lv_lshl (v := (sL v79_1 2)) hx hb d_M_root_174 rfl ?_
              refine lv_iload hx hb d_M_root_175 (lv_at hl 9 rfl) ?_
              refine lv_i2l (v := v90_0.toInt64) hx hb d_M_root_177 rfl ?_
              refine lv_lor hx hb d_M_root_178 ?_
              refine lv_lstore (lv' := [(6, .long ((sL v79_1 2) ||| (v90_0.toInt64))), (4, .long ((sL v79_0 2) ||| (uR v79_1 62))), (0, .ref bM), (1, .int (g_M_unitOf pw 0)), (2, .int (b2i j38_0)), (3, .int (j50_0 / 2)), (8, .long v79_2), (10, .long v79_3), (12, .int v79_4), (13, .int v90_0), (14, .int v90_1)]) hx hb d_M_root_179 hl (by decide) rfl (fun ls hl => ?_)
              refine lv_lload hx hb d_M_root_181 (lv_at hl 6 rfl) ?_
              refine lv_iconst (v := 2) hx hb d_M_root_183 (by decide) ?_
              refine lv_lshl (v := (sL v79_2 2)) hx hb d_M_root_184 rfl ?_
              refine lv_lload hx hb d_M_root_185 (lv_at hl 7 rfl) ?_
              refine lv_bipush (v := 62) hx hb d_M_root_187 (by decide) ?_
              refine lv_lushr (v := (uR v79_3 62)) hx hb d_M_root_189 rfl ?_
              refine lv_lor hx hb d_M_root_190 ?_
              refine lv_lstore (lv' := [(14, .long ((sL v79_2 2) ||| (uR v79_3 62))), (6, .long ((sL v79_1 2) ||| (v90_0.toInt64))), (4, .long ((sL v79_0 2) ||| (uR v79_1 62))), (0, .ref bM), (1, .int (g_M_unitOf pw 0)), (2, .int (b2i j38_0)), (3, .int (j50_0 / 2)), (8, .long v79_2), (10, .long v79_3), (12, .int v79_4), (13, .int v90_0)]) hx hb d_M_root_191 hl (by decide) rfl (fun ls hl => ?_)
              refine lv_lload hx hb d_M_root_193 (lv_at hl 8 rfl) ?_
              refine lv_iconst (v := 2) hx hb d_M_root_195 (by decide) ?_
              refine lv_lshl (v := (sL v79_3 2)) hx hb d_M_root_196 rfl ?_
              refine lv_lconst (v := 1) hx hb d_M_root_197 (by decide) ?_
              refine lv_lor hx hb d_M_root_198 ?_
              refine lv_lstore (lv' := [(16, .long ((sL v79_3 2) ||| 1)), (14, .long ((sL v79_2 2) ||| (uR v79_3 62))), (6, .long ((sL v79_1 2) ||| (v90_0.toInt64))), (4, .long ((sL v79_0 2) ||| (uR v79_1 62))), (0, .ref bM), (1, .int (g_M_unitOf pw 0)), (2, .int (b2i j38_0)), (3, .int (j50_0 / 2)), (8, .long v79_2), (10, .long v79_3), (12, .int v79_4), (13, .int v90_0)]) hx hb d_M_root_199 hl (by decide) rfl (fun ls hl => ?_)
              refine lv_lload hx hb d_M_root_201 (lv_at hl 3 rfl) ?_
              refine lv_lload hx hb d_M_root_203 (lv_at hl 1 rfl) ?_
              refine W.lcmp hx hb d_M_root_205 ?_
              refine cut_join (X := Bool) 0 0 (fun (x : Bool) (H : Heap) (locs : List Loc) (ls : Array Slot) => (if ((sL v79_0 2) ||| (uR v79_1 62)) = ((sL v79_2 2) ||| (uR v79_3 62)) then if (g_M_below ((sL v79_1 2) ||| (v90_0.toInt64)) ((sL v79_3 2) ||| 1)) = true then false else true else if (g_M_below ((sL v79_0 2) ||| (uR v79_1 62)) ((sL v79_2 2) ||| (uR v79_3 62))) = true then false else true) = x ∧ va_P (dC, dI) classes [(bN, .inl (kN, 2, .inl (fun k => b2i (mi k)))), (bQ, .inl (kQ, 2, .inr (.inl pt))), (bP, .inl (kP, 2, .inl pw)), (bM, .inr (3, [.int cd, .int wd, .ref bT, .ref bF, .int al, .ref bN, .ref bP, .ref bQ, .ref bR, .int 104, .int ((j50_0 / 2) - 70), .int (b2i false), .int tl, .int (b2i sp), .int tpo, .long fro, .int (b2i ly)])), (bR, .inl (kR, 33000, .inl (fun k => b2i (v79_5 k))))] H ∧ va_D A [(bN, .inl (kN, 2, .inl (fun k => b2i (mi k)))), (bQ, .inl (kQ, 2, .inr (.inl pt))), (bP, .inl (kP, 2, .inl pw)), (bM, .inr (3, [.int cd, .int wd, .ref bT, .ref bF, .int al, .ref bN, .ref bP, .ref bQ, .ref bR, .int 104, .int ((j50_0 / 2) - 70), .int (b2i false), .int tl, .int (b2i sp), .int tpo, .long fro, .int (b2i ly)])), (bR, .inl (kR, 33000, .inl (fun k => b2i (v79_5 k))))] ∧ va_S A s.heap H locs ∧ lv_has ls 19 [(0, .ref bM), (1, .int (g_M_unitOf pw 0)), (2, .int (b2i j38_0)), (3, .int (j50_0 / 2)), (4, .long ((sL v79_0 2) ||| (uR v79_1 62))), (6, .long ((sL v79_1 2) ||| (v90_0.toInt64))), (8, .long v79_2), (10, .long v79_3), (12, .int v79_4), (13, .int v90_0), (14, .long ((sL v79_2 2) ||| (uR v79_3 62))), (16, .long ((sL v79_3 2) ||| 1))]) (fun x ls => F0 m 242 ls [.int (b2i x)]) ?_ (fun J242 => ?_)
              · skip
                rintro j242_0 H locs ls ⟨ej242_0, hP, hD, hS, hl⟩
                have ej242_0 : (if ((sL v79_0 2) ||| (uR v79_1 62)) = ((sL v79_2 2) ||| (uR v79_3 62)) then if (g_M_below ((sL v79_1 2) ||| (v90_0.toInt64)) ((sL v79_3 2) ||| 1)) = true then false else true else if (g_M_below ((sL v79_0 2) ||| (uR v79_1 62)) ((sL v79_2 2) ||| (uR v79_3 62))) = true then false else true) = j242_0 := ej242_0
                have hP : va_P (dC, dI) classes [(bN, .inl (kN, 2, .inl (fun k => b2i (mi k)))), (bQ, .inl (kQ, 2, .inr (.inl pt))), (bP, .inl (kP, 2, .inl pw)), (bM, .inr (3, [.int cd, .int wd, .ref bT, .ref bF, .int al, .ref bN, .ref bP, .ref bQ, .ref bR, .int 104, .int ((j50_0 / 2) - 70), .int (b2i false), .int tl, .int (b2i sp), .int tpo, .long fro, .int (b2i ly)])), (bR, .inl (kR, 33000, .inl (fun k => b2i (v79_5 k))))] H := hP
                have hD : va_D A [(bN, .inl (kN, 2, .inl (fun k => b2i (mi k)))), (bQ, .inl (kQ, 2, .inr (.inl pt))), (bP, .inl (kP, 2, .inl pw)), (bM, .inr (3, [.int cd, .int wd, .ref bT, .ref bF, .int al, .ref bN, .ref bP, .ref bQ, .ref bR, .int 104, .int ((j50_0 / 2) - 70), .int (b2i false), .int tl, .int (b2i sp), .int tpo, .long fro, .int (b2i ly)])), (bR, .inl (kR, 33000, .inl (fun k => b2i (v79_5 k))))] := hD
                have hl : lv_has ls 19 [(0, .ref bM), (1, .int (g_M_unitOf pw 0)), (2, .int (b2i j38_0)), (3, .int (j50_0 / 2)), (4, .long ((sL v79_0 2) ||| (uR v79_1 62))), (6, .long ((sL v79_1 2) ||| (v90_0.toInt64))), (8, .long v79_2), (10, .long v79_3), (12, .int v79_4), (13, .int v90_0), (14, .long ((sL v79_2 2) ||| (uR v79_3 62))), (16, .long ((sL v79_3 2) ||| 1))] := hl
                refine lv_istore (lv' := [(18, .int (b2i j242_0)), (0, .ref bM), (1, .int (g_M_unitOf pw 0)), (2, .int (b2i j38_0)), (3, .int (j50_0 / 2)), (4, .long ((sL v79_0 2) ||| (uR v79_1 62))), (6, .long ((sL v79_1 2) ||| (v90_0.toInt64))), (8, .long v79_2), (10, .long v79_3), (12, .int v79_4), (13, .int v90_0), (14, .long ((sL v79_2 2) ||| (uR v79_3 62))), (16, .long ((sL v79_3 2) ||| 1))]) hx hb d_M_root_242 hl (by decide) rfl (fun ls hl => ?_)
                refine lv_iload hx hb d_M_root_244 (lv_at hl 0 rfl) ?_
                refine cut_join (X := Int64 × Int64) 0 0 (fun (x : Int64 × Int64) (H : Heap) (locs : List Loc) (ls : Array Slot) => (if j242_0 = true then let j269_0 : Int64 := if (g_M_below ((sL v79_1 2) ||| (v90_0.toInt64)) ((sL v79_3 2) ||| 1)) = true then 1 else 0; (((((sL v79_0 2) ||| (uR v79_1 62)) - ((sL v79_2 2) ||| (uR v79_3 62))) - j269_0)) else ((sL v79_0 2) ||| (uR v79_1 62))) = x.1 ∧ (if j242_0 = true then let j269_0 : Int64 := if (g_M_below ((sL v79_1 2) ||| (v90_0.toInt64)) ((sL v79_3 2) ||| 1)) = true then 1 else 0; ((((sL v79_1 2) ||| (v90_0.toInt64)) - ((sL v79_3 2) ||| 1))) else ((sL v79_1 2) ||| (v90_0.toInt64))) = x.2 ∧ va_P (dC, dI) classes [(bN, .inl (kN, 2, .inl (fun k => b2i (mi k)))), (bQ, .inl (kQ, 2, .inr (.inl pt))), (bP, .inl (kP, 2, .inl pw)), (bM, .inr (3, [.int cd, .int wd, .ref bT, .ref bF, .int al, .ref bN, .ref bP, .ref bQ, .ref bR, .int 104, .int ((j50_0 / 2) - 70), .int (b2i false), .int tl, .int (b2i sp), .int tpo, .long fro, .int (b2i ly)])), (bR, .inl (kR, 33000, .inl (fun k => b2i (v79_5 k))))] H ∧ va_D A [(bN, .inl (kN, 2, .inl (fun k => b2i (mi k)))), (bQ, .inl (kQ, 2, .inr (.inl pt))), (bP, .inl (kP, 2, .inl pw)), (bM, .inr (3, [.int cd, .int wd, .ref bT, .ref bF, .int al, .ref bN, .ref bP, .ref bQ, .ref bR, .int 104, .int ((j50_0 / 2) - 70), .int (b2i false), .int tl, .int (b2i sp), .int tpo, .long fro, .int (b2i ly)])), (bR, .inl (kR, 33000, .inl (fun k => b2i (v79_5 k))))] ∧ va_S A s.heap H locs ∧ lv_has ls 19 [(0, .ref bM), (1, .int (g_M_unitOf pw 0)), (2, .int (b2i j38_0)), (3, .int (j50_0 / 2)), (4, .long x.1), (6, .long x.2), (8, .long v79_2), (10, .long v79_3), (12, .int v79_4), (13, .int v90_0), (14, .long ((sL v79_2 2) ||| (uR v79_3 62))), (16, .long ((sL v79_3 2) ||| 1)), (18, .int (b2i j242_0))]) (fun x ls => F0 m 279 ls []) ?_ (fun J279 => ?_)
                · skip
                  rintro ⟨j279_0, j279_1⟩ H locs ls ⟨ej279_0, ej279_1, hP, hD, hS, hl⟩
                  have ej279_0 : (if j242_0 = true then let j269_0 : Int64 := if (g_M_below ((sL v79_1 2) ||| (v90_0.toInt64)) ((sL v79_3 2) ||| 1)) = true then 1 else 0; (((((sL v79_0 2) ||| (uR v79_1 62)) - ((sL v79_2 2) ||| (uR v79_3 62))) - j269_0)) else ((sL v79_0 2) ||| (uR v79_1 62))) = j279_0 := ej279_0
                  have ej279_1 : (if j242_0 = true then let j269_0 : Int64 := if (g_M_below ((sL v79_1 2) ||| (v90_0.toInt64)) ((sL v79_3 2) ||| 1)) = true then 1 else 0; ((((sL v79_1 2) ||| (v90_0.toInt64)) - ((sL v79_3 2) ||| 1))) else ((sL v79_1 2) ||| (v90_0.toInt64))) = j279_1 := ej279_1
                  have hP : va_P (dC, dI) classes [(bN, .inl (kN, 2, .inl (fun k => b2i (mi k)))), (bQ, .inl (kQ, 2, .inr (.inl pt))), (bP, .inl (kP, 2, .inl pw)), (bM, .inr (3, [.int cd, .int wd, .ref bT, .ref bF, .int al, .ref bN, .ref bP, .ref bQ, .ref bR, .int 104, .int ((j50_0 / 2) - 70), .int (b2i false), .int tl, .int (b2i sp), .int tpo, .long fro, .int (b2i ly)])), (bR, .inl (kR, 33000, .inl (fun k => b2i (v79_5 k))))] H := hP
                  have hD : va_D A [(bN, .inl (kN, 2, .inl (fun k => b2i (mi k)))), (bQ, .inl (kQ, 2, .inr (.inl pt))), (bP, .inl (kP, 2, .inl pw)), (bM, .inr (3, [.int cd, .int wd, .ref bT, .ref bF, .int al, .ref bN, .ref bP, .ref bQ, .ref bR, .int 104, .int ((j50_0 / 2) - 70), .int (b2i false), .int tl, .int (b2i sp), .int tpo, .long fro, .int (b2i ly)])), (bR, .inl (kR, 33000, .inl (fun k => b2i (v79_5 k))))] := hD
                  have hl : lv_has ls 19 [(0, .ref bM), (1, .int (g_M_unitOf pw 0)), (2, .int (b2i j38_0)), (3, .int (j50_0 / 2)), (4, .long j279_0), (6, .long j279_1), (8, .long v79_2), (10, .long v79_3), (12, .int v79_4), (13, .int v90_0), (14, .long ((sL v79_2 2) ||| (uR v79_3 62))), (16, .long ((sL v79_3 2) ||| 1)), (18, .int (b2i j242_0))] := hl
                  refine lv_lload hx hb d_M_root_279 (lv_at hl 6 rfl) ?_
                  refine lv_iconst (v := 1) hx hb d_M_root_281 (by decide) ?_
                  refine lv_lshl (v := (sL v79_2 1)) hx hb d_M_root_282 rfl ?_
                  refine lv_lload hx hb d_M_root_283 (lv_at hl 7 rfl) ?_
                  refine lv_bipush (v := 63) hx hb d_M_root_285 (by decide) ?_
                  refine lv_lushr (v := (uR v79_3 63)) hx hb d_M_root_287 rfl ?_
                  refine lv_lor hx hb d_M_root_288 ?_
                  refine lv_lstore (lv' := [(8, .long ((sL v79_2 1) ||| (uR v79_3 63))), (0, .ref bM), (1, .int (g_M_unitOf pw 0)), (2, .int (b2i j38_0)), (3, .int (j50_0 / 2)), (4, .long j279_0), (6, .long j279_1), (10, .long v79_3), (12, .int v79_4), (13, .int v90_0), (14, .long ((sL v79_2 2) ||| (uR v79_3 62))), (16, .long ((sL v79_3 2) ||| 1)), (18, .int (b2i j242_0))]) hx hb d_M_root_289 hl (by decide) rfl (fun ls hl => ?_)
                  refine lv_lload hx hb d_M_root_291 (lv_at hl 7 rfl) ?_
                  refine lv_iconst (v := 1) hx hb d_M_root_293 (by decide) ?_
                  refine lv_lshl (v := (sL v79_3 1)) hx hb d_M_root_294 rfl ?_
                  refine lv_iload hx hb d_M_root_295 (lv_at hl 12 rfl) ?_
                  refine cut_join (X := Int64) 0 0 (fun (x : Int64) (H : Heap) (locs : List Loc) (ls : Array Slot) => (if j242_0 = true then 1 else 0) = x ∧ va_P (dC, dI) classes [(bN, .inl (kN, 2, .inl (fun k => b2i (mi k)))), (bQ, .inl (kQ, 2, .inr (.inl pt))), (bP, .inl (kP, 2, .inl pw)), (bM, .inr (3, [.int cd, .int wd, .ref bT, .ref bF, .int al, .ref bN, .ref bP, .ref bQ, .ref bR, .int 104, .int ((j50_0 / 2) - 70), .int (b2i false), .int tl, .int (b2i sp), .int tpo, .long fro, .int (b2i ly)])), (bR, .inl (kR, 33000, .inl (fun k => b2i (v79_5 k))))] H ∧ va_D A [(bN, .inl (kN, 2, .inl (fun k => b2i (mi k)))), (bQ, .inl (kQ, 2, .inr (.inl pt))), (bP, .inl (kP, 2, .inl pw)), (bM, .inr (3, [.int cd, .int wd, .ref bT, .ref bF, .int al, .ref bN, .ref bP, .ref bQ, .ref bR, .int 104, .int ((j50_0 / 2) - 70), .int (b2i false), .int tl, .int (b2i sp), .int tpo, .long fro, .int (b2i ly)])), (bR, .inl (kR, 33000, .inl (fun k => b2i (v79_5 k))))] ∧ va_S A s.heap H locs ∧ lv_has ls 19 [(0, .ref bM), (1, .int (g_M_unitOf pw 0)), (2, .int (b2i j38_0)), (3, .int (j50_0 / 2)), (4, .long j279_0), (6, .long j279_1), (8, .long ((sL v79_2 1) ||| (uR v79_3 63))), (10, .long v79_3), (12, .int v79_4), (13, .int v90_0), (14, .long ((sL v79_2 2) ||| (uR v79_3 62))), (16, .long ((sL v79_3 2) ||| 1)), (18, .int (b2i j242_0))]) (fun x ls => F0 m 305 ls [.long x, .long (sL v79_3 1)]) ?_ (fun J305 => ?_)
                  · skip
                    rintro j305_0 H locs ls ⟨ej305_0, hP, hD, hS, hl⟩
                    have ej305_0 : (if j242_0 = true then 1 else 0) = j305_0 := ej305_0
                    have hP : va_P (dC, dI) classes [(bN, .inl (kN, 2, .inl (fun k => b2i (mi k)))), (bQ, .inl (kQ, 2, .inr (.inl pt))), (bP, .inl (kP, 2, .inl pw)), (bM, .inr (3, [.int cd, .int wd, .ref bT, .ref bF, .int al, .ref bN, .ref bP, .ref bQ, .ref bR, .int 104, .int ((j50_0 / 2) - 70), .int (b2i false), .int tl, .int (b2i sp), .int tpo, .long fro, .int (b2i ly)])), (bR, .inl (kR, 33000, .inl (fun k => b2i (v79_5 k))))] H := hP
                    have hD : va_D A [(bN, .inl (kN, 2, .inl (fun k => b2i (mi k)))), (bQ, .inl (kQ, 2, .inr (.inl pt))), (bP, .inl (kP, 2, .inl pw)), (bM, .inr (3, [.int cd, .int wd, .ref bT, .ref bF, .int al, .ref bN, .ref bP, .ref bQ, .ref bR, .int 104, .int ((j50_0 / 2) - 70), .int (b2i false), .int tl, .int (b2i sp), .int tpo, .long fro, .int (b2i ly)])), (bR, .inl (kR, 33000, .inl (fun k => b2i (v79_5 k))))] := hD
                    have hl : lv_has ls 19 [(0, .ref bM), (1, .int (g_M_unitOf pw 0)), (2, .int (b2i j38_0)), (3, .int (j50_0 / 2)), (4, .long j279_0), (6, .long j279_1), (8, .long ((sL v79_2 1) ||| (uR v79_3 63))), (10, .long v79_3), (12, .int v79_4), (13, .int v90_0), (14, .long ((sL v79_2 2) ||| (uR v79_3 62))), (16, .long ((sL v79_3 2) ||| 1)), (18, .int (b2i j242_0))] := hl
                    refine lv_lor hx hb d_M_root_305 ?_
                    refine lv_lstore (lv' := [(10, .long ((sL v79_3 1) ||| j305_0)), (0, .ref bM), (1, .int (g_M_unitOf pw 0)), (2, .int (b2i j38_0)), (3, .int (j50_0 / 2)), (4, .long j279_0), (6, .long j279_1), (8, .long ((sL v79_2 1) ||| (uR v79_3 63))), (12, .int v79_4), (13, .int v90_0), (14, .long ((sL v79_2 2) ||| (uR v79_3 62))), (16, .long ((sL v79_3 2) ||| 1)), (18, .int (b2i j242_0))]) hx hb d_M_root_306 hl (by decide) rfl (fun ls hl => ?_)
                    refine lv_aload_n hx hb d_M_root_308 rfl (lv_at hl 1 rfl) ?_
                    refine va_get (D := (dC, dI)) (ci := 3) (v := .ref bR) (C := R_M) (T := F_M) (N := 17) hx hb htA in_M hown hK hP 3 rfl rfl 8 (by decide) (htA _ k_272) (fun _ h9 => h9) rfl d_M_root_309 ?_
                    refine lv_iload hx hb d_M_root_312 (lv_at hl 8 rfl) ?_
                    refine lv_iload hx hb d_M_root_314 (lv_at hl 12 rfl) ?_
                    refine va_zast (x := b2i j242_0) hx hb hK hP hD hS 4 3 rfl rfl (r_in c_81 hinv) d_M_root_316 (fun H locs hP hD hS => ?_)
                    rw [upd_b2i] at hP hD
                    have hP : va_P (dC, dI) classes [(bN, .inl (kN, 2, .inl (fun k => b2i (mi k)))), (bQ, .inl (kQ, 2, .inr (.inl pt))), (bP, .inl (kP, 2, .inl pw)), (bM, .inr (3, [.int cd, .int wd, .ref bT, .ref bF, .int al, .ref bN, .ref bP, .ref bQ, .ref bR, .int 104, .int ((j50_0 / 2) - 70), .int (b2i false), .int tl, .int (b2i sp), .int tpo, .long fro, .int (b2i ly)])), (bR, .inl (kR, 33000, .inl (fun k => b2i ((updB v79_5 v79_4.toNatClampNeg j242_0) k))))] H := hP
                    have hD : va_D A [(bN, .inl (kN, 2, .inl (fun k => b2i (mi k)))), (bQ, .inl (kQ, 2, .inr (.inl pt))), (bP, .inl (kP, 2, .inl pw)), (bM, .inr (3, [.int cd, .int wd, .ref bT, .ref bF, .int al, .ref bN, .ref bP, .ref bQ, .ref bR, .int 104, .int ((j50_0 / 2) - 70), .int (b2i false), .int tl, .int (b2i sp), .int tpo, .long fro, .int (b2i ly)])), (bR, .inl (kR, 33000, .inl (fun k => b2i ((updB v79_5 v79_4.toNatClampNeg j242_0) k))))] := hD
                    refine lv_iinc (v := (v79_4 + (-1))) (lv' := [(12, .int (v79_4 + (-1))), (10, .long ((sL v79_3 1) ||| j305_0)), (0, .ref bM), (1, .int (g_M_unitOf pw 0)), (2, .int (b2i j38_0)), (3, .int (j50_0 / 2)), (4, .long j279_0), (6, .long j279_1), (8, .long ((sL v79_2 1) ||| (uR v79_3 63))), (13, .int v90_0), (14, .long ((sL v79_2 2) ||| (uR v79_3 62))), (16, .long ((sL v79_3 2) ||| 1)), (18, .int (b2i j242_0))]) hx hb d_M_root_317 hl (k := 8) rfl rfl (by decide) rfl (fun ls hl => ?_)
                    refine lv_goto (tgt := 79) hx hb d_M_root_320 (by decide) ?_
                    exact hbk (j279_0, j279_1, ((sL v79_2 1) ||| (uR v79_3 63)), ((sL v79_3 1) ||| j305_0), (v79_4 + (-1)), (updB v79_5 v79_4.toNatClampNeg j242_0)) (by clear hP hD hl hS; subst ej305_0; subst ej279_1; subst ej279_0; subst ej242_0; subst ev90_1; subst ev90_0; unfold nx_M_root_79; (try dsimp only); rw [if_neg c_81]) H locs ls ⟨(dec_le c_81 hinv), hP.sub [0, 1, 2, 3, 4] rfl, hD.sub [0, 1, 2, 3, 4] (by decide) rfl, hS, lv_sub hl [2, 3, 4, 5, 6, 7, 8, 1, 0] rfl⟩
                  · skip
                    refine lv_if_eq (tgt := 304) hx hb d_M_root_297 (by decide) (fun c_297 => ?_) (fun c_297 => ?_)
                    · skip
                      have c_297 : ¬ j242_0 = true := b2i_z c_297
                      refine lv_lconst (v := 0) hx hb d_M_root_304 (by decide) ?_
                      exact J305 (0) H locs ls ⟨by clear hP hD hl hS; (try dsimp only); rw [if_neg c_297], hP.sub [0, 1, 2, 3, 4] rfl, hD.sub [0, 1, 2, 3, 4] (by decide) rfl, hS, lv_sub hl [1, 2, 3, 4, 5, 6, 0, 7, 8, 9, 10, 11, 12] rfl⟩
                    · skip
                      have c_297 : j242_0 = true := b2i_nz c_297
                      refine lv_lconst (v := 1) hx hb d_M_root_300 (by decide) ?_
                      refine lv_goto (tgt := 305) hx hb d_M_root_301 (by decide) ?_
                      exact J305 (1) H locs ls ⟨by clear hP hD hl hS; (try dsimp only); rw [if_pos c_297], hP.sub [0, 1, 2, 3, 4] rfl, hD.sub [0, 1, 2, 3, 4] (by decide) rfl, hS, lv_sub hl [1, 2, 3, 4, 5, 6, 0, 7, 8, 9, 10, 11, 12] rfl⟩
                · skip
                  refine lv_if_eq (tgt := 279) hx hb d_M_root_246 (by decide) (fun c_246 => ?_) (fun c_246 => ?_)
                  · skip
                    have c_246 : ¬ j242_0 = true := b2i_z c_246
                    exact J279 (((sL v79_0 2) ||| (uR v79_1 62)), ((sL v79_1 2) ||| (v90_0.toInt64))) H locs ls ⟨by clear hP hD hl hS; (try dsimp only); rw [if_neg c_246], by clear hP hD hl hS; (try dsimp only); rw [if_neg c_246], hP.sub [0, 1, 2, 3, 4] rfl, hD.sub [0, 1, 2, 3, 4] (by decide) rfl, hS, lv_sub hl [1, 2, 3, 4, 5, 6, 7, 8, 9, 10, 11, 12, 0] rfl⟩
                  · skip
                    have c_246 : j242_0 = true := b2i_nz c_246
                    refine lv_lload hx hb d_M_root_249 (lv_at hl 5 rfl) ?_
                    refine lv_lload hx hb d_M_root_251 (lv_at hl 11 rfl) ?_
                    refine lv_lsub hx hb d_M_root_253 ?_
                    refine lv_lload hx hb d_M_root_254 (lv_at hl 6 rfl) ?_
                    refine lv_lload hx hb d_M_root_256 (lv_at hl 12 rfl) ?_
                    have hPc := hP.sub (ws' := []) [] rfl
                    have hDc := hD.sub (ws' := []) [] (by decide) rfl
                    have hKc := hK.sub (tys' := []) [] rfl
                    have hFc := va_free (wc := []) hD hS hA [] rfl
                    refine cc_i (va_runS (As := [.long ((sL v79_1 2) ||| (v90_0.toInt64)), .long ((sL v79_3 2) ||| 1)]) (rest := [.long (((sL v79_0 2) ||| (uR v79_1 62)) - ((sL v79_2 2) ||| (uR v79_3 62)))]) ⟨hx, hb, hml, hown, htA⟩ (c_M_below l dC dI H.size ((sL v79_1 2) ||| (v90_0.toInt64)) ((sL v79_3 2) ||| 1)) (va_cwS 2 htA (gi_S k_330 k_331 k_263 (gi_code k_238)) rfl rfl rfl (by decide +kernel) ⟨Nat.le_of_ble_eq_true rfl, Nat.le_of_ble_eq_true rfl⟩) (pre_S hnw hPc hKc hDc) rfl rfl hl.1 rfl (lv_room (Nat.le_of_ble_eq_true rfl)) d_M_root_258 ⟨Nat.le_of_ble_eq_true rfl, Nat.le_of_ble_eq_true rfl⟩) hS hFc hP hD [] [0, 1, 2, 3, 4] (wr := [(bN, .inl (kN, 2, .inl (fun k => b2i (mi k)))), (bQ, .inl (kQ, 2, .inr (.inl pt))), (bP, .inl (kP, 2, .inl pw)), (bM, .inr (3, [.int cd, .int wd, .ref bT, .ref bF, .int al, .ref bN, .ref bP, .ref bQ, .ref bR, .int 104, .int ((j50_0 / 2) - 70), .int (b2i false), .int tl, .int (b2i sp), .int tpo, .long fro, .int (b2i ly)])), (bR, .inl (kR, 33000, .inl (fun k => b2i (v79_5 k))))]) rfl rfl (by decide) (by decide) (fun H locs hP hD hS => ?_)
                    have hP : va_P (dC, dI) classes [(bN, .inl (kN, 2, .inl (fun k => b2i (mi k)))), (bQ, .inl (kQ, 2, .inr (.inl pt))), (bP, .inl (kP, 2, .inl pw)), (bM, .inr (3, [.int cd, .int wd, .ref bT, .ref bF, .int al, .ref bN, .ref bP, .ref bQ, .ref bR, .int 104, .int ((j50_0 / 2) - 70), .int (b2i false), .int tl, .int (b2i sp), .int tpo, .long fro, .int (b2i ly)])), (bR, .inl (kR, 33000, .inl (fun k => b2i (v79_5 k))))] H := hP
                    have hD : va_D A [(bN, .inl (kN, 2, .inl (fun k => b2i (mi k)))), (bQ, .inl (kQ, 2, .inr (.inl pt))), (bP, .inl (kP, 2, .inl pw)), (bM, .inr (3, [.int cd, .int wd, .ref bT, .ref bF, .int al, .ref bN, .ref bP, .ref bQ, .ref bR, .int 104, .int ((j50_0 / 2) - 70), .int (b2i false), .int tl, .int (b2i sp), .int tpo, .long fro, .int (b2i ly)])), (bR, .inl (kR, 33000, .inl (fun k => b2i (v79_5 k))))] := hD
                    refine cut_join (X := Int64) 0 0 (fun (x : Int64) (H : Heap) (locs : List Loc) (ls : Array Slot) => (if (g_M_below ((sL v79_1 2) ||| (v90_0.toInt64)) ((sL v79_3 2) ||| 1)) = true then 1 else 0) = x ∧ va_P (dC, dI) classes [(bN, .inl (kN, 2, .inl (fun k => b2i (mi k)))), (bQ, .inl (kQ, 2, .inr (.inl pt))), (bP, .inl (kP, 2, .inl pw)), (bM, .inr (3, [.int cd, .int wd, .ref bT, .ref bF, .int al, .ref bN, .ref bP, .ref bQ, .ref bR, .int 104, .int ((j50_0 / 2) - 70), .int (b2i false), .int tl, .int (b2i sp), .int tpo, .long fro, .int (b2i ly)])), (bR, .inl (kR, 33000, .inl (fun k => b2i (v79_5 k))))] H ∧ va_D A [(bN, .inl (kN, 2, .inl (fun k => b2i (mi k)))), (bQ, .inl (kQ, 2, .inr (.inl pt))), (bP, .inl (kP, 2, .inl pw)), (bM, .inr (3, [.int cd, .int wd, .ref bT, .ref bF, .int al, .ref bN, .ref bP, .ref bQ, .ref bR, .int 104, .int ((j50_0 / 2) - 70), .int (b2i false), .int tl, .int (b2i sp), .int tpo, .long fro, .int (b2i ly)])), (bR, .inl (kR, 33000, .inl (fun k => b2i (v79_5 k))))] ∧ va_S A s.heap H locs ∧ lv_has ls 19 [(0, .ref bM), (1, .int (g_M_unitOf pw 0)), (2, .int (b2i j38_0)), (3, .int (j50_0 / 2)), (4, .long ((sL v79_0 2) ||| (uR v79_1 62))), (6, .long ((sL v79_1 2) ||| (v90_0.toInt64))), (8, .long v79_2), (10, .long v79_3), (12, .int v79_4), (13, .int v90_0), (14, .long ((sL v79_2 2) ||| (uR v79_3 62))), (16, .long ((sL v79_3 2) ||| 1)), (18, .int (b2i j242_0))]) (fun x ls => F0 m 269 ls [.long x, .long (((sL v79_0 2) ||| (uR v79_1 62)) - ((sL v79_2 2) ||| (uR v79_3 62)))]) ?_ (fun J269 => ?_)
                    · skip
                      rintro j269_0 H locs ls ⟨ej269_0, hP, hD, hS, hl⟩
                      have ej269_0 : (if (g_M_below ((sL v79_1 2) ||| (v90_0.toInt64)) ((sL v79_3 2) ||| 1)) = true then 1 else 0) = j269_0 := ej269_0
                      have hP : va_P (dC, dI) classes [(bN, .inl (kN, 2, .inl (fun k => b2i (mi k)))), (bQ, .inl (kQ, 2, .inr (.inl pt))), (bP, .inl (kP, 2, .inl pw)), (bM, .inr (3, [.int cd, .int wd, .ref bT, .ref bF, .int al, .ref bN, .ref bP, .ref bQ, .ref bR, .int 104, .int ((j50_0 / 2) - 70), .int (b2i false), .int tl, .int (b2i sp), .int tpo, .long fro, .int (b2i ly)])), (bR, .inl (kR, 33000, .inl (fun k => b2i (v79_5 k))))] H := hP
                      have hD : va_D A [(bN, .inl (kN, 2, .inl (fun k => b2i (mi k)))), (bQ, .inl (kQ, 2, .inr (.inl pt))), (bP, .inl (kP, 2, .inl pw)), (bM, .inr (3, [.int cd, .int wd, .ref bT, .ref bF, .int al, .ref bN, .ref bP, .ref bQ, .ref bR, .int 104, .int ((j50_0 / 2) - 70), .int (b2i false), .int tl, .int (b2i sp), .int tpo, .long fro, .int (b2i ly)])), (bR, .inl (kR, 33000, .inl (fun k => b2i (v79_5 k))))] := hD
                      have hl : lv_has ls 19 [(0, .ref bM), (1, .int (g_M_unitOf pw 0)), (2, .int (b2i j38_0)), (3, .int (j50_0 / 2)), (4, .long ((sL v79_0 2) ||| (uR v79_1 62))), (6, .long ((sL v79_1 2) ||| (v90_0.toInt64))), (8, .long v79_2), (10, .long v79_3), (12, .int v79_4), (13, .int v90_0), (14, .long ((sL v79_2 2) ||| (uR v79_3 62))), (16, .long ((sL v79_3 2) ||| 1)), (18, .int (b2i j242_0))] := hl
                      refine lv_lsub hx hb d_M_root_269 ?_
                      refine lv_lstore (lv' := [(4, .long ((((sL v79_0 2) ||| (uR v79_1 62)) - ((sL v79_2 2) ||| (uR v79_3 62))) - j269_0)), (0, .ref bM), (1, .int (g_M_unitOf pw 0)), (2, .int (b2i j38_0)), (3, .int (j50_0 / 2)), (6, .long ((sL v79_1 2) ||| (v90_0.toInt64))), (8, .long v79_2), (10, .long v79_3), (12, .int v79_4), (13, .int v90_0), (14, .long ((sL v79_2 2) ||| (uR v79_3 62))), (16, .long ((sL v79_3 2) ||| 1)), (18, .int (b2i j242_0))]) hx hb d_M_root_270 hl (by decide) rfl (fun ls hl => ?_)
                      refine lv_lload hx hb d_M_root_272 (lv_at hl 5 rfl) ?_
                      refine lv_lload hx hb d_M_root_274 (lv_at hl 11 rfl) ?_
                      refine lv_lsub hx hb d_M_root_276 ?_
                      refine lv_lstore (lv' := [(6, .long (((sL v79_1 2) ||| (v90_0.toInt64)) - ((sL v79_3 2) ||| 1))), (4, .long ((((sL v79_0 2) ||| (uR v79_1 62)) - ((sL v79_2 2) ||| (uR v79_3 62))) - j269_0)), (0, .ref bM), (1, .int (g_M_unitOf pw 0)), (2, .int (b2i j38_0)), (3, .int (j50_0 / 2)), (8, .long v79_2), (10, .long v79_3), (12, .int v79_4), (13, .int v90_0), (14, .long ((sL v79_2 2) ||| (uR v79_3 62))), (16, .long ((sL v79_3 2) ||| 1)), (18, .int (b2i j242_0))]) hx hb d_M_root_277 hl (by decide) rfl (fun ls hl => ?_)
                      exact J279 (((((sL v79_0 2) ||| (uR v79_1 62)) - ((sL v79_2 2) ||| (uR v79_3 62))) - j269_0), (((sL v79_1 2) ||| (v90_0.toInt64)) - ((sL v79_3 2) ||| 1))) H locs ls ⟨by clear hP hD hl hS; subst ej269_0; (try dsimp only); rw [if_pos c_246], by clear hP hD hl hS; subst ej269_0; (try dsimp only); rw [if_pos c_246], hP.sub [0, 1, 2, 3, 4] rfl, hD.sub [0, 1, 2, 3, 4] (by decide) rfl, hS, lv_sub hl [2, 3, 4, 5, 1, 0, 6, 7, 8, 9, 10, 11, 12] rfl⟩
                    · skip
                      refine lv_if_eq (tgt := 268) hx hb d_M_root_261 (by decide) (fun c_261 => ?_) (fun c_261 => ?_)
                      · skip
                        have c_261 : ¬ (g_M_below ((sL v79_1 2) ||| (v90_0.toInt64)) ((sL v79_3 2) ||| 1)) = true := b2i_z c_261
                        refine lv_lconst (v := 0) hx hb d_M_root_268 (by decide) ?_
                        exact J269 (0) H locs ls ⟨by clear hP hD hl hS; (try dsimp only); rw [if_neg c_261], hP.sub [0, 1, 2, 3, 4] rfl, hD.sub [0, 1, 2, 3, 4] (by decide) rfl, hS, lv_sub hl [1, 2, 3, 4, 5, 6, 7, 8, 9, 10, 11, 12, 0] rfl⟩
                      · skip
                        have c_261 : (g_M_below ((sL v79_1 2) ||| (v90_0.toInt64)) ((sL v79_3 2) ||| 1)) = true := b2i_nz c_261
                        refine lv_lconst (v := 1) hx hb d_M_root_264 (by decide) ?_
                        refine lv_goto (tgt := 269) hx hb d_M_root_265 (by decide) ?_
                        exact J269 (1) H locs ls ⟨by clear hP hD hl hS; (try dsimp only); rw [if_pos c_261], hP.sub [0, 1, 2, 3, 4] rfl, hD.sub [0, 1, 2, 3, 4] (by decide) rfl, hS, lv_sub hl [1, 2, 3, 4, 5, 6, 7, 8, 9, 10, 11, 12, 0] rfl⟩
              · skip
                refine lv_if_eq (tgt := 227) hx hb d_M_root_206 (by decide) (fun c_206 => ?_) (fun c_206 => ?_)
                · skip
                  have c_206 : ((sL v79_0 2) ||| (uR v79_1 62)) = ((sL v79_2 2) ||| (uR v79_3 62)) := (lg_cmp_eq _ _).mp c_206
                  refine lv_lload hx hb d_M_root_227 (lv_at hl 2 rfl) ?_
                  refine lv_lload hx hb d_M_root_229 (lv_at hl 0 rfl) ?_
                  have hPc := hP.sub (ws' := []) [] rfl
                  have hDc := hD.sub (ws' := []) [] (by decide) rfl
                  have hKc := hK.sub (tys' := []) [] rfl
                  have hFc := va_free (wc := []) hD hS hA [] rfl
                  refine cc_i (va_runS (As := [.long ((sL v79_1 2) ||| (v90_0.toInt64)), .long ((sL v79_3 2) ||| 1)]) (rest := []) ⟨hx, hb, hml, hown, htA⟩ (c_M_below l dC dI H.size ((sL v79_1 2) ||| (v90_0.toInt64)) ((sL v79_3 2) ||| 1)) (va_cwS 2 htA (gi_S k_330 k_331 k_263 (gi_code k_238)) rfl rfl rfl (by decide +kernel) ⟨Nat.le_of_ble_eq_true rfl, Nat.le_of_ble_eq_true rfl⟩) (pre_S hnw hPc hKc hDc) rfl rfl hl.1 rfl (lv_room (Nat.le_of_ble_eq_true rfl)) d_M_root_231 ⟨Nat.le_of_ble_eq_true rfl, Nat.le_of_ble_eq_true rfl⟩) hS hFc hP hD [] [0, 1, 2, 3, 4] (wr := [(bN, .inl (kN, 2, .inl (fun k => b2i (mi k)))), (bQ, .inl (kQ, 2, .inr (.inl pt))), (bP, .inl (kP, 2, .inl pw)), (bM, .inr (3, [.int cd, .int wd, .ref bT, .ref bF, .int al, .ref bN, .ref bP, .ref bQ, .ref bR, .int 104, .int ((j50_0 / 2) - 70), .int (b2i false), .int tl, .int (b2i sp), .int tpo, .long fro, .int (b2i ly)])), (bR, .inl (kR, 33000, .inl (fun k => b2i (v79_5 k))))]) rfl rfl (by decide) (by decide) (fun H locs hP hD hS => ?_)
                  have hP : va_P (dC, dI) classes [(bN, .inl (kN, 2, .inl (fun k => b2i (mi k)))), (bQ, .inl (kQ, 2, .inr (.inl pt))), (bP, .inl (kP, 2, .inl pw)), (bM, .inr (3, [.int cd, .int wd, .ref bT, .ref bF, .int al, .ref bN, .ref bP, .ref bQ, .ref bR, .int 104, .int ((j50_0 / 2) - 70), .int (b2i false), .int tl, .int (b2i sp), .int tpo, .long fro, .int (b2i ly)])), (bR, .inl (kR, 33000, .inl (fun k => b2i (v79_5 k))))] H := hP
                  have hD : va_D A [(bN, .inl (kN, 2, .inl (fun k => b2i (mi k)))), (bQ, .inl (kQ, 2, .inr (.inl pt))), (bP, .inl (kP, 2, .inl pw)), (bM, .inr (3, [.int cd, .int wd, .ref bT, .ref bF, .int al, .ref bN, .ref bP, .ref bQ, .ref bR, .int 104, .int ((j50_0 / 2) - 70), .int (b2i false), .int tl, .int (b2i sp), .int tpo, .long fro, .int (b2i ly)])), (bR, .inl (kR, 33000, .inl (fun k => b2i (v79_5 k))))] := hD
                  refine lv_if_ne (tgt := 241) hx hb d_M_root_234 (by decide) (fun c_234 => ?_) (fun c_234 => ?_)
                  · skip
                    have c_234 : (g_M_below ((sL v79_1 2) ||| (v90_0.toInt64)) ((sL v79_3 2) ||| 1)) = true := b2i_nz c_234
                    refine lv_iconst (v := 0) hx hb d_M_root_241 (by decide) ?_
                    exact J242 (false) H locs ls ⟨by clear hP hD hl hS; (try dsimp only); rw [if_pos c_206, if_pos c_234], hP.sub [0, 1, 2, 3, 4] rfl, hD.sub [0, 1, 2, 3, 4] (by decide) rfl, hS, lv_sub hl [4, 5, 6, 7, 3, 2, 8, 9, 10, 11, 1, 0] rfl⟩
                  · skip
                    have c_234 : ¬ (g_M_below ((sL v79_1 2) ||| (v90_0.toInt64)) ((sL v79_3 2) ||| 1)) = true := b2i_z c_234
                    refine lv_iconst (v := 1) hx hb d_M_root_237 (by decide) ?_
                    refine lv_goto (tgt := 242) hx hb d_M_root_238 (by decide) ?_
                    exact J242 (true) H locs ls ⟨by clear hP hD hl hS; (try dsimp only); rw [if_pos c_206, if_neg c_234], hP.sub [0, 1, 2, 3, 4] rfl, hD.sub [0, 1, 2, 3, 4] (by decide) rfl, hS, lv_sub hl [4, 5, 6, 7, 3, 2, 8, 9, 10, 11, 1, 0] rfl⟩
                · skip
                  have c_206 : ¬ ((sL v79_0 2) ||| (uR v79_1 62)) = ((sL v79_2 2) ||| (uR v79_3 62)) := fun h9 => c_206 ((lg_cmp_eq _ _).mpr h9)
                  refine lv_lload hx hb d_M_root_209 (lv_at hl 3 rfl) ?_
                  refine lv_lload hx hb d_M_root_211 (lv_at hl 1 rfl) ?_
                  have hPc := hP.sub (ws' := []) [] rfl
                  have hDc := hD.sub (ws' := []) [] (by decide) rfl
                  have hKc := hK.sub (tys' := []) [] rfl
                  have hFc := va_free (wc := []) hD hS hA [] rfl
                  refine cc_i (va_runS (As := [.long ((sL v79_0 2) ||| (uR v79_1 62)), .long ((sL v79_2 2) ||| (uR v79_3 62))]) (rest := []) ⟨hx, hb, hml, hown, htA⟩ (c_M_below l dC dI H.size ((sL v79_0 2) ||| (uR v79_1 62)) ((sL v79_2 2) ||| (uR v79_3 62))) (va_cwS 2 htA (gi_S k_330 k_331 k_263 (gi_code k_238)) rfl rfl rfl (by decide +kernel) ⟨Nat.le_of_ble_eq_true rfl, Nat.le_of_ble_eq_true rfl⟩) (pre_S hnw hPc hKc hDc) rfl rfl hl.1 rfl (lv_room (Nat.le_of_ble_eq_true rfl)) d_M_root_213 ⟨Nat.le_of_ble_eq_true rfl, Nat.le_of_ble_eq_true rfl⟩) hS hFc hP hD [] [0, 1, 2, 3, 4] (wr := [(bN, .inl (kN, 2, .inl (fun k => b2i (mi k)))), (bQ, .inl (kQ, 2, .inr (.inl pt))), (bP, .inl (kP, 2, .inl pw)), (bM, .inr (3, [.int cd, .int wd, .ref bT, .ref bF, .int al, .ref bN, .ref bP, .ref bQ, .ref bR, .int 104, .int ((j50_0 / 2) - 70), .int (b2i false), .int tl, .int (b2i sp), .int tpo, .long fro, .int (b2i ly)])), (bR, .inl (kR, 33000, .inl (fun k => b2i (v79_5 k))))]) rfl rfl (by decide) (by decide) (fun H locs hP hD hS => ?_)
                  have hP : va_P (dC, dI) classes [(bN, .inl (kN, 2, .inl (fun k => b2i (mi k)))), (bQ, .inl (kQ, 2, .inr (.inl pt))), (bP, .inl (kP, 2, .inl pw)), (bM, .inr (3, [.int cd, .int wd, .ref bT, .ref bF, .int al, .ref bN, .ref bP, .ref bQ, .ref bR, .int 104, .int ((j50_0 / 2) - 70), .int (b2i false), .int tl, .int (b2i sp), .int tpo, .long fro, .int (b2i ly)])), (bR, .inl (kR, 33000, .inl (fun k => b2i (v79_5 k))))] H := hP
                  have hD : va_D A [(bN, .inl (kN, 2, .inl (fun k => b2i (mi k)))), (bQ, .inl (kQ, 2, .inr (.inl pt))), (bP, .inl (kP, 2, .inl pw)), (bM, .inr (3, [.int cd, .int wd, .ref bT, .ref bF, .int al, .ref bN, .ref bP, .ref bQ, .ref bR, .int 104, .int ((j50_0 / 2) - 70), .int (b2i false), .int tl, .int (b2i sp), .int tpo, .long fro, .int (b2i ly)])), (bR, .inl (kR, 33000, .inl (fun k => b2i (v79_5 k))))] := hD
                  refine lv_if_ne (tgt := 223) hx hb d_M_root_216 (by decide) (fun c_216 => ?_) (fun c_216 => ?_)
                  · skip
                    have c_216 : (g_M_below ((sL v79_0 2) ||| (uR v79_1 62)) ((sL v79_2 2) ||| (uR v79_3 62))) = true := b2i_nz c_216
                    refine lv_iconst (v := 0) hx hb d_M_root_223 (by decide) ?_
                    refine lv_goto (tgt := 242) hx hb d_M_root_224 (by decide) ?_
                    exact J242 (false) H locs ls ⟨by clear hP hD hl hS; (try dsimp only); rw [if_neg c_206, if_pos c_216], hP.sub [0, 1, 2, 3, 4] rfl, hD.sub [0, 1, 2, 3, 4] (by decide) rfl, hS, lv_sub hl [4, 5, 6, 7, 3, 2, 8, 9, 10, 11, 1, 0] rfl⟩
                  · skip
                    have c_216 : ¬ (g_M_below ((sL v79_0 2) ||| (uR v79_1 62)) ((sL v79_2 2) ||| (uR v79_3 62))) = true := b2i_z c_216
                    refine lv_iconst (v := 1) hx hb d_M_root_219 (by decide) ?_
                    refine lv_goto (tgt := 242) hx hb d_M_root_220 (by decide) ?_
                    exact J242 (true) H locs ls ⟨by clear hP hD hl hS; (try dsimp only); rw [if_neg c_206, if_neg c_216], hP.sub [0, 1, 2, 3, 4] rfl, hD.sub [0, 1, 2, 3, 4] (by decide) rfl, hS, lv_sub hl [4, 5, 6, 7, 3, 2, 8, 9, 10, 11, 1, 0] rfl⟩
        · skip
          rintro ⟨v79_0, v79_1, v79_2, v79_3, v79_4, v79_5⟩ H locs ls ev ⟨hinv, hP, hD, hS, hl⟩
          have hinv : v79_4.toInt ≤ 103 := hinv
          have ev79_0 : (lrun (nx_M_root_79 pt j38_0) 104 (0, 0, 0, 0, 103, (g_M_empty rb 104))).1 = v79_0 := by rw [← ev]
          have ev79_1 : (lrun (nx_M_root_79 pt j38_0) 104 (0, 0, 0, 0, 103, (g_M_empty rb 104))).2.1 = v79_1 := by rw [← ev]
          have ev79_2 : (lrun (nx_M_root_79 pt j38_0) 104 (0, 0, 0, 0, 103, (g_M_empty rb 104))).2.2.1 = v79_2 := by rw [← ev]
          have ev79_3 : (lrun (nx_M_root_79 pt j38_0) 104 (0, 0, 0, 0, 103, (g_M_empty rb 104))).2.2.2.1 = v79_3 := by rw [← ev]
          have ev79_4 : (lrun (nx_M_root_79 pt j38_0) 104 (0, 0, 0, 0, 103, (g_M_empty rb 104))).2.2.2.2.1 = v79_4 := by rw [← ev]
          have ev79_5 : (lrun (nx_M_root_79 pt j38_0) 104 (0, 0, 0, 0, 103, (g_M_empty rb 104))).2.2.2.2.2 = v79_5 := by rw [← ev]
          clear ev
          have hP : va_P (dC, dI) classes [(bN, .inl (kN, 2, .inl (fun k => b2i (mi k)))), (bQ, .inl (kQ, 2, .inr (.inl pt))), (bP, .inl (kP, 2, .inl pw)), (bM, .inr (3, [.int cd, .int wd, .ref bT, .ref bF, .int al, .ref bN, .ref bP, .ref bQ, .ref bR, .int 104, .int ((j50_0 / 2) - 70), .int (b2i false), .int tl, .int (b2i sp), .int tpo, .long fro, .int (b2i ly)])), (bR, .inl (kR, 33000, .inl (fun k => b2i (v79_5 k))))] H := hP
          have hD : va_D A [(bN, .inl (kN, 2, .inl (fun k => b2i (mi k)))), (bQ, .inl (kQ, 2, .inr (.inl pt))), (bP, .inl (kP, 2, .inl pw)), (bM, .inr (3, [.int cd, .int wd, .ref bT, .ref bF, .int al, .ref bN, .ref bP, .ref bQ, .ref bR, .int 104, .int ((j50_0 / 2) - 70), .int (b2i false), .int tl, .int (b2i sp), .int tpo, .long fro, .int (b2i ly)])), (bR, .inl (kR, 33000, .inl (fun k => b2i (v79_5 k))))] := hD
          have hl : lv_has ls 19 [(0, .ref bM), (1, .int (g_M_unitOf pw 0)), (2, .int (b2i j38_0)), (3, .int (j50_0 / 2)), (4, .long v79_0), (6, .long v79_1), (8, .long v79_2), (10, .long v79_3), (12, .int v79_4)] := hl
          refine lv_aload_n hx hb d_M_root_323 rfl (lv_at hl 0 rfl) ?_
          refine lv_lload hx hb d_M_root_324 (lv_at hl 4 rfl) ?_
          refine lv_lload hx hb d_M_root_326 (lv_at hl 5 rfl) ?_
          refine lv_lor hx hb d_M_root_328 ?_
          refine lv_lconst (v := 0) hx hb d_M_root_329 (by decide) ?_
          refine W.lcmp hx hb d_M_root_330 ?_
          refine cut_join (X := Bool) 0 0 (fun (x : Bool) (H : Heap) (locs : List Loc) (ls : Array Slot) => (if (v79_0 ||| v79_1) = 0 then false else true) = x ∧ va_P (dC, dI) classes [(bN, .inl (kN, 2, .inl (fun k => b2i (mi k)))), (bQ, .inl (kQ, 2, .inr (.inl pt))), (bP, .inl (kP, 2, .inl pw)), (bM, .inr (3, [.int cd, .int wd, .ref bT, .ref bF, .int al, .ref bN, .ref bP, .ref bQ, .ref bR, .int 104, .int ((j50_0 / 2) - 70), .int (b2i false), .int tl, .int (b2i sp), .int tpo, .long fro, .int (b2i ly)])), (bR, .inl (kR, 33000, .inl (fun k => b2i (v79_5 k))))] H ∧ va_D A [(bN, .inl (kN, 2, .inl (fun k => b2i (mi k)))), (bQ, .inl (kQ, 2, .inr (.inl pt))), (bP, .inl (kP, 2, .inl pw)), (bM, .inr (3, [.int cd, .int wd, .ref bT, .ref bF, .int al, .ref bN, .ref bP, .ref bQ, .ref bR, .int 104, .int ((j50_0 / 2) - 70), .int (b2i false), .int tl, .int (b2i sp), .int tpo, .long fro, .int (b2i ly)])), (bR, .inl (kR, 33000, .inl (fun k => b2i (v79_5 k))))] ∧ va_S A s.heap H locs ∧ lv_has ls 19 [(0, .ref bM), (1, .int (g_M_unitOf pw 0)), (2, .int (b2i j38_0)), (3, .int (j50_0 / 2)), (4, .long v79_0), (6, .long v79_1), (8, .long v79_2), (10, .long v79_3), (12, .int v79_4)]) (fun x ls => F0 m 339 ls [.int (b2i x), .ref bM]) ?_ (fun J339 => ?_)
          · skip
            rintro j339_0 H locs ls ⟨ej339_0, hP, hD, hS, hl⟩
            have ej339_0 : (if (v79_0 ||| v79_1) = 0 then false else true) = j339_0 := ej339_0
            have hP : va_P (dC, dI) classes [(bN, .inl (kN, 2, .inl (fun k => b2i (mi k)))), (bQ, .inl (kQ, 2, .inr (.inl pt))), (bP, .inl (kP, 2, .inl pw)), (bM, .inr (3, [.int cd, .int wd, .ref bT, .ref bF, .int al, .ref bN, .ref bP, .ref bQ, .ref bR, .int 104, .int ((j50_0 / 2) - 70), .int (b2i false), .int tl, .int (b2i sp), .int tpo, .long fro, .int (b2i ly)])), (bR, .inl (kR, 33000, .inl (fun k => b2i (v79_5 k))))] H := hP
            have hD : va_D A [(bN, .inl (kN, 2, .inl (fun k => b2i (mi k)))), (bQ, .inl (kQ, 2, .inr (.inl pt))), (bP, .inl (kP, 2, .inl pw)), (bM, .inr (3, [.int cd, .int wd, .ref bT, .ref bF, .int al, .ref bN, .ref bP, .ref bQ, .ref bR, .int 104, .int ((j50_0 / 2) - 70), .int (b2i false), .int tl, .int (b2i sp), .int tpo, .long fro, .int (b2i ly)])), (bR, .inl (kR, 33000, .inl (fun k => b2i (v79_5 k))))] := hD
            have hl : lv_has ls 19 [(0, .ref bM), (1, .int (g_M_unitOf pw 0)), (2, .int (b2i j38_0)), (3, .int (j50_0 / 2)), (4, .long v79_0), (6, .long v79_1), (8, .long v79_2), (10, .long v79_3), (12, .int v79_4)] := hl
            refine va_put (D := (dC, dI)) (ci := 3) (v := .int (b2i j339_0)) (ty := .boolean) (C := R_M) (T := F_M) (N := 17) hx hb htA in_M t_M t_M_ok n_M hown hK hP hD hS 3 rfl rfl 11 (by decide) (htA _ k_275) (fun _ h9 => h9) rfl (by decide +kernel) (by first | exact nar_b2i _ | rfl) (by first | exact fit_b2i _ | rfl) (Nat.le_of_ble_eq_true rfl) d_M_root_339 (fun H locs hP hD hS => ?_)
            have hP : va_P (dC, dI) classes [(bN, .inl (kN, 2, .inl (fun k => b2i (mi k)))), (bQ, .inl (kQ, 2, .inr (.inl pt))), (bP, .inl (kP, 2, .inl pw)), (bM, .inr (3, [.int cd, .int wd, .ref bT, .ref bF, .int al, .ref bN, .ref bP, .ref bQ, .ref bR, .int 104, .int ((j50_0 / 2) - 70), .int (b2i j339_0), .int tl, .int (b2i sp), .int tpo, .long fro, .int (b2i ly)])), (bR, .inl (kR, 33000, .inl (fun k => b2i (v79_5 k))))] H := hP
            have hD : va_D A [(bN, .inl (kN, 2, .inl (fun k => b2i (mi k)))), (bQ, .inl (kQ, 2, .inr (.inl pt))), (bP, .inl (kP, 2, .inl pw)), (bM, .inr (3, [.int cd, .int wd, .ref bT, .ref bF, .int al, .ref bN, .ref bP, .ref bQ, .ref bR, .int 104, .int ((j50_0 / 2) - 70), .int (b2i j339_0), .int tl, .int (b2i sp), .int tpo, .long fro, .int (b2i ly)])), (bR, .inl (kR, 33000, .inl (fun k => b2i (v79_5 k))))] := hD
            refine lv_aload_n hx hb d_M_root_342 rfl (lv_at hl 0 rfl) ?_
            refine lv_iconst (v := 0) hx hb d_M_root_343 (by decide) ?_
            have hPc := hP.sub (ws' := [(bM, .inr (3, [.int cd, .int wd, .ref bT, .ref bF, .int al, .ref bN, .ref bP, .ref bQ, .ref bR, .int 104, .int ((j50_0 / 2) - 70), .int (b2i j339_0), .int tl, .int (b2i sp), .int tpo, .long fro, .int (b2i ly)])), (bR, .inl (kR, 33000, .inl (fun k => b2i (v79_5 k))))]) [3, 4] rfl
            have hDc := hD.sub (ws' := [(bM, .inr (3, [.int cd, .int wd, .ref bT, .ref bF, .int al, .ref bN, .ref bP, .ref bQ, .ref bR, .int 104, .int ((j50_0 / 2) - 70), .int (b2i j339_0), .int tl, .int (b2i sp), .int tpo, .long fro, .int (b2i ly)])), (bR, .inl (kR, 33000, .inl (fun k => b2i (v79_5 k))))]) [3, 4] (by decide) rfl
            have hKc := hK.sub (tys' := [(kR, .boolean)]) [3] rfl
            have hFc := va_free (wc := [(bM, .inr (3, [.int cd, .int wd, .ref bT, .ref bF, .int al, .ref bN, .ref bP, .ref bQ, .ref bR, .int 104, .int ((j50_0 / 2) - 70), .int (b2i j339_0), .int tl, .int (b2i sp), .int tpo, .long fro, .int (b2i ly)])), (bR, .inl (kR, 33000, .inl (fun k => b2i (v79_5 k))))]) hD hS hA [3, 4] rfl
            refine cc_v (va_runV (As := [.int (b2i false)]) (rest := []) ⟨hx, hb, hml, hown, htA⟩ (c_M_make l dC dI kR bM bR bT bF bN bP bQ H.size cd wd al 104 ((j50_0 / 2) - 70) j339_0 tl sp tpo fro ly v79_5 false okz_104) (cwV 1 htA (gi_V k_325 k_326 k_327 k_263 (gi_code k_305)) rfl rfl rfl (by decide +kernel) ⟨Nat.le_of_ble_eq_true rfl, Nat.le_of_ble_eq_true rfl⟩) (pre_V hnw hPc hKc hDc (ci := 3) (q0 := 0) rfl rfl) rfl rfl hl.1 rfl (lv_room (Nat.le_of_ble_eq_true rfl)) d_M_root_344 ⟨Nat.le_of_ble_eq_true rfl, Nat.le_of_ble_eq_true rfl⟩) hS hFc hP hD [3, 4] [0, 1, 2] (wr := [(bN, .inl (kN, 2, .inl (fun k => b2i (mi k)))), (bQ, .inl (kQ, 2, .inr (.inl pt))), (bP, .inl (kP, 2, .inl pw))]) rfl rfl (by decide) (by decide) (fun H locs hP hD hS => ?_)
            obtain ⟨z344, ez344⟩ : ∃ z, g_M_make wd 104 ((j50_0 / 2) - 70) j339_0 tl v79_5 false = z := ⟨_, rfl⟩
            rw [ez344] at hP hD
            have hP : va_P (dC, dI) classes [(bN, .inl (kN, 2, .inl (fun k => b2i (mi k)))), (bQ, .inl (kQ, 2, .inr (.inl pt))), (bP, .inl (kP, 2, .inl pw)), (bM, .inr (3, [.int cd, .int wd, .ref bT, .ref bF, .int al, .ref bN, .ref bP, .ref bQ, .ref bR, .int 104, .int ((j50_0 / 2) - 70), .int (b2i j339_0), .int z344.1, .int (b2i sp), .int z344.2.1, .long z344.2.2.1, .int (b2i z344.2.2.2)])), (bR, .inl (kR, 33000, .inl (fun k => b2i (v79_5 k))))] H := hP
            have hD : va_D A [(bN, .inl (kN, 2, .inl (fun k => b2i (mi k)))), (bQ, .inl (kQ, 2, .inr (.inl pt))), (bP, .inl (kP, 2, .inl pw)), (bM, .inr (3, [.int cd, .int wd, .ref bT, .ref bF, .int al, .ref bN, .ref bP, .ref bQ, .ref bR, .int 104, .int ((j50_0 / 2) - 70), .int (b2i j339_0), .int z344.1, .int (b2i sp), .int z344.2.1, .long z344.2.2.1, .int (b2i z344.2.2.2)])), (bR, .inl (kR, 33000, .inl (fun k => b2i (v79_5 k))))] := hD
            have hE : g_M_root wd sz1 un mo tl ly mi pw pt rb = (104, ((j50_0 / 2) - 70), j339_0, z344.1, z344.2.1, z344.2.2.1, z344.2.2.2, v79_5) := by clear hP hD hl hS; subst ez344; subst ej339_0; subst ev79_5; subst ev79_4; subst ev79_3; subst ev79_2; subst ev79_1; subst ev79_0; subst ej50_0; subst ej38_0; unfold g_M_root; (try dsimp only); rw [if_neg c_5]
            have hP9 : va_P (dC, dI) classes [(bM, .inr (3, [.int cd, .int wd, .ref bT, .ref bF, .int al, .ref bN, .ref bP, .ref bQ, .ref bR, .int ((g_M_root wd sz1 un mo tl ly mi pw pt rb).1), .int ((g_M_root wd sz1 un mo tl ly mi pw pt rb).2.1), .int (b2i ((g_M_root wd sz1 un mo tl ly mi pw pt rb).2.2.1)), .int ((g_M_root wd sz1 un mo tl ly mi pw pt rb).2.2.2.1), .int (b2i sp), .int ((g_M_root wd sz1 un mo tl ly mi pw pt rb).2.2.2.2.1), .long ((g_M_root wd sz1 un mo tl ly mi pw pt rb).2.2.2.2.2.1), .int (b2i ((g_M_root wd sz1 un mo tl ly mi pw pt rb).2.2.2.2.2.2.1))])), (bN, .inl (kN, 2, .inl (fun k => b2i (mi k)))), (bP, .inl (kP, 2, .inl pw)), (bQ, .inl (kQ, 2, .inr (.inl pt))), (bR, .inl (kR, 33000, .inl (fun k => b2i (((g_M_root wd sz1 un mo tl ly mi pw pt rb).2.2.2.2.2.2.2) k))))] H := by rw [hE]; exact hP.sub [3, 0, 2, 1, 4] rfl
            have hD9 : va_D A [(bM, .inr (3, [.int cd, .int wd, .ref bT, .ref bF, .int al, .ref bN, .ref bP, .ref bQ, .ref bR, .int ((g_M_root wd sz1 un mo tl ly mi pw pt rb).1), .int ((g_M_root wd sz1 un mo tl ly mi pw pt rb).2.1), .int (b2i ((g_M_root wd sz1 un mo tl ly mi pw pt rb).2.2.1)), .int ((g_M_root wd sz1 un mo tl ly mi pw pt rb).2.2.2.1), .int (b2i sp), .int ((g_M_root wd sz1 un mo tl ly mi pw pt rb).2.2.2.2.1), .long ((g_M_root wd sz1 un mo tl ly mi pw pt rb).2.2.2.2.2.1), .int (b2i ((g_M_root wd sz1 un mo tl ly mi pw pt rb).2.2.2.2.2.2.1))])), (bN, .inl (kN, 2, .inl (fun k => b2i (mi k)))), (bP, .inl (kP, 2, .inl pw)), (bQ, .inl (kQ, 2, .inr (.inl pt))), (bR, .inl (kR, 33000, .inl (fun k => b2i (((g_M_root wd sz1 un mo tl ly mi pw pt rb).2.2.2.2.2.2.2) k))))] := by rw [hE]; exact hD.sub [3, 0, 2, 1, 4] (by decide) rfl
            exact W.vret hx hb hr (fun t ht hW => ⟨⟨(), rfl, trivial, by rw [ht]; exact hP9, hD9⟩, hS.F ht⟩) hS.2.2 d_M_root_347
          · skip
            refine lv_if_eq (tgt := 338) hx hb d_M_root_331 (by decide) (fun c_331 => ?_) (fun c_331 => ?_)
            · skip
              have c_331 : (v79_0 ||| v79_1) = 0 := (lg_cmp_eq _ _).mp c_331
              refine lv_iconst (v := 0) hx hb d_M_root_338 (by decide) ?_
              exact J339 (false) H locs ls ⟨by clear hP hD hl hS; (try dsimp only); rw [if_pos c_331], hP.sub [0, 1, 2, 3, 4] rfl, hD.sub [0, 1, 2, 3, 4] (by decide) rfl, hS, lv_sub hl [0, 1, 2, 3, 4, 5, 6, 7, 8] rfl⟩
            · skip
              have c_331 : ¬ (v79_0 ||| v79_1) = 0 := fun h9 => c_331 ((lg_cmp_eq _ _).mpr h9)
              refine lv_iconst (v := 1) hx hb d_M_root_334 (by decide) ?_
              refine lv_goto (tgt := 339) hx hb d_M_root_335 (by decide) ?_
              exact J339 (true) H locs ls ⟨by clear hP hD hl hS; (try dsimp only); rw [if_neg c_331], hP.sub [0, 1, 2, 3, 4] rfl, hD.sub [0, 1, 2, 3, 4] (by decide) rfl, hS, lv_sub hl [0, 1, 2, 3, 4, 5, 6, 7, 8] rfl⟩
      · skip
        refine lv_if_eq (tgt := 49) hx hb d_M_root_40 (by decide) (fun c_40 => ?_) (fun c_40 => ?_)
        · skip
          have c_40 : ¬ j38_0 = true := b2i_z c_40
          refine lv_iload_n hx hb d_M_root_49 rfl (lv_at hl 2 rfl) ?_
          exact J50 ((g_M_unitOf pw 0)) H locs ls ⟨by clear hP hD hl hS; (try dsimp only); rw [if_neg c_40], hP.sub [0, 1, 2, 3, 4] rfl, hD.sub [0, 1, 2, 3, 4] (by decide) rfl, hS, lv_sub hl [1, 2, 0] rfl⟩
        · skip
          have c_40 : j38_0 = true := b2i_nz c_40
          refine lv_iload_n hx hb d_M_root_43 rfl (lv_at hl 2 rfl) ?_
          refine lv_iconst (v := 1) hx hb d_M_root_44 (by decide) ?_
          refine lv_isub hx hb d_M_root_45 ?_
          refine lv_goto (tgt := 50) hx hb d_M_root_46 (by decide) ?_
          exact J50 (((g_M_unitOf pw 0) - 1)) H locs ls ⟨by clear hP hD hl hS; (try dsimp only); rw [if_pos c_40], hP.sub [0, 1, 2, 3, 4] rfl, hD.sub [0, 1, 2, 3, 4] (by decide) rfl, hS, lv_sub hl [1, 2, 0] rfl⟩
    · skip
      refine lv_if_eq (tgt := 37) hx hb d_M_root_30 (by decide) (fun c_30 => ?_) (fun c_30 => ?_)
      · skip
        refine lv_iconst (v := 0) hx hb d_M_root_37 (by decide) ?_
        exact J38 (false) H locs ls ⟨by clear hP hD hl hS; (try dsimp only); rw [if_pos c_30], hP.sub [0, 1, 2, 3, 4] rfl, hD.sub [0, 1, 2, 3, 4] (by decide) rfl, hS, lv_sub hl [1, 0] rfl⟩
      · skip
        refine lv_iconst (v := 1) hx hb d_M_root_33 (by decide) ?_
        refine lv_goto (tgt := 38) hx hb d_M_root_34 (by decide) ?_
        exact J38 (true) H locs ls ⟨by clear hP hD hl hS; (try dsimp only); rw [if_neg c_30], hP.sub [0, 1, 2, 3, 4] rfl, hD.sub [0, 1, 2, 3, 4] (by decide) rfl, hS, lv_sub hl [1, 0] rfl⟩
  · skip
    have c_5 : (g_M_isNothing pw pt 0) = true := b2i_nz c_5
    refine lv_aload_n hx hb d_M_root_8 rfl (lv_at hl 0 rfl) ?_
    refine lv_aload_n hx hb d_M_root_9 rfl (lv_at hl 0 rfl) ?_
    refine va_get (D := (dC, dI)) (ci := 3) (v := .ref bN) (C := R_M) (T := F_M) (N := 17) hx hb htA in_M hown hK hP 2 rfl rfl 5 (by decide) (htA _ k_312) (fun _ h9 => h9) rfl d_M_root_10 ?_
    refine lv_iconst (v := 0) hx hb d_M_root_13 (by decide) ?_
    refine va_zald hx hb hK hP 0 0 rfl rfl in2_0 d_M_root_14 ?_
    refine lv_iconst (v := 0) hx hb d_M_root_15 (by decide) ?_
    refine lv_lconst (v := 0) hx hb d_M_root_16 (by decide) ?_
    have hPc := hP.sub (ws' := [(bM, .inr (3, [.int cd, .int wd, .ref bT, .ref bF, .int al, .ref bN, .ref bP, .ref bQ, .ref bR, .int sz1, .int un, .int (b2i mo), .int tl, .int (b2i sp), .int tpo, .long fro, .int (b2i ly)]))]) [2] rfl
    have hDc := hD.sub (ws' := [(bM, .inr (3, [.int cd, .int wd, .ref bT, .ref bF, .int al, .ref bN, .ref bP, .ref bQ, .ref bR, .int sz1, .int un, .int (b2i mo), .int tl, .int (b2i sp), .int tpo, .long fro, .int (b2i ly)]))]) [2] (by decide) rfl
    have hKc := hK.sub (tys' := []) [] rfl
    have hFc := va_free (wc := [(bM, .inr (3, [.int cd, .int wd, .ref bT, .ref bF, .int al, .ref bN, .ref bP, .ref bQ, .ref bR, .int sz1, .int un, .int (b2i mo), .int tl, .int (b2i sp), .int tpo, .long fro, .int (b2i ly)]))]) hD hS hA [2] rfl
    refine cc_v (va_runV (As := [.int (b2i (mi (0 : Int32).toNatClampNeg)), .int 0, .long 0]) (rest := []) ⟨hx, hb, hml, hown, htA⟩ (c_M_answer l dC dI bM bT bF bN bP bQ bR H.size cd wd al sz1 un mo tl sp tpo fro ly (mi (0 : Int32).toNatClampNeg) 0 0) (cwV 3 htA (gi_V k_288 k_289 k_290 k_263 (gi_code k_254)) rfl rfl rfl (by decide +kernel) ⟨Nat.le_of_ble_eq_true rfl, Nat.le_of_ble_eq_true rfl⟩) (pre_V hnw hPc hKc hDc (ci := 3) (q0 := 0) rfl rfl) rfl rfl hl.1 rfl (lv_room (Nat.le_of_ble_eq_true rfl)) d_M_root_17 ⟨Nat.le_of_ble_eq_true rfl, Nat.le_of_ble_eq_true rfl⟩) hS hFc hP hD [2] [0, 1, 3, 4] (wr := [(bN, .inl (kN, 2, .inl (fun k => b2i (mi k)))), (bR, .inl (kR, 33000, .inl (fun k => b2i (rb k)))), (bP, .inl (kP, 2, .inl pw)), (bQ, .inl (kQ, 2, .inr (.inl pt)))]) rfl rfl (by decide) (by decide) (fun H locs hP hD hS => ?_)
    have hP : va_P (dC, dI) classes [(bN, .inl (kN, 2, .inl (fun k => b2i (mi k)))), (bR, .inl (kR, 33000, .inl (fun k => b2i (rb k)))), (bP, .inl (kP, 2, .inl pw)), (bQ, .inl (kQ, 2, .inr (.inl pt))), (bM, .inr (3, [.int cd, .int wd, .ref bT, .ref bF, .int al, .ref bN, .ref bP, .ref bQ, .ref bR, .int sz1, .int un, .int (b2i mo), .int tl, .int (b2i sp), .int (g_M_answer (mi (0 : Int32).toNatClampNeg) 0), .long 0, .int (b2i ly)]))] H := hP
    have hD : va_D A [(bN, .inl (kN, 2, .inl (fun k => b2i (mi k)))), (bR, .inl (kR, 33000, .inl (fun k => b2i (rb k)))), (bP, .inl (kP, 2, .inl pw)), (bQ, .inl (kQ, 2, .inr (.inl pt))), (bM, .inr (3, [.int cd, .int wd, .ref bT, .ref bF, .int al, .ref bN, .ref bP, .ref bQ, .ref bR, .int sz1, .int un, .int (b2i mo), .int tl, .int (b2i sp), .int (g_M_answer (mi (0 : Int32).toNatClampNeg) 0), .long 0, .int (b2i ly)]))] := hD
    have hE : g_M_root wd sz1 un mo tl ly mi pw pt rb = (sz1, un, mo, tl, (g_M_answer (mi (0 : Int32).toNatClampNeg) 0), 0, ly, rb) := by clear hP hD hl hS; unfold g_M_root; (try dsimp only); rw [if_pos c_5]
    have hP9 : va_P (dC, dI) classes [(bM, .inr (3, [.int cd, .int wd, .ref bT, .ref bF, .int al, .ref bN, .ref bP, .ref bQ, .ref bR, .int ((g_M_root wd sz1 un mo tl ly mi pw pt rb).1), .int ((g_M_root wd sz1 un mo tl ly mi pw pt rb).2.1), .int (b2i ((g_M_root wd sz1 un mo tl ly mi pw pt rb).2.2.1)), .int ((g_M_root wd sz1 un mo tl ly mi pw pt rb).2.2.2.1), .int (b2i sp), .int ((g_M_root wd sz1 un mo tl ly mi pw pt rb).2.2.2.2.1), .long ((g_M_root wd sz1 un mo tl ly mi pw pt rb).2.2.2.2.2.1), .int (b2i ((g_M_root wd sz1 un mo tl ly mi pw pt rb).2.2.2.2.2.2.1))])), (bN, .inl (kN, 2, .inl (fun k => b2i (mi k)))), (bP, .inl (kP, 2, .inl pw)), (bQ, .inl (kQ, 2, .inr (.inl pt))), (bR, .inl (kR, 33000, .inl (fun k => b2i (((g_M_root wd sz1 un mo tl ly mi pw pt rb).2.2.2.2.2.2.2) k))))] H := by rw [hE]; exact hP.sub [4, 0, 2, 3, 1] rfl
    have hD9 : va_D A [(bM, .inr (3, [.int cd, .int wd, .ref bT, .ref bF, .int al, .ref bN, .ref bP, .ref bQ, .ref bR, .int ((g_M_root wd sz1 un mo tl ly mi pw pt rb).1), .int ((g_M_root wd sz1 un mo tl ly mi pw pt rb).2.1), .int (b2i ((g_M_root wd sz1 un mo tl ly mi pw pt rb).2.2.1)), .int ((g_M_root wd sz1 un mo tl ly mi pw pt rb).2.2.2.1), .int (b2i sp), .int ((g_M_root wd sz1 un mo tl ly mi pw pt rb).2.2.2.2.1), .long ((g_M_root wd sz1 un mo tl ly mi pw pt rb).2.2.2.2.2.1), .int (b2i ((g_M_root wd sz1 un mo tl ly mi pw pt rb).2.2.2.2.2.2.1))])), (bN, .inl (kN, 2, .inl (fun k => b2i (mi k)))), (bP, .inl (kP, 2, .inl pw)), (bQ, .inl (kQ, 2, .inr (.inl pt))), (bR, .inl (kR, 33000, .inl (fun k => b2i (((g_M_root wd sz1 un mo tl ly mi pw pt rb).2.2.2.2.2.2.2) k))))] := by rw [hE]; exact hD.sub [4, 0, 2, 3, 1] (by decide) rfl
    exact W.vret hx hb hr (fun t ht hW => ⟨⟨(), rfl, trivial, by rw [ht]; exact hP9, hD9⟩, hS.F ht⟩) hS.2.2 d_M_root_20
