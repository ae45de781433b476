theorem d_M_truncate_0 : decode cc_M_truncate 0 = .ok (.aload_n 0, 1) := by decide +kernel
theorem d_M_truncate_1 : decode cc_M_truncate 1 = .ok (.iload_n 3, 1) := by decide +kernel
theorem d_M_truncate_2 : decode cc_M_truncate 2 = .ok (.ifCond .lt 9, 3) := by decide +kernel
theorem d_M_truncate_11 : decode cc_M_truncate 11 = .ok (.iconst 1, 1) := by decide +kernel
theorem d_M_truncate_12 : decode cc_M_truncate 12 = .ok (.goto 9, 3) := by decide +kernel
theorem d_M_truncate_5 : decode cc_M_truncate 5 = .ok (.iload_n 3, 1) := by decide +kernel
theorem d_M_truncate_6 : decode cc_M_truncate 6 = .ok (.bipush 80, 2) := by decide +kernel
theorem d_M_truncate_8 : decode cc_M_truncate 8 = .ok (.if_icmp .le 7, 3) := by decide +kernel
theorem d_M_truncate_15 : decode cc_M_truncate 15 = .ok (.aload_n 0, 1) := by decide +kernel
theorem d_M_truncate_16 : decode cc_M_truncate 16 = .ok (.iload_n 1, 1) := by decide +kernel
theorem d_M_truncate_17 : decode cc_M_truncate 17 = .ok (.iload_n 2, 1) := by decide +kernel
theorem d_M_truncate_18 : decode cc_M_truncate 18 = .ok (.invokevirtual 98, 3) := by decide +kernel
theorem d_M_truncate_21 : decode cc_M_truncate 21 = .ok (.putfield 32, 3) := by decide +kernel
theorem d_M_truncate_24 : decode cc_M_truncate 24 = .ok (.aload_n 0, 1) := by decide +kernel
theorem d_M_truncate_25 : decode cc_M_truncate 25 = .ok (.getfield 32, 3) := by decide +kernel
theorem d_M_truncate_28 : decode cc_M_truncate 28 = .ok (.ifCond .ne 9, 3) := by decide +kernel
theorem d_M_truncate_37 : decode cc_M_truncate 37 = .ok (.iconst 0, 1) := by decide +kernel
theorem d_M_truncate_38 : decode cc_M_truncate 38 = .ok (.istore 4, 2) := by decide +kernel
theorem d_M_truncate_40 : decode cc_M_truncate 40 = .ok (.aload_n 0, 1) := by decide +kernel
theorem d_M_truncate_41 : decode cc_M_truncate 41 = .ok (.getfield 32, 3) := by decide +kernel
theorem d_M_truncate_44 : decode cc_M_truncate 44 = .ok (.ifCond .ne 13, 3) := by decide +kernel
theorem d_M_truncate_57 : decode cc_M_truncate 57 = .ok (.iconst 0, 1) := by decide +kernel
theorem d_M_truncate_47 : decode cc_M_truncate 47 = .ok (.aload_n 0, 1) := by decide +kernel
theorem d_M_truncate_48 : decode cc_M_truncate 48 = .ok (.iload 4, 2) := by decide +kernel
theorem d_M_truncate_50 : decode cc_M_truncate 50 = .ok (.iload_n 2, 1) := by decide +kernel
theorem d_M_truncate_51 : decode cc_M_truncate 51 = .ok (.invokevirtual 68, 3) := by decide +kernel
theorem d_M_truncate_54 : decode cc_M_truncate 54 = .ok (.goto 4, 3) := by decide +kernel
theorem d_M_truncate_31 : decode cc_M_truncate 31 = .ok (.iload_n 1, 1) := by decide +kernel
theorem d_M_truncate_32 : decode cc_M_truncate 32 = .ok (.iconst 4, 1) := by decide +kernel
theorem d_M_truncate_33 : decode cc_M_truncate 33 = .ok (.idiv, 1) := by decide +kernel
theorem d_M_truncate_34 : decode cc_M_truncate 34 = .ok (.goto 4, 3) := by decide +kernel
theorem d_M_truncate_58 : decode cc_M_truncate 58 = .ok (.istore 5, 2) := by decide +kernel
theorem d_M_truncate_60 : decode cc_M_truncate 60 = .ok (.aload_n 0, 1) := by decide +kernel
theorem d_M_truncate_61 : decode cc_M_truncate 61 = .ok (.aload_n 0, 1) := by decide +kernel
theorem d_M_truncate_62 : decode cc_M_truncate 62 = .ok (.getfield 32, 3) := by decide +kernel
theorem d_M_truncate_65 : decode cc_M_truncate 65 = .ok (.ifCond .ne 33, 3) := by decide +kernel
theorem d_M_truncate_98 : decode cc_M_truncate 98 = .ok (.aload_n 0, 1) := by decide +kernel
theorem d_M_truncate_99 : decode cc_M_truncate 99 = .ok (.getfield 32, 3) := by decide +kernel
theorem d_M_truncate_68 : decode cc_M_truncate 68 = .ok (.aload_n 0, 1) := by decide +kernel
theorem d_M_truncate_69 : decode cc_M_truncate 69 = .ok (.iload 4, 2) := by decide +kernel
theorem d_M_truncate_71 : decode cc_M_truncate 71 = .ok (.iload 5, 2) := by decide +kernel
theorem d_M_truncate_73 : decode cc_M_truncate 73 = .ok (.iconst 0, 1) := by decide +kernel
theorem d_M_truncate_74 : decode cc_M_truncate 74 = .ok (.invokevirtual 64, 3) := by decide +kernel
theorem d_M_truncate_77 : decode cc_M_truncate 77 = .ok (.iconst 1, 1) := by decide +kernel
theorem d_M_truncate_78 : decode cc_M_truncate 78 = .ok (.if_icmp .eq 16, 3) := by decide +kernel
theorem d_M_truncate_94 : decode cc_M_truncate 94 = .ok (.iconst 4, 1) := by decide +kernel
theorem d_M_truncate_95 : decode cc_M_truncate 95 = .ok (.goto 7, 3) := by decide +kernel
theorem d_M_truncate_81 : decode cc_M_truncate 81 = .ok (.iload_n 3, 1) := by decide +kernel
theorem d_M_truncate_82 : decode cc_M_truncate 82 = .ok (.aload_n 0, 1) := by decide +kernel
theorem d_M_truncate_83 : decode cc_M_truncate 83 = .ok (.iload 4, 2) := by decide +kernel
theorem d_M_truncate_85 : decode cc_M_truncate 85 = .ok (.iload 5, 2) := by decide +kernel
theorem d_M_truncate_87 : decode cc_M_truncate 87 = .ok (.iconst 3, 1) := by decide +kernel
theorem d_M_truncate_88 : decode cc_M_truncate 88 = .ok (.invokevirtual 64, 3) := by decide +kernel
theorem d_M_truncate_91 : decode cc_M_truncate 91 = .ok (.if_icmp .le 7, 3) := by decide +kernel
theorem d_M_truncate_102 : decode cc_M_truncate 102 = .ok (.putfield 32, 3) := by decide +kernel
theorem d_M_truncate_105 : decode cc_M_truncate 105 = .ok (.aload_n 0, 1) := by decide +kernel
theorem d_M_truncate_106 : decode cc_M_truncate 106 = .ok (.getfield 32, 3) := by decide +kernel
theorem d_M_truncate_109 : decode cc_M_truncate 109 = .ok (.ifCond .le 5, 3) := by decide +kernel
theorem d_M_truncate_114 : decode cc_M_truncate 114 = .ok (.aload_n 0, 1) := by decide +kernel
theorem d_M_truncate_115 : decode cc_M_truncate 115 = .ok (.iload 4, 2) := by decide +kernel
theorem d_M_truncate_117 : decode cc_M_truncate 117 = .ok (.invokevirtual 91, 3) := by decide +kernel
theorem d_M_truncate_120 : decode cc_M_truncate 120 = .ok (.iconst 0, 1) := by decide +kernel
theorem d_M_truncate_121 : decode cc_M_truncate 121 = .ok (.istore 6, 2) := by decide +kernel
theorem d_M_truncate_123 : decode cc_M_truncate 123 = .ok (.iconst 0, 1) := by decide +kernel
theorem d_M_truncate_124 : decode cc_M_truncate 124 = .ok (.istore 7, 2) := by decide +kernel
theorem d_M_truncate_126 : decode cc_M_truncate 126 = .ok (.iconst 0, 1) := by decide +kernel
theorem d_M_truncate_127 : decode cc_M_truncate 127 = .ok (.istore 8, 2) := by decide +kernel
theorem d_M_truncate_112 : decode cc_M_truncate 112 = .ok (.iconst 0, 1) := by decide +kernel
theorem d_M_truncate_113 : decode cc_M_truncate 113 = .ok (.ireturn, 1) := by decide +kernel
theorem d_M_truncate_129 : decode cc_M_truncate 129 = .ok (.iload 8, 2) := by decide +kernel
theorem d_M_truncate_131 : decode cc_M_truncate 131 = .ok (.bipush 10, 2) := by decide +kernel
theorem d_M_truncate_133 : decode cc_M_truncate 133 = .ok (.if_icmp .ge 75, 3) := by decide +kernel
theorem d_M_truncate_208 : decode cc_M_truncate 208 = .ok (.iload 7, 2) := by decide +kernel
theorem d_M_truncate_210 : decode cc_M_truncate 210 = .ok (.ifCond .ne 23, 3) := by decide +kernel
theorem d_M_truncate_233 : decode cc_M_truncate 233 = .ok (.aload_n 0, 1) := by decide +kernel
theorem d_M_truncate_234 : decode cc_M_truncate 234 = .ok (.iload 5, 2) := by decide +kernel
theorem d_M_truncate_236 : decode cc_M_truncate 236 = .ok (.iload_n 3, 1) := by decide +kernel
theorem d_M_truncate_237 : decode cc_M_truncate 237 = .ok (.bipush 8, 2) := by decide +kernel
theorem d_M_truncate_239 : decode cc_M_truncate 239 = .ok (.idiv, 1) := by decide +kernel
theorem d_M_truncate_240 : decode cc_M_truncate 240 = .ok (.bipush 10, 2) := by decide +kernel
theorem d_M_truncate_242 : decode cc_M_truncate 242 = .ok (.if_icmp .ge 10, 3) := by decide +kernel
theorem d_M_truncate_252 : decode cc_M_truncate 252 = .ok (.bipush 9, 2) := by decide +kernel
theorem d_M_truncate_245 : decode cc_M_truncate 245 = .ok (.iload_n 3, 1) := by decide +kernel
theorem d_M_truncate_246 : decode cc_M_truncate 246 = .ok (.bipush 8, 2) := by decide +kernel
theorem d_M_truncate_248 : decode cc_M_truncate 248 = .ok (.idiv, 1) := by decide +kernel
theorem d_M_truncate_249 : decode cc_M_truncate 249 = .ok (.goto 5, 3) := by decide +kernel
theorem d_M_truncate_213 : decode cc_M_truncate 213 = .ok (.iload 6, 2) := by decide +kernel
theorem d_M_truncate_215 : decode cc_M_truncate 215 = .ok (.aload_n 0, 1) := by decide +kernel
theorem d_M_truncate_216 : decode cc_M_truncate 216 = .ok (.bipush 8, 2) := by decide +kernel
theorem d_M_truncate_218 : decode cc_M_truncate 218 = .ok (.bipush 8, 2) := by decide +kernel
theorem d_M_truncate_220 : decode cc_M_truncate 220 = .ok (.iload 5, 2) := by decide +kernel
theorem d_M_truncate_222 : decode cc_M_truncate 222 = .ok (.imul, 1) := by decide +kernel
theorem d_M_truncate_223 : decode cc_M_truncate 223 = .ok (.iadd, 1) := by decide +kernel
theorem d_M_truncate_224 : decode cc_M_truncate 224 = .ok (.bipush 6, 2) := by decide +kernel
theorem d_M_truncate_226 : decode cc_M_truncate 226 = .ok (.iadd, 1) := by decide +kernel
theorem d_M_truncate_227 : decode cc_M_truncate 227 = .ok (.invokevirtual 110, 3) := by decide +kernel
theorem d_M_truncate_230 : decode cc_M_truncate 230 = .ok (.iadd, 1) := by decide +kernel
theorem d_M_truncate_231 : decode cc_M_truncate 231 = .ok (.istore 6, 2) := by decide +kernel
theorem d_M_truncate_136 : decode cc_M_truncate 136 = .ok (.aload_n 0, 1) := by decide +kernel
theorem d_M_truncate_137 : decode cc_M_truncate 137 = .ok (.iload 5, 2) := by decide +kernel
theorem d_M_truncate_139 : decode cc_M_truncate 139 = .ok (.iload 8, 2) := by decide +kernel
theorem d_M_truncate_141 : decode cc_M_truncate 141 = .ok (.invokevirtual 101, 3) := by decide +kernel
theorem d_M_truncate_144 : decode cc_M_truncate 144 = .ok (.istore 9, 2) := by decide +kernel
theorem d_M_truncate_146 : decode cc_M_truncate 146 = .ok (.iload 9, 2) := by decide +kernel
theorem d_M_truncate_148 : decode cc_M_truncate 148 = .ok (.ifCond .lt 23, 3) := by decide +kernel
theorem d_M_truncate_151 : decode cc_M_truncate 151 = .ok (.bipush 8, 2) := by decide +kernel
theorem d_M_truncate_153 : decode cc_M_truncate 153 = .ok (.iload 8, 2) := by decide +kernel
theorem d_M_truncate_155 : decode cc_M_truncate 155 = .ok (.imul, 1) := by decide +kernel
theorem d_M_truncate_156 : decode cc_M_truncate 156 = .ok (.iload_n 3, 1) := by decide +kernel
theorem d_M_truncate_157 : decode cc_M_truncate 157 = .ok (.if_icmp .lt 14, 3) := by decide +kernel
theorem d_M_truncate_160 : decode cc_M_truncate 160 = .ok (.iload 6, 2) := by decide +kernel
theorem d_M_truncate_162 : decode cc_M_truncate 162 = .ok (.aload_n 0, 1) := by decide +kernel
theorem d_M_truncate_163 : decode cc_M_truncate 163 = .ok (.iload 9, 2) := by decide +kernel
theorem d_M_truncate_165 : decode cc_M_truncate 165 = .ok (.invokevirtual 110, 3) := by decide +kernel
theorem d_M_truncate_168 : decode cc_M_truncate 168 = .ok (.iadd, 1) := by decide +kernel
theorem d_M_truncate_169 : decode cc_M_truncate 169 = .ok (.istore 6, 2) := by decide +kernel
theorem d_M_truncate_254 : decode cc_M_truncate 254 = .ok (.invokevirtual 101, 3) := by decide +kernel
theorem d_M_truncate_257 : decode cc_M_truncate 257 = .ok (.istore 8, 2) := by decide +kernel
theorem d_M_truncate_259 : decode cc_M_truncate 259 = .ok (.iload_n 3, 1) := by decide +kernel
theorem d_M_truncate_260 : decode cc_M_truncate 260 = .ok (.bipush 8, 2) := by decide +kernel
theorem d_M_truncate_262 : decode cc_M_truncate 262 = .ok (.irem, 1) := by decide +kernel
theorem d_M_truncate_263 : decode cc_M_truncate 263 = .ok (.ifCond .le 31, 3) := by decide +kernel
theorem d_M_truncate_294 : decode cc_M_truncate 294 = .ok (.iconst 0, 1) := by decide +kernel
theorem d_M_truncate_295 : decode cc_M_truncate 295 = .ok (.istore 9, 2) := by decide +kernel
theorem d_M_truncate_297 : decode cc_M_truncate 297 = .ok (.iload_n 3, 1) := by decide +kernel
theorem d_M_truncate_298 : decode cc_M_truncate 298 = .ok (.bipush 8, 2) := by decide +kernel
theorem d_M_truncate_300 : decode cc_M_truncate 300 = .ok (.irem, 1) := by decide +kernel
theorem d_M_truncate_301 : decode cc_M_truncate 301 = .ok (.istore 10, 2) := by decide +kernel
theorem d_M_truncate_266 : decode cc_M_truncate 266 = .ok (.iload 8, 2) := by decide +kernel
theorem d_M_truncate_268 : decode cc_M_truncate 268 = .ok (.ifCond .lt 26, 3) := by decide +kernel
theorem d_M_truncate_271 : decode cc_M_truncate 271 = .ok (.aload_n 0, 1) := by decide +kernel
theorem d_M_truncate_272 : decode cc_M_truncate 272 = .ok (.getfield 25, 3) := by decide +kernel
theorem d_M_truncate_275 : decode cc_M_truncate 275 = .ok (.iload 8, 2) := by decide +kernel
theorem d_M_truncate_277 : decode cc_M_truncate 277 = .ok (.ifCond .lt 8, 3) := by decide +kernel
theorem d_M_truncate_285 : decode cc_M_truncate 285 = .ok (.iconst 0, 1) := by decide +kernel
theorem d_M_truncate_280 : decode cc_M_truncate 280 = .ok (.iload 8, 2) := by decide +kernel
theorem d_M_truncate_282 : decode cc_M_truncate 282 = .ok (.goto 4, 3) := by decide +kernel
theorem d_M_truncate_303 : decode cc_M_truncate 303 = .ok (.iload 10, 2) := by decide +kernel
theorem d_M_truncate_305 : decode cc_M_truncate 305 = .ok (.bipush 8, 2) := by decide +kernel
theorem d_M_truncate_307 : decode cc_M_truncate 307 = .ok (.if_icmp .ge 36, 3) := by decide +kernel
theorem d_M_truncate_310 : decode cc_M_truncate 310 = .ok (.iload 9, 2) := by decide +kernel
theorem d_M_truncate_312 : decode cc_M_truncate 312 = .ok (.ifCond .eq 31, 3) := by decide +kernel
theorem d_M_truncate_315 : decode cc_M_truncate 315 = .ok (.aload_n 0, 1) := by decide +kernel
theorem d_M_truncate_316 : decode cc_M_truncate 316 = .ok (.getfield 25, 3) := by decide +kernel
theorem d_M_truncate_319 : decode cc_M_truncate 319 = .ok (.bipush 64, 2) := by decide +kernel
theorem d_M_truncate_321 : decode cc_M_truncate 321 = .ok (.bipush 8, 2) := by decide +kernel
theorem d_M_truncate_323 : decode cc_M_truncate 323 = .ok (.aload_n 0, 1) := by decide +kernel
theorem d_M_truncate_324 : decode cc_M_truncate 324 = .ok (.getfield 25, 3) := by decide +kernel
theorem d_M_truncate_327 : decode cc_M_truncate 327 = .ok (.iload 8, 2) := by decide +kernel
theorem d_M_truncate_329 : decode cc_M_truncate 329 = .ok (.iaload, 1) := by decide +kernel
theorem d_M_truncate_330 : decode cc_M_truncate 330 = .ok (.imul, 1) := by decide +kernel
theorem d_M_truncate_331 : decode cc_M_truncate 331 = .ok (.iadd, 1) := by decide +kernel
theorem d_M_truncate_332 : decode cc_M_truncate 332 = .ok (.iload 10, 2) := by decide +kernel
theorem d_M_truncate_334 : decode cc_M_truncate 334 = .ok (.iadd, 1) := by decide +kernel
theorem d_M_truncate_335 : decode cc_M_truncate 335 = .ok (.iconst 0, 1) := by decide +kernel
theorem d_M_truncate_336 : decode cc_M_truncate 336 = .ok (.iastore, 1) := by decide +kernel
theorem d_M_truncate_337 : decode cc_M_truncate 337 = .ok (.iinc 10 1, 3) := by decide +kernel
theorem d_M_truncate_340 : decode cc_M_truncate 340 = .ok (.goto (-37), 3) := by decide +kernel
theorem d_M_truncate_343 : decode cc_M_truncate 343 = .ok (.aload_n 0, 1) := by decide +kernel
theorem d_M_truncate_344 : decode cc_M_truncate 344 = .ok (.getfield 25, 3) := by decide +kernel
theorem d_M_truncate_347 : decode cc_M_truncate 347 = .ok (.bipush 8, 2) := by decide +kernel
theorem d_M_truncate_349 : decode cc_M_truncate 349 = .ok (.bipush 8, 2) := by decide +kernel
theorem d_M_truncate_351 : decode cc_M_truncate 351 = .ok (.iload 5, 2) := by decide +kernel
theorem d_M_truncate_353 : decode cc_M_truncate 353 = .ok (.imul, 1) := by decide +kernel
theorem d_M_truncate_354 : decode cc_M_truncate 354 = .ok (.iadd, 1) := by decide +kernel
theorem d_M_truncate_355 : decode cc_M_truncate 355 = .ok (.iconst 3, 1) := by decide +kernel
theorem d_M_truncate_356 : decode cc_M_truncate 356 = .ok (.iadd, 1) := by decide +kernel
theorem d_M_truncate_357 : decode cc_M_truncate 357 = .ok (.iload_n 3, 1) := by decide +kernel
theorem d_M_truncate_358 : decode cc_M_truncate 358 = .ok (.iastore, 1) := by decide +kernel
theorem d_M_truncate_359 : decode cc_M_truncate 359 = .ok (.aload_n 0, 1) := by decide +kernel
theorem d_M_truncate_360 : decode cc_M_truncate 360 = .ok (.iload 4, 2) := by decide +kernel
theorem d_M_truncate_362 : decode cc_M_truncate 362 = .ok (.iload 6, 2) := by decide +kernel
theorem d_M_truncate_364 : decode cc_M_truncate 364 = .ok (.invokevirtual 95, 3) := by decide +kernel
theorem d_M_truncate_367 : decode cc_M_truncate 367 = .ok (.ireturn, 1) := by decide +kernel
theorem d_M_truncate_286 : decode cc_M_truncate 286 = .ok (.iaload, 1) := by decide +kernel
theorem d_M_truncate_287 : decode cc_M_truncate 287 = .ok (.ifCond .le 7, 3) := by decide +kernel
theorem d_M_truncate_290 : decode cc_M_truncate 290 = .ok (.iconst 1, 1) := by decide +kernel
theorem d_M_truncate_291 : decode cc_M_truncate 291 = .ok (.goto 4, 3) := by decide +kernel
theorem d_M_truncate_171 : decode cc_M_truncate 171 = .ok (.iload 7, 2) := by decide +kernel
theorem d_M_truncate_173 : decode cc_M_truncate 173 = .ok (.iload 8, 2) := by decide +kernel
theorem d_M_truncate_175 : decode cc_M_truncate 175 = .ok (.iconst 1, 1) := by decide +kernel
theorem d_M_truncate_176 : decode cc_M_truncate 176 = .ok (.if_icmp .le 22, 3) := by decide +kernel
theorem d_M_truncate_198 : decode cc_M_truncate 198 = .ok (.iconst 0, 1) := by decide +kernel
theorem d_M_truncate_199 : decode cc_M_truncate 199 = .ok (.iadd, 1) := by decide +kernel
theorem d_M_truncate_200 : decode cc_M_truncate 200 = .ok (.istore 7, 2) := by decide +kernel
theorem d_M_truncate_202 : decode cc_M_truncate 202 = .ok (.iinc 8 1, 3) := by decide +kernel
theorem d_M_truncate_205 : decode cc_M_truncate 205 = .ok (.goto (-76), 3) := by decide +kernel
theorem d_M_truncate_179 : decode cc_M_truncate 179 = .ok (.iload 9, 2) := by decide +kernel
theorem d_M_truncate_181 : decode cc_M_truncate 181 = .ok (.ifCond .lt 17, 3) := by decide +kernel
theorem d_M_truncate_184 : decode cc_M_truncate 184 = .ok (.aload_n 0, 1) := by decide +kernel
theorem d_M_truncate_185 : decode cc_M_truncate 185 = .ok (.getfield 25, 3) := by decide +kernel
theorem d_M_truncate_188 : decode cc_M_truncate 188 = .ok (.iload 9, 2) := by decide +kernel
theorem d_M_truncate_190 : decode cc_M_truncate 190 = .ok (.iaload, 1) := by decide +kernel
theorem d_M_truncate_191 : decode cc_M_truncate 191 = .ok (.ifCond .le 7, 3) := by decide +kernel
theorem d_M_truncate_194 : decode cc_M_truncate 194 = .ok (.iconst 1, 1) := by decide +kernel
theorem d_M_truncate_195 : decode cc_M_truncate 195 = .ok (.goto 4, 3) := by decide +kernel
def f_M_truncate_343 (mar : Int32) (mLb : Nat → Int32) (y0 : Int32) (y1 : Int32) (y2 : Int32) (y3 : Int32) (y4 : Int32) (y5 : Int32) (y6 : Nat → Int32) (y7 : Nat → Int32) (y8 : Nat → Int32) (y9 : Nat → Int32) : Option (Int32 × Int32 × Int32 × (Nat → Int32) × (Nat → Int32) × (Nat → Int32) × (Nat → Int32)) :=
  (jv_sa y9 232 (((8 : Int32) + ((8 : Int32) * y2)) + (3 : Int32)) y0).bind fun F25 => (f_M_finish F25 y1 y3 y5 y6 y7 y8).bind fun x27 => some (x27.1, y4, x27.2.1, x27.2.2.1, x27.2.2.2.1, x27.2.2.2.2, F25)
set_option maxHeartbeats 4000000 in
set_option maxRecDepth 100000 in
theorem b_M_truncate_343 {l : Launch} {dC : Nat → ClassId} {dI : Nat → Nat → Nat} {cI cA cL : ClassId} {q_mo q_mlb_ q_mcl_ q_mus_ q_mwr_ q_mdk_ q_mcp_ : Nat} {mar : Int32} {mLb : Nat → Int32} {mCl : Nat → Int32} {p : Program} {e : Env} {s : State} {m : MethodId} {args : Array Value} {below : List Frame} {meth : Method} {c : Code} (cx : jv_cx p s m args meth c cc_M_truncate 11 R_Model (some .int) ws_M_truncate) (hK : va_K (dC, dI) vwCl (jv_ty cI cA cL) s) {A : Nat → Prop} (hA : ∀ q : Nat, s.heap.size ≤ q → A q) {r : Int32 × Int32 × Int32 × (Nat → Int32) × (Nat → Int32) × (Nat → Int32) × (Nat → Int32)} {y0 : Int32} {y1 : Int32} {y2 : Int32} {y3 : Int32} {y4 : Int32} {y5 : Int32} {y6 : Nat → Int32} {y7 : Nat → Int32} {y8 : Nat → Int32} {y9 : Nat → Int32} {ls : Array Slot} (hl : lv_has ls 11 [(0, .ref q_mo), (3, .int y0), (4, .int y1), (5, .int y2), (6, .int y3)]) {H : Heap} {locs : List Loc} (hP : va_P (dC, dI) vwCl (w_model cI q_mo q_mlb_ q_mcl_ q_mus_ q_mwr_ q_mdk_ q_mcp_ y4 mar y5 mLb mCl y6 y7 y8 y9) H) (hD : va_D A (w_model cI q_mo q_mlb_ q_mcl_ q_mus_ q_mwr_ q_mdk_ q_mcp_ y4 mar y5 mLb mCl y6 y7 y8 y9)) (hS : va_S A s.heap H locs) (hf : f_M_truncate_343 mar mLb y0 y1 y2 y3 y4 y5 y6 y7 y8 y9 = some r) : W p l e rm_M_truncate s m args below meth c H locs 0 0 (MQ below (jv_Qi r.1 (dC, dI) (w_model cI q_mo q_mlb_ q_mcl_ q_mus_ q_mwr_ q_mdk_ q_mcp_ r.2.1 mar r.2.2.1 mLb mCl r.2.2.2.1 r.2.2.2.2.1 r.2.2.2.2.2.1 r.2.2.2.2.2.2) A) args s 0 0 A) (F0 m 343 ls []) := by
  unfold f_M_truncate_343 at hf
  obtain ⟨hx, hb, hml, hown, hts, hr, hlocks⟩ := id cx
  refine lv_aload_n hx hb d_M_truncate_343 rfl (lv_at hl 0 rfl) ?_
  refine va_get (D := (dC, dI)) (ci := kModel) (v := .ref q_mcp_) (C := R_Model) (T := T_Model) (N := 9) hx hb hts (fun w h => List.mem_cons_of_mem _ (in_Model w h)) hown hK hP 0 rfl rfl 7 (by decide) (jv_w hts wa_238) (fun _ h9 => h9) rfl d_M_truncate_344 ?_
  refine lv_bipush (v := (8 : Int32)) hx hb d_M_truncate_347 (by decide) ?_
  refine lv_bipush (v := (8 : Int32)) hx hb d_M_truncate_349 (by decide) ?_
  refine lv_iload hx hb d_M_truncate_351 (lv_at hl 3 rfl) ?_
  refine lv_imul hx hb d_M_truncate_353 ?_
  refine lv_iadd hx hb d_M_truncate_354 ?_
  refine lv_iconst (v := (3 : Int32)) hx hb d_M_truncate_355 (by decide) ?_
  refine lv_iadd hx hb d_M_truncate_356 ?_
  refine lv_iload_n hx hb d_M_truncate_357 rfl (lv_at hl 1 rfl) ?_
  obtain ⟨F25, g26, hf⟩ := jv_ob hf
  refine jv_iast hx hb hK hP hD hS 6 0 rfl rfl g26 d_M_truncate_358 (fun H locs hP hD hS => ?_)
  have hP : va_P (dC, dI) vwCl (w_model cI q_mo q_mlb_ q_mcl_ q_mus_ q_mwr_ q_mdk_ q_mcp_ y4 mar y5 mLb mCl y6 y7 y8 F25) H := hP
  have hD : va_D A (w_model cI q_mo q_mlb_ q_mcl_ q_mus_ q_mwr_ q_mdk_ q_mcp_ y4 mar y5 mLb mCl y6 y7 y8 F25) := hD
  refine lv_aload_n hx hb d_M_truncate_359 rfl (lv_at hl 0 rfl) ?_
  refine lv_iload hx hb d_M_truncate_360 (lv_at hl 2 rfl) ?_
  refine lv_iload hx hb d_M_truncate_362 (lv_at hl 4 rfl) ?_
  obtain ⟨x27, g28, hf⟩ := jv_ob hf
  have hPc := hP.sub (ws' := (w_model cI q_mo q_mlb_ q_mcl_ q_mus_ q_mwr_ q_mdk_ q_mcp_ y4 mar y5 mLb mCl y6 y7 y8 F25)) [0, 1, 2, 3, 4, 5, 6] rfl
  have hDc := hD.sub (ws' := (w_model cI q_mo q_mlb_ q_mcl_ q_mus_ q_mwr_ q_mdk_ q_mcp_ y4 mar y5 mLb mCl y6 y7 y8 F25)) [0, 1, 2, 3, 4, 5, 6] (by decide) rfl
  have hFc := va_free (wc := (w_model cI q_mo q_mlb_ q_mcl_ q_mus_ q_mwr_ q_mdk_ q_mcp_ y4 mar y5 mLb mCl y6 y7 y8 F25)) hD hS hA [0, 1, 2, 3, 4, 5, 6] rfl
  refine jv_cwi (va_runV (As := [.int y1, .int y3]) (rest := []) (b := q_mo) ⟨hx, hb, hml, hown, hts⟩ (c_M_finish l dC dI cI cA cL q_mo q_mlb_ q_mcl_ q_mus_ q_mwr_ q_mdk_ q_mcp_ y4 mar y5 mLb mCl y6 y7 y8 F25 y1 y3 H.size x27 g28) (jv_cwV hts wa_261 wa_194 wa_262 wa_263 wa_264 rfl rfl yd_M_finish ⟨Nat.le_of_ble_eq_true rfl, Nat.le_of_ble_eq_true rfl⟩) (jv_preVW hK hPc hDc 0 rfl rfl) rfl rfl hl.1 rfl (lv_room (Nat.le_of_ble_eq_true rfl)) d_M_truncate_364 ⟨Nat.zero_le _, Nat.zero_le _⟩) hS hFc (fun H1 locs hP1 hD1 hk1 hS => ?_)
  have hP : va_P (dC, dI) vwCl (w_model cI q_mo q_mlb_ q_mcl_ q_mus_ q_mwr_ q_mdk_ q_mcp_ y4 mar x27.2.1 mLb mCl x27.2.2.1 x27.2.2.2.1 x27.2.2.2.2 F25) H1 := hP1.sub [0, 1, 2, 3, 4, 5, 6] rfl
  have hD : va_D A (w_model cI q_mo q_mlb_ q_mcl_ q_mus_ q_mwr_ q_mdk_ q_mcp_ y4 mar x27.2.1 mLb mCl x27.2.2.1 x27.2.2.2.1 x27.2.2.2.2 F25) := (hD1.weaken (fun _ q _ h => hFc q.1 h)).sub [0, 1, 2, 3, 4, 5, 6] (by decide) rfl
  generalize H1 = H at hP hS ⊢
  obtain rfl := Option.some.inj hf
  exact W.iret hx hb hr (fun t ht hW => ⟨rfl, by rw [ht]; exact hP, hD, hS.F ht⟩) hS.2.2 d_M_truncate_367
def f_M_truncate_303 (mar : Int32) (mLb : Nat → Int32) (y0 : Int32) (y1 : Int32) (y2 : Int32) (y3 : Int32) (y4 : Int32) (y5 : Int32) (y6 : Int32) (y7 : Int32) (y8 : Nat → Int32) (y9 : Nat → Int32) (y10 : Nat → Int32) (k303 : (Int32 × (Nat → Int32)) → Option (Int32 × Int32 × Int32 × (Nat → Int32) × (Nat → Int32) × (Nat → Int32) × (Nat → Int32))) (a : Int32 × (Nat → Int32)) : Option (Int32 × Int32 × Int32 × (Nat → Int32) × (Nat → Int32) × (Nat → Int32) × (Nat → Int32)) :=
  if (8 : Int32) ≤ a.1 then (f_M_truncate_343 mar mLb y0 y1 y2 y3 y6 y7 y8 y9 y10 a.2) else (if y5 = 0 then (f_M_truncate_343 mar mLb y0 y1 y2 y3 y6 y7 y8 y9 y10 a.2) else ((jv_ga a.2 232 y4).bind fun x21 => (jv_sa a.2 232 (((64 : Int32) + ((8 : Int32) * x21)) + a.1) (0 : Int32)).bind fun F23 => k303 (a.1 + (1 : Int32), F23)))
set_option maxHeartbeats 4000000 in
set_option maxRecDepth 100000 in
theorem b_M_truncate_303 {l : Launch} {dC : Nat → ClassId} {dI : Nat → Nat → Nat} {cI cA cL : ClassId} {q_mo q_mlb_ q_mcl_ q_mus_ q_mwr_ q_mdk_ q_mcp_ : Nat} {mar : Int32} {mLb : Nat → Int32} {mCl : Nat → Int32} {p : Program} {e : Env} {s : State} {m : MethodId} {args : Array Value} {below : List Frame} {meth : Method} {c : Code} (cx : jv_cx p s m args meth c cc_M_truncate 11 R_Model (some .int) ws_M_truncate) (hK : va_K (dC, dI) vwCl (jv_ty cI cA cL) s) {A : Nat → Prop} (hA : ∀ q : Nat, s.heap.size ≤ q → A q) {r : Int32 × Int32 × Int32 × (Nat → Int32) × (Nat → Int32) × (Nat → Int32) × (Nat → Int32)} {y0 : Int32} {y1 : Int32} {y2 : Int32} {y3 : Int32} {y4 : Int32} {y5 : Int32} {y6 : Int32} {y7 : Int32} {y8 : Nat → Int32} {y9 : Nat → Int32} {y10 : Nat → Int32} {k303 : (Int32 × (Nat → Int32)) → Option (Int32 × Int32 × Int32 × (Nat → Int32) × (Nat → Int32) × (Nat → Int32) × (Nat → Int32))} (hk303 : ∀ (a : Int32 × (Nat → Int32)) (ls : Array Slot) (H : Heap) (locs : List Loc), lv_has ls 11 [(0, .ref q_mo), (3, .int y0), (4, .int y1), (5, .int y2), (6, .int y3), (8, .int y4), (9, .int y5), (10, .int a.1)] → va_P (dC, dI) vwCl (w_model cI q_mo q_mlb_ q_mcl_ q_mus_ q_mwr_ q_mdk_ q_mcp_ y6 mar y7 mLb mCl y8 y9 y10 a.2) H → va_D A (w_model cI q_mo q_mlb_ q_mcl_ q_mus_ q_mwr_ q_mdk_ q_mcp_ y6 mar y7 mLb mCl y8 y9 y10 a.2) → va_S A s.heap H locs → k303 a = some r → W p l e rm_M_truncate s m args below meth c H locs 0 0 (MQ below (jv_Qi r.1 (dC, dI) (w_model cI q_mo q_mlb_ q_mcl_ q_mus_ q_mwr_ q_mdk_ q_mcp_ r.2.1 mar r.2.2.1 mLb mCl r.2.2.2.1 r.2.2.2.2.1 r.2.2.2.2.2.1 r.2.2.2.2.2.2) A) args s 0 0 A) (F0 m 303 ls [])) {a : Int32 × (Nat → Int32)} {ls : Array Slot} (hl : lv_has ls 11 [(0, .ref q_mo), (3, .int y0), (4, .int y1), (5, .int y2), (6, .int y3), (8, .int y4), (9, .int y5), (10, .int a.1)]) {H : Heap} {locs : List Loc} (hP : va_P (dC, dI) vwCl (w_model cI q_mo q_mlb_ q_mcl_ q_mus_ q_mwr_ q_mdk_ q_mcp_ y6 mar y7 mLb mCl y8 y9 y10 a.2) H) (hD : va_D A (w_model cI q_mo q_mlb_ q_mcl_ q_mus_ q_mwr_ q_mdk_ q_mcp_ y6 mar y7 mLb mCl y8 y9 y10 a.2)) (hS : va_S A s.heap H locs) (hf : f_M_truncate_303 mar mLb y0 y1 y2 y3 y4 y5 y6 y7 y8 y9 y10 k303 a = some r) : W p l e rm_M_truncate s m args below meth c H locs 0 0 (MQ below (jv_Qi r.1 (dC, dI) (w_model cI q_mo q_mlb_ q_mcl_ q_mus_ q_mwr_ q_mdk_ q_mcp_ r.2.1 mar r.2.2.1 mLb mCl r.2.2.2.1 r.2.2.2.2.1 r.2.2.2.2.2.1 r.2.2.2.2.2.2) A) args s 0 0 A) (F0 m 303 ls []) := by
  unfold f_M_truncate_303 at hf
  obtain ⟨hx, hb, hml, hown, hts, hr, hlocks⟩ := id cx
  refine lv_iload hx hb d_M_truncate_303 (lv_at hl 7 rfl) ?_
  refine lv_bipush (v := (8 : Int32)) hx hb d_M_truncate_305 (by decide) ?_
  refine lv_icmp_ge (tgt := 343) hx hb d_M_truncate_307 (by decide) (fun hc => ?_) (fun hc => ?_)
  · have hf := jv_it hf hc
    exact b_M_truncate_343 (y0 := y0) (y1 := y1) (y2 := y2) (y3 := y3) (y4 := y6) (y5 := y7) (y6 := y8) (y7 := y9) (y8 := y10) (y9 := a.2) cx hK hA (lv_sub hl [0, 1, 2, 3, 4] rfl) hP hD hS hf
  · have hf := jv_if hf hc
    refine lv_iload hx hb d_M_truncate_310 (lv_at hl 6 rfl) ?_
    refine lv_if_eq (tgt := 343) hx hb d_M_truncate_312 (by decide) (fun hc => ?_) (fun hc => ?_)
    · have hf := jv_it hf hc
      exact b_M_truncate_343 (y0 := y0) (y1 := y1) (y2 := y2) (y3 := y3) (y4 := y6) (y5 := y7) (y6 := y8) (y7 := y9) (y8 := y10) (y9 := a.2) cx hK hA (lv_sub hl [0, 1, 2, 3, 4] rfl) hP hD hS hf
    · have hf := jv_if hf hc
      refine lv_aload_n hx hb d_M_truncate_315 rfl (lv_at hl 0 rfl) ?_
      refine va_get (D := (dC, dI)) (ci := kModel) (v := .ref q_mcp_) (C := R_Model) (T := T_Model) (N := 9) hx hb hts (fun w h => List.mem_cons_of_mem _ (in_Model w h)) hown hK hP 0 rfl rfl 7 (by decide) (jv_w hts wa_238) (fun _ h9 => h9) rfl d_M_truncate_316 ?_
      refine lv_bipush (v := (64 : Int32)) hx hb d_M_truncate_319 (by decide) ?_
      refine lv_bipush (v := (8 : Int32)) hx hb d_M_truncate_321 (by decide) ?_
      refine lv_aload_n hx hb d_M_truncate_323 rfl (lv_at hl 0 rfl) ?_
      refine va_get (D := (dC, dI)) (ci := kModel) (v := .ref q_mcp_) (C := R_Model) (T := T_Model) (N := 9) hx hb hts (fun w h => List.mem_cons_of_mem _ (in_Model w h)) hown hK hP 0 rfl rfl 7 (by decide) (jv_w hts wa_238) (fun _ h9 => h9) rfl d_M_truncate_324 ?_
      refine lv_iload hx hb d_M_truncate_327 (lv_at hl 5 rfl) ?_
      obtain ⟨x21, g22, hf⟩ := jv_ob hf
      refine jv_iald hx hb hK hP 6 0 rfl rfl g22 d_M_truncate_329 ?_
      refine lv_imul hx hb d_M_truncate_330 ?_
      refine lv_iadd hx hb d_M_truncate_331 ?_
      refine lv_iload hx hb d_M_truncate_332 (lv_at hl 7 rfl) ?_
      refine lv_iadd hx hb d_M_truncate_334 ?_
      refine lv_iconst (v := (0 : Int32)) hx hb d_M_truncate_335 (by decide) ?_
      obtain ⟨F23, g24, hf⟩ := jv_ob hf
      refine jv_iast hx hb hK hP hD hS 6 0 rfl rfl g24 d_M_truncate_336 (fun H locs hP hD hS => ?_)
      have hP : va_P (dC, dI) vwCl (w_model cI q_mo q_mlb_ q_mcl_ q_mus_ q_mwr_ q_mdk_ q_mcp_ y6 mar y7 mLb mCl y8 y9 y10 F23) H := hP
      have hD : va_D A (w_model cI q_mo q_mlb_ q_mcl_ q_mus_ q_mwr_ q_mdk_ q_mcp_ y6 mar y7 mLb mCl y8 y9 y10 F23) := hD
      refine lv_iinc (k := 7) (v := a.1 + (1 : Int32)) (lv' := [(10, .int (a.1 + (1 : Int32))), (0, .ref q_mo), (3, .int y0), (4, .int y1), (5, .int y2), (6, .int y3), (8, .int y4), (9, .int y5)]) hx hb d_M_truncate_337 hl rfl (jv_inc _) (by decide) rfl (fun ls hl => ?_)
      refine lv_goto (tgt := 303) hx hb d_M_truncate_340 (by decide) ?_
      exact hk303 (a.1 + (1 : Int32), F23) _ _ _ (lv_sub hl [1, 2, 3, 4, 5, 6, 7, 0] rfl) hP hD hS hf
set_option maxHeartbeats 4000000 in
set_option maxRecDepth 100000 in
theorem l_M_truncate_303 {l : Launch} {dC : Nat → ClassId} {dI : Nat → Nat → Nat} {cI cA cL : ClassId} {q_mo q_mlb_ q_mcl_ q_mus_ q_mwr_ q_mdk_ q_mcp_ : Nat} {mar : Int32} {mLb : Nat → Int32} {mCl : Nat → Int32} {p : Program} {e : Env} {s : State} {m : MethodId} {args : Array Value} {below : List Frame} {meth : Method} {c : Code} (cx : jv_cx p s m args meth c cc_M_truncate 11 R_Model (some .int) ws_M_truncate) (hK : va_K (dC, dI) vwCl (jv_ty cI cA cL) s) {A : Nat → Prop} (hA : ∀ q : Nat, s.heap.size ≤ q → A q) {r : Int32 × Int32 × Int32 × (Nat → Int32) × (Nat → Int32) × (Nat → Int32) × (Nat → Int32)} {y0 : Int32} {y1 : Int32} {y2 : Int32} {y3 : Int32} {y4 : Int32} {y5 : Int32} {y6 : Int32} {y7 : Int32} {y8 : Nat → Int32} {y9 : Nat → Int32} {y10 : Nat → Int32} : ∀ n : Nat, ∀ (a : Int32 × (Nat → Int32)) (ls : Array Slot) (H : Heap) (locs : List Loc), lv_has ls 11 [(0, .ref q_mo), (3, .int y0), (4, .int y1), (5, .int y2), (6, .int y3), (8, .int y4), (9, .int y5), (10, .int a.1)] → va_P (dC, dI) vwCl (w_model cI q_mo q_mlb_ q_mcl_ q_mus_ q_mwr_ q_mdk_ q_mcp_ y6 mar y7 mLb mCl y8 y9 y10 a.2) H → va_D A (w_model cI q_mo q_mlb_ q_mcl_ q_mus_ q_mwr_ q_mdk_ q_mcp_ y6 mar y7 mLb mCl y8 y9 y10 a.2) → va_S A s.heap H locs → jv_fx (f_M_truncate_303 mar mLb y0 y1 y2 y3 y4 y5 y6 y7 y8 y9 y10) n a = some r → W p l e rm_M_truncate s m args below meth c H locs 0 0 (MQ below (jv_Qi r.1 (dC, dI) (w_model cI q_mo q_mlb_ q_mcl_ q_mus_ q_mwr_ q_mdk_ q_mcp_ r.2.1 mar r.2.2.1 mLb mCl r.2.2.2.1 r.2.2.2.2.1 r.2.2.2.2.2.1 r.2.2.2.2.2.2) A) args s 0 0 A) (F0 m 303 ls []) := by
  intro n
  induction n with
  | zero => intro a ls H locs hl hP hD hS hf; exact jv_no hf
  | succ n ih => intro a ls H locs hl hP hD hS hf; exact b_M_truncate_303 cx hK hA ih hl hP hD hS hf
def f_M_truncate_286 (mar : Int32) (mLb : Nat → Int32) (y0 : Int32) (y1 : Int32) (y2 : Int32) (y3 : Int32) (y4 : Int32) (y5 : Int32) (y6 : Int32) (y7 : Int32) (y8 : Nat → Int32) (y9 : Nat → Int32) (y10 : Nat → Int32) (y11 : Nat → Int32) : Option (Int32 × Int32 × Int32 × (Nat → Int32) × (Nat → Int32) × (Nat → Int32) × (Nat → Int32)) :=
  (jv_ga y11 232 y5).bind fun x29 => if x29 ≤ 0 then (jv_fx (f_M_truncate_303 mar mLb y0 y1 y2 y3 y4 (0 : Int32) y6 y7 y8 y9 y10) 300 (y0 - y0 / (8 : Int32) * (8 : Int32), y11)) else (jv_fx (f_M_truncate_303 mar mLb y0 y1 y2 y3 y4 (1 : Int32) y6 y7 y8 y9 y10) 300 (y0 - y0 / (8 : Int32) * (8 : Int32), y11))
set_option maxHeartbeats 4000000 in
set_option maxRecDepth 100000 in
theorem b_M_truncate_286 {l : Launch} {dC : Nat → ClassId} {dI : Nat → Nat → Nat} {cI cA cL : ClassId} {q_mo q_mlb_ q_mcl_ q_mus_ q_mwr_ q_mdk_ q_mcp_ : Nat} {mar : Int32} {mLb : Nat → Int32} {mCl : Nat → Int32} {p : Program} {e : Env} {s : State} {m : MethodId} {args : Array Value} {below : List Frame} {meth : Method} {c : Code} (cx : jv_cx p s m args meth c cc_M_truncate 11 R_Model (some .int) ws_M_truncate) (hK : va_K (dC, dI) vwCl (jv_ty cI cA cL) s) {A : Nat → Prop} (hA : ∀ q : Nat, s.heap.size ≤ q → A q) {r : Int32 × Int32 × Int32 × (Nat → Int32) × (Nat → Int32) × (Nat → Int32) × (Nat → Int32)} {y0 : Int32} {y1 : Int32} {y2 : Int32} {y3 : Int32} {y4 : Int32} {y5 : Int32} {y6 : Int32} {y7 : Int32} {y8 : Nat → Int32} {y9 : Nat → Int32} {y10 : Nat → Int32} {y11 : Nat → Int32} {ls : Array Slot} (hl : lv_has ls 11 [(0, .ref q_mo), (3, .int y0), (4, .int y1), (5, .int y2), (6, .int y3), (8, .int y4)]) {H : Heap} {locs : List Loc} (hP : va_P (dC, dI) vwCl (w_model cI q_mo q_mlb_ q_mcl_ q_mus_ q_mwr_ q_mdk_ q_mcp_ y6 mar y7 mLb mCl y8 y9 y10 y11) H) (hD : va_D A (w_model cI q_mo q_mlb_ q_mcl_ q_mus_ q_mwr_ q_mdk_ q_mcp_ y6 mar y7 mLb mCl y8 y9 y10 y11)) (hS : va_S A s.heap H locs) (hf : f_M_truncate_286 mar mLb y0 y1 y2 y3 y4 y5 y6 y7 y8 y9 y10 y11 = some r) : W p l e rm_M_truncate s m args below meth c H locs 0 0 (MQ below (jv_Qi r.1 (dC, dI) (w_model cI q_mo q_mlb_ q_mcl_ q_mus_ q_mwr_ q_mdk_ q_mcp_ r.2.1 mar r.2.2.1 mLb mCl r.2.2.2.1 r.2.2.2.2.1 r.2.2.2.2.2.1 r.2.2.2.2.2.2) A) args s 0 0 A) (F0 m 286 ls [.int y5, .ref q_mcp_]) := by
  unfold f_M_truncate_286 at hf
  obtain ⟨hx, hb, hml, hown, hts, hr, hlocks⟩ := id cx
  obtain ⟨x29, g30, hf⟩ := jv_ob hf
  refine jv_iald hx hb hK hP 6 0 rfl rfl g30 d_M_truncate_286 ?_
  refine lv_if_le (tgt := 294) hx hb d_M_truncate_287 (by decide) (fun hc => ?_) (fun hc => ?_)
  · have hf := jv_it hf hc
    refine lv_iconst (v := (0 : Int32)) hx hb d_M_truncate_294 (by decide) ?_
    refine lv_istore (lv' := [(9, .int (0 : Int32)), (0, .ref q_mo), (3, .int y0), (4, .int y1), (5, .int y2), (6, .int y3), (8, .int y4)]) hx hb d_M_truncate_295 hl (by decide) rfl (fun ls hl => ?_)
    refine lv_iload_n hx hb d_M_truncate_297 rfl (lv_at hl 2 rfl) ?_
    refine lv_bipush (v := (8 : Int32)) hx hb d_M_truncate_298 (by decide) ?_
    refine lv_irem hx hb d_M_truncate_300 (by decide) ?_
    refine lv_istore (lv' := [(10, .int (y0 - y0 / (8 : Int32) * (8 : Int32))), (9, .int (0 : Int32)), (0, .ref q_mo), (3, .int y0), (4, .int y1), (5, .int y2), (6, .int y3), (8, .int y4)]) hx hb d_M_truncate_301 hl (by decide) rfl (fun ls hl => ?_)
    exact l_M_truncate_303 (y0 := y0) (y1 := y1) (y2 := y2) (y3 := y3) (y4 := y4) (y5 := (0 : Int32)) (y6 := y6) (y7 := y7) (y8 := y8) (y9 := y9) (y10 := y10) cx hK hA 300 (y0 - y0 / (8 : Int32) * (8 : Int32), y11) _ _ _ (lv_sub hl [2, 3, 4, 5, 6, 7, 1, 0] rfl) hP hD hS hf
  · have hf := jv_if hf hc
    refine lv_iconst (v := (1 : Int32)) hx hb d_M_truncate_290 (by decide) ?_
    refine lv_goto (tgt := 295) hx hb d_M_truncate_291 (by decide) ?_
    refine lv_istore (lv' := [(9, .int (1 : Int32)), (0, .ref q_mo), (3, .int y0), (4, .int y1), (5, .int y2), (6, .int y3), (8, .int y4)]) hx hb d_M_truncate_295 hl (by decide) rfl (fun ls hl => ?_)
    refine lv_iload_n hx hb d_M_truncate_297 rfl (lv_at hl 2 rfl) ?_
    refine lv_bipush (v := (8 : Int32)) hx hb d_M_truncate_298 (by decide) ?_
    refine lv_irem hx hb d_M_truncate_300 (by decide) ?_
    refine lv_istore (lv' := [(10, .int (y0 - y0 / (8 : Int32) * (8 : Int32))), (9, .int (1 : Int32)), (0, .ref q_mo), (3, .int y0), (4, .int y1), (5, .int y2), (6, .int y3), (8, .int y4)]) hx hb d_M_truncate_301 hl (by decide) rfl (fun ls hl => ?_)
    exact l_M_truncate_303 (y0 := y0) (y1 := y1) (y2 := y2) (y3 := y3) (y4 := y4) (y5 := (1 : Int32)) (y6 := y6) (y7 := y7) (y8 := y8) (y9 := y9) (y10 := y10) cx hK hA 300 (y0 - y0 / (8 : Int32) * (8 : Int32), y11) _ _ _ (lv_sub hl [2, 3, 4, 5, 6, 7, 1, 0] rfl) hP hD hS hf
def f_M_truncate_254 (mar : Int32) (mLb : Nat → Int32) (y0 : Int32) (y1 : Int32) (y2 : Int32) (y3 : Int32) (y4 : Int32) (y5 : Int32) (y6 : Int32) (y7 : Int32) (y8 : Nat → Int32) (y9 : Nat → Int32) (y10 : Nat → Int32) (y11 : Nat → Int32) : Option (Int32 × Int32 × Int32 × (Nat → Int32) × (Nat → Int32) × (Nat → Int32) × (Nat → Int32)) :=
  (f_M_pointer y11 y5 y4).bind fun x19 => if (y0 - y0 / (8 : Int32) * (8 : Int32)) ≤ 0 then (jv_fx (f_M_truncate_303 mar mLb y0 y1 y2 y3 x19 (0 : Int32) y6 y7 y8 y9 y10) 300 (y0 - y0 / (8 : Int32) * (8 : Int32), y11)) else (if x19 < 0 then (jv_fx (f_M_truncate_303 mar mLb y0 y1 y2 y3 x19 (0 : Int32) y6 y7 y8 y9 y10) 300 (y0 - y0 / (8 : Int32) * (8 : Int32), y11)) else (if x19 < 0 then (f_M_truncate_286 mar mLb y0 y1 y2 y3 x19 (0 : Int32) y6 y7 y8 y9 y10 y11) else (f_M_truncate_286 mar mLb y0 y1 y2 y3 x19 x19 y6 y7 y8 y9 y10 y11)))
set_option maxHeartbeats 4000000 in
set_option maxRecDepth 100000 in
theorem b_M_truncate_254 {l : Launch} {dC : Nat → ClassId} {dI : Nat → Nat → Nat} {cI cA cL : ClassId} {q_mo q_mlb_ q_mcl_ q_mus_ q_mwr_ q_mdk_ q_mcp_ : Nat} {mar : Int32} {mLb : Nat → Int32} {mCl : Nat → Int32} {p : Program} {e : Env} {s : State} {m : MethodId} {args : Array Value} {below : List Frame} {meth : Method} {c : Code} (cx : jv_cx p s m args meth c cc_M_truncate 11 R_Model (some .int) ws_M_truncate) (hK : va_K (dC, dI) vwCl (jv_ty cI cA cL) s) {A : Nat → Prop} (hA : ∀ q : Nat, s.heap.size ≤ q → A q) {r : Int32 × Int32 × Int32 × (Nat → Int32) × (Nat → Int32) × (Nat → Int32) × (Nat → Int32)} {y0 : Int32} {y1 : Int32} {y2 : Int32} {y3 : Int32} {y4 : Int32} {y5 : Int32} {y6 : Int32} {y7 : Int32} {y8 : Nat → Int32} {y9 : Nat → Int32} {y10 : Nat → Int32} {y11 : Nat → Int32} {ls : Array Slot} (hl : lv_has ls 11 [(0, .ref q_mo), (3, .int y0), (4, .int y1), (5, .int y2), (6, .int y3)]) {H : Heap} {locs : List Loc} (hP : va_P (dC, dI) vwCl (w_model cI q_mo q_mlb_ q_mcl_ q_mus_ q_mwr_ q_mdk_ q_mcp_ y6 mar y7 mLb mCl y8 y9 y10 y11) H) (hD : va_D A (w_model cI q_mo q_mlb_ q_mcl_ q_mus_ q_mwr_ q_mdk_ q_mcp_ y6 mar y7 mLb mCl y8 y9 y10 y11)) (hS : va_S A s.heap H locs) (hf : f_M_truncate_254 mar mLb y0 y1 y2 y3 y4 y5 y6 y7 y8 y9 y10 y11 = some r) : W p l e rm_M_truncate s m args below meth c H locs 0 0 (MQ below (jv_Qi r.1 (dC, dI) (w_model cI q_mo q_mlb_ q_mcl_ q_mus_ q_mwr_ q_mdk_ q_mcp_ r.2.1 mar r.2.2.1 mLb mCl r.2.2.2.1 r.2.2.2.2.1 r.2.2.2.2.2.1 r.2.2.2.2.2.2) A) args s 0 0 A) (F0 m 254 ls [.int y4, .int y5, .ref q_mo]) := by
  unfold f_M_truncate_254 at hf
  obtain ⟨hx, hb, hml, hown, hts, hr, hlocks⟩ := id cx
  obtain ⟨x19, g20, hf⟩ := jv_ob hf
  have hPc := hP.sub (ws' := (w_model cI q_mo q_mlb_ q_mcl_ q_mus_ q_mwr_ q_mdk_ q_mcp_ y6 mar y7 mLb mCl y8 y9 y10 y11)) [0, 1, 2, 3, 4, 5, 6] rfl
  refine jv_cs (W.runV (As := [.int y5, .int y4]) (rest := []) (b := q_mo) ⟨hx, hb, hml, hown, hts⟩ (c_M_pointer l dC dI cI cA cL q_mo q_mlb_ q_mcl_ q_mus_ q_mwr_ q_mdk_ q_mcp_ y6 mar y7 mLb mCl y8 y9 y10 y11 y5 y4 x19 g20) (jv_cwV hts wa_269 wa_194 wa_270 wa_271 wa_272 rfl rfl yd_M_pointer ⟨Nat.le_of_ble_eq_true rfl, Nat.le_of_ble_eq_true rfl⟩) (jv_preV hK hPc 0 rfl rfl) rfl rfl hl.1 rfl (lv_room (Nat.le_of_ble_eq_true rfl)) d_M_truncate_254 ⟨Nat.zero_le _, Nat.zero_le _⟩) ?_
  refine lv_istore (lv' := [(8, .int x19), (0, .ref q_mo), (3, .int y0), (4, .int y1), (5, .int y2), (6, .int y3)]) hx hb d_M_truncate_257 hl (by decide) rfl (fun ls hl => ?_)
  refine lv_iload_n hx hb d_M_truncate_259 rfl (lv_at hl 2 rfl) ?_
  refine lv_bipush (v := (8 : Int32)) hx hb d_M_truncate_260 (by decide) ?_
  refine lv_irem hx hb d_M_truncate_262 (by decide) ?_
  refine lv_if_le (tgt := 294) hx hb d_M_truncate_263 (by decide) (fun hc => ?_) (fun hc => ?_)
  · have hf := jv_it hf hc
    refine lv_iconst (v := (0 : Int32)) hx hb d_M_truncate_294 (by decide) ?_
    refine lv_istore (lv' := [(9, .int (0 : Int32)), (8, .int x19), (0, .ref q_mo), (3, .int y0), (4, .int y1), (5, .int y2), (6, .int y3)]) hx hb d_M_truncate_295 hl (by decide) rfl (fun ls hl => ?_)
    refine lv_iload_n hx hb d_M_truncate_297 rfl (lv_at hl 3 rfl) ?_
    refine lv_bipush (v := (8 : Int32)) hx hb d_M_truncate_298 (by decide) ?_
    refine lv_irem hx hb d_M_truncate_300 (by decide) ?_
    refine lv_istore (lv' := [(10, .int (y0 - y0 / (8 : Int32) * (8 : Int32))), (9, .int (0 : Int32)), (8, .int x19), (0, .ref q_mo), (3, .int y0), (4, .int y1), (5, .int y2), (6, .int y3)]) hx hb d_M_truncate_301 hl (by decide) rfl (fun ls hl => ?_)
    exact l_M_truncate_303 (y0 := y0) (y1 := y1) (y2 := y2) (y3 := y3) (y4 := x19) (y5 := (0 : Int32)) (y6 := y6) (y7 := y7) (y8 := y8) (y9 := y9) (y10 := y10) cx hK hA 300 (y0 - y0 / (8 : Int32) * (8 : Int32), y11) _ _ _ (lv_sub hl [3, 4, 5, 6, 7, 2, 1, 0] rfl) hP hD hS hf
  · have hf := jv_if hf hc
    refine lv_iload hx hb d_M_truncate_266 (lv_at hl 0 rfl) ?_
    refine lv_if_lt (tgt := 294) hx hb d_M_truncate_268 (by decide) (fun hc => ?_) (fun hc => ?_)
    · have hf := jv_it hf hc
      refine lv_iconst (v := (0 : Int32)) hx hb d_M_truncate_294 (by decide) ?_
      refine lv_istore (lv' := [(9, .int (0 : Int32)), (8, .int x19), (0, .ref q_mo), (3, .int y0), (4, .int y1), (5, .int y2), (6, .int y3)]) hx hb d_M_truncate_295 hl (by decide) rfl (fun ls hl => ?_)
      refine lv_iload_n hx hb d_M_truncate_297 rfl (lv_at hl 3 rfl) ?_
      refine lv_bipush (v := (8 : Int32)) hx hb d_M_truncate_298 (by decide) ?_
      refine lv_irem hx hb d_M_truncate_300 (by decide) ?_
      refine lv_istore (lv' := [(10, .int (y0 - y0 / (8 : Int32) * (8 : Int32))), (9, .int (0 : Int32)), (8, .int x19), (0, .ref q_mo), (3, .int y0), (4, .int y1), (5, .int y2), (6, .int y3)]) hx hb d_M_truncate_301 hl (by decide) rfl (fun ls hl => ?_)
      exact l_M_truncate_303 (y0 := y0) (y1 := y1) (y2 := y2) (y3 := y3) (y4 := x19) (y5 := (0 : Int32)) (y6 := y6) (y7 := y7) (y8 := y8) (y9 := y9) (y10 := y10) cx hK hA 300 (y0 - y0 / (8 : Int32) * (8 : Int32), y11) _ _ _ (lv_sub hl [3, 4, 5, 6, 7, 2, 1, 0] rfl) hP hD hS hf
    · have hf := jv_if hf hc
      refine lv_aload_n hx hb d_M_truncate_271 rfl (lv_at hl 1 rfl) ?_
      refine va_get (D := (dC, dI)) (ci := kModel) (v := .ref q_mcp_) (C := R_Model) (T := T_Model) (N := 9) hx hb hts (fun w h => List.mem_cons_of_mem _ (in_Model w h)) hown hK hP 0 rfl rfl 7 (by decide) (jv_w hts wa_238) (fun _ h9 => h9) rfl d_M_truncate_272 ?_
      refine lv_iload hx hb d_M_truncate_275 (lv_at hl 0 rfl) ?_
      refine lv_if_lt (tgt := 285) hx hb d_M_truncate_277 (by decide) (fun hc => ?_) (fun hc => ?_)
      · have hf := jv_it hf hc
        refine lv_iconst (v := (0 : Int32)) hx hb d_M_truncate_285 (by decide) ?_
        exact b_M_truncate_286 (y0 := y0) (y1 := y1) (y2 := y2) (y3 := y3) (y4 := x19) (y5 := (0 : Int32)) (y6 := y6) (y7 := y7) (y8 := y8) (y9 := y9) (y10 := y10) (y11 := y11) cx hK hA (lv_sub hl [1, 2, 3, 4, 5, 0] rfl) hP hD hS hf
      · have hf := jv_if hf hc
        refine lv_iload hx hb d_M_truncate_280 (lv_at hl 0 rfl) ?_
        refine lv_goto (tgt := 286) hx hb d_M_truncate_282 (by decide) ?_
        exact b_M_truncate_286 (y0 := y0) (y1 := y1) (y2 := y2) (y3 := y3) (y4 := x19) (y5 := x19) (y6 := y6) (y7 := y7) (y8 := y8) (y9 := y9) (y10 := y10) (y11 := y11) cx hK hA (lv_sub hl [1, 2, 3, 4, 5, 0] rfl) hP hD hS hf
def f_M_truncate_171 (mar : Int32) (mLb : Nat → Int32) (k129 : (Int32 × Int32 × Int32 × (Nat → Int32)) → Option (Int32 × Int32 × Int32 × (Nat → Int32) × (Nat → Int32) × (Nat → Int32) × (Nat → Int32))) (y0 : Int32) (y1 : Int32) (y2 : Int32) (y3 : Int32) (y4 : Int32) (y5 : Int32) (y6 : Int32) (y7 : Int32) (y8 : Int32) (y9 : Nat → Int32) (y10 : Nat → Int32) (y11 : Nat → Int32) (y12 : Nat → Int32) : Option (Int32 × Int32 × Int32 × (Nat → Int32) × (Nat → Int32) × (Nat → Int32) × (Nat → Int32)) :=
  if y5 ≤ (1 : Int32) then (k129 (y3, y4 + (0 : Int32), y5 + (1 : Int32), y12)) else (if y6 < 0 then (k129 (y3, y4 + (0 : Int32), y5 + (1 : Int32), y12)) else ((jv_ga y12 232 y6).bind fun x31 => if x31 ≤ 0 then (k129 (y3, y4 + (0 : Int32), y5 + (1 : Int32), y12)) else (k129 (y3, y4 + (1 : Int32), y5 + (1 : Int32), y12))))
set_option maxHeartbeats 4000000 in
set_option maxRecDepth 100000 in
theorem b_M_truncate_171 {l : Launch} {dC : Nat → ClassId} {dI : Nat → Nat → Nat} {cI cA cL : ClassId} {q_mo q_mlb_ q_mcl_ q_mus_ q_mwr_ q_mdk_ q_mcp_ : Nat} {mar : Int32} {mLb : Nat → Int32} {mCl : Nat → Int32} {p : Program} {e : Env} {s : State} {m : MethodId} {args : Array Value} {below : List Frame} {meth : Method} {c : Code} (cx : jv_cx p s m args meth c cc_M_truncate 11 R_Model (some .int) ws_M_truncate) (hK : va_K (dC, dI) vwCl (jv_ty cI cA cL) s) {A : Nat → Prop} (hA : ∀ q : Nat, s.heap.size ≤ q → A q) {r : Int32 × Int32 × Int32 × (Nat → Int32) × (Nat → Int32) × (Nat → Int32) × (Nat → Int32)} {k129 : (Int32 × Int32 × Int32 × (Nat → Int32)) → Option (Int32 × Int32 × Int32 × (Nat → Int32) × (Nat → Int32) × (Nat → Int32) × (Nat → Int32))} {y0 : Int32} {y1 : Int32} {y2 : Int32} {y3 : Int32} {y4 : Int32} {y5 : Int32} {y6 : Int32} {y7 : Int32} {y8 : Int32} {y9 : Nat → Int32} {y10 : Nat → Int32} {y11 : Nat → Int32} {y12 : Nat → Int32} (hk129 : ∀ (a : Int32 × Int32 × Int32 × (Nat → Int32)) (ls : Array Slot) (H : Heap) (locs : List Loc), lv_has ls 11 [(0, .ref q_mo), (3, .int y0), (4, .int y1), (5, .int y2), (6, .int a.1), (7, .int a.2.1), (8, .int a.2.2.1)] → va_P (dC, dI) vwCl (w_model cI q_mo q_mlb_ q_mcl_ q_mus_ q_mwr_ q_mdk_ q_mcp_ y7 mar y8 mLb mCl y9 y10 y11 a.2.2.2) H → va_D A (w_model cI q_mo q_mlb_ q_mcl_ q_mus_ q_mwr_ q_mdk_ q_mcp_ y7 mar y8 mLb mCl y9 y10 y11 a.2.2.2) → va_S A s.heap H locs → k129 a = some r → W p l e rm_M_truncate s m args below meth c H locs 0 0 (MQ below (jv_Qi r.1 (dC, dI) (w_model cI q_mo q_mlb_ q_mcl_ q_mus_ q_mwr_ q_mdk_ q_mcp_ r.2.1 mar r.2.2.1 mLb mCl r.2.2.2.1 r.2.2.2.2.1 r.2.2.2.2.2.1 r.2.2.2.2.2.2) A) args s 0 0 A) (F0 m 129 ls [])) {ls : Array Slot} (hl : lv_has ls 11 [(0, .ref q_mo), (3, .int y0), (4, .int y1), (5, .int y2), (6, .int y3), (7, .int y4), (8, .int y5), (9, .int y6)]) {H : Heap} {locs : List Loc} (hP : va_P (dC, dI) vwCl (w_model cI q_mo q_mlb_ q_mcl_ q_mus_ q_mwr_ q_mdk_ q_mcp_ y7 mar y8 mLb mCl y9 y10 y11 y12) H) (hD : va_D A (w_model cI q_mo q_mlb_ q_mcl_ q_mus_ q_mwr_ q_mdk_ q_mcp_ y7 mar y8 mLb mCl y9 y10 y11 y12)) (hS : va_S A s.heap H locs) (hf : f_M_truncate_171 mar mLb k129 y0 y1 y2 y3 y4 y5 y6 y7 y8 y9 y10 y11 y12 = some r) : W p l e rm_M_truncate s m args below meth c H locs 0 0 (MQ below (jv_Qi r.1 (dC, dI) (w_model cI q_mo q_mlb_ q_mcl_ q_mus_ q_mwr_ q_mdk_ q_mcp_ r.2.1 mar r.2.2.1 mLb mCl r.2.2.2.1 r.2.2.2.2.1 r.2.2.2.2.2.1 r.2.2.2.2.2.2) A) args s 0 0 A) (F0 m 171 ls []) := by
  unfold f_M_truncate_171 at hf
  obtain ⟨hx, hb, hml, hown, hts, hr, hlocks⟩ := id cx
  refine lv_iload hx hb d_M_truncate_171 (lv_at hl 5 rfl) ?_
  refine lv_iload hx hb d_M_truncate_173 (lv_at hl 6 rfl) ?_
  refine lv_iconst (v := (1 : Int32)) hx hb d_M_truncate_175 (by decide) ?_
  refine lv_icmp_le (tgt := 198) hx hb d_M_truncate_176 (by decide) (fun hc => ?_) (fun hc => ?_)
  · have hf := jv_it hf hc
    refine lv_iconst (v := (0 : Int32)) hx hb d_M_truncate_198 (by decide) ?_
    refine lv_iadd hx hb d_M_truncate_199 ?_
    refine lv_istore (lv' := [(7, .int (y4 + (0 : Int32))), (0, .ref q_mo), (3, .int y0), (4, .int y1), (5, .int y2), (6, .int y3), (8, .int y5), (9, .int y6)]) hx hb d_M_truncate_200 hl (by decide) rfl (fun ls hl => ?_)
    refine lv_iinc (k := 6) (v := y5 + (1 : Int32)) (lv' := [(8, .int (y5 + (1 : Int32))), (7, .int (y4 + (0 : Int32))), (0, .ref q_mo), (3, .int y0), (4, .int y1), (5, .int y2), (6, .int y3), (9, .int y6)]) hx hb d_M_truncate_202 hl rfl (jv_inc _) (by decide) rfl (fun ls hl => ?_)
    refine lv_goto (tgt := 129) hx hb d_M_truncate_205 (by decide) ?_
    exact hk129 (y3, y4 + (0 : Int32), y5 + (1 : Int32), y12) _ _ _ (lv_sub hl [2, 3, 4, 5, 6, 1, 0] rfl) hP hD hS hf
  · have hf := jv_if hf hc
    refine lv_iload hx hb d_M_truncate_179 (lv_at hl 7 rfl) ?_
    refine lv_if_lt (tgt := 198) hx hb d_M_truncate_181 (by decide) (fun hc => ?_) (fun hc => ?_)
    · have hf := jv_it hf hc
      refine lv_iconst (v := (0 : Int32)) hx hb d_M_truncate_198 (by decide) ?_
      refine lv_iadd hx hb d_M_truncate_199 ?_
      refine lv_istore (lv' := [(7, .int (y4 + (0 : Int32))), (0, .ref q_mo), (3, .int y0), (4, .int y1), (5, .int y2), (6, .int y3), (8, .int y5), (9, .int y6)]) hx hb d_M_truncate_200 hl (by decide) rfl (fun ls hl => ?_)
      refine lv_iinc (k := 6) (v := y5 + (1 : Int32)) (lv' := [(8, .int (y5 + (1 : Int32))), (7, .int (y4 + (0 : Int32))), (0, .ref q_mo), (3, .int y0), (4, .int y1), (5, .int y2), (6, .int y3), (9, .int y6)]) hx hb d_M_truncate_202 hl rfl (jv_inc _) (by decide) rfl (fun ls hl => ?_)
      refine lv_goto (tgt := 129) hx hb d_M_truncate_205 (by decide) ?_
      exact hk129 (y3, y4 + (0 : Int32), y5 + (1 : Int32), y12) _ _ _ (lv_sub hl [2, 3, 4, 5, 6, 1, 0] rfl) hP hD hS hf
    · have hf := jv_if hf hc
      refine lv_aload_n hx hb d_M_truncate_184 rfl (lv_at hl 0 rfl) ?_
      refine va_get (D := (dC, dI)) (ci := kModel) (v := .ref q_mcp_) (C := R_Model) (T := T_Model) (N := 9) hx hb hts (fun w h => List.mem_cons_of_mem _ (in_Model w h)) hown hK hP 0 rfl rfl 7 (by decide) (jv_w hts wa_238) (fun _ h9 => h9) rfl d_M_truncate_185 ?_
      refine lv_iload hx hb d_M_truncate_188 (lv_at hl 7 rfl) ?_
      obtain ⟨x31, g32, hf⟩ := jv_ob hf
      refine jv_iald hx hb hK hP 6 0 rfl rfl g32 d_M_truncate_190 ?_
      refine lv_if_le (tgt := 198) hx hb d_M_truncate_191 (by decide) (fun hc => ?_) (fun hc => ?_)
      · have hf := jv_it hf hc
        refine lv_iconst (v := (0 : Int32)) hx hb d_M_truncate_198 (by decide) ?_
        refine lv_iadd hx hb d_M_truncate_199 ?_
        refine lv_istore (lv' := [(7, .int (y4 + (0 : Int32))), (0, .ref q_mo), (3, .int y0), (4, .int y1), (5, .int y2), (6, .int y3), (8, .int y5), (9, .int y6)]) hx hb d_M_truncate_200 hl (by decide) rfl (fun ls hl => ?_)
        refine lv_iinc (k := 6) (v := y5 + (1 : Int32)) (lv' := [(8, .int (y5 + (1 : Int32))), (7, .int (y4 + (0 : Int32))), (0, .ref q_mo), (3, .int y0), (4, .int y1), (5, .int y2), (6, .int y3), (9, .int y6)]) hx hb d_M_truncate_202 hl rfl (jv_inc _) (by decide) rfl (fun ls hl => ?_)
        refine lv_goto (tgt := 129) hx hb d_M_truncate_205 (by decide) ?_
        exact hk129 (y3, y4 + (0 : Int32), y5 + (1 : Int32), y12) _ _ _ (lv_sub hl [2, 3, 4, 5, 6, 1, 0] rfl) hP hD hS hf
      · have hf := jv_if hf hc
        refine lv_iconst (v := (1 : Int32)) hx hb d_M_truncate_194 (by decide) ?_
        refine lv_goto (tgt := 199) hx hb d_M_truncate_195 (by decide) ?_
        refine lv_iadd hx hb d_M_truncate_199 ?_
        refine lv_istore (lv' := [(7, .int (y4 + (1 : Int32))), (0, .ref q_mo), (3, .int y0), (4, .int y1), (5, .int y2), (6, .int y3), (8, .int y5), (9, .int y6)]) hx hb d_M_truncate_200 hl (by decide) rfl (fun ls hl => ?_)
        refine lv_iinc (k := 6) (v := y5 + (1 : Int32)) (lv' := [(8, .int (y5 + (1 : Int32))), (7, .int (y4 + (1 : Int32))), (0, .ref q_mo), (3, .int y0), (4, .int y1), (5, .int y2), (6, .int y3), (9, .int y6)]) hx hb d_M_truncate_202 hl rfl (jv_inc _) (by decide) rfl (fun ls hl => ?_)
        refine lv_goto (tgt := 129) hx hb d_M_truncate_205 (by decide) ?_
        exact hk129 (y3, y4 + (1 : Int32), y5 + (1 : Int32), y12) _ _ _ (lv_sub hl [2, 3, 4, 5, 6, 1, 0] rfl) hP hD hS hf
def f_M_truncate_129 (mar : Int32) (mLb : Nat → Int32) (y0 : Int32) (y1 : Int32) (y2 : Int32) (y3 : Int32) (y4 : Int32) (y5 : Nat → Int32) (y6 : Nat → Int32) (y7 : Nat → Int32) (k129 : (Int32 × Int32 × Int32 × (Nat → Int32)) → Option (Int32 × Int32 × Int32 × (Nat → Int32) × (Nat → Int32) × (Nat → Int32) × (Nat → Int32))) (a : Int32 × Int32 × Int32 × (Nat → Int32)) : Option (Int32 × Int32 × Int32 × (Nat → Int32) × (Nat → Int32) × (Nat → Int32) × (Nat → Int32)) :=
  if (10 : Int32) ≤ a.2.2.1 then (if a.2.1 = 0 then ((f_M_release (((8 : Int32) + ((8 : Int32) * y2)) + (6 : Int32)) a.2.2.2).bind fun x13 => if (10 : Int32) ≤ (y0 / (8 : Int32)) then (f_M_truncate_254 mar mLb y0 y1 y2 (a.1 + x13.1) (9 : Int32) y2 y3 y4 y5 y6 y7 x13.2) else (f_M_truncate_254 mar mLb y0 y1 y2 (a.1 + x13.1) (y0 / (8 : Int32)) y2 y3 y4 y5 y6 y7 x13.2)) else (if (10 : Int32) ≤ (y0 / (8 : Int32)) then (f_M_truncate_254 mar mLb y0 y1 y2 a.1 (9 : Int32) y2 y3 y4 y5 y6 y7 a.2.2.2) else (f_M_truncate_254 mar mLb y0 y1 y2 a.1 (y0 / (8 : Int32)) y2 y3 y4 y5 y6 y7 a.2.2.2))) else ((f_M_pointer a.2.2.2 y2 a.2.2.1).bind fun x15 => if x15 < 0 then (f_M_truncate_171 mar mLb k129 y0 y1 y2 a.1 a.2.1 a.2.2.1 x15 y3 y4 y5 y6 y7 a.2.2.2) else (if ((8 : Int32) * a.2.2.1) < y0 then (f_M_truncate_171 mar mLb k129 y0 y1 y2 a.1 a.2.1 a.2.2.1 x15 y3 y4 y5 y6 y7 a.2.2.2) else ((f_M_release x15 a.2.2.2).bind fun x17 => f_M_truncate_171 mar mLb k129 y0 y1 y2 (a.1 + x17.1) a.2.1 a.2.2.1 x15 y3 y4 y5 y6 y7 x17.2)))
set_option maxHeartbeats 4000000 in
set_option maxRecDepth 100000 in
theorem b_M_truncate_129 {l : Launch} {dC : Nat → ClassId} {dI : Nat → Nat → Nat} {cI cA cL : ClassId} {q_mo q_mlb_ q_mcl_ q_mus_ q_mwr_ q_mdk_ q_mcp_ : Nat} {mar : Int32} {mLb : Nat → Int32} {mCl : Nat → Int32} {p : Program} {e : Env} {s : State} {m : MethodId} {args : Array Value} {below : List Frame} {meth : Method} {c : Code} (cx : jv_cx p s m args meth c cc_M_truncate 11 R_Model (some .int) ws_M_truncate) (hK : va_K (dC, dI) vwCl (jv_ty cI cA cL) s) {A : Nat → Prop} (hA : ∀ q : Nat, s.heap.size ≤ q → A q) {r : Int32 × Int32 × Int32 × (Nat → Int32) × (Nat → Int32) × (Nat → Int32) × (Nat → Int32)} {y0 : Int32} {y1 : Int32} {y2 : Int32} {y3 : Int32} {y4 : Int32} {y5 : Nat → Int32} {y6 : Nat → Int32} {y7 : Nat → Int32} {k129 : (Int32 × Int32 × Int32 × (Nat → Int32)) → Option (Int32 × Int32 × Int32 × (Nat → Int32) × (Nat → Int32) × (Nat → Int32) × (Nat → Int32))} (hk129 : ∀ (a : Int32 × Int32 × Int32 × (Nat → Int32)) (ls : Array Slot) (H : Heap) (locs : List Loc), lv_has ls 11 [(0, .ref q_mo), (3, .int y0), (4, .int y1), (5, .int y2), (6, .int a.1), (7, .int a.2.1), (8, .int a.2.2.1)] → va_P (dC, dI) vwCl (w_model cI q_mo q_mlb_ q_mcl_ q_mus_ q_mwr_ q_mdk_ q_mcp_ y3 mar y4 mLb mCl y5 y6 y7 a.2.2.2) H → va_D A (w_model cI q_mo q_mlb_ q_mcl_ q_mus_ q_mwr_ q_mdk_ q_mcp_ y3 mar y4 mLb mCl y5 y6 y7 a.2.2.2) → va_S A s.heap H locs → k129 a = some r → W p l e rm_M_truncate s m args below meth c H locs 0 0 (MQ below (jv_Qi r.1 (dC, dI) (w_model cI q_mo q_mlb_ q_mcl_ q_mus_ q_mwr_ q_mdk_ q_mcp_ r.2.1 mar r.2.2.1 mLb mCl r.2.2.2.1 r.2.2.2.2.1 r.2.2.2.2.2.1 r.2.2.2.2.2.2) A) args s 0 0 A) (F0 m 129 ls [])) {a : Int32 × Int32 × Int32 × (Nat → Int32)} {ls : Array Slot} (hl : lv_has ls 11 [(0, .ref q_mo), (3, .int y0), (4, .int y1), (5, .int y2), (6, .int a.1), (7, .int a.2.1), (8, .int a.2.2.1)]) {H : Heap} {locs : List Loc} (hP : va_P (dC, dI) vwCl (w_model cI q_mo q_mlb_ q_mcl_ q_mus_ q_mwr_ q_mdk_ q_mcp_ y3 mar y4 mLb mCl y5 y6 y7 a.2.2.2) H) (hD : va_D A (w_model cI q_mo q_mlb_ q_mcl_ q_mus_ q_mwr_ q_mdk_ q_mcp_ y3 mar y4 mLb mCl y5 y6 y7 a.2.2.2)) (hS : va_S A s.heap H locs) (hf : f_M_truncate_129 mar mLb y0 y1 y2 y3 y4 y5 y6 y7 k129 a = some r) : W p l e rm_M_truncate s m args below meth c H locs 0 0 (MQ below (jv_Qi r.1 (dC, dI) (w_model cI q_mo q_mlb_ q_mcl_ q_mus_ q_mwr_ q_mdk_ q_mcp_ r.2.1 mar r.2.2.1 mLb mCl r.2.2.2.1 r.2.2.2.2.1 r.2.2.2.2.2.1 r.2.2.2.2.2.2) A) args s 0 0 A) (F0 m 129 ls []) := by
  unfold f_M_truncate_129 at hf
  obtain ⟨hx, hb, hml, hown, hts, hr, hlocks⟩ := id cx
  refine lv_iload hx hb d_M_truncate_129 (lv_at hl 6 rfl) ?_
  refine lv_bipush (v := (10 : Int32)) hx hb d_M_truncate_131 (by decide) ?_
  refine lv_icmp_ge (tgt := 208) hx hb d_M_truncate_133 (by decide) (fun hc => ?_) (fun hc => ?_)
  · have hf := jv_it hf hc
    refine lv_iload hx hb d_M_truncate_208 (lv_at hl 5 rfl) ?_
    refine lv_if_ne (tgt := 233) hx hb d_M_truncate_210 (by decide) (fun hc => ?_) (fun hc => ?_)
    · have hf := jv_if hf hc
      refine lv_aload_n hx hb d_M_truncate_233 rfl (lv_at hl 0 rfl) ?_
      refine lv_iload hx hb d_M_truncate_234 (lv_at hl 3 rfl) ?_
      refine lv_iload_n hx hb d_M_truncate_236 rfl (lv_at hl 1 rfl) ?_
      refine lv_bipush (v := (8 : Int32)) hx hb d_M_truncate_237 (by decide) ?_
      refine lv_idiv hx hb d_M_truncate_239 (by decide) ?_
      refine lv_bipush (v := (10 : Int32)) hx hb d_M_truncate_240 (by decide) ?_
      refine lv_icmp_ge (tgt := 252) hx hb d_M_truncate_242 (by decide) (fun hc => ?_) (fun hc => ?_)
      · have hf := jv_it hf hc
        refine lv_bipush (v := (9 : Int32)) hx hb d_M_truncate_252 (by decide) ?_
        exact b_M_truncate_254 (y0 := y0) (y1 := y1) (y2 := y2) (y3 := a.1) (y4 := (9 : Int32)) (y5 := y2) (y6 := y3) (y7 := y4) (y8 := y5) (y9 := y6) (y10 := y7) (y11 := a.2.2.2) cx hK hA (lv_sub hl [0, 1, 2, 3, 4] rfl) hP hD hS hf
      · have hf := jv_if hf hc
        refine lv_iload_n hx hb d_M_truncate_245 rfl (lv_at hl 1 rfl) ?_
        refine lv_bipush (v := (8 : Int32)) hx hb d_M_truncate_246 (by decide) ?_
        refine lv_idiv hx hb d_M_truncate_248 (by decide) ?_
        refine lv_goto (tgt := 254) hx hb d_M_truncate_249 (by decide) ?_
        exact b_M_truncate_254 (y0 := y0) (y1 := y1) (y2 := y2) (y3 := a.1) (y4 := y0 / (8 : Int32)) (y5 := y2) (y6 := y3) (y7 := y4) (y8 := y5) (y9 := y6) (y10 := y7) (y11 := a.2.2.2) cx hK hA (lv_sub hl [0, 1, 2, 3, 4] rfl) hP hD hS hf
    · have hf := jv_it hf hc
      refine lv_iload hx hb d_M_truncate_213 (lv_at hl 4 rfl) ?_
      refine lv_aload_n hx hb d_M_truncate_215 rfl (lv_at hl 0 rfl) ?_
      refine lv_bipush (v := (8 : Int32)) hx hb d_M_truncate_216 (by decide) ?_
      refine lv_bipush (v := (8 : Int32)) hx hb d_M_truncate_218 (by decide) ?_
      refine lv_iload hx hb d_M_truncate_220 (lv_at hl 3 rfl) ?_
      refine lv_imul hx hb d_M_truncate_222 ?_
      refine lv_iadd hx hb d_M_truncate_223 ?_
      refine lv_bipush (v := (6 : Int32)) hx hb d_M_truncate_224 (by decide) ?_
      refine lv_iadd hx hb d_M_truncate_226 ?_
      obtain ⟨x13, g14, hf⟩ := jv_ob hf
      have hPc := hP.sub (ws' := (w_model cI q_mo q_mlb_ q_mcl_ q_mus_ q_mwr_ q_mdk_ q_mcp_ y3 mar y4 mLb mCl y5 y6 y7 a.2.2.2)) [0, 1, 2, 3, 4, 5, 6] rfl
      have hDc := hD.sub (ws' := (w_model cI q_mo q_mlb_ q_mcl_ q_mus_ q_mwr_ q_mdk_ q_mcp_ y3 mar y4 mLb mCl y5 y6 y7 a.2.2.2)) [0, 1, 2, 3, 4, 5, 6] (by decide) rfl
      have hFc := va_free (wc := (w_model cI q_mo q_mlb_ q_mcl_ q_mus_ q_mwr_ q_mdk_ q_mcp_ y3 mar y4 mLb mCl y5 y6 y7 a.2.2.2)) hD hS hA [0, 1, 2, 3, 4, 5, 6] rfl
      refine jv_cwi (va_runV (As := [.int (((8 : Int32) + ((8 : Int32) * y2)) + (6 : Int32))]) (rest := [.int a.1]) (b := q_mo) ⟨hx, hb, hml, hown, hts⟩ (c_M_release l dC dI cI cA cL q_mo q_mlb_ q_mcl_ q_mus_ q_mwr_ q_mdk_ q_mcp_ y3 mar y4 mLb mCl y5 y6 y7 a.2.2.2 (((8 : Int32) + ((8 : Int32) * y2)) + (6 : Int32)) H.size x13 g14) (jv_cwV hts wa_281 wa_194 wa_282 wa_283 wa_284 rfl rfl yd_M_release ⟨Nat.le_of_ble_eq_true rfl, Nat.le_of_ble_eq_true rfl⟩) (jv_preVW hK hPc hDc 0 rfl rfl) rfl rfl hl.1 rfl (lv_room (Nat.le_of_ble_eq_true rfl)) d_M_truncate_227 ⟨Nat.zero_le _, Nat.zero_le _⟩) hS hFc (fun H1 locs hP1 hD1 hk1 hS => ?_)
      have hP : va_P (dC, dI) vwCl (w_model cI q_mo q_mlb_ q_mcl_ q_mus_ q_mwr_ q_mdk_ q_mcp_ y3 mar y4 mLb mCl y5 y6 y7 x13.2) H1 := hP1.sub [0, 1, 2, 3, 4, 5, 6] rfl
      have hD : va_D A (w_model cI q_mo q_mlb_ q_mcl_ q_mus_ q_mwr_ q_mdk_ q_mcp_ y3 mar y4 mLb mCl y5 y6 y7 x13.2) := (hD1.weaken (fun _ q _ h => hFc q.1 h)).sub [0, 1, 2, 3, 4, 5, 6] (by decide) rfl
      generalize H1 = H at hP hS ⊢
      refine lv_iadd hx hb d_M_truncate_230 ?_
      refine lv_istore (lv' := [(6, .int (a.1 + x13.1)), (0, .ref q_mo), (3, .int y0), (4, .int y1), (5, .int y2), (7, .int a.2.1), (8, .int a.2.2.1)]) hx hb d_M_truncate_231 hl (by decide) rfl (fun ls hl => ?_)
      refine lv_aload_n hx hb d_M_truncate_233 rfl (lv_at hl 1 rfl) ?_
      refine lv_iload hx hb d_M_truncate_234 (lv_at hl 4 rfl) ?_
      refine lv_iload_n hx hb d_M_truncate_236 rfl (lv_at hl 2 rfl) ?_
      refine lv_bipush (v := (8 : Int32)) hx hb d_M_truncate_237 (by decide) ?_
      refine lv_idiv hx hb d_M_truncate_239 (by decide) ?_
      refine lv_bipush (v := (10 : Int32)) hx hb d_M_truncate_240 (by decide) ?_
      refine lv_icmp_ge (tgt := 252) hx hb d_M_truncate_242 (by decide) (fun hc => ?_) (fun hc => ?_)
      · have hf := jv_it hf hc
        refine lv_bipush (v := (9 : Int32)) hx hb d_M_truncate_252 (by decide) ?_
        exact b_M_truncate_254 (y0 := y0) (y1 := y1) (y2 := y2) (y3 := a.1 + x13.1) (y4 := (9 : Int32)) (y5 := y2) (y6 := y3) (y7 := y4) (y8 := y5) (y9 := y6) (y10 := y7) (y11 := x13.2) cx hK hA (lv_sub hl [1, 2, 3, 4, 0] rfl) hP hD hS hf
      · have hf := jv_if hf hc
        refine lv_iload_n hx hb d_M_truncate_245 rfl (lv_at hl 2 rfl) ?_
        refine lv_bipush (v := (8 : Int32)) hx hb d_M_truncate_246 (by decide) ?_
        refine lv_idiv hx hb d_M_truncate_248 (by decide) ?_
        refine lv_goto (tgt := 254) hx hb d_M_truncate_249 (by decide) ?_
        exact b_M_truncate_254 (y0 := y0) (y1 := y1) (y2 := y2) (y3 := a.1 + x13.1) (y4 := y0 / (8 : Int32)) (y5 := y2) (y6 := y3) (y7 := y4) (y8 := y5) (y9 := y6) (y10 := y7) (y11 := x13.2) cx hK hA (lv_sub hl [1, 2, 3, 4, 0] rfl) hP hD hS hf
  · have hf := jv_if hf hc
    refine lv_aload_n hx hb d_M_truncate_136 rfl (lv_at hl 0 rfl) ?_
    refine lv_iload hx hb d_M_truncate_137 (lv_at hl 3 rfl) ?_
    refine lv_iload hx hb d_M_truncate_139 (lv_at hl 6 rfl) ?_
    obtain ⟨x15, g16, hf⟩ := jv_ob hf
    have hPc := hP.sub (ws' := (w_model cI q_mo q_mlb_ q_mcl_ q_mus_ q_mwr_ q_mdk_ q_mcp_ y3 mar y4 mLb mCl y5 y6 y7 a.2.2.2)) [0, 1, 2, 3, 4, 5, 6] rfl
    refine jv_cs (W.runV (As := [.int y2, .int a.2.2.1]) (rest := []) (b := q_mo) ⟨hx, hb, hml, hown, hts⟩ (c_M_pointer l dC dI cI cA cL q_mo q_mlb_ q_mcl_ q_mus_ q_mwr_ q_mdk_ q_mcp_ y3 mar y4 mLb mCl y5 y6 y7 a.2.2.2 y2 a.2.2.1 x15 g16) (jv_cwV hts wa_269 wa_194 wa_270 wa_271 wa_272 rfl rfl yd_M_pointer ⟨Nat.le_of_ble_eq_true rfl, Nat.le_of_ble_eq_true rfl⟩) (jv_preV hK hPc 0 rfl rfl) rfl rfl hl.1 rfl (lv_room (Nat.le_of_ble_eq_true rfl)) d_M_truncate_141 ⟨Nat.zero_le _, Nat.zero_le _⟩) ?_
    refine lv_istore (lv' := [(9, .int x15), (0, .ref q_mo), (3, .int y0), (4, .int y1), (5, .int y2), (6, .int a.1), (7, .int a.2.1), (8, .int a.2.2.1)]) hx hb d_M_truncate_144 hl (by decide) rfl (fun ls hl => ?_)
    refine lv_iload hx hb d_M_truncate_146 (lv_at hl 0 rfl) ?_
    refine lv_if_lt (tgt := 171) hx hb d_M_truncate_148 (by decide) (fun hc => ?_) (fun hc => ?_)
    · have hf := jv_it hf hc
      exact b_M_truncate_171 (y0 := y0) (y1 := y1) (y2 := y2) (y3 := a.1) (y4 := a.2.1) (y5 := a.2.2.1) (y6 := x15) (y7 := y3) (y8 := y4) (y9 := y5) (y10 := y6) (y11 := y7) (y12 := a.2.2.2) cx hK hA hk129 (lv_sub hl [1, 2, 3, 4, 5, 6, 7, 0] rfl) hP hD hS hf
    · have hf := jv_if hf hc
      refine lv_bipush (v := (8 : Int32)) hx hb d_M_truncate_151 (by decide) ?_
      refine lv_iload hx hb d_M_truncate_153 (lv_at hl 7 rfl) ?_
      refine lv_imul hx hb d_M_truncate_155 ?_
      refine lv_iload_n hx hb d_M_truncate_156 rfl (lv_at hl 2 rfl) ?_
      refine lv_icmp_lt (tgt := 171) hx hb d_M_truncate_157 (by decide) (fun hc => ?_) (fun hc => ?_)
      · have hf := jv_it hf hc
        exact b_M_truncate_171 (y0 := y0) (y1 := y1) (y2 := y2) (y3 := a.1) (y4 := a.2.1) (y5 := a.2.2.1) (y6 := x15) (y7 := y3) (y8 := y4) (y9 := y5) (y10 := y6) (y11 := y7) (y12 := a.2.2.2) cx hK hA hk129 (lv_sub hl [1, 2, 3, 4, 5, 6, 7, 0] rfl) hP hD hS hf
      · have hf := jv_if hf hc
        refine lv_iload hx hb d_M_truncate_160 (lv_at hl 5 rfl) ?_
        refine lv_aload_n hx hb d_M_truncate_162 rfl (lv_at hl 1 rfl) ?_
        refine lv_iload hx hb d_M_truncate_163 (lv_at hl 0 rfl) ?_
        obtain ⟨x17, g18, hf⟩ := jv_ob hf
        have hPc := hP.sub (ws' := (w_model cI q_mo q_mlb_ q_mcl_ q_mus_ q_mwr_ q_mdk_ q_mcp_ y3 mar y4 mLb mCl y5 y6 y7 a.2.2.2)) [0, 1, 2, 3, 4, 5, 6] rfl
        have hDc := hD.sub (ws' := (w_model cI q_mo q_mlb_ q_mcl_ q_mus_ q_mwr_ q_mdk_ q_mcp_ y3 mar y4 mLb mCl y5 y6 y7 a.2.2.2)) [0, 1, 2, 3, 4, 5, 6] (by decide) rfl
        have hFc := va_free (wc := (w_model cI q_mo q_mlb_ q_mcl_ q_mus_ q_mwr_ q_mdk_ q_mcp_ y3 mar y4 mLb mCl y5 y6 y7 a.2.2.2)) hD hS hA [0, 1, 2, 3, 4, 5, 6] rfl
        refine jv_cwi (va_runV (As := [.int x15]) (rest := [.int a.1]) (b := q_mo) ⟨hx, hb, hml, hown, hts⟩ (c_M_release l dC dI cI cA cL q_mo q_mlb_ q_mcl_ q_mus_ q_mwr_ q_mdk_ q_mcp_ y3 mar y4 mLb mCl y5 y6 y7 a.2.2.2 x15 H.size x17 g18) (jv_cwV hts wa_281 wa_194 wa_282 wa_283 wa_284 rfl rfl yd_M_release ⟨Nat.le_of_ble_eq_true rfl, Nat.le_of_ble_eq_true rfl⟩) (jv_preVW hK hPc hDc 0 rfl rfl) rfl rfl hl.1 rfl (lv_room (Nat.le_of_ble_eq_true rfl)) d_M_truncate_165 ⟨Nat.zero_le _, Nat.zero_le _⟩) hS hFc (fun H1 locs hP1 hD1 hk1 hS => ?_)
        have hP : va_P (dC, dI) vwCl (w_model cI q_mo q_mlb_ q_mcl_ q_mus_ q_mwr_ q_mdk_ q_mcp_ y3 mar y4 mLb mCl y5 y6 y7 x17.2) H1 := hP1.sub [0, 1, 2, 3, 4, 5, 6] rfl
        have hD : va_D A (w_model cI q_mo q_mlb_ q_mcl_ q_mus_ q_mwr_ q_mdk_ q_mcp_ y3 mar y4 mLb mCl y5 y6 y7 x17.2) := (hD1.weaken (fun _ q _ h => hFc q.1 h)).sub [0, 1, 2, 3, 4, 5, 6] (by decide) rfl
        generalize H1 = H at hP hS ⊢
        refine lv_iadd hx hb d_M_truncate_168 ?_
        refine lv_istore (lv' := [(6, .int (a.1 + x17.1)), (9, .int x15), (0, .ref q_mo), (3, .int y0), (4, .int y1), (5, .int y2), (7, .int a.2.1), (8, .int a.2.2.1)]) hx hb d_M_truncate_169 hl (by decide) rfl (fun ls hl => ?_)
        exact b_M_truncate_171 (y0 := y0) (y1 := y1) (y2 := y2) (y3 := a.1 + x17.1) (y4 := a.2.1) (y5 := a.2.2.1) (y6 := x15) (y7 := y3) (y8 := y4) (y9 := y5) (y10 := y6) (y11 := y7) (y12 := x17.2) cx hK hA hk129 (lv_sub hl [2, 3, 4, 5, 0, 6, 7, 1] rfl) hP hD hS hf
set_option maxHeartbeats 4000000 in
set_option maxRecDepth 100000 in
theorem l_M_truncate_129 {l : Launch} {dC : Nat → ClassId} {dI : Nat → Nat → Nat} {cI cA cL : ClassId} {q_mo q_mlb_ q_mcl_ q_mus_ q_mwr_ q_mdk_ q_mcp_ : Nat} {mar : Int32} {mLb : Nat → Int32} {mCl : Nat → Int32} {p : Program} {e : Env} {s : State} {m : MethodId} {args : Array Value} {below : List Frame} {meth : Method} {c : Code} (cx : jv_cx p s m args meth c cc_M_truncate 11 R_Model (some .int) ws_M_truncate) (hK : va_K (dC, dI) vwCl (jv_ty cI cA cL) s) {A : Nat → Prop} (hA : ∀ q : Nat, s.heap.size ≤ q → A q) {r : Int32 × Int32 × Int32 × (Nat → Int32) × (Nat → Int32) × (Nat → Int32) × (Nat → Int32)} {y0 : Int32} {y1 : Int32} {y2 : Int32} {y3 : Int32} {y4 : Int32} {y5 : Nat → Int32} {y6 : Nat → Int32} {y7 : Nat → Int32} : ∀ n : Nat, ∀ (a : Int32 × Int32 × Int32 × (Nat → Int32)) (ls : Array Slot) (H : Heap) (locs : List Loc), lv_has ls 11 [(0, .ref q_mo), (3, .int y0), (4, .int y1), (5, .int y2), (6, .int a.1), (7, .int a.2.1), (8, .int a.2.2.1)] → va_P (dC, dI) vwCl (w_model cI q_mo q_mlb_ q_mcl_ q_mus_ q_mwr_ q_mdk_ q_mcp_ y3 mar y4 mLb mCl y5 y6 y7 a.2.2.2) H → va_D A (w_model cI q_mo q_mlb_ q_mcl_ q_mus_ q_mwr_ q_mdk_ q_mcp_ y3 mar y4 mLb mCl y5 y6 y7 a.2.2.2) → va_S A s.heap H locs → jv_fx (f_M_truncate_129 mar mLb y0 y1 y2 y3 y4 y5 y6 y7) n a = some r → W p l e rm_M_truncate s m args below meth c H locs 0 0 (MQ below (jv_Qi r.1 (dC, dI) (w_model cI q_mo q_mlb_ q_mcl_ q_mus_ q_mwr_ q_mdk_ q_mcp_ r.2.1 mar r.2.2.1 mLb mCl r.2.2.2.1 r.2.2.2.2.1 r.2.2.2.2.2.1 r.2.2.2.2.2.2) A) args s 0 0 A) (F0 m 129 ls []) := by
  intro n
  induction n with
  | zero => intro a ls H locs hl hP hD hS hf; exact jv_no hf
  | succ n ih => intro a ls H locs hl hP hD hS hf; exact b_M_truncate_129 cx hK hA ih hl hP hD hS hf
def f_M_truncate_102 (mar : Int32) (mLb : Nat → Int32) (y0 : Int32) (y1 : Int32) (y2 : Int32) (y3 : Int32) (y4 : Int32) (y5 : Int32) (y6 : Nat → Int32) (y7 : Nat → Int32) (y8 : Nat → Int32) (y9 : Nat → Int32) : Option (Int32 × Int32 × Int32 × (Nat → Int32) × (Nat → Int32) × (Nat → Int32) × (Nat → Int32)) :=
  if y3 ≤ 0 then ((f_M_start y8 y1 y9).bind fun x11 => jv_fx (f_M_truncate_129 mar mLb y0 y1 y2 y3 y5 y6 y7 y8) 300 ((0 : Int32), (0 : Int32), (0 : Int32), x11)) else (some ((0 : Int32), y3, y5, y6, y7, y8, y9))
set_option maxHeartbeats 4000000 in
set_option maxRecDepth 100000 in
theorem b_M_truncate_102 {l : Launch} {dC : Nat → ClassId} {dI : Nat → Nat → Nat} {cI cA cL : ClassId} {q_mo q_mlb_ q_mcl_ q_mus_ q_mwr_ q_mdk_ q_mcp_ : Nat} {mar : Int32} {mLb : Nat → Int32} {mCl : Nat → Int32} {p : Program} {e : Env} {s : State} {m : MethodId} {args : Array Value} {below : List Frame} {meth : Method} {c : Code} (cx : jv_cx p s m args meth c cc_M_truncate 11 R_Model (some .int) ws_M_truncate) (hK : va_K (dC, dI) vwCl (jv_ty cI cA cL) s) {A : Nat → Prop} (hA : ∀ q : Nat, s.heap.size ≤ q → A q) {r : Int32 × Int32 × Int32 × (Nat → Int32) × (Nat → Int32) × (Nat → Int32) × (Nat → Int32)} {y0 : Int32} {y1 : Int32} {y2 : Int32} {y3 : Int32} {y4 : Int32} {y5 : Int32} {y6 : Nat → Int32} {y7 : Nat → Int32} {y8 : Nat → Int32} {y9 : Nat → Int32} {ls : Array Slot} (hl : lv_has ls 11 [(0, .ref q_mo), (3, .int y0), (4, .int y1), (5, .int y2)]) {H : Heap} {locs : List Loc} (hP : va_P (dC, dI) vwCl (w_model cI q_mo q_mlb_ q_mcl_ q_mus_ q_mwr_ q_mdk_ q_mcp_ y4 mar y5 mLb mCl y6 y7 y8 y9) H) (hD : va_D A (w_model cI q_mo q_mlb_ q_mcl_ q_mus_ q_mwr_ q_mdk_ q_mcp_ y4 mar y5 mLb mCl y6 y7 y8 y9)) (hS : va_S A s.heap H locs) (hf : f_M_truncate_102 mar mLb y0 y1 y2 y3 y4 y5 y6 y7 y8 y9 = some r) : W p l e rm_M_truncate s m args below meth c H locs 0 0 (MQ below (jv_Qi r.1 (dC, dI) (w_model cI q_mo q_mlb_ q_mcl_ q_mus_ q_mwr_ q_mdk_ q_mcp_ r.2.1 mar r.2.2.1 mLb mCl r.2.2.2.1 r.2.2.2.2.1 r.2.2.2.2.2.1 r.2.2.2.2.2.2) A) args s 0 0 A) (F0 m 102 ls [.int y3, .ref q_mo]) := by
  unfold f_M_truncate_102 at hf
  obtain ⟨hx, hb, hml, hown, hts, hr, hlocks⟩ := id cx
  refine va_put (D := (dC, dI)) (ci := kModel) (v := .int y3) (ty := .int) (C := R_Model) (T := T_Model) (N := 9) hx hb hts (fun w h => List.mem_cons_of_mem _ (in_Model w h)) ty_Model tyok_Model nm_Model hown hK hP hD hS 0 rfl rfl 0 (by decide) (jv_w hts wa_200) (fun _ h9 => h9) rfl (by decide +kernel) rfl rfl (Nat.le_of_ble_eq_true rfl) d_M_truncate_102 (fun H locs hP hD hS => ?_)
  have hP : va_P (dC, dI) vwCl (w_model cI q_mo q_mlb_ q_mcl_ q_mus_ q_mwr_ q_mdk_ q_mcp_ y3 mar y5 mLb mCl y6 y7 y8 y9) H := hP
  have hD : va_D A (w_model cI q_mo q_mlb_ q_mcl_ q_mus_ q_mwr_ q_mdk_ q_mcp_ y3 mar y5 mLb mCl y6 y7 y8 y9) := hD
  refine lv_aload_n hx hb d_M_truncate_105 rfl (lv_at hl 0 rfl) ?_
  refine va_get (D := (dC, dI)) (ci := kModel) (v := .int y3) (C := R_Model) (T := T_Model) (N := 9) hx hb hts (fun w h => List.mem_cons_of_mem _ (in_Model w h)) hown hK hP 0 rfl rfl 0 (by decide) (jv_w hts wa_200) (fun _ h9 => h9) rfl d_M_truncate_106 ?_
  refine lv_if_le (tgt := 114) hx hb d_M_truncate_109 (by decide) (fun hc => ?_) (fun hc => ?_)
  · have hf := jv_it hf hc
    refine lv_aload_n hx hb d_M_truncate_114 rfl (lv_at hl 0 rfl) ?_
    refine lv_iload hx hb d_M_truncate_115 (lv_at hl 2 rfl) ?_
    obtain ⟨x11, g12, hf⟩ := jv_ob hf
    have hPc := hP.sub (ws' := (w_model cI q_mo q_mlb_ q_mcl_ q_mus_ q_mwr_ q_mdk_ q_mcp_ y3 mar y5 mLb mCl y6 y7 y8 y9)) [0, 1, 2, 3, 4, 5, 6] rfl
    have hDc := hD.sub (ws' := (w_model cI q_mo q_mlb_ q_mcl_ q_mus_ q_mwr_ q_mdk_ q_mcp_ y3 mar y5 mLb mCl y6 y7 y8 y9)) [0, 1, 2, 3, 4, 5, 6] (by decide) rfl
    have hFc := va_free (wc := (w_model cI q_mo q_mlb_ q_mcl_ q_mus_ q_mwr_ q_mdk_ q_mcp_ y3 mar y5 mLb mCl y6 y7 y8 y9)) hD hS hA [0, 1, 2, 3, 4, 5, 6] rfl
    refine jv_cwv (va_runV (As := [.int y1]) (rest := []) (b := q_mo) ⟨hx, hb, hml, hown, hts⟩ (c_M_start l dC dI cI cA cL q_mo q_mlb_ q_mcl_ q_mus_ q_mwr_ q_mdk_ q_mcp_ y3 mar y5 mLb mCl y6 y7 y8 y9 y1 H.size x11 g12) (jv_cwV hts wa_257 wa_194 wa_258 wa_259 wa_260 rfl rfl yd_M_start ⟨Nat.le_of_ble_eq_true rfl, Nat.le_of_ble_eq_true rfl⟩) (jv_preVW hK hPc hDc 0 rfl rfl) rfl rfl hl.1 rfl (lv_room (Nat.le_of_ble_eq_true rfl)) d_M_truncate_117 ⟨Nat.zero_le _, Nat.zero_le _⟩) hS hFc (fun H1 locs hP1 hD1 hk1 hS => ?_)
    have hP : va_P (dC, dI) vwCl (w_model cI q_mo q_mlb_ q_mcl_ q_mus_ q_mwr_ q_mdk_ q_mcp_ y3 mar y5 mLb mCl y6 y7 y8 x11) H1 := hP1.sub [0, 1, 2, 3, 4, 5, 6] rfl
    have hD : va_D A (w_model cI q_mo q_mlb_ q_mcl_ q_mus_ q_mwr_ q_mdk_ q_mcp_ y3 mar y5 mLb mCl y6 y7 y8 x11) := (hD1.weaken (fun _ q _ h => hFc q.1 h)).sub [0, 1, 2, 3, 4, 5, 6] (by decide) rfl
    generalize H1 = H at hP hS ⊢
    refine lv_iconst (v := (0 : Int32)) hx hb d_M_truncate_120 (by decide) ?_
    refine lv_istore (lv' := [(6, .int (0 : Int32)), (0, .ref q_mo), (3, .int y0), (4, .int y1), (5, .int y2)]) hx hb d_M_truncate_121 hl (by decide) rfl (fun ls hl => ?_)
    refine lv_iconst (v := (0 : Int32)) hx hb d_M_truncate_123 (by decide) ?_
    refine lv_istore (lv' := [(7, .int (0 : Int32)), (6, .int (0 : Int32)), (0, .ref q_mo), (3, .int y0), (4, .int y1), (5, .int y2)]) hx hb d_M_truncate_124 hl (by decide) rfl (fun ls hl => ?_)
    refine lv_iconst (v := (0 : Int32)) hx hb d_M_truncate_126 (by decide) ?_
    refine lv_istore (lv' := [(8, .int (0 : Int32)), (7, .int (0 : Int32)), (6, .int (0 : Int32)), (0, .ref q_mo), (3, .int y0), (4, .int y1), (5, .int y2)]) hx hb d_M_truncate_127 hl (by decide) rfl (fun ls hl => ?_)
    exact l_M_truncate_129 (y0 := y0) (y1 := y1) (y2 := y2) (y3 := y3) (y4 := y5) (y5 := y6) (y6 := y7) (y7 := y8) cx hK hA 300 ((0 : Int32), (0 : Int32), (0 : Int32), x11) _ _ _ (lv_sub hl [3, 4, 5, 6, 2, 1, 0] rfl) hP hD hS hf
  · have hf := jv_if hf hc
    refine lv_iconst (v := (0 : Int32)) hx hb d_M_truncate_112 (by decide) ?_
    obtain rfl := Option.some.inj hf
    exact W.iret hx hb hr (fun t ht hW => ⟨rfl, by rw [ht]; exact hP, hD, hS.F ht⟩) hS.2.2 d_M_truncate_113
def f_M_truncate_58 (mar : Int32) (mLb : Nat → Int32) (y0 : Int32) (y1 : Int32) (y2 : Int32) (y3 : Int32) (y4 : Int32) (y5 : Nat → Int32) (y6 : Nat → Int32) (y7 : Nat → Int32) (y8 : Nat → Int32) : Option (Int32 × Int32 × Int32 × (Nat → Int32) × (Nat → Int32) × (Nat → Int32) × (Nat → Int32)) :=
  if y3 = 0 then ((f_M_inode y7 y1 y2 (0 : Int32)).bind fun x7 => if x7 = (1 : Int32) then (f_M_truncate_102 mar mLb y0 y1 y2 (4 : Int32) y3 y4 y5 y6 y7 y8) else ((f_M_inode y7 y1 y2 (3 : Int32)).bind fun x9 => if y0 ≤ x9 then (f_M_truncate_102 mar mLb y0 y1 y2 y3 y3 y4 y5 y6 y7 y8) else (f_M_truncate_102 mar mLb y0 y1 y2 (4 : Int32) y3 y4 y5 y6 y7 y8))) else (f_M_truncate_102 mar mLb y0 y1 y2 y3 y3 y4 y5 y6 y7 y8)
set_option maxHeartbeats 4000000 in
set_option maxRecDepth 100000 in
theorem b_M_truncate_58 {l : Launch} {dC : Nat → ClassId} {dI : Nat → Nat → Nat} {cI cA cL : ClassId} {q_mo q_mlb_ q_mcl_ q_mus_ q_mwr_ q_mdk_ q_mcp_ : Nat} {mar : Int32} {mLb : Nat → Int32} {mCl : Nat → Int32} {p : Program} {e : Env} {s : State} {m : MethodId} {args : Array Value} {below : List Frame} {meth : Method} {c : Code} (cx : jv_cx p s m args meth c cc_M_truncate 11 R_Model (some .int) ws_M_truncate) (hK : va_K (dC, dI) vwCl (jv_ty cI cA cL) s) {A : Nat → Prop} (hA : ∀ q : Nat, s.heap.size ≤ q → A q) {r : Int32 × Int32 × Int32 × (Nat → Int32) × (Nat → Int32) × (Nat → Int32) × (Nat → Int32)} {y0 : Int32} {y1 : Int32} {y2 : Int32} {y3 : Int32} {y4 : Int32} {y5 : Nat → Int32} {y6 : Nat → Int32} {y7 : Nat → Int32} {y8 : Nat → Int32} {ls : Array Slot} (hl : lv_has ls 11 [(0, .ref q_mo), (3, .int y0), (4, .int y1)]) {H : Heap} {locs : List Loc} (hP : va_P (dC, dI) vwCl (w_model cI q_mo q_mlb_ q_mcl_ q_mus_ q_mwr_ q_mdk_ q_mcp_ y3 mar y4 mLb mCl y5 y6 y7 y8) H) (hD : va_D A (w_model cI q_mo q_mlb_ q_mcl_ q_mus_ q_mwr_ q_mdk_ q_mcp_ y3 mar y4 mLb mCl y5 y6 y7 y8)) (hS : va_S A s.heap H locs) (hf : f_M_truncate_58 mar mLb y0 y1 y2 y3 y4 y5 y6 y7 y8 = some r) : W p l e rm_M_truncate s m args below meth c H locs 0 0 (MQ below (jv_Qi r.1 (dC, dI) (w_model cI q_mo q_mlb_ q_mcl_ q_mus_ q_mwr_ q_mdk_ q_mcp_ r.2.1 mar r.2.2.1 mLb mCl r.2.2.2.1 r.2.2.2.2.1 r.2.2.2.2.2.1 r.2.2.2.2.2.2) A) args s 0 0 A) (F0 m 58 ls [.int y2]) := by
  unfold f_M_truncate_58 at hf
  obtain ⟨hx, hb, hml, hown, hts, hr, hlocks⟩ := id cx
  refine lv_istore (lv' := [(5, .int y2), (0, .ref q_mo), (3, .int y0), (4, .int y1)]) hx hb d_M_truncate_58 hl (by decide) rfl (fun ls hl => ?_)
  refine lv_aload_n hx hb d_M_truncate_60 rfl (lv_at hl 1 rfl) ?_
  refine lv_aload_n hx hb d_M_truncate_61 rfl (lv_at hl 1 rfl) ?_
  refine va_get (D := (dC, dI)) (ci := kModel) (v := .int y3) (C := R_Model) (T := T_Model) (N := 9) hx hb hts (fun w h => List.mem_cons_of_mem _ (in_Model w h)) hown hK hP 0 rfl rfl 0 (by decide) (jv_w hts wa_200) (fun _ h9 => h9) rfl d_M_truncate_62 ?_
  refine lv_if_ne (tgt := 98) hx hb d_M_truncate_65 (by decide) (fun hc => ?_) (fun hc => ?_)
  · have hf := jv_if hf hc
    refine lv_aload_n hx hb d_M_truncate_98 rfl (lv_at hl 1 rfl) ?_
    refine va_get (D := (dC, dI)) (ci := kModel) (v := .int y3) (C := R_Model) (T := T_Model) (N := 9) hx hb hts (fun w h => List.mem_cons_of_mem _ (in_Model w h)) hown hK hP 0 rfl rfl 0 (by decide) (jv_w hts wa_200) (fun _ h9 => h9) rfl d_M_truncate_99 ?_
    exact b_M_truncate_102 (y0 := y0) (y1 := y1) (y2 := y2) (y3 := y3) (y4 := y3) (y5 := y4) (y6 := y5) (y7 := y6) (y8 := y7) (y9 := y8) cx hK hA (lv_sub hl [1, 2, 3, 0] rfl) hP hD hS hf
  · have hf := jv_it hf hc
    refine lv_aload_n hx hb d_M_truncate_68 rfl (lv_at hl 1 rfl) ?_
    refine lv_iload hx hb d_M_truncate_69 (lv_at hl 3 rfl) ?_
    refine lv_iload hx hb d_M_truncate_71 (lv_at hl 0 rfl) ?_
    refine lv_iconst (v := (0 : Int32)) hx hb d_M_truncate_73 (by decide) ?_
    obtain ⟨x7, g8, hf⟩ := jv_ob hf
    have hPc := hP.sub (ws' := (w_model cI q_mo q_mlb_ q_mcl_ q_mus_ q_mwr_ q_mdk_ q_mcp_ y3 mar y4 mLb mCl y5 y6 y7 y8)) [0, 1, 2, 3, 4, 5, 6] rfl
    refine jv_cs (W.runV (As := [.int y1, .int y2, .int (0 : Int32)]) (rest := [.ref q_mo]) (b := q_mo) ⟨hx, hb, hml, hown, hts⟩ (c_M_inode l dC dI cI cA cL q_mo q_mlb_ q_mcl_ q_mus_ q_mwr_ q_mdk_ q_mcp_ y3 mar y4 mLb mCl y5 y6 y7 y8 y1 y2 (0 : Int32) x7 g8) (jv_cwV hts wa_207 wa_194 wa_208 wa_209 wa_210 rfl rfl yd_M_inode ⟨Nat.le_of_ble_eq_true rfl, Nat.le_of_ble_eq_true rfl⟩) (jv_preV hK hPc 0 rfl rfl) rfl rfl hl.1 rfl (lv_room (Nat.le_of_ble_eq_true rfl)) d_M_truncate_74 ⟨Nat.zero_le _, Nat.zero_le _⟩) ?_
    refine lv_iconst (v := (1 : Int32)) hx hb d_M_truncate_77 (by decide) ?_
    refine lv_icmp_eq (tgt := 94) hx hb d_M_truncate_78 (by decide) (fun hc => ?_) (fun hc => ?_)
    · have hf := jv_it hf hc
      refine lv_iconst (v := (4 : Int32)) hx hb d_M_truncate_94 (by decide) ?_
      refine lv_goto (tgt := 102) hx hb d_M_truncate_95 (by decide) ?_
      exact b_M_truncate_102 (y0 := y0) (y1 := y1) (y2 := y2) (y3 := (4 : Int32)) (y4 := y3) (y5 := y4) (y6 := y5) (y7 := y6) (y8 := y7) (y9 := y8) cx hK hA (lv_sub hl [1, 2, 3, 0] rfl) hP hD hS hf
    · have hf := jv_if hf hc
      refine lv_iload_n hx hb d_M_truncate_81 rfl (lv_at hl 2 rfl) ?_
      refine lv_aload_n hx hb d_M_truncate_82 rfl (lv_at hl 1 rfl) ?_
      refine lv_iload hx hb d_M_truncate_83 (lv_at hl 3 rfl) ?_
      refine lv_iload hx hb d_M_truncate_85 (lv_at hl 0 rfl) ?_
      refine lv_iconst (v := (3 : Int32)) hx hb d_M_truncate_87 (by decide) ?_
      obtain ⟨x9, g10, hf⟩ := jv_ob hf
      have hPc := hP.sub (ws' := (w_model cI q_mo q_mlb_ q_mcl_ q_mus_ q_mwr_ q_mdk_ q_mcp_ y3 mar y4 mLb mCl y5 y6 y7 y8)) [0, 1, 2, 3, 4, 5, 6] rfl
      refine jv_cs (W.runV (As := [.int y1, .int y2, .int (3 : Int32)]) (rest := [.int y0, .ref q_mo]) (b := q_mo) ⟨hx, hb, hml, hown, hts⟩ (c_M_inode l dC dI cI cA cL q_mo q_mlb_ q_mcl_ q_mus_ q_mwr_ q_mdk_ q_mcp_ y3 mar y4 mLb mCl y5 y6 y7 y8 y1 y2 (3 : Int32) x9 g10) (jv_cwV hts wa_207 wa_194 wa_208 wa_209 wa_210 rfl rfl yd_M_inode ⟨Nat.le_of_ble_eq_true rfl, Nat.le_of_ble_eq_true rfl⟩) (jv_preV hK hPc 0 rfl rfl) rfl rfl hl.1 rfl (lv_room (Nat.le_of_ble_eq_true rfl)) d_M_truncate_88 ⟨Nat.zero_le _, Nat.zero_le _⟩) ?_
      refine lv_icmp_le (tgt := 98) hx hb d_M_truncate_91 (by decide) (fun hc => ?_) (fun hc => ?_)
      · have hf := jv_it hf hc
        refine lv_aload_n hx hb d_M_truncate_98 rfl (lv_at hl 1 rfl) ?_
        refine va_get (D := (dC, dI)) (ci := kModel) (v := .int y3) (C := R_Model) (T := T_Model) (N := 9) hx hb hts (fun w h => List.mem_cons_of_mem _ (in_Model w h)) hown hK hP 0 rfl rfl 0 (by decide) (jv_w hts wa_200) (fun _ h9 => h9) rfl d_M_truncate_99 ?_
        exact b_M_truncate_102 (y0 := y0) (y1 := y1) (y2 := y2) (y3 := y3) (y4 := y3) (y5 := y4) (y6 := y5) (y7 := y6) (y8 := y7) (y9 := y8) cx hK hA (lv_sub hl [1, 2, 3, 0] rfl) hP hD hS hf
      · have hf := jv_if hf hc
        refine lv_iconst (v := (4 : Int32)) hx hb d_M_truncate_94 (by decide) ?_
        refine lv_goto (tgt := 102) hx hb d_M_truncate_95 (by decide) ?_
        exact b_M_truncate_102 (y0 := y0) (y1 := y1) (y2 := y2) (y3 := (4 : Int32)) (y4 := y3) (y5 := y4) (y6 := y5) (y7 := y6) (y8 := y7) (y9 := y8) cx hK hA (lv_sub hl [1, 2, 3, 0] rfl) hP hD hS hf
def f_M_truncate_21 (mar : Int32) (mLb : Nat → Int32) (y0 : Int32) (y1 : Int32) (y2 : Int32) (y3 : Int32) (y4 : Int32) (y5 : Int32) (y6 : Nat → Int32) (y7 : Nat → Int32) (y8 : Nat → Int32) (y9 : Nat → Int32) : Option (Int32 × Int32 × Int32 × (Nat → Int32) × (Nat → Int32) × (Nat → Int32) × (Nat → Int32)) :=
  if y3 = 0 then (if y3 = 0 then ((f_M_find y8 (y0 / (4 : Int32)) y1).bind fun x5 => f_M_truncate_58 mar mLb y2 (y0 / (4 : Int32)) x5 y3 y5 y6 y7 y8 y9) else (f_M_truncate_58 mar mLb y2 (y0 / (4 : Int32)) (0 : Int32) y3 y5 y6 y7 y8 y9)) else (if y3 = 0 then ((f_M_find y8 (0 : Int32) y1).bind fun x3 => f_M_truncate_58 mar mLb y2 (0 : Int32) x3 y3 y5 y6 y7 y8 y9) else (f_M_truncate_58 mar mLb y2 (0 : Int32) (0 : Int32) y3 y5 y6 y7 y8 y9))
set_option maxHeartbeats 4000000 in
set_option maxRecDepth 100000 in
theorem b_M_truncate_21 {l : Launch} {dC : Nat → ClassId} {dI : Nat → Nat → Nat} {cI cA cL : ClassId} {q_mo q_mlb_ q_mcl_ q_mus_ q_mwr_ q_mdk_ q_mcp_ : Nat} {mar : Int32} {mLb : Nat → Int32} {mCl : Nat → Int32} {p : Program} {e : Env} {s : State} {m : MethodId} {args : Array Value} {below : List Frame} {meth : Method} {c : Code} (cx : jv_cx p s m args meth c cc_M_truncate 11 R_Model (some .int) ws_M_truncate) (hK : va_K (dC, dI) vwCl (jv_ty cI cA cL) s) {A : Nat → Prop} (hA : ∀ q : Nat, s.heap.size ≤ q → A q) {r : Int32 × Int32 × Int32 × (Nat → Int32) × (Nat → Int32) × (Nat → Int32) × (Nat → Int32)} {y0 : Int32} {y1 : Int32} {y2 : Int32} {y3 : Int32} {y4 : Int32} {y5 : Int32} {y6 : Nat → Int32} {y7 : Nat → Int32} {y8 : Nat → Int32} {y9 : Nat → Int32} {ls : Array Slot} (hl : lv_has ls 11 [(0, .ref q_mo), (1, .int y0), (2, .int y1), (3, .int y2)]) {H : Heap} {locs : List Loc} (hP : va_P (dC, dI) vwCl (w_model cI q_mo q_mlb_ q_mcl_ q_mus_ q_mwr_ q_mdk_ q_mcp_ y4 mar y5 mLb mCl y6 y7 y8 y9) H) (hD : va_D A (w_model cI q_mo q_mlb_ q_mcl_ q_mus_ q_mwr_ q_mdk_ q_mcp_ y4 mar y5 mLb mCl y6 y7 y8 y9)) (hS : va_S A s.heap H locs) (hf : f_M_truncate_21 mar mLb y0 y1 y2 y3 y4 y5 y6 y7 y8 y9 = some r) : W p l e rm_M_truncate s m args below meth c H locs 0 0 (MQ below (jv_Qi r.1 (dC, dI) (w_model cI q_mo q_mlb_ q_mcl_ q_mus_ q_mwr_ q_mdk_ q_mcp_ r.2.1 mar r.2.2.1 mLb mCl r.2.2.2.1 r.2.2.2.2.1 r.2.2.2.2.2.1 r.2.2.2.2.2.2) A) args s 0 0 A) (F0 m 21 ls [.int y3, .ref q_mo]) := by
  unfold f_M_truncate_21 at hf
  obtain ⟨hx, hb, hml, hown, hts, hr, hlocks⟩ := id cx
  refine va_put (D := (dC, dI)) (ci := kModel) (v := .int y3) (ty := .int) (C := R_Model) (T := T_Model) (N := 9) hx hb hts (fun w h => List.mem_cons_of_mem _ (in_Model w h)) ty_Model tyok_Model nm_Model hown hK hP hD hS 0 rfl rfl 0 (by decide) (jv_w hts wa_200) (fun _ h9 => h9) rfl (by decide +kernel) rfl rfl (Nat.le_of_ble_eq_true rfl) d_M_truncate_21 (fun H locs hP hD hS => ?_)
  have hP : va_P (dC, dI) vwCl (w_model cI q_mo q_mlb_ q_mcl_ q_mus_ q_mwr_ q_mdk_ q_mcp_ y3 mar y5 mLb mCl y6 y7 y8 y9) H := hP
  have hD : va_D A (w_model cI q_mo q_mlb_ q_mcl_ q_mus_ q_mwr_ q_mdk_ q_mcp_ y3 mar y5 mLb mCl y6 y7 y8 y9) := hD
  refine lv_aload_n hx hb d_M_truncate_24 rfl (lv_at hl 0 rfl) ?_
  refine va_get (D := (dC, dI)) (ci := kModel) (v := .int y3) (C := R_Model) (T := T_Model) (N := 9) hx hb hts (fun w h => List.mem_cons_of_mem _ (in_Model w h)) hown hK hP 0 rfl rfl 0 (by decide) (jv_w hts wa_200) (fun _ h9 => h9) rfl d_M_truncate_25 ?_
  refine lv_if_ne (tgt := 37) hx hb d_M_truncate_28 (by decide) (fun hc => ?_) (fun hc => ?_)
  · have hf := jv_if hf hc
    refine lv_iconst (v := (0 : Int32)) hx hb d_M_truncate_37 (by decide) ?_
    refine lv_istore (lv' := [(4, .int (0 : Int32)), (0, .ref q_mo), (1, .int y0), (2, .int y1), (3, .int y2)]) hx hb d_M_truncate_38 hl (by decide) rfl (fun ls hl => ?_)
    refine lv_aload_n hx hb d_M_truncate_40 rfl (lv_at hl 1 rfl) ?_
    refine va_get (D := (dC, dI)) (ci := kModel) (v := .int y3) (C := R_Model) (T := T_Model) (N := 9) hx hb hts (fun w h => List.mem_cons_of_mem _ (in_Model w h)) hown hK hP 0 rfl rfl 0 (by decide) (jv_w hts wa_200) (fun _ h9 => h9) rfl d_M_truncate_41 ?_
    refine lv_if_ne (tgt := 57) hx hb d_M_truncate_44 (by decide) (fun hc => ?_) (fun hc => ?_)
    · have hf := jv_if hf hc
      refine lv_iconst (v := (0 : Int32)) hx hb d_M_truncate_57 (by decide) ?_
      exact b_M_truncate_58 (y0 := y2) (y1 := (0 : Int32)) (y2 := (0 : Int32)) (y3 := y3) (y4 := y5) (y5 := y6) (y6 := y7) (y7 := y8) (y8 := y9) cx hK hA (lv_sub hl [1, 4, 0] rfl) hP hD hS hf
    · have hf := jv_it hf hc
      refine lv_aload_n hx hb d_M_truncate_47 rfl (lv_at hl 1 rfl) ?_
      refine lv_iload hx hb d_M_truncate_48 (lv_at hl 0 rfl) ?_
      refine lv_iload_n hx hb d_M_truncate_50 rfl (lv_at hl 3 rfl) ?_
      obtain ⟨x3, g4, hf⟩ := jv_ob hf
      have hPc := hP.sub (ws' := (w_model cI q_mo q_mlb_ q_mcl_ q_mus_ q_mwr_ q_mdk_ q_mcp_ y3 mar y5 mLb mCl y6 y7 y8 y9)) [0, 1, 2, 3, 4, 5, 6] rfl
      refine jv_cs (W.runV (As := [.int (0 : Int32), .int y1]) (rest := []) (b := q_mo) ⟨hx, hb, hml, hown, hts⟩ (c_M_find l dC dI cI cA cL q_mo q_mlb_ q_mcl_ q_mus_ q_mwr_ q_mdk_ q_mcp_ y3 mar y5 mLb mCl y6 y7 y8 y9 (0 : Int32) y1 x3 g4) (jv_cwV hts wa_211 wa_194 wa_212 wa_213 wa_214 rfl rfl yd_M_find ⟨Nat.le_of_ble_eq_true rfl, Nat.le_of_ble_eq_true rfl⟩) (jv_preV hK hPc 0 rfl rfl) rfl rfl hl.1 rfl (lv_room (Nat.le_of_ble_eq_true rfl)) d_M_truncate_51 ⟨Nat.zero_le _, Nat.zero_le _⟩) ?_
      refine lv_goto (tgt := 58) hx hb d_M_truncate_54 (by decide) ?_
      exact b_M_truncate_58 (y0 := y2) (y1 := (0 : Int32)) (y2 := x3) (y3 := y3) (y4 := y5) (y5 := y6) (y6 := y7) (y7 := y8) (y8 := y9) cx hK hA (lv_sub hl [1, 4, 0] rfl) hP hD hS hf
  · have hf := jv_it hf hc
    refine lv_iload_n hx hb d_M_truncate_31 rfl (lv_at hl 1 rfl) ?_
    refine lv_iconst (v := (4 : Int32)) hx hb d_M_truncate_32 (by decide) ?_
    refine lv_idiv hx hb d_M_truncate_33 (by decide) ?_
    refine lv_goto (tgt := 38) hx hb d_M_truncate_34 (by decide) ?_
    refine lv_istore (lv' := [(4, .int (y0 / (4 : Int32))), (0, .ref q_mo), (1, .int y0), (2, .int y1), (3, .int y2)]) hx hb d_M_truncate_38 hl (by decide) rfl (fun ls hl => ?_)
    refine lv_aload_n hx hb d_M_truncate_40 rfl (lv_at hl 1 rfl) ?_
    refine va_get (D := (dC, dI)) (ci := kModel) (v := .int y3) (C := R_Model) (T := T_Model) (N := 9) hx hb hts (fun w h => List.mem_cons_of_mem _ (in_Model w h)) hown hK hP 0 rfl rfl 0 (by decide) (jv_w hts wa_200) (fun _ h9 => h9) rfl d_M_truncate_41 ?_
    refine lv_if_ne (tgt := 57) hx hb d_M_truncate_44 (by decide) (fun hc => ?_) (fun hc => ?_)
    · have hf := jv_if hf hc
      refine lv_iconst (v := (0 : Int32)) hx hb d_M_truncate_57 (by decide) ?_
      exact b_M_truncate_58 (y0 := y2) (y1 := y0 / (4 : Int32)) (y2 := (0 : Int32)) (y3 := y3) (y4 := y5) (y5 := y6) (y6 := y7) (y7 := y8) (y8 := y9) cx hK hA (lv_sub hl [1, 4, 0] rfl) hP hD hS hf
    · have hf := jv_it hf hc
      refine lv_aload_n hx hb d_M_truncate_47 rfl (lv_at hl 1 rfl) ?_
      refine lv_iload hx hb d_M_truncate_48 (lv_at hl 0 rfl) ?_
      refine lv_iload_n hx hb d_M_truncate_50 rfl (lv_at hl 3 rfl) ?_
      obtain ⟨x5, g6, hf⟩ := jv_ob hf
      have hPc := hP.sub (ws' := (w_model cI q_mo q_mlb_ q_mcl_ q_mus_ q_mwr_ q_mdk_ q_mcp_ y3 mar y5 mLb mCl y6 y7 y8 y9)) [0, 1, 2, 3, 4, 5, 6] rfl
      refine jv_cs (W.runV (As := [.int (y0 / (4 : Int32)), .int y1]) (rest := []) (b := q_mo) ⟨hx, hb, hml, hown, hts⟩ (c_M_find l dC dI cI cA cL q_mo q_mlb_ q_mcl_ q_mus_ q_mwr_ q_mdk_ q_mcp_ y3 mar y5 mLb mCl y6 y7 y8 y9 (y0 / (4 : Int32)) y1 x5 g6) (jv_cwV hts wa_211 wa_194 wa_212 wa_213 wa_214 rfl rfl yd_M_find ⟨Nat.le_of_ble_eq_true rfl, Nat.le_of_ble_eq_true rfl⟩) (jv_preV hK hPc 0 rfl rfl) rfl rfl hl.1 rfl (lv_room (Nat.le_of_ble_eq_true rfl)) d_M_truncate_51 ⟨Nat.zero_le _, Nat.zero_le _⟩) ?_
      refine lv_goto (tgt := 58) hx hb d_M_truncate_54 (by decide) ?_
      exact b_M_truncate_58 (y0 := y2) (y1 := y0 / (4 : Int32)) (y2 := x5) (y3 := y3) (y4 := y5) (y5 := y6) (y6 := y7) (y7 := y8) (y8 := y9) cx hK hA (lv_sub hl [1, 4, 0] rfl) hP hD hS hf
def f_M_truncate_0 (mar : Int32) (mLb : Nat → Int32) (y0 : Int32) (y1 : Int32) (y2 : Int32) (y3 : Int32) (y4 : Int32) (y5 : Nat → Int32) (y6 : Nat → Int32) (y7 : Nat → Int32) (y8 : Nat → Int32) : Option (Int32 × Int32 × Int32 × (Nat → Int32) × (Nat → Int32) × (Nat → Int32) × (Nat → Int32)) :=
  if y2 < 0 then (f_M_truncate_21 mar mLb y0 y1 y2 (1 : Int32) y3 y4 y5 y6 y7 y8) else (if y2 ≤ (80 : Int32) then ((f_M_refusal mar mLb y5 y7 y0 y1).bind fun x1 => f_M_truncate_21 mar mLb y0 y1 y2 x1 y3 y4 y5 y6 y7 y8) else (f_M_truncate_21 mar mLb y0 y1 y2 (1 : Int32) y3 y4 y5 y6 y7 y8))
set_option maxHeartbeats 4000000 in
set_option maxRecDepth 100000 in
theorem b_M_truncate_0 {l : Launch} {dC : Nat → ClassId} {dI : Nat → Nat → Nat} {cI cA cL : ClassId} {q_mo q_mlb_ q_mcl_ q_mus_ q_mwr_ q_mdk_ q_mcp_ : Nat} {mar : Int32} {mLb : Nat → Int32} {mCl : Nat → Int32} {p : Program} {e : Env} {s : State} {m : MethodId} {args : Array Value} {below : List Frame} {meth : Method} {c : Code} (cx : jv_cx p s m args meth c cc_M_truncate 11 R_Model (some .int) ws_M_truncate) (hK : va_K (dC, dI) vwCl (jv_ty cI cA cL) s) {A : Nat → Prop} (hA : ∀ q : Nat, s.heap.size ≤ q → A q) {r : Int32 × Int32 × Int32 × (Nat → Int32) × (Nat → Int32) × (Nat → Int32) × (Nat → Int32)} {y0 : Int32} {y1 : Int32} {y2 : Int32} {y3 : Int32} {y4 : Int32} {y5 : Nat → Int32} {y6 : Nat → Int32} {y7 : Nat → Int32} {y8 : Nat → Int32} {ls : Array Slot} (hl : lv_has ls 11 [(0, .ref q_mo), (1, .int y0), (2, .int y1), (3, .int y2)]) {H : Heap} {locs : List Loc} (hP : va_P (dC, dI) vwCl (w_model cI q_mo q_mlb_ q_mcl_ q_mus_ q_mwr_ q_mdk_ q_mcp_ y3 mar y4 mLb mCl y5 y6 y7 y8) H) (hD : va_D A (w_model cI q_mo q_mlb_ q_mcl_ q_mus_ q_mwr_ q_mdk_ q_mcp_ y3 mar y4 mLb mCl y5 y6 y7 y8)) (hS : va_S A s.heap H locs) (hf : f_M_truncate_0 mar mLb y0 y1 y2 y3 y4 y5 y6 y7 y8 = some r) : W p l e rm_M_truncate s m args below meth c H locs 0 0 (MQ below (jv_Qi r.1 (dC, dI) (w_model cI q_mo q_mlb_ q_mcl_ q_mus_ q_mwr_ q_mdk_ q_mcp_ r.2.1 mar r.2.2.1 mLb mCl r.2.2.2.1 r.2.2.2.2.1 r.2.2.2.2.2.1 r.2.2.2.2.2.2) A) args s 0 0 A) (F0 m 0 ls []) := by
  unfold f_M_truncate_0 at hf
  obtain ⟨hx, hb, hml, hown, hts, hr, hlocks⟩ := id cx
  refine lv_aload_n hx hb d_M_truncate_0 rfl (lv_at hl 0 rfl) ?_
  refine lv_iload_n hx hb d_M_truncate_1 rfl (lv_at hl 3 rfl) ?_
  refine lv_if_lt (tgt := 11) hx hb d_M_truncate_2 (by decide) (fun hc => ?_) (fun hc => ?_)
  · have hf := jv_it hf hc
    refine lv_iconst (v := (1 : Int32)) hx hb d_M_truncate_11 (by decide) ?_
    refine lv_goto (tgt := 21) hx hb d_M_truncate_12 (by decide) ?_
    exact b_M_truncate_21 (y0 := y0) (y1 := y1) (y2 := y2) (y3 := (1 : Int32)) (y4 := y3) (y5 := y4) (y6 := y5) (y7 := y6) (y8 := y7) (y9 := y8) cx hK hA (lv_sub hl [0, 1, 2, 3] rfl) hP hD hS hf
  · have hf := jv_if hf hc
    refine lv_iload_n hx hb d_M_truncate_5 rfl (lv_at hl 3 rfl) ?_
    refine lv_bipush (v := (80 : Int32)) hx hb d_M_truncate_6 (by decide) ?_
    refine lv_icmp_le (tgt := 15) hx hb d_M_truncate_8 (by decide) (fun hc => ?_) (fun hc => ?_)
    · have hf := jv_it hf hc
      refine lv_aload_n hx hb d_M_truncate_15 rfl (lv_at hl 0 rfl) ?_
      refine lv_iload_n hx hb d_M_truncate_16 rfl (lv_at hl 1 rfl) ?_
      refine lv_iload_n hx hb d_M_truncate_17 rfl (lv_at hl 2 rfl) ?_
      obtain ⟨x1, g2, hf⟩ := jv_ob hf
      have hPc := hP.sub (ws' := (w_model cI q_mo q_mlb_ q_mcl_ q_mus_ q_mwr_ q_mdk_ q_mcp_ y3 mar y4 mLb mCl y5 y6 y7 y8)) [0, 1, 2, 3, 4, 5, 6] rfl
      refine jv_cs (W.runV (As := [.int y0, .int y1]) (rest := [.ref q_mo]) (b := q_mo) ⟨hx, hb, hml, hown, hts⟩ (c_M_refusal l dC dI cI cA cL q_mo q_mlb_ q_mcl_ q_mus_ q_mwr_ q_mdk_ q_mcp_ y3 mar y4 mLb mCl y5 y6 y7 y8 y0 y1 x1 g2) (jv_cwV hts wa_265 wa_194 wa_266 wa_267 wa_268 rfl rfl yd_M_refusal ⟨Nat.le_of_ble_eq_true rfl, Nat.le_of_ble_eq_true rfl⟩) (jv_preV hK hPc 0 rfl rfl) rfl rfl hl.1 rfl (lv_room (Nat.le_of_ble_eq_true rfl)) d_M_truncate_18 ⟨Nat.zero_le _, Nat.zero_le _⟩) ?_
      exact b_M_truncate_21 (y0 := y0) (y1 := y1) (y2 := y2) (y3 := x1) (y4 := y3) (y5 := y4) (y6 := y5) (y7 := y6) (y8 := y7) (y9 := y8) cx hK hA (lv_sub hl [0, 1, 2, 3] rfl) hP hD hS hf
    · have hf := jv_if hf hc
      refine lv_iconst (v := (1 : Int32)) hx hb d_M_truncate_11 (by decide) ?_
      refine lv_goto (tgt := 21) hx hb d_M_truncate_12 (by decide) ?_
      exact b_M_truncate_21 (y0 := y0) (y1 := y1) (y2 := y2) (y3 := (1 : Int32)) (y4 := y3) (y5 := y4) (y6 := y5) (y7 := y6) (y8 := y7) (y9 := y8) cx hK hA (lv_sub hl [0, 1, 2, 3] rfl) hP hD hS hf
def f_M_truncate (mar : Int32) (mLb : Nat → Int32) (a0 : Int32) (a1 : Int32) (a2 : Int32) (mth : Int32) (mfu : Int32) (mUs : Nat → Int32) (mWr : Nat → Int32) (mDk : Nat → Int32) (mCp : Nat → Int32) : Option (Int32 × Int32 × Int32 × (Nat → Int32) × (Nat → Int32) × (Nat → Int32) × (Nat → Int32)) := f_M_truncate_0 mar mLb a0 a1 a2 mth mfu mUs mWr mDk mCp
set_option maxHeartbeats 4000000 in
set_option maxRecDepth 100000 in
theorem c_M_truncate (l : Launch) (dC : Nat → ClassId) (dI : Nat → Nat → Nat) (cI cA cL : ClassId) (q_mo q_mlb_ q_mcl_ q_mus_ q_mwr_ q_mdk_ q_mcp_ : Nat) (mth : Int32) (mar : Int32) (mfu : Int32) (mLb : Nat → Int32) (mCl : Nat → Int32) (mUs : Nat → Int32) (mWr : Nat → Int32) (mDk : Nat → Int32) (mCp : Nat → Int32) (a0 : Int32) (a1 : Int32) (a2 : Int32) (sz : Nat) (r : Int32 × Int32 × Int32 × (Nat → Int32) × (Nat → Int32) × (Nat → Int32) × (Nat → Int32)) (hf : f_M_truncate mar mLb a0 a1 a2 mth mfu mUs mWr mDk mCp = some r) : Met l y_M_truncate ws_M_truncate rm_M_truncate (jv_Pw [.ref q_mo, .int a0, .int a1, .int a2] (dC, dI) (jv_ty cI cA cL) (w_model cI q_mo q_mlb_ q_mcl_ q_mus_ q_mwr_ q_mdk_ q_mcp_ mth mar mfu mLb mCl mUs mWr mDk mCp) sz) (jv_Qi r.1 (dC, dI) (w_model cI q_mo q_mlb_ q_mcl_ q_mus_ q_mwr_ q_mdk_ q_mcp_ r.2.1 mar r.2.2.1 mLb mCl r.2.2.2.1 r.2.2.2.2.1 r.2.2.2.2.2.1 r.2.2.2.2.2.2) (va_A (w_model cI q_mo q_mlb_ q_mcl_ q_mus_ q_mwr_ q_mdk_ q_mcp_ mth mar mfu mLb mCl mUs mWr mDk mCp) sz)) 0 0 (va_A (w_model cI q_mo q_mlb_ q_mcl_ q_mus_ q_mwr_ q_mdk_ q_mcp_ mth mar mfu mLb mCl mUs mWr mDk mCp) sz) := by
  refine Met.ofW (cc := cc_M_truncate) (maxL := 11) (ret := (some .int)) (by decide) rfl ?_
  intro p e s m args below meth c s₁ B hml hv
  obtain ⟨rfl, hsz, hP, hK, hD0⟩ := hv
  have cx : jv_cx p s m _ meth c cc_M_truncate 11 R_Model (some .int) ws_M_truncate := ⟨B.exec, B.bytes, hml, findClass_of_methodNamed B.named, atoms_spec (ws := ws_M_truncate) B.pre, B.returns, B.notSynchronized⟩
  subst hsz
  have hD := hD0.self (sz := s.heap.size)
  generalize hAe : va_A (w_model cI q_mo q_mlb_ q_mcl_ q_mus_ q_mwr_ q_mdk_ q_mcp_ mth mar mfu mLb mCl mUs mWr mDk mCp) s.heap.size = A at hD ⊢
  have hA : ∀ q : Nat, s.heap.size ≤ q → A q := fun q h => by rw [← hAe]; exact Or.inr h
  have hS : va_S A s.heap s.heap [] := va_S.rf
  have hl := lv_entry ([.ref q_mo, .int a0, .int a1, .int a2]) (n := 11) (Nat.le_of_ble_eq_true rfl)
  rw [lg_entry_eq]
  generalize (lg_sl ([.ref q_mo, .int a0, .int a1, .int a2]) ++ List.replicate (11 - (lg_sl ([.ref q_mo, .int a0, .int a1, .int a2])).length) Slot.unset).toArray = ls at hl ⊢
  have hl : lv_has ls 11 [(0, .ref q_mo), (1, .int a0), (2, .int a1), (3, .int a2)] := hl
  exact b_M_truncate_0 (y0 := a0) (y1 := a1) (y2 := a2) (y3 := mth) (y4 := mfu) (y5 := mUs) (y6 := mWr) (y7 := mDk) (y8 := mCp) cx hK hA (lv_sub hl [0, 1, 2, 3] rfl) hP hD hS hf
