theorem d_M_make_0 : decode cc_M_make 0 = .ok (.aload_n 0, 1) := by decide +kernel
theorem d_M_make_1 : decode cc_M_make 1 = .ok (.iload_n 1, 1) := by decide +kernel
theorem d_M_make_2 : decode cc_M_make 2 = .ok (.invokevirtual 53, 3) := by decide +kernel
theorem d_M_make_5 : decode cc_M_make 5 = .ok (.ifCond .eq 24, 3) := by decide +kernel
theorem d_M_make_29 : decode cc_M_make 29 = .ok (.aload_n 0, 1) := by decide +kernel
theorem d_M_make_30 : decode cc_M_make 30 = .ok (.iconst 1, 1) := by decide +kernel
theorem d_M_make_31 : decode cc_M_make 31 = .ok (.putfield 32, 3) := by decide +kernel
theorem d_M_make_34 : decode cc_M_make 34 = .ok (.iconst 0, 1) := by decide +kernel
theorem d_M_make_35 : decode cc_M_make 35 = .ok (.ireturn, 1) := by decide +kernel
theorem d_M_make_8 : decode cc_M_make 8 = .ok (.iload_n 2, 1) := by decide +kernel
theorem d_M_make_9 : decode cc_M_make 9 = .ok (.invokestatic 81, 3) := by decide +kernel
theorem d_M_make_12 : decode cc_M_make 12 = .ok (.ifCond .eq 17, 3) := by decide +kernel
theorem d_M_make_15 : decode cc_M_make 15 = .ok (.iload_n 2, 1) := by decide +kernel
theorem d_M_make_16 : decode cc_M_make 16 = .ok (.ifCond .eq 13, 3) := by decide +kernel
theorem d_M_make_19 : decode cc_M_make 19 = .ok (.iload_n 3, 1) := by decide +kernel
theorem d_M_make_20 : decode cc_M_make 20 = .ok (.iconst 1, 1) := by decide +kernel
theorem d_M_make_21 : decode cc_M_make 21 = .ok (.if_icmp .eq 15, 3) := by decide +kernel
theorem d_M_make_24 : decode cc_M_make 24 = .ok (.iload_n 3, 1) := by decide +kernel
theorem d_M_make_25 : decode cc_M_make 25 = .ok (.iconst 2, 1) := by decide +kernel
theorem d_M_make_26 : decode cc_M_make 26 = .ok (.if_icmp .eq 10, 3) := by decide +kernel
theorem d_M_make_36 : decode cc_M_make 36 = .ok (.iload_n 1, 1) := by decide +kernel
theorem d_M_make_37 : decode cc_M_make 37 = .ok (.iconst 4, 1) := by decide +kernel
theorem d_M_make_38 : decode cc_M_make 38 = .ok (.idiv, 1) := by decide +kernel
theorem d_M_make_39 : decode cc_M_make 39 = .ok (.istore 4, 2) := by decide +kernel
theorem d_M_make_41 : decode cc_M_make 41 = .ok (.iload_n 2, 1) := by decide +kernel
theorem d_M_make_42 : decode cc_M_make 42 = .ok (.invokestatic 56, 3) := by decide +kernel
theorem d_M_make_45 : decode cc_M_make 45 = .ok (.istore 5, 2) := by decide +kernel
theorem d_M_make_47 : decode cc_M_make 47 = .ok (.iload_n 2, 1) := by decide +kernel
theorem d_M_make_48 : decode cc_M_make 48 = .ok (.iload 5, 2) := by decide +kernel
theorem d_M_make_50 : decode cc_M_make 50 = .ok (.iconst 1, 1) := by decide +kernel
theorem d_M_make_51 : decode cc_M_make 51 = .ok (.isub, 1) := by decide +kernel
theorem d_M_make_52 : decode cc_M_make 52 = .ok (.invokestatic 60, 3) := by decide +kernel
theorem d_M_make_55 : decode cc_M_make 55 = .ok (.istore 6, 2) := by decide +kernel
theorem d_M_make_57 : decode cc_M_make 57 = .ok (.aload_n 0, 1) := by decide +kernel
theorem d_M_make_58 : decode cc_M_make 58 = .ok (.iload_n 1, 1) := by decide +kernel
theorem d_M_make_59 : decode cc_M_make 59 = .ok (.iload 6, 2) := by decide +kernel
theorem d_M_make_61 : decode cc_M_make 61 = .ok (.iconst 1, 1) := by decide +kernel
theorem d_M_make_62 : decode cc_M_make 62 = .ok (.invokevirtual 84, 3) := by decide +kernel
theorem d_M_make_65 : decode cc_M_make 65 = .ok (.ifCond .ne 7, 3) := by decide +kernel
theorem d_M_make_72 : decode cc_M_make 72 = .ok (.iconst 0, 1) := by decide +kernel
theorem d_M_make_73 : decode cc_M_make 73 = .ok (.istore 7, 2) := by decide +kernel
theorem d_M_make_75 : decode cc_M_make 75 = .ok (.iconst 1, 1) := by decide +kernel
theorem d_M_make_76 : decode cc_M_make 76 = .ok (.istore 8, 2) := by decide +kernel
theorem d_M_make_78 : decode cc_M_make 78 = .ok (.iconst 1, 1) := by decide +kernel
theorem d_M_make_79 : decode cc_M_make 79 = .ok (.istore 9, 2) := by decide +kernel
theorem d_M_make_68 : decode cc_M_make 68 = .ok (.iconst 1, 1) := by decide +kernel
theorem d_M_make_69 : decode cc_M_make 69 = .ok (.goto 4, 3) := by decide +kernel
theorem d_M_make_81 : decode cc_M_make 81 = .ok (.iload 9, 2) := by decide +kernel
theorem d_M_make_83 : decode cc_M_make 83 = .ok (.iload 5, 2) := by decide +kernel
theorem d_M_make_85 : decode cc_M_make 85 = .ok (.if_icmp .ge 56, 3) := by decide +kernel
theorem d_M_make_141 : decode cc_M_make 141 = .ok (.aload_n 0, 1) := by decide +kernel
theorem d_M_make_142 : decode cc_M_make 142 = .ok (.aload_n 0, 1) := by decide +kernel
theorem d_M_make_143 : decode cc_M_make 143 = .ok (.iload_n 1, 1) := by decide +kernel
theorem d_M_make_144 : decode cc_M_make 144 = .ok (.iload 6, 2) := by decide +kernel
theorem d_M_make_146 : decode cc_M_make 146 = .ok (.iconst 0, 1) := by decide +kernel
theorem d_M_make_147 : decode cc_M_make 147 = .ok (.invokevirtual 84, 3) := by decide +kernel
theorem d_M_make_150 : decode cc_M_make 150 = .ok (.ifCond .ne 7, 3) := by decide +kernel
theorem d_M_make_157 : decode cc_M_make 157 = .ok (.iload 7, 2) := by decide +kernel
theorem d_M_make_159 : decode cc_M_make 159 = .ok (.ifCond .eq 7, 3) := by decide +kernel
theorem d_M_make_166 : decode cc_M_make 166 = .ok (.aload_n 0, 1) := by decide +kernel
theorem d_M_make_167 : decode cc_M_make 167 = .ok (.iload 4, 2) := by decide +kernel
theorem d_M_make_169 : decode cc_M_make 169 = .ok (.iload_n 2, 1) := by decide +kernel
theorem d_M_make_170 : decode cc_M_make 170 = .ok (.invokevirtual 74, 3) := by decide +kernel
theorem d_M_make_173 : decode cc_M_make 173 = .ok (.ifCond .le 7, 3) := by decide +kernel
theorem d_M_make_180 : decode cc_M_make 180 = .ok (.iconst 0, 1) := by decide +kernel
theorem d_M_make_176 : decode cc_M_make 176 = .ok (.iconst 4, 1) := by decide +kernel
theorem d_M_make_177 : decode cc_M_make 177 = .ok (.goto 4, 3) := by decide +kernel
theorem d_M_make_162 : decode cc_M_make 162 = .ok (.iconst 3, 1) := by decide +kernel
theorem d_M_make_163 : decode cc_M_make 163 = .ok (.goto 18, 3) := by decide +kernel
theorem d_M_make_153 : decode cc_M_make 153 = .ok (.iconst 2, 1) := by decide +kernel
theorem d_M_make_154 : decode cc_M_make 154 = .ok (.goto 27, 3) := by decide +kernel
theorem d_M_make_88 : decode cc_M_make 88 = .ok (.aload_n 0, 1) := by decide +kernel
theorem d_M_make_89 : decode cc_M_make 89 = .ok (.iload 4, 2) := by decide +kernel
theorem d_M_make_91 : decode cc_M_make 91 = .ok (.iload_n 2, 1) := by decide +kernel
theorem d_M_make_92 : decode cc_M_make 92 = .ok (.iload 9, 2) := by decide +kernel
theorem d_M_make_94 : decode cc_M_make 94 = .ok (.invokestatic 60, 3) := by decide +kernel
theorem d_M_make_97 : decode cc_M_make 97 = .ok (.invokevirtual 74, 3) := by decide +kernel
theorem d_M_make_100 : decode cc_M_make 100 = .ok (.istore 10, 2) := by decide +kernel
theorem d_M_make_102 : decode cc_M_make 102 = .ok (.iload 7, 2) := by decide +kernel
theorem d_M_make_104 : decode cc_M_make 104 = .ok (.ifCond .ne 9, 3) := by decide +kernel
theorem d_M_make_113 : decode cc_M_make 113 = .ok (.iconst 1, 1) := by decide +kernel
theorem d_M_make_114 : decode cc_M_make 114 = .ok (.goto 4, 3) := by decide +kernel
theorem d_M_make_107 : decode cc_M_make 107 = .ok (.iload 10, 2) := by decide +kernel
theorem d_M_make_109 : decode cc_M_make 109 = .ok (.iconst 2, 1) := by decide +kernel
theorem d_M_make_110 : decode cc_M_make 110 = .ok (.if_icmp .ne 7, 3) := by decide +kernel
theorem d_M_make_117 : decode cc_M_make 117 = .ok (.iconst 0, 1) := by decide +kernel
theorem d_M_make_181 : decode cc_M_make 181 = .ok (.putfield 32, 3) := by decide +kernel
theorem d_M_make_184 : decode cc_M_make 184 = .ok (.aload_n 0, 1) := by decide +kernel
theorem d_M_make_185 : decode cc_M_make 185 = .ok (.getfield 32, 3) := by decide +kernel
theorem d_M_make_188 : decode cc_M_make 188 = .ok (.ifCond .le 5, 3) := by decide +kernel
theorem d_M_make_193 : decode cc_M_make 193 = .ok (.aload_n 0, 1) := by decide +kernel
theorem d_M_make_194 : decode cc_M_make 194 = .ok (.iload 4, 2) := by decide +kernel
theorem d_M_make_196 : decode cc_M_make 196 = .ok (.invokevirtual 88, 3) := by decide +kernel
theorem d_M_make_199 : decode cc_M_make 199 = .ok (.iload 8, 2) := by decide +kernel
theorem d_M_make_201 : decode cc_M_make 201 = .ok (.if_icmp .ge 6, 3) := by decide +kernel
theorem d_M_make_207 : decode cc_M_make 207 = .ok (.aload_n 0, 1) := by decide +kernel
theorem d_M_make_208 : decode cc_M_make 208 = .ok (.iload 4, 2) := by decide +kernel
theorem d_M_make_210 : decode cc_M_make 210 = .ok (.invokevirtual 91, 3) := by decide +kernel
theorem d_M_make_213 : decode cc_M_make 213 = .ok (.iconst 0, 1) := by decide +kernel
theorem d_M_make_214 : decode cc_M_make 214 = .ok (.istore 9, 2) := by decide +kernel
theorem d_M_make_216 : decode cc_M_make 216 = .ok (.iconst 1, 1) := by decide +kernel
theorem d_M_make_217 : decode cc_M_make 217 = .ok (.istore 10, 2) := by decide +kernel
theorem d_M_make_204 : decode cc_M_make 204 = .ok (.bipush (-2), 2) := by decide +kernel
theorem d_M_make_206 : decode cc_M_make 206 = .ok (.ireturn, 1) := by decide +kernel
theorem d_M_make_191 : decode cc_M_make 191 = .ok (.iconst 0, 1) := by decide +kernel
theorem d_M_make_192 : decode cc_M_make 192 = .ok (.ireturn, 1) := by decide +kernel
theorem d_M_make_219 : decode cc_M_make 219 = .ok (.iload 10, 2) := by decide +kernel
theorem d_M_make_221 : decode cc_M_make 221 = .ok (.iload 5, 2) := by decide +kernel
theorem d_M_make_223 : decode cc_M_make 223 = .ok (.if_icmp .gt 123, 3) := by decide +kernel
theorem d_M_make_346 : decode cc_M_make 346 = .ok (.aload_n 0, 1) := by decide +kernel
theorem d_M_make_347 : decode cc_M_make 347 = .ok (.iload 4, 2) := by decide +kernel
theorem d_M_make_349 : decode cc_M_make 349 = .ok (.iload 9, 2) := by decide +kernel
theorem d_M_make_351 : decode cc_M_make 351 = .ok (.invokevirtual 95, 3) := by decide +kernel
theorem d_M_make_354 : decode cc_M_make 354 = .ok (.ireturn, 1) := by decide +kernel
theorem d_M_make_226 : decode cc_M_make 226 = .ok (.aload_n 0, 1) := by decide +kernel
theorem d_M_make_227 : decode cc_M_make 227 = .ok (.iload 4, 2) := by decide +kernel
theorem d_M_make_229 : decode cc_M_make 229 = .ok (.iload_n 2, 1) := by decide +kernel
theorem d_M_make_230 : decode cc_M_make 230 = .ok (.iload 10, 2) := by decide +kernel
theorem d_M_make_232 : decode cc_M_make 232 = .ok (.invokestatic 60, 3) := by decide +kernel
theorem d_M_make_235 : decode cc_M_make 235 = .ok (.invokevirtual 68, 3) := by decide +kernel
theorem d_M_make_238 : decode cc_M_make 238 = .ok (.istore 11, 2) := by decide +kernel
theorem d_M_make_240 : decode cc_M_make 240 = .ok (.iload 11, 2) := by decide +kernel
theorem d_M_make_242 : decode cc_M_make 242 = .ok (.ifCond .ge 94, 3) := by decide +kernel
theorem d_M_make_336 : decode cc_M_make 336 = .ok (.iload 11, 2) := by decide +kernel
theorem d_M_make_338 : decode cc_M_make 338 = .ok (.istore 9, 2) := by decide +kernel
theorem d_M_make_340 : decode cc_M_make 340 = .ok (.iinc 10 1, 3) := by decide +kernel
theorem d_M_make_343 : decode cc_M_make 343 = .ok (.goto (-124), 3) := by decide +kernel
theorem d_M_make_245 : decode cc_M_make 245 = .ok (.iconst 0, 1) := by decide +kernel
theorem d_M_make_246 : decode cc_M_make 246 = .ok (.istore 11, 2) := by decide +kernel
theorem d_M_make_248 : decode cc_M_make 248 = .ok (.aload_n 0, 1) := by decide +kernel
theorem d_M_make_249 : decode cc_M_make 249 = .ok (.getfield 25, 3) := by decide +kernel
theorem d_M_make_252 : decode cc_M_make 252 = .ok (.bipush 8, 2) := by decide +kernel
theorem d_M_make_254 : decode cc_M_make 254 = .ok (.bipush 8, 2) := by decide +kernel
theorem d_M_make_256 : decode cc_M_make 256 = .ok (.iload 11, 2) := by decide +kernel
theorem d_M_make_258 : decode cc_M_make 258 = .ok (.imul, 1) := by decide +kernel
theorem d_M_make_259 : decode cc_M_make 259 = .ok (.iadd, 1) := by decide +kernel
theorem d_M_make_260 : decode cc_M_make 260 = .ok (.iaload, 1) := by decide +kernel
theorem d_M_make_261 : decode cc_M_make 261 = .ok (.ifCond .le 9, 3) := by decide +kernel
theorem d_M_make_270 : decode cc_M_make 270 = .ok (.aload_n 0, 1) := by decide +kernel
theorem d_M_make_271 : decode cc_M_make 271 = .ok (.getfield 25, 3) := by decide +kernel
theorem d_M_make_274 : decode cc_M_make 274 = .ok (.bipush 8, 2) := by decide +kernel
theorem d_M_make_276 : decode cc_M_make 276 = .ok (.bipush 8, 2) := by decide +kernel
theorem d_M_make_278 : decode cc_M_make 278 = .ok (.iload 11, 2) := by decide +kernel
theorem d_M_make_280 : decode cc_M_make 280 = .ok (.imul, 1) := by decide +kernel
theorem d_M_make_281 : decode cc_M_make 281 = .ok (.iadd, 1) := by decide +kernel
theorem d_M_make_282 : decode cc_M_make 282 = .ok (.iload 10, 2) := by decide +kernel
theorem d_M_make_284 : decode cc_M_make 284 = .ok (.iload 5, 2) := by decide +kernel
theorem d_M_make_286 : decode cc_M_make 286 = .ok (.if_icmp .ge 7, 3) := by decide +kernel
theorem d_M_make_293 : decode cc_M_make 293 = .ok (.iload_n 3, 1) := by decide +kernel
theorem d_M_make_289 : decode cc_M_make 289 = .ok (.iconst 1, 1) := by decide +kernel
theorem d_M_make_290 : decode cc_M_make 290 = .ok (.goto 4, 3) := by decide +kernel
theorem d_M_make_264 : decode cc_M_make 264 = .ok (.iinc 11 1, 3) := by decide +kernel
theorem d_M_make_267 : decode cc_M_make 267 = .ok (.goto (-19), 3) := by decide +kernel
theorem d_M_make_294 : decode cc_M_make 294 = .ok (.iastore, 1) := by decide +kernel
theorem d_M_make_295 : decode cc_M_make 295 = .ok (.aload_n 0, 1) := by decide +kernel
theorem d_M_make_296 : decode cc_M_make 296 = .ok (.getfield 25, 3) := by decide +kernel
theorem d_M_make_299 : decode cc_M_make 299 = .ok (.bipush 8, 2) := by decide +kernel
theorem d_M_make_301 : decode cc_M_make 301 = .ok (.bipush 8, 2) := by decide +kernel
theorem d_M_make_303 : decode cc_M_make 303 = .ok (.iload 11, 2) := by decide +kernel
theorem d_M_make_305 : decode cc_M_make 305 = .ok (.imul, 1) := by decide +kernel
theorem d_M_make_306 : decode cc_M_make 306 = .ok (.iadd, 1) := by decide +kernel
theorem d_M_make_307 : decode cc_M_make 307 = .ok (.iconst 1, 1) := by decide +kernel
theorem d_M_make_308 : decode cc_M_make 308 = .ok (.iadd, 1) := by decide +kernel
theorem d_M_make_309 : decode cc_M_make 309 = .ok (.iload 9, 2) := by decide +kernel
theorem d_M_make_311 : decode cc_M_make 311 = .ok (.iastore, 1) := by decide +kernel
theorem d_M_make_312 : decode cc_M_make 312 = .ok (.aload_n 0, 1) := by decide +kernel
theorem d_M_make_313 : decode cc_M_make 313 = .ok (.getfield 25, 3) := by decide +kernel
theorem d_M_make_316 : decode cc_M_make 316 = .ok (.bipush 8, 2) := by decide +kernel
theorem d_M_make_318 : decode cc_M_make 318 = .ok (.bipush 8, 2) := by decide +kernel
theorem d_M_make_320 : decode cc_M_make 320 = .ok (.iload 11, 2) := by decide +kernel
theorem d_M_make_322 : decode cc_M_make 322 = .ok (.imul, 1) := by decide +kernel
theorem d_M_make_323 : decode cc_M_make 323 = .ok (.iadd, 1) := by decide +kernel
theorem d_M_make_324 : decode cc_M_make 324 = .ok (.iconst 2, 1) := by decide +kernel
theorem d_M_make_325 : decode cc_M_make 325 = .ok (.iadd, 1) := by decide +kernel
theorem d_M_make_326 : decode cc_M_make 326 = .ok (.iload_n 2, 1) := by decide +kernel
theorem d_M_make_327 : decode cc_M_make 327 = .ok (.iload 10, 2) := by decide +kernel
theorem d_M_make_329 : decode cc_M_make 329 = .ok (.invokestatic 60, 3) := by decide +kernel
theorem d_M_make_332 : decode cc_M_make 332 = .ok (.bipush 32, 2) := by decide +kernel
theorem d_M_make_334 : decode cc_M_make 334 = .ok (.irem, 1) := by decide +kernel
theorem d_M_make_335 : decode cc_M_make 335 = .ok (.iastore, 1) := by decide +kernel
theorem d_M_make_118 : decode cc_M_make 118 = .ok (.istore 7, 2) := by decide +kernel
theorem d_M_make_120 : decode cc_M_make 120 = .ok (.iload 8, 2) := by decide +kernel
theorem d_M_make_122 : decode cc_M_make 122 = .ok (.iload 10, 2) := by decide +kernel
theorem d_M_make_124 : decode cc_M_make 124 = .ok (.ifCond .ne 7, 3) := by decide +kernel
theorem d_M_make_131 : decode cc_M_make 131 = .ok (.iconst 0, 1) := by decide +kernel
theorem d_M_make_132 : decode cc_M_make 132 = .ok (.iadd, 1) := by decide +kernel
theorem d_M_make_133 : decode cc_M_make 133 = .ok (.istore 8, 2) := by decide +kernel
theorem d_M_make_135 : decode cc_M_make 135 = .ok (.iinc 9 1, 3) := by decide +kernel
theorem d_M_make_138 : decode cc_M_make 138 = .ok (.goto (-57), 3) := by decide +kernel
theorem d_M_make_127 : decode cc_M_make 127 = .ok (.iconst 1, 1) := by decide +kernel
theorem d_M_make_128 : decode cc_M_make 128 = .ok (.goto 4, 3) := by decide +kernel
def f_M_make_294 (mar : Int32) (mLb : Nat → Int32) (k219 : (Int32 × Int32 × (Nat → Int32)) → Option (Int32 × Int32 × Int32 × (Nat → Int32) × (Nat → Int32) × (Nat → Int32) × (Nat → Int32))) (y0 : Int32) (y1 : Int32) (y2 : Int32) (y3 : Int32) (y4 : Int32) (y5 : Int32) (y6 : Int32) (y7 : Int32) (y8 : Int32) (y9 : Int32) (y10 : Int32) (y11 : Nat → Int32) (y12 : Nat → Int32) (y13 : Nat → Int32) (y14 : Nat → Int32) : Option (Int32 × Int32 × Int32 × (Nat → Int32) × (Nat → Int32) × (Nat → Int32) × (Nat → Int32)) :=
  (jv_sa y14 232 y8 y7).bind fun F31 => (jv_sa F31 232 (((8 : Int32) + ((8 : Int32) * y6)) + (1 : Int32)) y4).bind fun F33 => (f_M_prefix y0 y5).bind fun x35 => (jv_sa F33 232 (((8 : Int32) + ((8 : Int32) * y6)) + (2 : Int32)) (x35 - x35 / (32 : Int32) * (32 : Int32))).bind fun F37 => k219 (y6, y5 + (1 : Int32), F37)
set_option maxHeartbeats 4000000 in
set_option maxRecDepth 100000 in
theorem b_M_make_294 {l : Launch} {dC : Nat → ClassId} {dI : Nat → Nat → Nat} {cI cA cL : ClassId} {q_mo q_mlb_ q_mcl_ q_mus_ q_mwr_ q_mdk_ q_mcp_ : Nat} {mar : Int32} {mLb : Nat → Int32} {mCl : Nat → Int32} {p : Program} {e : Env} {s : State} {m : MethodId} {args : Array Value} {below : List Frame} {meth : Method} {c : Code} (cx : jv_cx p s m args meth c cc_M_make 12 R_Model (some .int) ws_M_make) (hK : va_K (dC, dI) vwCl (jv_ty cI cA cL) s) {A : Nat → Prop} (hA : ∀ q : Nat, s.heap.size ≤ q → A q) {r : Int32 × Int32 × Int32 × (Nat → Int32) × (Nat → Int32) × (Nat → Int32) × (Nat → Int32)} {k219 : (Int32 × Int32 × (Nat → Int32)) → Option (Int32 × Int32 × Int32 × (Nat → Int32) × (Nat → Int32) × (Nat → Int32) × (Nat → Int32))} {y0 : Int32} {y1 : Int32} {y2 : Int32} {y3 : Int32} {y4 : Int32} {y5 : Int32} {y6 : Int32} {y7 : Int32} {y8 : Int32} {y9 : Int32} {y10 : Int32} {y11 : Nat → Int32} {y12 : Nat → Int32} {y13 : Nat → Int32} {y14 : Nat → Int32} (hk219 : ∀ (a : Int32 × Int32 × (Nat → Int32)) (ls : Array Slot) (H : Heap) (locs : List Loc), lv_has ls 12 [(0, .ref q_mo), (2, .int y0), (3, .int y1), (4, .int y2), (5, .int y3), (9, .int a.1), (10, .int a.2.1)] → va_P (dC, dI) vwCl (w_model cI q_mo q_mlb_ q_mcl_ q_mus_ q_mwr_ q_mdk_ q_mcp_ y9 mar y10 mLb mCl y11 y12 y13 a.2.2) H → va_D A (w_model cI q_mo q_mlb_ q_mcl_ q_mus_ q_mwr_ q_mdk_ q_mcp_ y9 mar y10 mLb mCl y11 y12 y13 a.2.2) → va_S A s.heap H locs → k219 a = some r → W p l e rm_M_make s m args below meth c H locs 0 0 (MQ below (jv_Qi r.1 (dC, dI) (w_model cI q_mo q_mlb_ q_mcl_ q_mus_ q_mwr_ q_mdk_ q_mcp_ r.2.1 mar r.2.2.1 mLb mCl r.2.2.2.1 r.2.2.2.2.1 r.2.2.2.2.2.1 r.2.2.2.2.2.2) A) args s 0 0 A) (F0 m 219 ls [])) {ls : Array Slot} (hl : lv_has ls 12 [(0, .ref q_mo), (2, .int y0), (3, .int y1), (4, .int y2), (5, .int y3), (9, .int y4), (10, .int y5), (11, .int y6)]) {H : Heap} {locs : List Loc} (hP : va_P (dC, dI) vwCl (w_model cI q_mo q_mlb_ q_mcl_ q_mus_ q_mwr_ q_mdk_ q_mcp_ y9 mar y10 mLb mCl y11 y12 y13 y14) H) (hD : va_D A (w_model cI q_mo q_mlb_ q_mcl_ q_mus_ q_mwr_ q_mdk_ q_mcp_ y9 mar y10 mLb mCl y11 y12 y13 y14)) (hS : va_S A s.heap H locs) (hf : f_M_make_294 mar mLb k219 y0 y1 y2 y3 y4 y5 y6 y7 y8 y9 y10 y11 y12 y13 y14 = some r) : W p l e rm_M_make s m args below meth c H locs 0 0 (MQ below (jv_Qi r.1 (dC, dI) (w_model cI q_mo q_mlb_ q_mcl_ q_mus_ q_mwr_ q_mdk_ q_mcp_ r.2.1 mar r.2.2.1 mLb mCl r.2.2.2.1 r.2.2.2.2.1 r.2.2.2.2.2.1 r.2.2.2.2.2.2) A) args s 0 0 A) (F0 m 294 ls [.int y7, .int y8, .ref q_mcp_]) := by
  unfold f_M_make_294 at hf
  obtain ⟨hx, hb, hml, hown, hts, hr, hlocks⟩ := id cx
  obtain ⟨F31, g32, hf⟩ := jv_ob hf
  refine jv_iast hx hb hK hP hD hS 6 0 rfl rfl g32 d_M_make_294 (fun H locs hP hD hS => ?_)
  have hP : va_P (dC, dI) vwCl (w_model cI q_mo q_mlb_ q_mcl_ q_mus_ q_mwr_ q_mdk_ q_mcp_ y9 mar y10 mLb mCl y11 y12 y13 F31) H := hP
  have hD : va_D A (w_model cI q_mo q_mlb_ q_mcl_ q_mus_ q_mwr_ q_mdk_ q_mcp_ y9 mar y10 mLb mCl y11 y12 y13 F31) := hD
  refine lv_aload_n hx hb d_M_make_295 rfl (lv_at hl 0 rfl) ?_
  refine va_get (D := (dC, dI)) (ci := kModel) (v := .ref q_mcp_) (C := R_Model) (T := T_Model) (N := 9) hx hb hts (fun w h => List.mem_cons_of_mem _ (in_Model w h)) hown hK hP 0 rfl rfl 7 (by decide) (jv_w hts wa_238) (fun _ h9 => h9) rfl d_M_make_296 ?_
  refine lv_bipush (v := (8 : Int32)) hx hb d_M_make_299 (by decide) ?_
  refine lv_bipush (v := (8 : Int32)) hx hb d_M_make_301 (by decide) ?_
  refine lv_iload hx hb d_M_make_303 (lv_at hl 7 rfl) ?_
  refine lv_imul hx hb d_M_make_305 ?_
  refine lv_iadd hx hb d_M_make_306 ?_
  refine lv_iconst (v := (1 : Int32)) hx hb d_M_make_307 (by decide) ?_
  refine lv_iadd hx hb d_M_make_308 ?_
  refine lv_iload hx hb d_M_make_309 (lv_at hl 5 rfl) ?_
  obtain ⟨F33, g34, hf⟩ := jv_ob hf
  refine jv_iast hx hb hK hP hD hS 6 0 rfl rfl g34 d_M_make_311 (fun H locs hP hD hS => ?_)
  have hP : va_P (dC, dI) vwCl (w_model cI q_mo q_mlb_ q_mcl_ q_mus_ q_mwr_ q_mdk_ q_mcp_ y9 mar y10 mLb mCl y11 y12 y13 F33) H := hP
  have hD : va_D A (w_model cI q_mo q_mlb_ q_mcl_ q_mus_ q_mwr_ q_mdk_ q_mcp_ y9 mar y10 mLb mCl y11 y12 y13 F33) := hD
  refine lv_aload_n hx hb d_M_make_312 rfl (lv_at hl 0 rfl) ?_
  refine va_get (D := (dC, dI)) (ci := kModel) (v := .ref q_mcp_) (C := R_Model) (T := T_Model) (N := 9) hx hb hts (fun w h => List.mem_cons_of_mem _ (in_Model w h)) hown hK hP 0 rfl rfl 7 (by decide) (jv_w hts wa_238) (fun _ h9 => h9) rfl d_M_make_313 ?_
  refine lv_bipush (v := (8 : Int32)) hx hb d_M_make_316 (by decide) ?_
  refine lv_bipush (v := (8 : Int32)) hx hb d_M_make_318 (by decide) ?_
  refine lv_iload hx hb d_M_make_320 (lv_at hl 7 rfl) ?_
  refine lv_imul hx hb d_M_make_322 ?_
  refine lv_iadd hx hb d_M_make_323 ?_
  refine lv_iconst (v := (2 : Int32)) hx hb d_M_make_324 (by decide) ?_
  refine lv_iadd hx hb d_M_make_325 ?_
  refine lv_iload_n hx hb d_M_make_326 rfl (lv_at hl 1 rfl) ?_
  refine lv_iload hx hb d_M_make_327 (lv_at hl 6 rfl) ?_
  obtain ⟨x35, g36, hf⟩ := jv_ob hf
  refine jv_cs (W.runS (As := [.int y0, .int y5]) (rest := [.int (((8 : Int32) + ((8 : Int32) * y6)) + (2 : Int32)), .ref q_mcp_]) ⟨hx, hb, hml, hown, hts⟩ (c_M_prefix l y0 y5 x35 g36) (jv_cwS hts wa_204 wa_194 wa_205 wa_206 rfl rfl yd_M_prefix ⟨Nat.le_of_ble_eq_true rfl, Nat.le_of_ble_eq_true rfl⟩) jv_pre0 rfl rfl hl.1 rfl (lv_room (Nat.le_of_ble_eq_true rfl)) d_M_make_329 ⟨Nat.zero_le _, Nat.zero_le _⟩) ?_
  refine lv_bipush (v := (32 : Int32)) hx hb d_M_make_332 (by decide) ?_
  refine lv_irem hx hb d_M_make_334 (by decide) ?_
  obtain ⟨F37, g38, hf⟩ := jv_ob hf
  refine jv_iast hx hb hK hP hD hS 6 0 rfl rfl g38 d_M_make_335 (fun H locs hP hD hS => ?_)
  have hP : va_P (dC, dI) vwCl (w_model cI q_mo q_mlb_ q_mcl_ q_mus_ q_mwr_ q_mdk_ q_mcp_ y9 mar y10 mLb mCl y11 y12 y13 F37) H := hP
  have hD : va_D A (w_model cI q_mo q_mlb_ q_mcl_ q_mus_ q_mwr_ q_mdk_ q_mcp_ y9 mar y10 mLb mCl y11 y12 y13 F37) := hD
  refine lv_iload hx hb d_M_make_336 (lv_at hl 7 rfl) ?_
  refine lv_istore (lv' := [(9, .int y6), (0, .ref q_mo), (2, .int y0), (3, .int y1), (4, .int y2), (5, .int y3), (10, .int y5), (11, .int y6)]) hx hb d_M_make_338 hl (by decide) rfl (fun ls hl => ?_)
  refine lv_iinc (k := 6) (v := y5 + (1 : Int32)) (lv' := [(10, .int (y5 + (1 : Int32))), (9, .int y6), (0, .ref q_mo), (2, .int y0), (3, .int y1), (4, .int y2), (5, .int y3), (11, .int y6)]) hx hb d_M_make_340 hl rfl (jv_inc _) (by decide) rfl (fun ls hl => ?_)
  refine lv_goto (tgt := 219) hx hb d_M_make_343 (by decide) ?_
  exact hk219 (y6, y5 + (1 : Int32), F37) _ _ _ (lv_sub hl [2, 3, 4, 5, 6, 1, 0] rfl) hP hD hS hf
def f_M_make_248 (mar : Int32) (mLb : Nat → Int32) (k219 : (Int32 × Int32 × (Nat → Int32)) → Option (Int32 × Int32 × Int32 × (Nat → Int32) × (Nat → Int32) × (Nat → Int32) × (Nat → Int32))) (y0 : Int32) (y1 : Int32) (y2 : Int32) (y3 : Int32) (y4 : Int32) (y5 : Int32) (y6 : Int32) (y7 : Int32) (y8 : Nat → Int32) (y9 : Nat → Int32) (y10 : Nat → Int32) (y11 : Nat → Int32) (k248 : (Int32) → Option (Int32 × Int32 × Int32 × (Nat → Int32) × (Nat → Int32) × (Nat → Int32) × (Nat → Int32))) (a : Int32) : Option (Int32 × Int32 × Int32 × (Nat → Int32) × (Nat → Int32) × (Nat → Int32) × (Nat → Int32)) :=
  (jv_ga y11 232 ((8 : Int32) + ((8 : Int32) * a))).bind fun x29 => if x29 ≤ 0 then (if y3 ≤ y5 then (f_M_make_294 mar mLb k219 y0 y1 y2 y3 y4 y5 a y1 ((8 : Int32) + ((8 : Int32) * a)) y6 y7 y8 y9 y10 y11) else (f_M_make_294 mar mLb k219 y0 y1 y2 y3 y4 y5 a (1 : Int32) ((8 : Int32) + ((8 : Int32) * a)) y6 y7 y8 y9 y10 y11)) else (k248 (a + (1 : Int32)))
set_option maxHeartbeats 4000000 in
set_option maxRecDepth 100000 in
theorem b_M_make_248 {l : Launch} {dC : Nat → ClassId} {dI : Nat → Nat → Nat} {cI cA cL : ClassId} {q_mo q_mlb_ q_mcl_ q_mus_ q_mwr_ q_mdk_ q_mcp_ : Nat} {mar : Int32} {mLb : Nat → Int32} {mCl : Nat → Int32} {p : Program} {e : Env} {s : State} {m : MethodId} {args : Array Value} {below : List Frame} {meth : Method} {c : Code} (cx : jv_cx p s m args meth c cc_M_make 12 R_Model (some .int) ws_M_make) (hK : va_K (dC, dI) vwCl (jv_ty cI cA cL) s) {A : Nat → Prop} (hA : ∀ q : Nat, s.heap.size ≤ q → A q) {r : Int32 × Int32 × Int32 × (Nat → Int32) × (Nat → Int32) × (Nat → Int32) × (Nat → Int32)} {k219 : (Int32 × Int32 × (Nat → Int32)) → Option (Int32 × Int32 × Int32 × (Nat → Int32) × (Nat → Int32) × (Nat → Int32) × (Nat → Int32))} {y0 : Int32} {y1 : Int32} {y2 : Int32} {y3 : Int32} {y4 : Int32} {y5 : Int32} {y6 : Int32} {y7 : Int32} {y8 : Nat → Int32} {y9 : Nat → Int32} {y10 : Nat → Int32} {y11 : Nat → Int32} (hk219 : ∀ (a : Int32 × Int32 × (Nat → Int32)) (ls : Array Slot) (H : Heap) (locs : List Loc), lv_has ls 12 [(0, .ref q_mo), (2, .int y0), (3, .int y1), (4, .int y2), (5, .int y3), (9, .int a.1), (10, .int a.2.1)] → va_P (dC, dI) vwCl (w_model cI q_mo q_mlb_ q_mcl_ q_mus_ q_mwr_ q_mdk_ q_mcp_ y6 mar y7 mLb mCl y8 y9 y10 a.2.2) H → va_D A (w_model cI q_mo q_mlb_ q_mcl_ q_mus_ q_mwr_ q_mdk_ q_mcp_ y6 mar y7 mLb mCl y8 y9 y10 a.2.2) → va_S A s.heap H locs → k219 a = some r → W p l e rm_M_make s m args below meth c H locs 0 0 (MQ below (jv_Qi r.1 (dC, dI) (w_model cI q_mo q_mlb_ q_mcl_ q_mus_ q_mwr_ q_mdk_ q_mcp_ r.2.1 mar r.2.2.1 mLb mCl r.2.2.2.1 r.2.2.2.2.1 r.2.2.2.2.2.1 r.2.2.2.2.2.2) A) args s 0 0 A) (F0 m 219 ls [])) {k248 : (Int32) → Option (Int32 × Int32 × Int32 × (Nat → Int32) × (Nat → Int32) × (Nat → Int32) × (Nat → Int32))} (hk248 : ∀ (a : Int32) (ls : Array Slot) (H : Heap) (locs : List Loc), lv_has ls 12 [(0, .ref q_mo), (2, .int y0), (3, .int y1), (4, .int y2), (5, .int y3), (9, .int y4), (10, .int y5), (11, .int a)] → va_P (dC, dI) vwCl (w_model cI q_mo q_mlb_ q_mcl_ q_mus_ q_mwr_ q_mdk_ q_mcp_ y6 mar y7 mLb mCl y8 y9 y10 y11) H → va_D A (w_model cI q_mo q_mlb_ q_mcl_ q_mus_ q_mwr_ q_mdk_ q_mcp_ y6 mar y7 mLb mCl y8 y9 y10 y11) → va_S A s.heap H locs → k248 a = some r → W p l e rm_M_make s m args below meth c H locs 0 0 (MQ below (jv_Qi r.1 (dC, dI) (w_model cI q_mo q_mlb_ q_mcl_ q_mus_ q_mwr_ q_mdk_ q_mcp_ r.2.1 mar r.2.2.1 mLb mCl r.2.2.2.1 r.2.2.2.2.1 r.2.2.2.2.2.1 r.2.2.2.2.2.2) A) args s 0 0 A) (F0 m 248 ls [])) {a : Int32} {ls : Array Slot} (hl : lv_has ls 12 [(0, .ref q_mo), (2, .int y0), (3, .int y1), (4, .int y2), (5, .int y3), (9, .int y4), (10, .int y5), (11, .int a)]) {H : Heap} {locs : List Loc} (hP : va_P (dC, dI) vwCl (w_model cI q_mo q_mlb_ q_mcl_ q_mus_ q_mwr_ q_mdk_ q_mcp_ y6 mar y7 mLb mCl y8 y9 y10 y11) H) (hD : va_D A (w_model cI q_mo q_mlb_ q_mcl_ q_mus_ q_mwr_ q_mdk_ q_mcp_ y6 mar y7 mLb mCl y8 y9 y10 y11)) (hS : va_S A s.heap H locs) (hf : f_M_make_248 mar mLb k219 y0 y1 y2 y3 y4 y5 y6 y7 y8 y9 y10 y11 k248 a = some r) : W p l e rm_M_make s m args below meth c H locs 0 0 (MQ below (jv_Qi r.1 (dC, dI) (w_model cI q_mo q_mlb_ q_mcl_ q_mus_ q_mwr_ q_mdk_ q_mcp_ r.2.1 mar r.2.2.1 mLb mCl r.2.2.2.1 r.2.2.2.2.1 r.2.2.2.2.2.1 r.2.2.2.2.2.2) A) args s 0 0 A) (F0 m 248 ls []) := by
  unfold f_M_make_248 at hf
  obtain ⟨hx, hb, hml, hown, hts, hr, hlocks⟩ := id cx
  refine lv_aload_n hx hb d_M_make_248 rfl (lv_at hl 0 rfl) ?_
  refine va_get (D := (dC, dI)) (ci := kModel) (v := .ref q_mcp_) (C := R_Model) (T := T_Model) (N := 9) hx hb hts (fun w h => List.mem_cons_of_mem _ (in_Model w h)) hown hK hP 0 rfl rfl 7 (by decide) (jv_w hts wa_238) (fun _ h9 => h9) rfl d_M_make_249 ?_
  refine lv_bipush (v := (8 : Int32)) hx hb d_M_make_252 (by decide) ?_
  refine lv_bipush (v := (8 : Int32)) hx hb d_M_make_254 (by decide) ?_
  refine lv_iload hx hb d_M_make_256 (lv_at hl 7 rfl) ?_
  refine lv_imul hx hb d_M_make_258 ?_
  refine lv_iadd hx hb d_M_make_259 ?_
  obtain ⟨x29, g30, hf⟩ := jv_ob hf
  refine jv_iald hx hb hK hP 6 0 rfl rfl g30 d_M_make_260 ?_
  refine lv_if_le (tgt := 270) hx hb d_M_make_261 (by decide) (fun hc => ?_) (fun hc => ?_)
  · have hf := jv_it hf hc
    refine lv_aload_n hx hb d_M_make_270 rfl (lv_at hl 0 rfl) ?_
    refine va_get (D := (dC, dI)) (ci := kModel) (v := .ref q_mcp_) (C := R_Model) (T := T_Model) (N := 9) hx hb hts (fun w h => List.mem_cons_of_mem _ (in_Model w h)) hown hK hP 0 rfl rfl 7 (by decide) (jv_w hts wa_238) (fun _ h9 => h9) rfl d_M_make_271 ?_
    refine lv_bipush (v := (8 : Int32)) hx hb d_M_make_274 (by decide) ?_
    refine lv_bipush (v := (8 : Int32)) hx hb d_M_make_276 (by decide) ?_
    refine lv_iload hx hb d_M_make_278 (lv_at hl 7 rfl) ?_
    refine lv_imul hx hb d_M_make_280 ?_
    refine lv_iadd hx hb d_M_make_281 ?_
    refine lv_iload hx hb d_M_make_282 (lv_at hl 6 rfl) ?_
    refine lv_iload hx hb d_M_make_284 (lv_at hl 4 rfl) ?_
    refine lv_icmp_ge (tgt := 293) hx hb d_M_make_286 (by decide) (fun hc => ?_) (fun hc => ?_)
    · have hf := jv_it hf hc
      refine lv_iload_n hx hb d_M_make_293 rfl (lv_at hl 2 rfl) ?_
      exact b_M_make_294 (y0 := y0) (y1 := y1) (y2 := y2) (y3 := y3) (y4 := y4) (y5 := y5) (y6 := a) (y7 := y1) (y8 := (8 : Int32) + ((8 : Int32) * a)) (y9 := y6) (y10 := y7) (y11 := y8) (y12 := y9) (y13 := y10) (y14 := y11) cx hK hA hk219 (lv_sub hl [0, 1, 2, 3, 4, 5, 6, 7] rfl) hP hD hS hf
    · have hf := jv_if hf hc
      refine lv_iconst (v := (1 : Int32)) hx hb d_M_make_289 (by decide) ?_
      refine lv_goto (tgt := 294) hx hb d_M_make_290 (by decide) ?_
      exact b_M_make_294 (y0 := y0) (y1 := y1) (y2 := y2) (y3 := y3) (y4 := y4) (y5 := y5) (y6 := a) (y7 := (1 : Int32)) (y8 := (8 : Int32) + ((8 : Int32) * a)) (y9 := y6) (y10 := y7) (y11 := y8) (y12 := y9) (y13 := y10) (y14 := y11) cx hK hA hk219 (lv_sub hl [0, 1, 2, 3, 4, 5, 6, 7] rfl) hP hD hS hf
  · have hf := jv_if hf hc
    refine lv_iinc (k := 7) (v := a + (1 : Int32)) (lv' := [(11, .int (a + (1 : Int32))), (0, .ref q_mo), (2, .int y0), (3, .int y1), (4, .int y2), (5, .int y3), (9, .int y4), (10, .int y5)]) hx hb d_M_make_264 hl rfl (jv_inc _) (by decide) rfl (fun ls hl => ?_)
    refine lv_goto (tgt := 248) hx hb d_M_make_267 (by decide) ?_
    exact hk248 (a + (1 : Int32)) _ _ _ (lv_sub hl [1, 2, 3, 4, 5, 6, 7, 0] rfl) hP hD hS hf
set_option maxHeartbeats 4000000 in
set_option maxRecDepth 100000 in
theorem l_M_make_248 {l : Launch} {dC : Nat → ClassId} {dI : Nat → Nat → Nat} {cI cA cL : ClassId} {q_mo q_mlb_ q_mcl_ q_mus_ q_mwr_ q_mdk_ q_mcp_ : Nat} {mar : Int32} {mLb : Nat → Int32} {mCl : Nat → Int32} {p : Program} {e : Env} {s : State} {m : MethodId} {args : Array Value} {below : List Frame} {meth : Method} {c : Code} (cx : jv_cx p s m args meth c cc_M_make 12 R_Model (some .int) ws_M_make) (hK : va_K (dC, dI) vwCl (jv_ty cI cA cL) s) {A : Nat → Prop} (hA : ∀ q : Nat, s.heap.size ≤ q → A q) {r : Int32 × Int32 × Int32 × (Nat → Int32) × (Nat → Int32) × (Nat → Int32) × (Nat → Int32)} {k219 : (Int32 × Int32 × (Nat → Int32)) → Option (Int32 × Int32 × Int32 × (Nat → Int32) × (Nat → Int32) × (Nat → Int32) × (Nat → Int32))} {y0 : Int32} {y1 : Int32} {y2 : Int32} {y3 : Int32} {y4 : Int32} {y5 : Int32} {y6 : Int32} {y7 : Int32} {y8 : Nat → Int32} {y9 : Nat → Int32} {y10 : Nat → Int32} {y11 : Nat → Int32} (hk219 : ∀ (a : Int32 × Int32 × (Nat → Int32)) (ls : Array Slot) (H : Heap) (locs : List Loc), lv_has ls 12 [(0, .ref q_mo), (2, .int y0), (3, .int y1), (4, .int y2), (5, .int y3), (9, .int a.1), (10, .int a.2.1)] → va_P (dC, dI) vwCl (w_model cI q_mo q_mlb_ q_mcl_ q_mus_ q_mwr_ q_mdk_ q_mcp_ y6 mar y7 mLb mCl y8 y9 y10 a.2.2) H → va_D A (w_model cI q_mo q_mlb_ q_mcl_ q_mus_ q_mwr_ q_mdk_ q_mcp_ y6 mar y7 mLb mCl y8 y9 y10 a.2.2) → va_S A s.heap H locs → k219 a = some r → W p l e rm_M_make s m args below meth c H locs 0 0 (MQ below (jv_Qi r.1 (dC, dI) (w_model cI q_mo q_mlb_ q_mcl_ q_mus_ q_mwr_ q_mdk_ q_mcp_ r.2.1 mar r.2.2.1 mLb mCl r.2.2.2.1 r.2.2.2.2.1 r.2.2.2.2.2.1 r.2.2.2.2.2.2) A) args s 0 0 A) (F0 m 219 ls [])) : ∀ n : Nat, ∀ (a : Int32) (ls : Array Slot) (H : Heap) (locs : List Loc), lv_has ls 12 [(0, .ref q_mo), (2, .int y0), (3, .int y1), (4, .int y2), (5, .int y3), (9, .int y4), (10, .int y5), (11, .int a)] → va_P (dC, dI) vwCl (w_model cI q_mo q_mlb_ q_mcl_ q_mus_ q_mwr_ q_mdk_ q_mcp_ y6 mar y7 mLb mCl y8 y9 y10 y11) H → va_D A (w_model cI q_mo q_mlb_ q_mcl_ q_mus_ q_mwr_ q_mdk_ q_mcp_ y6 mar y7 mLb mCl y8 y9 y10 y11) → va_S A s.heap H locs → jv_fx (f_M_make_248 mar mLb k219 y0 y1 y2 y3 y4 y5 y6 y7 y8 y9 y10 y11) n a = some r → W p l e rm_M_make s m args below meth c H locs 0 0 (MQ below (jv_Qi r.1 (dC, dI) (w_model cI q_mo q_mlb_ q_mcl_ q_mus_ q_mwr_ q_mdk_ q_mcp_ r.2.1 mar r.2.2.1 mLb mCl r.2.2.2.1 r.2.2.2.2.1 r.2.2.2.2.2.1 r.2.2.2.2.2.2) A) args s 0 0 A) (F0 m 248 ls []) := by
  intro n
  induction n with
  | zero => intro a ls H locs hl hP hD hS hf; exact jv_no hf
  | succ n ih => intro a ls H locs hl hP hD hS hf; exact b_M_make_248 cx hK hA hk219 ih hl hP hD hS hf
def f_M_make_219 (mar : Int32) (mLb : Nat → Int32) (y0 : Int32) (y1 : Int32) (y2 : Int32) (y3 : Int32) (y4 : Int32) (y5 : Int32) (y6 : Nat → Int32) (y7 : Nat → Int32) (y8 : Nat → Int32) (k219 : (Int32 × Int32 × (Nat → Int32)) → Option (Int32 × Int32 × Int32 × (Nat → Int32) × (Nat → Int32) × (Nat → Int32) × (Nat → Int32))) (a : Int32 × Int32 × (Nat → Int32)) : Option (Int32 × Int32 × Int32 × (Nat → Int32) × (Nat → Int32) × (Nat → Int32) × (Nat → Int32)) :=
  if y3 < a.2.1 then ((f_M_finish a.2.2 y2 a.1 y5 y6 y7 y8).bind fun x23 => some (x23.1, y4, x23.2.1, x23.2.2.1, x23.2.2.2.1, x23.2.2.2.2, a.2.2)) else ((f_M_prefix y0 a.2.1).bind fun x25 => (f_M_find y8 y2 x25).bind fun x27 => if 0 ≤ x27 then (k219 (x27, a.2.1 + (1 : Int32), a.2.2)) else (jv_fx (f_M_make_248 mar mLb k219 y0 y1 y2 y3 a.1 a.2.1 y4 y5 y6 y7 y8 a.2.2) 300 (0 : Int32)))
set_option maxHeartbeats 4000000 in
set_option maxRecDepth 100000 in
theorem b_M_make_219 {l : Launch} {dC : Nat → ClassId} {dI : Nat → Nat → Nat} {cI cA cL : ClassId} {q_mo q_mlb_ q_mcl_ q_mus_ q_mwr_ q_mdk_ q_mcp_ : Nat} {mar : Int32} {mLb : Nat → Int32} {mCl : Nat → Int32} {p : Program} {e : Env} {s : State} {m : MethodId} {args : Array Value} {below : List Frame} {meth : Method} {c : Code} (cx : jv_cx p s m args meth c cc_M_make 12 R_Model (some .int) ws_M_make) (hK : va_K (dC, dI) vwCl (jv_ty cI cA cL) s) {A : Nat → Prop} (hA : ∀ q : Nat, s.heap.size ≤ q → A q) {r : Int32 × Int32 × Int32 × (Nat → Int32) × (Nat → Int32) × (Nat → Int32) × (Nat → Int32)} {y0 : Int32} {y1 : Int32} {y2 : Int32} {y3 : Int32} {y4 : Int32} {y5 : Int32} {y6 : Nat → Int32} {y7 : Nat → Int32} {y8 : Nat → Int32} {k219 : (Int32 × Int32 × (Nat → Int32)) → Option (Int32 × Int32 × Int32 × (Nat → Int32) × (Nat → Int32) × (Nat → Int32) × (Nat → Int32))} (hk219 : ∀ (a : Int32 × Int32 × (Nat → Int32)) (ls : Array Slot) (H : Heap) (locs : List Loc), lv_has ls 12 [(0, .ref q_mo), (2, .int y0), (3, .int y1), (4, .int y2), (5, .int y3), (9, .int a.1), (10, .int a.2.1)] → va_P (dC, dI) vwCl (w_model cI q_mo q_mlb_ q_mcl_ q_mus_ q_mwr_ q_mdk_ q_mcp_ y4 mar y5 mLb mCl y6 y7 y8 a.2.2) H → va_D A (w_model cI q_mo q_mlb_ q_mcl_ q_mus_ q_mwr_ q_mdk_ q_mcp_ y4 mar y5 mLb mCl y6 y7 y8 a.2.2) → va_S A s.heap H locs → k219 a = some r → W p l e rm_M_make s m args below meth c H locs 0 0 (MQ below (jv_Qi r.1 (dC, dI) (w_model cI q_mo q_mlb_ q_mcl_ q_mus_ q_mwr_ q_mdk_ q_mcp_ r.2.1 mar r.2.2.1 mLb mCl r.2.2.2.1 r.2.2.2.2.1 r.2.2.2.2.2.1 r.2.2.2.2.2.2) A) args s 0 0 A) (F0 m 219 ls [])) {a : Int32 × Int32 × (Nat → Int32)} {ls : Array Slot} (hl : lv_has ls 12 [(0, .ref q_mo), (2, .int y0), (3, .int y1), (4, .int y2), (5, .int y3), (9, .int a.1), (10, .int a.2.1)]) {H : Heap} {locs : List Loc} (hP : va_P (dC, dI) vwCl (w_model cI q_mo q_mlb_ q_mcl_ q_mus_ q_mwr_ q_mdk_ q_mcp_ y4 mar y5 mLb mCl y6 y7 y8 a.2.2) H) (hD : va_D A (w_model cI q_mo q_mlb_ q_mcl_ q_mus_ q_mwr_ q_mdk_ q_mcp_ y4 mar y5 mLb mCl y6 y7 y8 a.2.2)) (hS : va_S A s.heap H locs) (hf : f_M_make_219 mar mLb y0 y1 y2 y3 y4 y5 y6 y7 y8 k219 a = some r) : W p l e rm_M_make s m args below meth c H locs 0 0 (MQ below (jv_Qi r.1 (dC, dI) (w_model cI q_mo q_mlb_ q_mcl_ q_mus_ q_mwr_ q_mdk_ q_mcp_ r.2.1 mar r.2.2.1 mLb mCl r.2.2.2.1 r.2.2.2.2.1 r.2.2.2.2.2.1 r.2.2.2.2.2.2) A) args s 0 0 A) (F0 m 219 ls []) := by
  unfold f_M_make_219 at hf
  obtain ⟨hx, hb, hml, hown, hts, hr, hlocks⟩ := id cx
  refine lv_iload hx hb d_M_make_219 (lv_at hl 6 rfl) ?_
  refine lv_iload hx hb d_M_make_221 (lv_at hl 4 rfl) ?_
  refine lv_icmp_gt (tgt := 346) hx hb d_M_make_223 (by decide) (fun hc => ?_) (fun hc => ?_)
  · have hf := jv_it hf hc
    refine lv_aload_n hx hb d_M_make_346 rfl (lv_at hl 0 rfl) ?_
    refine lv_iload hx hb d_M_make_347 (lv_at hl 3 rfl) ?_
    refine lv_iload hx hb d_M_make_349 (lv_at hl 5 rfl) ?_
    obtain ⟨x23, g24, hf⟩ := jv_ob hf
    have hPc := hP.sub (ws' := (w_model cI q_mo q_mlb_ q_mcl_ q_mus_ q_mwr_ q_mdk_ q_mcp_ y4 mar y5 mLb mCl y6 y7 y8 a.2.2)) [0, 1, 2, 3, 4, 5, 6] rfl
    have hDc := hD.sub (ws' := (w_model cI q_mo q_mlb_ q_mcl_ q_mus_ q_mwr_ q_mdk_ q_mcp_ y4 mar y5 mLb mCl y6 y7 y8 a.2.2)) [0, 1, 2, 3, 4, 5, 6] (by decide) rfl
    have hFc := va_free (wc := (w_model cI q_mo q_mlb_ q_mcl_ q_mus_ q_mwr_ q_mdk_ q_mcp_ y4 mar y5 mLb mCl y6 y7 y8 a.2.2)) hD hS hA [0, 1, 2, 3, 4, 5, 6] rfl
    refine jv_cwi (va_runV (As := [.int y2, .int a.1]) (rest := []) (b := q_mo) ⟨hx, hb, hml, hown, hts⟩ (c_M_finish l dC dI cI cA cL q_mo q_mlb_ q_mcl_ q_mus_ q_mwr_ q_mdk_ q_mcp_ y4 mar y5 mLb mCl y6 y7 y8 a.2.2 y2 a.1 H.size x23 g24) (jv_cwV hts wa_261 wa_194 wa_262 wa_263 wa_264 rfl rfl yd_M_finish ⟨Nat.le_of_ble_eq_true rfl, Nat.le_of_ble_eq_true rfl⟩) (jv_preVW hK hPc hDc 0 rfl rfl) rfl rfl hl.1 rfl (lv_room (Nat.le_of_ble_eq_true rfl)) d_M_make_351 ⟨Nat.zero_le _, Nat.zero_le _⟩) hS hFc (fun H1 locs hP1 hD1 hk1 hS => ?_)
    have hP : va_P (dC, dI) vwCl (w_model cI q_mo q_mlb_ q_mcl_ q_mus_ q_mwr_ q_mdk_ q_mcp_ y4 mar x23.2.1 mLb mCl x23.2.2.1 x23.2.2.2.1 x23.2.2.2.2 a.2.2) H1 := hP1.sub [0, 1, 2, 3, 4, 5, 6] rfl
    have hD : va_D A (w_model cI q_mo q_mlb_ q_mcl_ q_mus_ q_mwr_ q_mdk_ q_mcp_ y4 mar x23.2.1 mLb mCl x23.2.2.1 x23.2.2.2.1 x23.2.2.2.2 a.2.2) := (hD1.weaken (fun _ q _ h => hFc q.1 h)).sub [0, 1, 2, 3, 4, 5, 6] (by decide) rfl
    generalize H1 = H at hP hS ⊢
    obtain rfl := Option.some.inj hf
    exact W.iret hx hb hr (fun t ht hW => ⟨rfl, by rw [ht]; exact hP, hD, hS.F ht⟩) hS.2.2 d_M_make_354
  · have hf := jv_if hf hc
    refine lv_aload_n hx hb d_M_make_226 rfl (lv_at hl 0 rfl) ?_
    refine lv_iload hx hb d_M_make_227 (lv_at hl 3 rfl) ?_
    refine lv_iload_n hx hb d_M_make_229 rfl (lv_at hl 1 rfl) ?_
    refine lv_iload hx hb d_M_make_230 (lv_at hl 6 rfl) ?_
    obtain ⟨x25, g26, hf⟩ := jv_ob hf
    refine jv_cs (W.runS (As := [.int y0, .int a.2.1]) (rest := [.int y2, .ref q_mo]) ⟨hx, hb, hml, hown, hts⟩ (c_M_prefix l y0 a.2.1 x25 g26) (jv_cwS hts wa_204 wa_194 wa_205 wa_206 rfl rfl yd_M_prefix ⟨Nat.le_of_ble_eq_true rfl, Nat.le_of_ble_eq_true rfl⟩) jv_pre0 rfl rfl hl.1 rfl (lv_room (Nat.le_of_ble_eq_true rfl)) d_M_make_232 ⟨Nat.zero_le _, Nat.zero_le _⟩) ?_
    obtain ⟨x27, g28, hf⟩ := jv_ob hf
    have hPc := hP.sub (ws' := (w_model cI q_mo q_mlb_ q_mcl_ q_mus_ q_mwr_ q_mdk_ q_mcp_ y4 mar y5 mLb mCl y6 y7 y8 a.2.2)) [0, 1, 2, 3, 4, 5, 6] rfl
    refine jv_cs (W.runV (As := [.int y2, .int x25]) (rest := []) (b := q_mo) ⟨hx, hb, hml, hown, hts⟩ (c_M_find l dC dI cI cA cL q_mo q_mlb_ q_mcl_ q_mus_ q_mwr_ q_mdk_ q_mcp_ y4 mar y5 mLb mCl y6 y7 y8 a.2.2 y2 x25 x27 g28) (jv_cwV hts wa_211 wa_194 wa_212 wa_213 wa_214 rfl rfl yd_M_find ⟨Nat.le_of_ble_eq_true rfl, Nat.le_of_ble_eq_true rfl⟩) (jv_preV hK hPc 0 rfl rfl) rfl rfl hl.1 rfl (lv_room (Nat.le_of_ble_eq_true rfl)) d_M_make_235 ⟨Nat.zero_le _, Nat.zero_le _⟩) ?_
    refine lv_istore (lv' := [(11, .int x27), (0, .ref q_mo), (2, .int y0), (3, .int y1), (4, .int y2), (5, .int y3), (9, .int a.1), (10, .int a.2.1)]) hx hb d_M_make_238 hl (by decide) rfl (fun ls hl => ?_)
    refine lv_iload hx hb d_M_make_240 (lv_at hl 0 rfl) ?_
    refine lv_if_ge (tgt := 336) hx hb d_M_make_242 (by decide) (fun hc => ?_) (fun hc => ?_)
    · have hf := jv_it hf hc
      refine lv_iload hx hb d_M_make_336 (lv_at hl 0 rfl) ?_
      refine lv_istore (lv' := [(9, .int x27), (11, .int x27), (0, .ref q_mo), (2, .int y0), (3, .int y1), (4, .int y2), (5, .int y3), (10, .int a.2.1)]) hx hb d_M_make_338 hl (by decide) rfl (fun ls hl => ?_)
      refine lv_iinc (k := 7) (v := a.2.1 + (1 : Int32)) (lv' := [(10, .int (a.2.1 + (1 : Int32))), (9, .int x27), (11, .int x27), (0, .ref q_mo), (2, .int y0), (3, .int y1), (4, .int y2), (5, .int y3)]) hx hb d_M_make_340 hl rfl (jv_inc _) (by decide) rfl (fun ls hl => ?_)
      refine lv_goto (tgt := 219) hx hb d_M_make_343 (by decide) ?_
      exact hk219 (x27, a.2.1 + (1 : Int32), a.2.2) _ _ _ (lv_sub hl [3, 4, 5, 6, 7, 1, 0] rfl) hP hD hS hf
    · have hf := jv_if hf hc
      refine lv_iconst (v := (0 : Int32)) hx hb d_M_make_245 (by decide) ?_
      refine lv_istore (lv' := [(11, .int (0 : Int32)), (0, .ref q_mo), (2, .int y0), (3, .int y1), (4, .int y2), (5, .int y3), (9, .int a.1), (10, .int a.2.1)]) hx hb d_M_make_246 hl (by decide) rfl (fun ls hl => ?_)
      exact l_M_make_248 (y0 := y0) (y1 := y1) (y2 := y2) (y3 := y3) (y4 := a.1) (y5 := a.2.1) (y6 := y4) (y7 := y5) (y8 := y6) (y9 := y7) (y10 := y8) (y11 := a.2.2) cx hK hA hk219 300 (0 : Int32) _ _ _ (lv_sub hl [1, 2, 3, 4, 5, 6, 7, 0] rfl) hP hD hS hf
set_option maxHeartbeats 4000000 in
set_option maxRecDepth 100000 in
theorem l_M_make_219 {l : Launch} {dC : Nat → ClassId} {dI : Nat → Nat → Nat} {cI cA cL : ClassId} {q_mo q_mlb_ q_mcl_ q_mus_ q_mwr_ q_mdk_ q_mcp_ : Nat} {mar : Int32} {mLb : Nat → Int32} {mCl : Nat → Int32} {p : Program} {e : Env} {s : State} {m : MethodId} {args : Array Value} {below : List Frame} {meth : Method} {c : Code} (cx : jv_cx p s m args meth c cc_M_make 12 R_Model (some .int) ws_M_make) (hK : va_K (dC, dI) vwCl (jv_ty cI cA cL) s) {A : Nat → Prop} (hA : ∀ q : Nat, s.heap.size ≤ q → A q) {r : Int32 × Int32 × Int32 × (Nat → Int32) × (Nat → Int32) × (Nat → Int32) × (Nat → Int32)} {y0 : Int32} {y1 : Int32} {y2 : Int32} {y3 : Int32} {y4 : Int32} {y5 : Int32} {y6 : Nat → Int32} {y7 : Nat → Int32} {y8 : Nat → Int32} : ∀ n : Nat, ∀ (a : Int32 × Int32 × (Nat → Int32)) (ls : Array Slot) (H : Heap) (locs : List Loc), lv_has ls 12 [(0, .ref q_mo), (2, .int y0), (3, .int y1), (4, .int y2), (5, .int y3), (9, .int a.1), (10, .int a.2.1)] → va_P (dC, dI) vwCl (w_model cI q_mo q_mlb_ q_mcl_ q_mus_ q_mwr_ q_mdk_ q_mcp_ y4 mar y5 mLb mCl y6 y7 y8 a.2.2) H → va_D A (w_model cI q_mo q_mlb_ q_mcl_ q_mus_ q_mwr_ q_mdk_ q_mcp_ y4 mar y5 mLb mCl y6 y7 y8 a.2.2) → va_S A s.heap H locs → jv_fx (f_M_make_219 mar mLb y0 y1 y2 y3 y4 y5 y6 y7 y8) n a = some r → W p l e rm_M_make s m args below meth c H locs 0 0 (MQ below (jv_Qi r.1 (dC, dI) (w_model cI q_mo q_mlb_ q_mcl_ q_mus_ q_mwr_ q_mdk_ q_mcp_ r.2.1 mar r.2.2.1 mLb mCl r.2.2.2.1 r.2.2.2.2.1 r.2.2.2.2.2.1 r.2.2.2.2.2.2) A) args s 0 0 A) (F0 m 219 ls []) := by
  intro n
  induction n with
  | zero => intro a ls H locs hl hP hD hS hf; exact jv_no hf
  | succ n ih => intro a ls H locs hl hP hD hS hf; exact b_M_make_219 cx hK hA ih hl hP hD hS hf
def f_M_make_181 (mar : Int32) (mLb : Nat → Int32) (y0 : Int32) (y1 : Int32) (y2 : Int32) (y3 : Int32) (y4 : Int32) (y5 : Int32) (y6 : Int32) (y7 : Int32) (y8 : Nat → Int32) (y9 : Nat → Int32) (y10 : Nat → Int32) (y11 : Nat → Int32) : Option (Int32 × Int32 × Int32 × (Nat → Int32) × (Nat → Int32) × (Nat → Int32) × (Nat → Int32)) :=
  if y5 ≤ 0 then ((f_M_freeInodes y10 y2).bind fun x19 => if y4 ≤ x19 then ((f_M_start y10 y2 y11).bind fun x21 => jv_fx (f_M_make_219 mar mLb y0 y1 y2 y3 y5 y7 y8 y9 y10) 300 ((0 : Int32), (1 : Int32), x21)) else (some ((-2 : Int32), y5, y7, y8, y9, y10, y11))) else (some ((0 : Int32), y5, y7, y8, y9, y10, y11))
set_option maxHeartbeats 4000000 in
set_option maxRecDepth 100000 in
theorem b_M_make_181 {l : Launch} {dC : Nat → ClassId} {dI : Nat → Nat → Nat} {cI cA cL : ClassId} {q_mo q_mlb_ q_mcl_ q_mus_ q_mwr_ q_mdk_ q_mcp_ : Nat} {mar : Int32} {mLb : Nat → Int32} {mCl : Nat → Int32} {p : Program} {e : Env} {s : State} {m : MethodId} {args : Array Value} {below : List Frame} {meth : Method} {c : Code} (cx : jv_cx p s m args meth c cc_M_make 12 R_Model (some .int) ws_M_make) (hK : va_K (dC, dI) vwCl (jv_ty cI cA cL) s) {A : Nat → Prop} (hA : ∀ q : Nat, s.heap.size ≤ q → A q) {r : Int32 × Int32 × Int32 × (Nat → Int32) × (Nat → Int32) × (Nat → Int32) × (Nat → Int32)} {y0 : Int32} {y1 : Int32} {y2 : Int32} {y3 : Int32} {y4 : Int32} {y5 : Int32} {y6 : Int32} {y7 : Int32} {y8 : Nat → Int32} {y9 : Nat → Int32} {y10 : Nat → Int32} {y11 : Nat → Int32} {ls : Array Slot} (hl : lv_has ls 12 [(0, .ref q_mo), (2, .int y0), (3, .int y1), (4, .int y2), (5, .int y3), (8, .int y4)]) {H : Heap} {locs : List Loc} (hP : va_P (dC, dI) vwCl (w_model cI q_mo q_mlb_ q_mcl_ q_mus_ q_mwr_ q_mdk_ q_mcp_ y6 mar y7 mLb mCl y8 y9 y10 y11) H) (hD : va_D A (w_model cI q_mo q_mlb_ q_mcl_ q_mus_ q_mwr_ q_mdk_ q_mcp_ y6 mar y7 mLb mCl y8 y9 y10 y11)) (hS : va_S A s.heap H locs) (hf : f_M_make_181 mar mLb y0 y1 y2 y3 y4 y5 y6 y7 y8 y9 y10 y11 = some r) : W p l e rm_M_make s m args below meth c H locs 0 0 (MQ below (jv_Qi r.1 (dC, dI) (w_model cI q_mo q_mlb_ q_mcl_ q_mus_ q_mwr_ q_mdk_ q_mcp_ r.2.1 mar r.2.2.1 mLb mCl r.2.2.2.1 r.2.2.2.2.1 r.2.2.2.2.2.1 r.2.2.2.2.2.2) A) args s 0 0 A) (F0 m 181 ls [.int y5, .ref q_mo]) := by
  unfold f_M_make_181 at hf
  obtain ⟨hx, hb, hml, hown, hts, hr, hlocks⟩ := id cx
  refine va_put (D := (dC, dI)) (ci := kModel) (v := .int y5) (ty := .int) (C := R_Model) (T := T_Model) (N := 9) hx hb hts (fun w h => List.mem_cons_of_mem _ (in_Model w h)) ty_Model tyok_Model nm_Model hown hK hP hD hS 0 rfl rfl 0 (by decide) (jv_w hts wa_200) (fun _ h9 => h9) rfl (by decide +kernel) rfl rfl (Nat.le_of_ble_eq_true rfl) d_M_make_181 (fun H locs hP hD hS => ?_)
  have hP : va_P (dC, dI) vwCl (w_model cI q_mo q_mlb_ q_mcl_ q_mus_ q_mwr_ q_mdk_ q_mcp_ y5 mar y7 mLb mCl y8 y9 y10 y11) H := hP
  have hD : va_D A (w_model cI q_mo q_mlb_ q_mcl_ q_mus_ q_mwr_ q_mdk_ q_mcp_ y5 mar y7 mLb mCl y8 y9 y10 y11) := hD
  refine lv_aload_n hx hb d_M_make_184 rfl (lv_at hl 0 rfl) ?_
  refine va_get (D := (dC, dI)) (ci := kModel) (v := .int y5) (C := R_Model) (T := T_Model) (N := 9) hx hb hts (fun w h => List.mem_cons_of_mem _ (in_Model w h)) hown hK hP 0 rfl rfl 0 (by decide) (jv_w hts wa_200) (fun _ h9 => h9) rfl d_M_make_185 ?_
  refine lv_if_le (tgt := 193) hx hb d_M_make_188 (by decide) (fun hc => ?_) (fun hc => ?_)
  · have hf := jv_it hf hc
    refine lv_aload_n hx hb d_M_make_193 rfl (lv_at hl 0 rfl) ?_
    refine lv_iload hx hb d_M_make_194 (lv_at hl 3 rfl) ?_
    obtain ⟨x19, g20, hf⟩ := jv_ob hf
    have hPc := hP.sub (ws' := (w_model cI q_mo q_mlb_ q_mcl_ q_mus_ q_mwr_ q_mdk_ q_mcp_ y5 mar y7 mLb mCl y8 y9 y10 y11)) [0, 1, 2, 3, 4, 5, 6] rfl
    refine jv_cs (W.runV (As := [.int y2]) (rest := []) (b := q_mo) ⟨hx, hb, hml, hown, hts⟩ (c_M_freeInodes l dC dI cI cA cL q_mo q_mlb_ q_mcl_ q_mus_ q_mwr_ q_mdk_ q_mcp_ y5 mar y7 mLb mCl y8 y9 y10 y11 y2 x19 g20) (jv_cwV hts wa_253 wa_194 wa_254 wa_255 wa_256 rfl rfl yd_M_freeInodes ⟨Nat.le_of_ble_eq_true rfl, Nat.le_of_ble_eq_true rfl⟩) (jv_preV hK hPc 0 rfl rfl) rfl rfl hl.1 rfl (lv_room (Nat.le_of_ble_eq_true rfl)) d_M_make_196 ⟨Nat.zero_le _, Nat.zero_le _⟩) ?_
    refine lv_iload hx hb d_M_make_199 (lv_at hl 5 rfl) ?_
    refine lv_icmp_ge (tgt := 207) hx hb d_M_make_201 (by decide) (fun hc => ?_) (fun hc => ?_)
    · have hf := jv_it hf hc
      refine lv_aload_n hx hb d_M_make_207 rfl (lv_at hl 0 rfl) ?_
      refine lv_iload hx hb d_M_make_208 (lv_at hl 3 rfl) ?_
      obtain ⟨x21, g22, hf⟩ := jv_ob hf
      have hPc := hP.sub (ws' := (w_model cI q_mo q_mlb_ q_mcl_ q_mus_ q_mwr_ q_mdk_ q_mcp_ y5 mar y7 mLb mCl y8 y9 y10 y11)) [0, 1, 2, 3, 4, 5, 6] rfl
      have hDc := hD.sub (ws' := (w_model cI q_mo q_mlb_ q_mcl_ q_mus_ q_mwr_ q_mdk_ q_mcp_ y5 mar y7 mLb mCl y8 y9 y10 y11)) [0, 1, 2, 3, 4, 5, 6] (by decide) rfl
      have hFc := va_free (wc := (w_model cI q_mo q_mlb_ q_mcl_ q_mus_ q_mwr_ q_mdk_ q_mcp_ y5 mar y7 mLb mCl y8 y9 y10 y11)) hD hS hA [0, 1, 2, 3, 4, 5, 6] rfl
      refine jv_cwv (va_runV (As := [.int y2]) (rest := []) (b := q_mo) ⟨hx, hb, hml, hown, hts⟩ (c_M_start l dC dI cI cA cL q_mo q_mlb_ q_mcl_ q_mus_ q_mwr_ q_mdk_ q_mcp_ y5 mar y7 mLb mCl y8 y9 y10 y11 y2 H.size x21 g22) (jv_cwV hts wa_257 wa_194 wa_258 wa_259 wa_260 rfl rfl yd_M_start ⟨Nat.le_of_ble_eq_true rfl, Nat.le_of_ble_eq_true rfl⟩) (jv_preVW hK hPc hDc 0 rfl rfl) rfl rfl hl.1 rfl (lv_room (Nat.le_of_ble_eq_true rfl)) d_M_make_210 ⟨Nat.zero_le _, Nat.zero_le _⟩) hS hFc (fun H1 locs hP1 hD1 hk1 hS => ?_)
      have hP : va_P (dC, dI) vwCl (w_model cI q_mo q_mlb_ q_mcl_ q_mus_ q_mwr_ q_mdk_ q_mcp_ y5 mar y7 mLb mCl y8 y9 y10 x21) H1 := hP1.sub [0, 1, 2, 3, 4, 5, 6] rfl
      have hD : va_D A (w_model cI q_mo q_mlb_ q_mcl_ q_mus_ q_mwr_ q_mdk_ q_mcp_ y5 mar y7 mLb mCl y8 y9 y10 x21) := (hD1.weaken (fun _ q _ h => hFc q.1 h)).sub [0, 1, 2, 3, 4, 5, 6] (by decide) rfl
      generalize H1 = H at hP hS ⊢
      refine lv_iconst (v := (0 : Int32)) hx hb d_M_make_213 (by decide) ?_
      refine lv_istore (lv' := [(9, .int (0 : Int32)), (0, .ref q_mo), (2, .int y0), (3, .int y1), (4, .int y2), (5, .int y3), (8, .int y4)]) hx hb d_M_make_214 hl (by decide) rfl (fun ls hl => ?_)
      refine lv_iconst (v := (1 : Int32)) hx hb d_M_make_216 (by decide) ?_
      refine lv_istore (lv' := [(10, .int (1 : Int32)), (9, .int (0 : Int32)), (0, .ref q_mo), (2, .int y0), (3, .int y1), (4, .int y2), (5, .int y3), (8, .int y4)]) hx hb d_M_make_217 hl (by decide) rfl (fun ls hl => ?_)
      exact l_M_make_219 (y0 := y0) (y1 := y1) (y2 := y2) (y3 := y3) (y4 := y5) (y5 := y7) (y6 := y8) (y7 := y9) (y8 := y10) cx hK hA 300 ((0 : Int32), (1 : Int32), x21) _ _ _ (lv_sub hl [2, 3, 4, 5, 6, 1, 0] rfl) hP hD hS hf
    · have hf := jv_if hf hc
      refine lv_bipush (v := (-2 : Int32)) hx hb d_M_make_204 (by decide) ?_
      obtain rfl := Option.some.inj hf
      exact W.iret hx hb hr (fun t ht hW => ⟨rfl, by rw [ht]; exact hP, hD, hS.F ht⟩) hS.2.2 d_M_make_206
  · have hf := jv_if hf hc
    refine lv_iconst (v := (0 : Int32)) hx hb d_M_make_191 (by decide) ?_
    obtain rfl := Option.some.inj hf
    exact W.iret hx hb hr (fun t ht hW => ⟨rfl, by rw [ht]; exact hP, hD, hS.F ht⟩) hS.2.2 d_M_make_192
def f_M_make_118 (mar : Int32) (mLb : Nat → Int32) (k81 : (Int32 × Int32 × Int32) → Option (Int32 × Int32 × Int32 × (Nat → Int32) × (Nat → Int32) × (Nat → Int32) × (Nat → Int32))) (y0 : Int32) (y1 : Int32) (y2 : Int32) (y3 : Int32) (y4 : Int32) (y5 : Int32) (y6 : Int32) (y7 : Int32) (y8 : Int32) (y9 : Int32) (y10 : Int32) (y11 : Int32) (y12 : Nat → Int32) (y13 : Nat → Int32) (y14 : Nat → Int32) (y15 : Nat → Int32) : Option (Int32 × Int32 × Int32 × (Nat → Int32) × (Nat → Int32) × (Nat → Int32) × (Nat → Int32)) :=
  if y8 = 0 then (k81 (y9, y6 + (1 : Int32), y7 + (1 : Int32))) else (k81 (y9, y6 + (0 : Int32), y7 + (1 : Int32)))
set_option maxHeartbeats 4000000 in
set_option maxRecDepth 100000 in
theorem b_M_make_118 {l : Launch} {dC : Nat → ClassId} {dI : Nat → Nat → Nat} {cI cA cL : ClassId} {q_mo q_mlb_ q_mcl_ q_mus_ q_mwr_ q_mdk_ q_mcp_ : Nat} {mar : Int32} {mLb : Nat → Int32} {mCl : Nat → Int32} {p : Program} {e : Env} {s : State} {m : MethodId} {args : Array Value} {below : List Frame} {meth : Method} {c : Code} (cx : jv_cx p s m args meth c cc_M_make 12 R_Model (some .int) ws_M_make) (hK : va_K (dC, dI) vwCl (jv_ty cI cA cL) s) {A : Nat → Prop} (hA : ∀ q : Nat, s.heap.size ≤ q → A q) {r : Int32 × Int32 × Int32 × (Nat → Int32) × (Nat → Int32) × (Nat → Int32) × (Nat → Int32)} {k81 : (Int32 × Int32 × Int32) → Option (Int32 × Int32 × Int32 × (Nat → Int32) × (Nat → Int32) × (Nat → Int32) × (Nat → Int32))} {y0 : Int32} {y1 : Int32} {y2 : Int32} {y3 : Int32} {y4 : Int32} {y5 : Int32} {y6 : Int32} {y7 : Int32} {y8 : Int32} {y9 : Int32} {y10 : Int32} {y11 : Int32} {y12 : Nat → Int32} {y13 : Nat → Int32} {y14 : Nat → Int32} {y15 : Nat → Int32} (hk81 : ∀ (a : Int32 × Int32 × Int32) (ls : Array Slot) (H : Heap) (locs : List Loc), lv_has ls 12 [(0, .ref q_mo), (1, .int y0), (2, .int y1), (3, .int y2), (4, .int y3), (5, .int y4), (6, .int y5), (7, .int a.1), (8, .int a.2.1), (9, .int a.2.2)] → va_P (dC, dI) vwCl (w_model cI q_mo q_mlb_ q_mcl_ q_mus_ q_mwr_ q_mdk_ q_mcp_ y10 mar y11 mLb mCl y12 y13 y14 y15) H → va_D A (w_model cI q_mo q_mlb_ q_mcl_ q_mus_ q_mwr_ q_mdk_ q_mcp_ y10 mar y11 mLb mCl y12 y13 y14 y15) → va_S A s.heap H locs → k81 a = some r → W p l e rm_M_make s m args below meth c H locs 0 0 (MQ below (jv_Qi r.1 (dC, dI) (w_model cI q_mo q_mlb_ q_mcl_ q_mus_ q_mwr_ q_mdk_ q_mcp_ r.2.1 mar r.2.2.1 mLb mCl r.2.2.2.1 r.2.2.2.2.1 r.2.2.2.2.2.1 r.2.2.2.2.2.2) A) args s 0 0 A) (F0 m 81 ls [])) {ls : Array Slot} (hl : lv_has ls 12 [(0, .ref q_mo), (1, .int y0), (2, .int y1), (3, .int y2), (4, .int y3), (5, .int y4), (6, .int y5), (8, .int y6), (9, .int y7), (10, .int y8)]) {H : Heap} {locs : List Loc} (hP : va_P (dC, dI) vwCl (w_model cI q_mo q_mlb_ q_mcl_ q_mus_ q_mwr_ q_mdk_ q_mcp_ y10 mar y11 mLb mCl y12 y13 y14 y15) H) (hD : va_D A (w_model cI q_mo q_mlb_ q_mcl_ q_mus_ q_mwr_ q_mdk_ q_mcp_ y10 mar y11 mLb mCl y12 y13 y14 y15)) (hS : va_S A s.heap H locs) (hf : f_M_make_118 mar mLb k81 y0 y1 y2 y3 y4 y5 y6 y7 y8 y9 y10 y11 y12 y13 y14 y15 = some r) : W p l e rm_M_make s m args below meth c H locs 0 0 (MQ below (jv_Qi r.1 (dC, dI) (w_model cI q_mo q_mlb_ q_mcl_ q_mus_ q_mwr_ q_mdk_ q_mcp_ r.2.1 mar r.2.2.1 mLb mCl r.2.2.2.1 r.2.2.2.2.1 r.2.2.2.2.2.1 r.2.2.2.2.2.2) A) args s 0 0 A) (F0 m 118 ls [.int y9]) := by
  unfold f_M_make_118 at hf
  obtain ⟨hx, hb, hml, hown, hts, hr, hlocks⟩ := id cx
  refine lv_istore (lv' := [(7, .int y9), (0, .ref q_mo), (1, .int y0), (2, .int y1), (3, .int y2), (4, .int y3), (5, .int y4), (6, .int y5), (8, .int y6), (9, .int y7), (10, .int y8)]) hx hb d_M_make_118 hl (by decide) rfl (fun ls hl => ?_)
  refine lv_iload hx hb d_M_make_120 (lv_at hl 8 rfl) ?_
  refine lv_iload hx hb d_M_make_122 (lv_at hl 10 rfl) ?_
  refine lv_if_ne (tgt := 131) hx hb d_M_make_124 (by decide) (fun hc => ?_) (fun hc => ?_)
  · have hf := jv_if hf hc
    refine lv_iconst (v := (0 : Int32)) hx hb d_M_make_131 (by decide) ?_
    refine lv_iadd hx hb d_M_make_132 ?_
    refine lv_istore (lv' := [(8, .int (y6 + (0 : Int32))), (7, .int y9), (0, .ref q_mo), (1, .int y0), (2, .int y1), (3, .int y2), (4, .int y3), (5, .int y4), (6, .int y5), (9, .int y7), (10, .int y8)]) hx hb d_M_make_133 hl (by decide) rfl (fun ls hl => ?_)
    refine lv_iinc (k := 9) (v := y7 + (1 : Int32)) (lv' := [(9, .int (y7 + (1 : Int32))), (8, .int (y6 + (0 : Int32))), (7, .int y9), (0, .ref q_mo), (1, .int y0), (2, .int y1), (3, .int y2), (4, .int y3), (5, .int y4), (6, .int y5), (10, .int y8)]) hx hb d_M_make_135 hl rfl (jv_inc _) (by decide) rfl (fun ls hl => ?_)
    refine lv_goto (tgt := 81) hx hb d_M_make_138 (by decide) ?_
    exact hk81 (y9, y6 + (0 : Int32), y7 + (1 : Int32)) _ _ _ (lv_sub hl [3, 4, 5, 6, 7, 8, 9, 2, 1, 0] rfl) hP hD hS hf
  · have hf := jv_it hf hc
    refine lv_iconst (v := (1 : Int32)) hx hb d_M_make_127 (by decide) ?_
    refine lv_goto (tgt := 132) hx hb d_M_make_128 (by decide) ?_
    refine lv_iadd hx hb d_M_make_132 ?_
    refine lv_istore (lv' := [(8, .int (y6 + (1 : Int32))), (7, .int y9), (0, .ref q_mo), (1, .int y0), (2, .int y1), (3, .int y2), (4, .int y3), (5, .int y4), (6, .int y5), (9, .int y7), (10, .int y8)]) hx hb d_M_make_133 hl (by decide) rfl (fun ls hl => ?_)
    refine lv_iinc (k := 9) (v := y7 + (1 : Int32)) (lv' := [(9, .int (y7 + (1 : Int32))), (8, .int (y6 + (1 : Int32))), (7, .int y9), (0, .ref q_mo), (1, .int y0), (2, .int y1), (3, .int y2), (4, .int y3), (5, .int y4), (6, .int y5), (10, .int y8)]) hx hb d_M_make_135 hl rfl (jv_inc _) (by decide) rfl (fun ls hl => ?_)
    refine lv_goto (tgt := 81) hx hb d_M_make_138 (by decide) ?_
    exact hk81 (y9, y6 + (1 : Int32), y7 + (1 : Int32)) _ _ _ (lv_sub hl [3, 4, 5, 6, 7, 8, 9, 2, 1, 0] rfl) hP hD hS hf
def f_M_make_81 (mar : Int32) (mLb : Nat → Int32) (y0 : Int32) (y1 : Int32) (y2 : Int32) (y3 : Int32) (y4 : Int32) (y5 : Int32) (y6 : Int32) (y7 : Int32) (y8 : Nat → Int32) (y9 : Nat → Int32) (y10 : Nat → Int32) (y11 : Nat → Int32) (k81 : (Int32 × Int32 × Int32) → Option (Int32 × Int32 × Int32 × (Nat → Int32) × (Nat → Int32) × (Nat → Int32) × (Nat → Int32))) (a : Int32 × Int32 × Int32) : Option (Int32 × Int32 × Int32 × (Nat → Int32) × (Nat → Int32) × (Nat → Int32) × (Nat → Int32)) :=
  if y4 ≤ a.2.2 then ((f_M_visible mar mLb y10 y0 y5 (0 : Int32)).bind fun x11 => if x11 = 0 then (f_M_make_181 mar mLb y1 y2 y3 y4 a.2.1 (2 : Int32) y6 y7 y8 y9 y10 y11) else (if a.1 = 0 then ((f_M_kind y10 y3 y1).bind fun x13 => if x13 ≤ 0 then (f_M_make_181 mar mLb y1 y2 y3 y4 a.2.1 (0 : Int32) y6 y7 y8 y9 y10 y11) else (f_M_make_181 mar mLb y1 y2 y3 y4 a.2.1 (4 : Int32) y6 y7 y8 y9 y10 y11)) else (f_M_make_181 mar mLb y1 y2 y3 y4 a.2.1 (3 : Int32) y6 y7 y8 y9 y10 y11))) else ((f_M_prefix y1 a.2.2).bind fun x15 => (f_M_kind y10 y3 x15).bind fun x17 => if a.1 = 0 then (if x17 = (2 : Int32) then (f_M_make_118 mar mLb k81 y0 y1 y2 y3 y4 y5 a.2.1 a.2.2 x17 (1 : Int32) y6 y7 y8 y9 y10 y11) else (f_M_make_118 mar mLb k81 y0 y1 y2 y3 y4 y5 a.2.1 a.2.2 x17 (0 : Int32) y6 y7 y8 y9 y10 y11)) else (f_M_make_118 mar mLb k81 y0 y1 y2 y3 y4 y5 a.2.1 a.2.2 x17 (1 : Int32) y6 y7 y8 y9 y10 y11))
set_option maxHeartbeats 4000000 in
set_option maxRecDepth 100000 in
theorem b_M_make_81 {l : Launch} {dC : Nat → ClassId} {dI : Nat → Nat → Nat} {cI cA cL : ClassId} {q_mo q_mlb_ q_mcl_ q_mus_ q_mwr_ q_mdk_ q_mcp_ : Nat} {mar : Int32} {mLb : Nat → Int32} {mCl : Nat → Int32} {p : Program} {e : Env} {s : State} {m : MethodId} {args : Array Value} {below : List Frame} {meth : Method} {c : Code} (cx : jv_cx p s m args meth c cc_M_make 12 R_Model (some .int) ws_M_make) (hK : va_K (dC, dI) vwCl (jv_ty cI cA cL) s) {A : Nat → Prop} (hA : ∀ q : Nat, s.heap.size ≤ q → A q) {r : Int32 × Int32 × Int32 × (Nat → Int32) × (Nat → Int32) × (Nat → Int32) × (Nat → Int32)} {y0 : Int32} {y1 : Int32} {y2 : Int32} {y3 : Int32} {y4 : Int32} {y5 : Int32} {y6 : Int32} {y7 : Int32} {y8 : Nat → Int32} {y9 : Nat → Int32} {y10 : Nat → Int32} {y11 : Nat → Int32} {k81 : (Int32 × Int32 × Int32) → Option (Int32 × Int32 × Int32 × (Nat → Int32) × (Nat → Int32) × (Nat → Int32) × (Nat → Int32))} (hk81 : ∀ (a : Int32 × Int32 × Int32) (ls : Array Slot) (H : Heap) (locs : List Loc), lv_has ls 12 [(0, .ref q_mo), (1, .int y0), (2, .int y1), (3, .int y2), (4, .int y3), (5, .int y4), (6, .int y5), (7, .int a.1), (8, .int a.2.1), (9, .int a.2.2)] → va_P (dC, dI) vwCl (w_model cI q_mo q_mlb_ q_mcl_ q_mus_ q_mwr_ q_mdk_ q_mcp_ y6 mar y7 mLb mCl y8 y9 y10 y11) H → va_D A (w_model cI q_mo q_mlb_ q_mcl_ q_mus_ q_mwr_ q_mdk_ q_mcp_ y6 mar y7 mLb mCl y8 y9 y10 y11) → va_S A s.heap H locs → k81 a = some r → W p l e rm_M_make s m args below meth c H locs 0 0 (MQ below (jv_Qi r.1 (dC, dI) (w_model cI q_mo q_mlb_ q_mcl_ q_mus_ q_mwr_ q_mdk_ q_mcp_ r.2.1 mar r.2.2.1 mLb mCl r.2.2.2.1 r.2.2.2.2.1 r.2.2.2.2.2.1 r.2.2.2.2.2.2) A) args s 0 0 A) (F0 m 81 ls [])) {a : Int32 × Int32 × Int32} {ls : Array Slot} (hl : lv_has ls 12 [(0, .ref q_mo), (1, .int y0), (2, .int y1), (3, .int y2), (4, .int y3), (5, .int y4), (6, .int y5), (7, .int a.1), (8, .int a.2.1), (9, .int a.2.2)]) {H : Heap} {locs : List Loc} (hP : va_P (dC, dI) vwCl (w_model cI q_mo q_mlb_ q_mcl_ q_mus_ q_mwr_ q_mdk_ q_mcp_ y6 mar y7 mLb mCl y8 y9 y10 y11) H) (hD : va_D A (w_model cI q_mo q_mlb_ q_mcl_ q_mus_ q_mwr_ q_mdk_ q_mcp_ y6 mar y7 mLb mCl y8 y9 y10 y11)) (hS : va_S A s.heap H locs) (hf : f_M_make_81 mar mLb y0 y1 y2 y3 y4 y5 y6 y7 y8 y9 y10 y11 k81 a = some r) : W p l e rm_M_make s m args below meth c H locs 0 0 (MQ below (jv_Qi r.1 (dC, dI) (w_model cI q_mo q_mlb_ q_mcl_ q_mus_ q_mwr_ q_mdk_ q_mcp_ r.2.1 mar r.2.2.1 mLb mCl r.2.2.2.1 r.2.2.2.2.1 r.2.2.2.2.2.1 r.2.2.2.2.2.2) A) args s 0 0 A) (F0 m 81 ls []) := by
  unfold f_M_make_81 at hf
  obtain ⟨hx, hb, hml, hown, hts, hr, hlocks⟩ := id cx
  refine lv_iload hx hb d_M_make_81 (lv_at hl 9 rfl) ?_
  refine lv_iload hx hb d_M_make_83 (lv_at hl 5 rfl) ?_
  refine lv_icmp_ge (tgt := 141) hx hb d_M_make_85 (by decide) (fun hc => ?_) (fun hc => ?_)
  · have hf := jv_it hf hc
    refine lv_aload_n hx hb d_M_make_141 rfl (lv_at hl 0 rfl) ?_
    refine lv_aload_n hx hb d_M_make_142 rfl (lv_at hl 0 rfl) ?_
    refine lv_iload_n hx hb d_M_make_143 rfl (lv_at hl 1 rfl) ?_
    refine lv_iload hx hb d_M_make_144 (lv_at hl 6 rfl) ?_
    refine lv_iconst (v := (0 : Int32)) hx hb d_M_make_146 (by decide) ?_
    obtain ⟨x11, g12, hf⟩ := jv_ob hf
    have hPc := hP.sub (ws' := (w_model cI q_mo q_mlb_ q_mcl_ q_mus_ q_mwr_ q_mdk_ q_mcp_ y6 mar y7 mLb mCl y8 y9 y10 y11)) [0, 1, 2, 3, 4, 5, 6] rfl
    refine jv_cs (W.runV (As := [.int y0, .int y5, .int (0 : Int32)]) (rest := [.ref q_mo]) (b := q_mo) ⟨hx, hb, hml, hown, hts⟩ (c_M_visible l dC dI cI cA cL q_mo q_mlb_ q_mcl_ q_mus_ q_mwr_ q_mdk_ q_mcp_ y6 mar y7 mLb mCl y8 y9 y10 y11 y0 y5 (0 : Int32) x11 g12) (jv_cwV hts wa_234 wa_194 wa_235 wa_236 wa_237 rfl rfl yd_M_visible ⟨Nat.le_of_ble_eq_true rfl, Nat.le_of_ble_eq_true rfl⟩) (jv_preV hK hPc 0 rfl rfl) rfl rfl hl.1 rfl (lv_room (Nat.le_of_ble_eq_true rfl)) d_M_make_147 ⟨Nat.zero_le _, Nat.zero_le _⟩) ?_
    refine lv_if_ne (tgt := 157) hx hb d_M_make_150 (by decide) (fun hc => ?_) (fun hc => ?_)
    · have hf := jv_if hf hc
      refine lv_iload hx hb d_M_make_157 (lv_at hl 7 rfl) ?_
      refine lv_if_eq (tgt := 166) hx hb d_M_make_159 (by decide) (fun hc => ?_) (fun hc => ?_)
      · have hf := jv_it hf hc
        refine lv_aload_n hx hb d_M_make_166 rfl (lv_at hl 0 rfl) ?_
        refine lv_iload hx hb d_M_make_167 (lv_at hl 4 rfl) ?_
        refine lv_iload_n hx hb d_M_make_169 rfl (lv_at hl 2 rfl) ?_
        obtain ⟨x13, g14, hf⟩ := jv_ob hf
        have hPc := hP.sub (ws' := (w_model cI q_mo q_mlb_ q_mcl_ q_mus_ q_mwr_ q_mdk_ q_mcp_ y6 mar y7 mLb mCl y8 y9 y10 y11)) [0, 1, 2, 3, 4, 5, 6] rfl
        refine jv_cs (W.runV (As := [.int y3, .int y1]) (rest := [.ref q_mo]) (b := q_mo) ⟨hx, hb, hml, hown, hts⟩ (c_M_kind l dC dI cI cA cL q_mo q_mlb_ q_mcl_ q_mus_ q_mwr_ q_mdk_ q_mcp_ y6 mar y7 mLb mCl y8 y9 y10 y11 y3 y1 x13 g14) (jv_cwV hts wa_223 wa_194 wa_224 wa_225 wa_226 rfl rfl yd_M_kind ⟨Nat.le_of_ble_eq_true rfl, Nat.le_of_ble_eq_true rfl⟩) (jv_preV hK hPc 0 rfl rfl) rfl rfl hl.1 rfl (lv_room (Nat.le_of_ble_eq_true rfl)) d_M_make_170 ⟨Nat.zero_le _, Nat.zero_le _⟩) ?_
        refine lv_if_le (tgt := 180) hx hb d_M_make_173 (by decide) (fun hc => ?_) (fun hc => ?_)
        · have hf := jv_it hf hc
          refine lv_iconst (v := (0 : Int32)) hx hb d_M_make_180 (by decide) ?_
          exact b_M_make_181 (y0 := y1) (y1 := y2) (y2 := y3) (y3 := y4) (y4 := a.2.1) (y5 := (0 : Int32)) (y6 := y6) (y7 := y7) (y8 := y8) (y9 := y9) (y10 := y10) (y11 := y11) cx hK hA (lv_sub hl [0, 2, 3, 4, 5, 8] rfl) hP hD hS hf
        · have hf := jv_if hf hc
          refine lv_iconst (v := (4 : Int32)) hx hb d_M_make_176 (by decide) ?_
          refine lv_goto (tgt := 181) hx hb d_M_make_177 (by decide) ?_
          exact b_M_make_181 (y0 := y1) (y1 := y2) (y2 := y3) (y3 := y4) (y4 := a.2.1) (y5 := (4 : Int32)) (y6 := y6) (y7 := y7) (y8 := y8) (y9 := y9) (y10 := y10) (y11 := y11) cx hK hA (lv_sub hl [0, 2, 3, 4, 5, 8] rfl) hP hD hS hf
      · have hf := jv_if hf hc
        refine lv_iconst (v := (3 : Int32)) hx hb d_M_make_162 (by decide) ?_
        refine lv_goto (tgt := 181) hx hb d_M_make_163 (by decide) ?_
        exact b_M_make_181 (y0 := y1) (y1 := y2) (y2 := y3) (y3 := y4) (y4 := a.2.1) (y5 := (3 : Int32)) (y6 := y6) (y7 := y7) (y8 := y8) (y9 := y9) (y10 := y10) (y11 := y11) cx hK hA (lv_sub hl [0, 2, 3, 4, 5, 8] rfl) hP hD hS hf
    · have hf := jv_it hf hc
      refine lv_iconst (v := (2 : Int32)) hx hb d_M_make_153 (by decide) ?_
      refine lv_goto (tgt := 181) hx hb d_M_make_154 (by decide) ?_
      exact b_M_make_181 (y0 := y1) (y1 := y2) (y2 := y3) (y3 := y4) (y4 := a.2.1) (y5 := (2 : Int32)) (y6 := y6) (y7 := y7) (y8 := y8) (y9 := y9) (y10 := y10) (y11 := y11) cx hK hA (lv_sub hl [0, 2, 3, 4, 5, 8] rfl) hP hD hS hf
  · have hf := jv_if hf hc
    refine lv_aload_n hx hb d_M_make_88 rfl (lv_at hl 0 rfl) ?_
    refine lv_iload hx hb d_M_make_89 (lv_at hl 4 rfl) ?_
    refine lv_iload_n hx hb d_M_make_91 rfl (lv_at hl 2 rfl) ?_
    refine lv_iload hx hb d_M_make_92 (lv_at hl 9 rfl) ?_
    obtain ⟨x15, g16, hf⟩ := jv_ob hf
    refine jv_cs (W.runS (As := [.int y1, .int a.2.2]) (rest := [.int y3, .ref q_mo]) ⟨hx, hb, hml, hown, hts⟩ (c_M_prefix l y1 a.2.2 x15 g16) (jv_cwS hts wa_204 wa_194 wa_205 wa_206 rfl rfl yd_M_prefix ⟨Nat.le_of_ble_eq_true rfl, Nat.le_of_ble_eq_true rfl⟩) jv_pre0 rfl rfl hl.1 rfl (lv_room (Nat.le_of_ble_eq_true rfl)) d_M_make_94 ⟨Nat.zero_le _, Nat.zero_le _⟩) ?_
    obtain ⟨x17, g18, hf⟩ := jv_ob hf
    have hPc := hP.sub (ws' := (w_model cI q_mo q_mlb_ q_mcl_ q_mus_ q_mwr_ q_mdk_ q_mcp_ y6 mar y7 mLb mCl y8 y9 y10 y11)) [0, 1, 2, 3, 4, 5, 6] rfl
    refine jv_cs (W.runV (As := [.int y3, .int x15]) (rest := []) (b := q_mo) ⟨hx, hb, hml, hown, hts⟩ (c_M_kind l dC dI cI cA cL q_mo q_mlb_ q_mcl_ q_mus_ q_mwr_ q_mdk_ q_mcp_ y6 mar y7 mLb mCl y8 y9 y10 y11 y3 x15 x17 g18) (jv_cwV hts wa_223 wa_194 wa_224 wa_225 wa_226 rfl rfl yd_M_kind ⟨Nat.le_of_ble_eq_true rfl, Nat.le_of_ble_eq_true rfl⟩) (jv_preV hK hPc 0 rfl rfl) rfl rfl hl.1 rfl (lv_room (Nat.le_of_ble_eq_true rfl)) d_M_make_97 ⟨Nat.zero_le _, Nat.zero_le _⟩) ?_
    refine lv_istore (lv' := [(10, .int x17), (0, .ref q_mo), (1, .int y0), (2, .int y1), (3, .int y2), (4, .int y3), (5, .int y4), (6, .int y5), (7, .int a.1), (8, .int a.2.1), (9, .int a.2.2)]) hx hb d_M_make_100 hl (by decide) rfl (fun ls hl => ?_)
    refine lv_iload hx hb d_M_make_102 (lv_at hl 8 rfl) ?_
    refine lv_if_ne (tgt := 113) hx hb d_M_make_104 (by decide) (fun hc => ?_) (fun hc => ?_)
    · have hf := jv_if hf hc
      refine lv_iconst (v := (1 : Int32)) hx hb d_M_make_113 (by decide) ?_
      refine lv_goto (tgt := 118) hx hb d_M_make_114 (by decide) ?_
      exact b_M_make_118 (y0 := y0) (y1 := y1) (y2 := y2) (y3 := y3) (y4 := y4) (y5 := y5) (y6 := a.2.1) (y7 := a.2.2) (y8 := x17) (y9 := (1 : Int32)) (y10 := y6) (y11 := y7) (y12 := y8) (y13 := y9) (y14 := y10) (y15 := y11) cx hK hA hk81 (lv_sub hl [1, 2, 3, 4, 5, 6, 7, 9, 10, 0] rfl) hP hD hS hf
    · have hf := jv_it hf hc
      refine lv_iload hx hb d_M_make_107 (lv_at hl 0 rfl) ?_
      refine lv_iconst (v := (2 : Int32)) hx hb d_M_make_109 (by decide) ?_
      refine lv_icmp_ne (tgt := 117) hx hb d_M_make_110 (by decide) (fun hc => ?_) (fun hc => ?_)
      · have hf := jv_if hf hc
        refine lv_iconst (v := (0 : Int32)) hx hb d_M_make_117 (by decide) ?_
        exact b_M_make_118 (y0 := y0) (y1 := y1) (y2 := y2) (y3 := y3) (y4 := y4) (y5 := y5) (y6 := a.2.1) (y7 := a.2.2) (y8 := x17) (y9 := (0 : Int32)) (y10 := y6) (y11 := y7) (y12 := y8) (y13 := y9) (y14 := y10) (y15 := y11) cx hK hA hk81 (lv_sub hl [1, 2, 3, 4, 5, 6, 7, 9, 10, 0] rfl) hP hD hS hf
      · have hf := jv_it hf hc
        refine lv_iconst (v := (1 : Int32)) hx hb d_M_make_113 (by decide) ?_
        refine lv_goto (tgt := 118) hx hb d_M_make_114 (by decide) ?_
        exact b_M_make_118 (y0 := y0) (y1 := y1) (y2 := y2) (y3 := y3) (y4 := y4) (y5 := y5) (y6 := a.2.1) (y7 := a.2.2) (y8 := x17) (y9 := (1 : Int32)) (y10 := y6) (y11 := y7) (y12 := y8) (y13 := y9) (y14 := y10) (y15 := y11) cx hK hA hk81 (lv_sub hl [1, 2, 3, 4, 5, 6, 7, 9, 10, 0] rfl) hP hD hS hf
set_option maxHeartbeats 4000000 in
set_option maxRecDepth 100000 in
theorem l_M_make_81 {l : Launch} {dC : Nat → ClassId} {dI : Nat → Nat → Nat} {cI cA cL : ClassId} {q_mo q_mlb_ q_mcl_ q_mus_ q_mwr_ q_mdk_ q_mcp_ : Nat} {mar : Int32} {mLb : Nat → Int32} {mCl : Nat → Int32} {p : Program} {e : Env} {s : State} {m : MethodId} {args : Array Value} {below : List Frame} {meth : Method} {c : Code} (cx : jv_cx p s m args meth c cc_M_make 12 R_Model (some .int) ws_M_make) (hK : va_K (dC, dI) vwCl (jv_ty cI cA cL) s) {A : Nat → Prop} (hA : ∀ q : Nat, s.heap.size ≤ q → A q) {r : Int32 × Int32 × Int32 × (Nat → Int32) × (Nat → Int32) × (Nat → Int32) × (Nat → Int32)} {y0 : Int32} {y1 : Int32} {y2 : Int32} {y3 : Int32} {y4 : Int32} {y5 : Int32} {y6 : Int32} {y7 : Int32} {y8 : Nat → Int32} {y9 : Nat → Int32} {y10 : Nat → Int32} {y11 : Nat → Int32} : ∀ n : Nat, ∀ (a : Int32 × Int32 × Int32) (ls : Array Slot) (H : Heap) (locs : List Loc), lv_has ls 12 [(0, .ref q_mo), (1, .int y0), (2, .int y1), (3, .int y2), (4, .int y3), (5, .int y4), (6, .int y5), (7, .int a.1), (8, .int a.2.1), (9, .int a.2.2)] → va_P (dC, dI) vwCl (w_model cI q_mo q_mlb_ q_mcl_ q_mus_ q_mwr_ q_mdk_ q_mcp_ y6 mar y7 mLb mCl y8 y9 y10 y11) H → va_D A (w_model cI q_mo q_mlb_ q_mcl_ q_mus_ q_mwr_ q_mdk_ q_mcp_ y6 mar y7 mLb mCl y8 y9 y10 y11) → va_S A s.heap H locs → jv_fx (f_M_make_81 mar mLb y0 y1 y2 y3 y4 y5 y6 y7 y8 y9 y10 y11) n a = some r → W p l e rm_M_make s m args below meth c H locs 0 0 (MQ below (jv_Qi r.1 (dC, dI) (w_model cI q_mo q_mlb_ q_mcl_ q_mus_ q_mwr_ q_mdk_ q_mcp_ r.2.1 mar r.2.2.1 mLb mCl r.2.2.2.1 r.2.2.2.2.1 r.2.2.2.2.2.1 r.2.2.2.2.2.2) A) args s 0 0 A) (F0 m 81 ls []) := by
  intro n
  induction n with
  | zero => intro a ls H locs hl hP hD hS hf; exact jv_no hf
  | succ n ih => intro a ls H locs hl hP hD hS hf; exact b_M_make_81 cx hK hA ih hl hP hD hS hf
def f_M_make_36 (mar : Int32) (mLb : Nat → Int32) (y0 : Int32) (y1 : Int32) (y2 : Int32) (y3 : Int32) (y4 : Int32) (y5 : Nat → Int32) (y6 : Nat → Int32) (y7 : Nat → Int32) (y8 : Nat → Int32) : Option (Int32 × Int32 × Int32 × (Nat → Int32) × (Nat → Int32) × (Nat → Int32) × (Nat → Int32)) :=
  (f_M_names y1).bind fun x5 => (f_M_prefix y1 (x5 - (1 : Int32))).bind fun x7 => (f_M_visible mar mLb y7 y0 x7 (1 : Int32)).bind fun x9 => if x9 = 0 then (jv_fx (f_M_make_81 mar mLb y0 y1 y2 (y0 / (4 : Int32)) x5 x7 y3 y4 y5 y6 y7 y8) 300 ((1 : Int32), (1 : Int32), (1 : Int32))) else (jv_fx (f_M_make_81 mar mLb y0 y1 y2 (y0 / (4 : Int32)) x5 x7 y3 y4 y5 y6 y7 y8) 300 ((0 : Int32), (1 : Int32), (1 : Int32)))
set_option maxHeartbeats 4000000 in
set_option maxRecDepth 100000 in
theorem b_M_make_36 {l : Launch} {dC : Nat → ClassId} {dI : Nat → Nat → Nat} {cI cA cL : ClassId} {q_mo q_mlb_ q_mcl_ q_mus_ q_mwr_ q_mdk_ q_mcp_ : Nat} {mar : Int32} {mLb : Nat → Int32} {mCl : Nat → Int32} {p : Program} {e : Env} {s : State} {m : MethodId} {args : Array Value} {below : List Frame} {meth : Method} {c : Code} (cx : jv_cx p s m args meth c cc_M_make 12 R_Model (some .int) ws_M_make) (hK : va_K (dC, dI) vwCl (jv_ty cI cA cL) s) {A : Nat → Prop} (hA : ∀ q : Nat, s.heap.size ≤ q → A q) {r : Int32 × Int32 × Int32 × (Nat → Int32) × (Nat → Int32) × (Nat → Int32) × (Nat → Int32)} {y0 : Int32} {y1 : Int32} {y2 : Int32} {y3 : Int32} {y4 : Int32} {y5 : Nat → Int32} {y6 : Nat → Int32} {y7 : Nat → Int32} {y8 : Nat → Int32} {ls : Array Slot} (hl : lv_has ls 12 [(0, .ref q_mo), (1, .int y0), (2, .int y1), (3, .int y2)]) {H : Heap} {locs : List Loc} (hP : va_P (dC, dI) vwCl (w_model cI q_mo q_mlb_ q_mcl_ q_mus_ q_mwr_ q_mdk_ q_mcp_ y3 mar y4 mLb mCl y5 y6 y7 y8) H) (hD : va_D A (w_model cI q_mo q_mlb_ q_mcl_ q_mus_ q_mwr_ q_mdk_ q_mcp_ y3 mar y4 mLb mCl y5 y6 y7 y8)) (hS : va_S A s.heap H locs) (hf : f_M_make_36 mar mLb y0 y1 y2 y3 y4 y5 y6 y7 y8 = some r) : W p l e rm_M_make s m args below meth c H locs 0 0 (MQ below (jv_Qi r.1 (dC, dI) (w_model cI q_mo q_mlb_ q_mcl_ q_mus_ q_mwr_ q_mdk_ q_mcp_ r.2.1 mar r.2.2.1 mLb mCl r.2.2.2.1 r.2.2.2.2.1 r.2.2.2.2.2.1 r.2.2.2.2.2.2) A) args s 0 0 A) (F0 m 36 ls []) := by
  unfold f_M_make_36 at hf
  obtain ⟨hx, hb, hml, hown, hts, hr, hlocks⟩ := id cx
  refine lv_iload_n hx hb d_M_make_36 rfl (lv_at hl 1 rfl) ?_
  refine lv_iconst (v := (4 : Int32)) hx hb d_M_make_37 (by decide) ?_
  refine lv_idiv hx hb d_M_make_38 (by decide) ?_
  refine lv_istore (lv' := [(4, .int (y0 / (4 : Int32))), (0, .ref q_mo), (1, .int y0), (2, .int y1), (3, .int y2)]) hx hb d_M_make_39 hl (by decide) rfl (fun ls hl => ?_)
  refine lv_iload_n hx hb d_M_make_41 rfl (lv_at hl 3 rfl) ?_
  obtain ⟨x5, g6, hf⟩ := jv_ob hf
  refine jv_cs (W.runS (As := [.int y1]) (rest := []) ⟨hx, hb, hml, hown, hts⟩ (c_M_names l y1 x5 g6) (jv_cwS hts wa_197 wa_194 wa_198 wa_199 rfl rfl yd_M_names ⟨Nat.le_of_ble_eq_true rfl, Nat.le_of_ble_eq_true rfl⟩) jv_pre0 rfl rfl hl.1 rfl (lv_room (Nat.le_of_ble_eq_true rfl)) d_M_make_42 ⟨Nat.zero_le _, Nat.zero_le _⟩) ?_
  refine lv_istore (lv' := [(5, .int x5), (4, .int (y0 / (4 : Int32))), (0, .ref q_mo), (1, .int y0), (2, .int y1), (3, .int y2)]) hx hb d_M_make_45 hl (by decide) rfl (fun ls hl => ?_)
  refine lv_iload_n hx hb d_M_make_47 rfl (lv_at hl 4 rfl) ?_
  refine lv_iload hx hb d_M_make_48 (lv_at hl 0 rfl) ?_
  refine lv_iconst (v := (1 : Int32)) hx hb d_M_make_50 (by decide) ?_
  refine lv_isub hx hb d_M_make_51 ?_
  obtain ⟨x7, g8, hf⟩ := jv_ob hf
  refine jv_cs (W.runS (As := [.int y1, .int (x5 - (1 : Int32))]) (rest := []) ⟨hx, hb, hml, hown, hts⟩ (c_M_prefix l y1 (x5 - (1 : Int32)) x7 g8) (jv_cwS hts wa_204 wa_194 wa_205 wa_206 rfl rfl yd_M_prefix ⟨Nat.le_of_ble_eq_true rfl, Nat.le_of_ble_eq_true rfl⟩) jv_pre0 rfl rfl hl.1 rfl (lv_room (Nat.le_of_ble_eq_true rfl)) d_M_make_52 ⟨Nat.zero_le _, Nat.zero_le _⟩) ?_
  refine lv_istore (lv' := [(6, .int x7), (5, .int x5), (4, .int (y0 / (4 : Int32))), (0, .ref q_mo), (1, .int y0), (2, .int y1), (3, .int y2)]) hx hb d_M_make_55 hl (by decide) rfl (fun ls hl => ?_)
  refine lv_aload_n hx hb d_M_make_57 rfl (lv_at hl 3 rfl) ?_
  refine lv_iload_n hx hb d_M_make_58 rfl (lv_at hl 4 rfl) ?_
  refine lv_iload hx hb d_M_make_59 (lv_at hl 0 rfl) ?_
  refine lv_iconst (v := (1 : Int32)) hx hb d_M_make_61 (by decide) ?_
  obtain ⟨x9, g10, hf⟩ := jv_ob hf
  have hPc := hP.sub (ws' := (w_model cI q_mo q_mlb_ q_mcl_ q_mus_ q_mwr_ q_mdk_ q_mcp_ y3 mar y4 mLb mCl y5 y6 y7 y8)) [0, 1, 2, 3, 4, 5, 6] rfl
  refine jv_cs (W.runV (As := [.int y0, .int x7, .int (1 : Int32)]) (rest := []) (b := q_mo) ⟨hx, hb, hml, hown, hts⟩ (c_M_visible l dC dI cI cA cL q_mo q_mlb_ q_mcl_ q_mus_ q_mwr_ q_mdk_ q_mcp_ y3 mar y4 mLb mCl y5 y6 y7 y8 y0 x7 (1 : Int32) x9 g10) (jv_cwV hts wa_234 wa_194 wa_235 wa_236 wa_237 rfl rfl yd_M_visible ⟨Nat.le_of_ble_eq_true rfl, Nat.le_of_ble_eq_true rfl⟩) (jv_preV hK hPc 0 rfl rfl) rfl rfl hl.1 rfl (lv_room (Nat.le_of_ble_eq_true rfl)) d_M_make_62 ⟨Nat.zero_le _, Nat.zero_le _⟩) ?_
  refine lv_if_ne (tgt := 72) hx hb d_M_make_65 (by decide) (fun hc => ?_) (fun hc => ?_)
  · have hf := jv_if hf hc
    refine lv_iconst (v := (0 : Int32)) hx hb d_M_make_72 (by decide) ?_
    refine lv_istore (lv' := [(7, .int (0 : Int32)), (6, .int x7), (5, .int x5), (4, .int (y0 / (4 : Int32))), (0, .ref q_mo), (1, .int y0), (2, .int y1), (3, .int y2)]) hx hb d_M_make_73 hl (by decide) rfl (fun ls hl => ?_)
    refine lv_iconst (v := (1 : Int32)) hx hb d_M_make_75 (by decide) ?_
    refine lv_istore (lv' := [(8, .int (1 : Int32)), (7, .int (0 : Int32)), (6, .int x7), (5, .int x5), (4, .int (y0 / (4 : Int32))), (0, .ref q_mo), (1, .int y0), (2, .int y1), (3, .int y2)]) hx hb d_M_make_76 hl (by decide) rfl (fun ls hl => ?_)
    refine lv_iconst (v := (1 : Int32)) hx hb d_M_make_78 (by decide) ?_
    refine lv_istore (lv' := [(9, .int (1 : Int32)), (8, .int (1 : Int32)), (7, .int (0 : Int32)), (6, .int x7), (5, .int x5), (4, .int (y0 / (4 : Int32))), (0, .ref q_mo), (1, .int y0), (2, .int y1), (3, .int y2)]) hx hb d_M_make_79 hl (by decide) rfl (fun ls hl => ?_)
    exact l_M_make_81 (y0 := y0) (y1 := y1) (y2 := y2) (y3 := y0 / (4 : Int32)) (y4 := x5) (y5 := x7) (y6 := y3) (y7 := y4) (y8 := y5) (y9 := y6) (y10 := y7) (y11 := y8) cx hK hA 300 ((0 : Int32), (1 : Int32), (1 : Int32)) _ _ _ (lv_sub hl [6, 7, 8, 9, 5, 4, 3, 2, 1, 0] rfl) hP hD hS hf
  · have hf := jv_it hf hc
    refine lv_iconst (v := (1 : Int32)) hx hb d_M_make_68 (by decide) ?_
    refine lv_goto (tgt := 73) hx hb d_M_make_69 (by decide) ?_
    refine lv_istore (lv' := [(7, .int (1 : Int32)), (6, .int x7), (5, .int x5), (4, .int (y0 / (4 : Int32))), (0, .ref q_mo), (1, .int y0), (2, .int y1), (3, .int y2)]) hx hb d_M_make_73 hl (by decide) rfl (fun ls hl => ?_)
    refine lv_iconst (v := (1 : Int32)) hx hb d_M_make_75 (by decide) ?_
    refine lv_istore (lv' := [(8, .int (1 : Int32)), (7, .int (1 : Int32)), (6, .int x7), (5, .int x5), (4, .int (y0 / (4 : Int32))), (0, .ref q_mo), (1, .int y0), (2, .int y1), (3, .int y2)]) hx hb d_M_make_76 hl (by decide) rfl (fun ls hl => ?_)
    refine lv_iconst (v := (1 : Int32)) hx hb d_M_make_78 (by decide) ?_
    refine lv_istore (lv' := [(9, .int (1 : Int32)), (8, .int (1 : Int32)), (7, .int (1 : Int32)), (6, .int x7), (5, .int x5), (4, .int (y0 / (4 : Int32))), (0, .ref q_mo), (1, .int y0), (2, .int y1), (3, .int y2)]) hx hb d_M_make_79 hl (by decide) rfl (fun ls hl => ?_)
    exact l_M_make_81 (y0 := y0) (y1 := y1) (y2 := y2) (y3 := y0 / (4 : Int32)) (y4 := x5) (y5 := x7) (y6 := y3) (y7 := y4) (y8 := y5) (y9 := y6) (y10 := y7) (y11 := y8) cx hK hA 300 ((1 : Int32), (1 : Int32), (1 : Int32)) _ _ _ (lv_sub hl [6, 7, 8, 9, 5, 4, 3, 2, 1, 0] rfl) hP hD hS hf
def f_M_make_0 (mar : Int32) (mLb : Nat → Int32) (y0 : Int32) (y1 : Int32) (y2 : Int32) (y3 : Int32) (y4 : Int32) (y5 : Nat → Int32) (y6 : Nat → Int32) (y7 : Nat → Int32) (y8 : Nat → Int32) : Option (Int32 × Int32 × Int32 × (Nat → Int32) × (Nat → Int32) × (Nat → Int32) × (Nat → Int32)) :=
  (f_M_isSession y5 y0).bind fun x1 => if x1 = 0 then (some ((0 : Int32), (1 : Int32), y4, y5, y6, y7, y8)) else ((f_M_isPath y1).bind fun x3 => if x3 = 0 then (some ((0 : Int32), (1 : Int32), y4, y5, y6, y7, y8)) else (if y1 = 0 then (some ((0 : Int32), (1 : Int32), y4, y5, y6, y7, y8)) else (if y2 = (1 : Int32) then (f_M_make_36 mar mLb y0 y1 y2 y3 y4 y5 y6 y7 y8) else (if y2 = (2 : Int32) then (f_M_make_36 mar mLb y0 y1 y2 y3 y4 y5 y6 y7 y8) else (some ((0 : Int32), (1 : Int32), y4, y5, y6, y7, y8))))))
set_option maxHeartbeats 4000000 in
set_option maxRecDepth 100000 in
theorem b_M_make_0 {l : Launch} {dC : Nat → ClassId} {dI : Nat → Nat → Nat} {cI cA cL : ClassId} {q_mo q_mlb_ q_mcl_ q_mus_ q_mwr_ q_mdk_ q_mcp_ : Nat} {mar : Int32} {mLb : Nat → Int32} {mCl : Nat → Int32} {p : Program} {e : Env} {s : State} {m : MethodId} {args : Array Value} {below : List Frame} {meth : Method} {c : Code} (cx : jv_cx p s m args meth c cc_M_make 12 R_Model (some .int) ws_M_make) (hK : va_K (dC, dI) vwCl (jv_ty cI cA cL) s) {A : Nat → Prop} (hA : ∀ q : Nat, s.heap.size ≤ q → A q) {r : Int32 × Int32 × Int32 × (Nat → Int32) × (Nat → Int32) × (Nat → Int32) × (Nat → Int32)} {y0 : Int32} {y1 : Int32} {y2 : Int32} {y3 : Int32} {y4 : Int32} {y5 : Nat → Int32} {y6 : Nat → Int32} {y7 : Nat → Int32} {y8 : Nat → Int32} {ls : Array Slot} (hl : lv_has ls 12 [(0, .ref q_mo), (1, .int y0), (2, .int y1), (3, .int y2)]) {H : Heap} {locs : List Loc} (hP : va_P (dC, dI) vwCl (w_model cI q_mo q_mlb_ q_mcl_ q_mus_ q_mwr_ q_mdk_ q_mcp_ y3 mar y4 mLb mCl y5 y6 y7 y8) H) (hD : va_D A (w_model cI q_mo q_mlb_ q_mcl_ q_mus_ q_mwr_ q_mdk_ q_mcp_ y3 mar y4 mLb mCl y5 y6 y7 y8)) (hS : va_S A s.heap H locs) (hf : f_M_make_0 mar mLb y0 y1 y2 y3 y4 y5 y6 y7 y8 = some r) : W p l e rm_M_make s m args below meth c H locs 0 0 (MQ below (jv_Qi r.1 (dC, dI) (w_model cI q_mo q_mlb_ q_mcl_ q_mus_ q_mwr_ q_mdk_ q_mcp_ r.2.1 mar r.2.2.1 mLb mCl r.2.2.2.1 r.2.2.2.2.1 r.2.2.2.2.2.1 r.2.2.2.2.2.2) A) args s 0 0 A) (F0 m 0 ls []) := by
  unfold f_M_make_0 at hf
  obtain ⟨hx, hb, hml, hown, hts, hr, hlocks⟩ := id cx
  refine lv_aload_n hx hb d_M_make_0 rfl (lv_at hl 0 rfl) ?_
  refine lv_iload_n hx hb d_M_make_1 rfl (lv_at hl 1 rfl) ?_
  obtain ⟨x1, g2, hf⟩ := jv_ob hf
  have hPc := hP.sub (ws' := (w_model cI q_mo q_mlb_ q_mcl_ q_mus_ q_mwr_ q_mdk_ q_mcp_ y3 mar y4 mLb mCl y5 y6 y7 y8)) [0, 1, 2, 3, 4, 5, 6] rfl
  refine jv_cs (W.runV (As := [.int y0]) (rest := []) (b := q_mo) ⟨hx, hb, hml, hown, hts⟩ (c_M_isSession l dC dI cI cA cL q_mo q_mlb_ q_mcl_ q_mus_ q_mwr_ q_mdk_ q_mcp_ y3 mar y4 mLb mCl y5 y6 y7 y8 y0 x1 g2) (jv_cwV hts wa_227 wa_194 wa_228 wa_229 wa_230 rfl rfl yd_M_isSession ⟨Nat.le_of_ble_eq_true rfl, Nat.le_of_ble_eq_true rfl⟩) (jv_preV hK hPc 0 rfl rfl) rfl rfl hl.1 rfl (lv_room (Nat.le_of_ble_eq_true rfl)) d_M_make_2 ⟨Nat.zero_le _, Nat.zero_le _⟩) ?_
  refine lv_if_eq (tgt := 29) hx hb d_M_make_5 (by decide) (fun hc => ?_) (fun hc => ?_)
  · have hf := jv_it hf hc
    refine lv_aload_n hx hb d_M_make_29 rfl (lv_at hl 0 rfl) ?_
    refine lv_iconst (v := (1 : Int32)) hx hb d_M_make_30 (by decide) ?_
    refine va_put (D := (dC, dI)) (ci := kModel) (v := .int (1 : Int32)) (ty := .int) (C := R_Model) (T := T_Model) (N := 9) hx hb hts (fun w h => List.mem_cons_of_mem _ (in_Model w h)) ty_Model tyok_Model nm_Model hown hK hP hD hS 0 rfl rfl 0 (by decide) (jv_w hts wa_200) (fun _ h9 => h9) rfl (by decide +kernel) rfl rfl (Nat.le_of_ble_eq_true rfl) d_M_make_31 (fun H locs hP hD hS => ?_)
    have hP : va_P (dC, dI) vwCl (w_model cI q_mo q_mlb_ q_mcl_ q_mus_ q_mwr_ q_mdk_ q_mcp_ (1 : Int32) mar y4 mLb mCl y5 y6 y7 y8) H := hP
    have hD : va_D A (w_model cI q_mo q_mlb_ q_mcl_ q_mus_ q_mwr_ q_mdk_ q_mcp_ (1 : Int32) mar y4 mLb mCl y5 y6 y7 y8) := hD
    refine lv_iconst (v := (0 : Int32)) hx hb d_M_make_34 (by decide) ?_
    obtain rfl := Option.some.inj hf
    exact W.iret hx hb hr (fun t ht hW => ⟨rfl, by rw [ht]; exact hP, hD, hS.F ht⟩) hS.2.2 d_M_make_35
  · have hf := jv_if hf hc
    refine lv_iload_n hx hb d_M_make_8 rfl (lv_at hl 2 rfl) ?_
    obtain ⟨x3, g4, hf⟩ := jv_ob hf
    refine jv_cs (W.runS (As := [.int y1]) (rest := []) ⟨hx, hb, hml, hown, hts⟩ (c_M_isPath l y1 x3 g4) (jv_cwS hts wa_231 wa_194 wa_232 wa_233 rfl rfl yd_M_isPath ⟨Nat.le_of_ble_eq_true rfl, Nat.le_of_ble_eq_true rfl⟩) jv_pre0 rfl rfl hl.1 rfl (lv_room (Nat.le_of_ble_eq_true rfl)) d_M_make_9 ⟨Nat.zero_le _, Nat.zero_le _⟩) ?_
    refine lv_if_eq (tgt := 29) hx hb d_M_make_12 (by decide) (fun hc => ?_) (fun hc => ?_)
    · have hf := jv_it hf hc
      refine lv_aload_n hx hb d_M_make_29 rfl (lv_at hl 0 rfl) ?_
      refine lv_iconst (v := (1 : Int32)) hx hb d_M_make_30 (by decide) ?_
      refine va_put (D := (dC, dI)) (ci := kModel) (v := .int (1 : Int32)) (ty := .int) (C := R_Model) (T := T_Model) (N := 9) hx hb hts (fun w h => List.mem_cons_of_mem _ (in_Model w h)) ty_Model tyok_Model nm_Model hown hK hP hD hS 0 rfl rfl 0 (by decide) (jv_w hts wa_200) (fun _ h9 => h9) rfl (by decide +kernel) rfl rfl (Nat.le_of_ble_eq_true rfl) d_M_make_31 (fun H locs hP hD hS => ?_)
      have hP : va_P (dC, dI) vwCl (w_model cI q_mo q_mlb_ q_mcl_ q_mus_ q_mwr_ q_mdk_ q_mcp_ (1 : Int32) mar y4 mLb mCl y5 y6 y7 y8) H := hP
      have hD : va_D A (w_model cI q_mo q_mlb_ q_mcl_ q_mus_ q_mwr_ q_mdk_ q_mcp_ (1 : Int32) mar y4 mLb mCl y5 y6 y7 y8) := hD
      refine lv_iconst (v := (0 : Int32)) hx hb d_M_make_34 (by decide) ?_
      obtain rfl := Option.some.inj hf
      exact W.iret hx hb hr (fun t ht hW => ⟨rfl, by rw [ht]; exact hP, hD, hS.F ht⟩) hS.2.2 d_M_make_35
    · have hf := jv_if hf hc
      refine lv_iload_n hx hb d_M_make_15 rfl (lv_at hl 2 rfl) ?_
      refine lv_if_eq (tgt := 29) hx hb d_M_make_16 (by decide) (fun hc => ?_) (fun hc => ?_)
      · have hf := jv_it hf hc
        refine lv_aload_n hx hb d_M_make_29 rfl (lv_at hl 0 rfl) ?_
        refine lv_iconst (v := (1 : Int32)) hx hb d_M_make_30 (by decide) ?_
        refine va_put (D := (dC, dI)) (ci := kModel) (v := .int (1 : Int32)) (ty := .int) (C := R_Model) (T := T_Model) (N := 9) hx hb hts (fun w h => List.mem_cons_of_mem _ (in_Model w h)) ty_Model tyok_Model nm_Model hown hK hP hD hS 0 rfl rfl 0 (by decide) (jv_w hts wa_200) (fun _ h9 => h9) rfl (by decide +kernel) rfl rfl (Nat.le_of_ble_eq_true rfl) d_M_make_31 (fun H locs hP hD hS => ?_)
        have hP : va_P (dC, dI) vwCl (w_model cI q_mo q_mlb_ q_mcl_ q_mus_ q_mwr_ q_mdk_ q_mcp_ (1 : Int32) mar y4 mLb mCl y5 y6 y7 y8) H := hP
        have hD : va_D A (w_model cI q_mo q_mlb_ q_mcl_ q_mus_ q_mwr_ q_mdk_ q_mcp_ (1 : Int32) mar y4 mLb mCl y5 y6 y7 y8) := hD
        refine lv_iconst (v := (0 : Int32)) hx hb d_M_make_34 (by decide) ?_
        obtain rfl := Option.some.inj hf
        exact W.iret hx hb hr (fun t ht hW => ⟨rfl, by rw [ht]; exact hP, hD, hS.F ht⟩) hS.2.2 d_M_make_35
      · have hf := jv_if hf hc
        refine lv_iload_n hx hb d_M_make_19 rfl (lv_at hl 3 rfl) ?_
        refine lv_iconst (v := (1 : Int32)) hx hb d_M_make_20 (by decide) ?_
        refine lv_icmp_eq (tgt := 36) hx hb d_M_make_21 (by decide) (fun hc => ?_) (fun hc => ?_)
        · have hf := jv_it hf hc
          exact b_M_make_36 (y0 := y0) (y1 := y1) (y2 := y2) (y3 := y3) (y4 := y4) (y5 := y5) (y6 := y6) (y7 := y7) (y8 := y8) cx hK hA (lv_sub hl [0, 1, 2, 3] rfl) hP hD hS hf
        · have hf := jv_if hf hc
          refine lv_iload_n hx hb d_M_make_24 rfl (lv_at hl 3 rfl) ?_
          refine lv_iconst (v := (2 : Int32)) hx hb d_M_make_25 (by decide) ?_
          refine lv_icmp_eq (tgt := 36) hx hb d_M_make_26 (by decide) (fun hc => ?_) (fun hc => ?_)
          · have hf := jv_it hf hc
            exact b_M_make_36 (y0 := y0) (y1 := y1) (y2 := y2) (y3 := y3) (y4 := y4) (y5 := y5) (y6 := y6) (y7 := y7) (y8 := y8) cx hK hA (lv_sub hl [0, 1, 2, 3] rfl) hP hD hS hf
          · have hf := jv_if hf hc
            refine lv_aload_n hx hb d_M_make_29 rfl (lv_at hl 0 rfl) ?_
            refine lv_iconst (v := (1 : Int32)) hx hb d_M_make_30 (by decide) ?_
            refine va_put (D := (dC, dI)) (ci := kModel) (v := .int (1 : Int32)) (ty := .int) (C := R_Model) (T := T_Model) (N := 9) hx hb hts (fun w h => List.mem_cons_of_mem _ (in_Model w h)) ty_Model tyok_Model nm_Model hown hK hP hD hS 0 rfl rfl 0 (by decide) (jv_w hts wa_200) (fun _ h9 => h9) rfl (by decide +kernel) rfl rfl (Nat.le_of_ble_eq_true rfl) d_M_make_31 (fun H locs hP hD hS => ?_)
            have hP : va_P (dC, dI) vwCl (w_model cI q_mo q_mlb_ q_mcl_ q_mus_ q_mwr_ q_mdk_ q_mcp_ (1 : Int32) mar y4 mLb mCl y5 y6 y7 y8) H := hP
            have hD : va_D A (w_model cI q_mo q_mlb_ q_mcl_ q_mus_ q_mwr_ q_mdk_ q_mcp_ (1 : Int32) mar y4 mLb mCl y5 y6 y7 y8) := hD
            refine lv_iconst (v := (0 : Int32)) hx hb d_M_make_34 (by decide) ?_
            obtain rfl := Option.some.inj hf
            exact W.iret hx hb hr (fun t ht hW => ⟨rfl, by rw [ht]; exact hP, hD, hS.F ht⟩) hS.2.2 d_M_make_35
def f_M_make (mar : Int32) (mLb : Nat → Int32) (a0 : Int32) (a1 : Int32) (a2 : Int32) (mth : Int32) (mfu : Int32) (mUs : Nat → Int32) (mWr : Nat → Int32) (mDk : Nat → Int32) (mCp : Nat → Int32) : Option (Int32 × Int32 × Int32 × (Nat → Int32) × (Nat → Int32) × (Nat → Int32) × (Nat → Int32)) := f_M_make_0 mar mLb a0 a1 a2 mth mfu mUs mWr mDk mCp
set_option maxHeartbeats 4000000 in
set_option maxRecDepth 100000 in
theorem c_M_make (l : Launch) (dC : Nat → ClassId) (dI : Nat → Nat → Nat) (cI cA cL : ClassId) (q_mo q_mlb_ q_mcl_ q_mus_ q_mwr_ q_mdk_ q_mcp_ : Nat) (mth : Int32) (mar : Int32) (mfu : Int32) (mLb : Nat → Int32) (mCl : Nat → Int32) (mUs : Nat → Int32) (mWr : Nat → Int32) (mDk : Nat → Int32) (mCp : Nat → Int32) (a0 : Int32) (a1 : Int32) (a2 : Int32) (sz : Nat) (r : Int32 × Int32 × Int32 × (Nat → Int32) × (Nat → Int32) × (Nat → Int32) × (Nat → Int32)) (hf : f_M_make mar mLb a0 a1 a2 mth mfu mUs mWr mDk mCp = some r) : Met l y_M_make ws_M_make rm_M_make (jv_Pw [.ref q_mo, .int a0, .int a1, .int a2] (dC, dI) (jv_ty cI cA cL) (w_model cI q_mo q_mlb_ q_mcl_ q_mus_ q_mwr_ q_mdk_ q_mcp_ mth mar mfu mLb mCl mUs mWr mDk mCp) sz) (jv_Qi r.1 (dC, dI) (w_model cI q_mo q_mlb_ q_mcl_ q_mus_ q_mwr_ q_mdk_ q_mcp_ r.2.1 mar r.2.2.1 mLb mCl r.2.2.2.1 r.2.2.2.2.1 r.2.2.2.2.2.1 r.2.2.2.2.2.2) (va_A (w_model cI q_mo q_mlb_ q_mcl_ q_mus_ q_mwr_ q_mdk_ q_mcp_ mth mar mfu mLb mCl mUs mWr mDk mCp) sz)) 0 0 (va_A (w_model cI q_mo q_mlb_ q_mcl_ q_mus_ q_mwr_ q_mdk_ q_mcp_ mth mar mfu mLb mCl mUs mWr mDk mCp) sz) := by
  refine Met.ofW (cc := cc_M_make) (maxL := 12) (ret := (some .int)) (by decide) rfl ?_
  intro p e s m args below meth c s₁ B hml hv
  obtain ⟨rfl, hsz, hP, hK, hD0⟩ := hv
  have cx : jv_cx p s m _ meth c cc_M_make 12 R_Model (some .int) ws_M_make := ⟨B.exec, B.bytes, hml, findClass_of_methodNamed B.named, atoms_spec (ws := ws_M_make) B.pre, B.returns, B.notSynchronized⟩
  subst hsz
  have hD := hD0.self (sz := s.heap.size)
  generalize hAe : va_A (w_model cI q_mo q_mlb_ q_mcl_ q_mus_ q_mwr_ q_mdk_ q_mcp_ mth mar mfu mLb mCl mUs mWr mDk mCp) s.heap.size = A at hD ⊢
  have hA : ∀ q : Nat, s.heap.size ≤ q → A q := fun q h => by rw [← hAe]; exact Or.inr h
  have hS : va_S A s.heap s.heap [] := va_S.rf
  have hl := lv_entry ([.ref q_mo, .int a0, .int a1, .int a2]) (n := 12) (Nat.le_of_ble_eq_true rfl)
  rw [lg_entry_eq]
  generalize (lg_sl ([.ref q_mo, .int a0, .int a1, .int a2]) ++ List.replicate (12 - (lg_sl ([.ref q_mo, .int a0, .int a1, .int a2])).length) Slot.unset).toArray = ls at hl ⊢
  have hl : lv_has ls 12 [(0, .ref q_mo), (1, .int a0), (2, .int a1), (3, .int a2)] := hl
  exact b_M_make_0 (y0 := a0) (y1 := a1) (y2 := a2) (y3 := mth) (y4 := mfu) (y5 := mUs) (y6 := mWr) (y7 := mDk) (y8 := mCp) cx hK hA (lv_sub hl [0, 1, 2, 3] rfl) hP hD hS hf
