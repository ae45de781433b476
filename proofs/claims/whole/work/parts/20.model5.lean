theorem d_M_remove_0 : decode cc_M_remove 0 = .ok (.aload_n 0, 1) := by decide +kernel
theorem d_M_remove_1 : decode cc_M_remove 1 = .ok (.iload_n 2, 1) := by decide +kernel
theorem d_M_remove_2 : decode cc_M_remove 2 = .ok (.ifCond .ne 7, 3) := by decide +kernel
theorem d_M_remove_9 : decode cc_M_remove 9 = .ok (.aload_n 0, 1) := by decide +kernel
theorem d_M_remove_10 : decode cc_M_remove 10 = .ok (.iload_n 1, 1) := by decide +kernel
theorem d_M_remove_11 : decode cc_M_remove 11 = .ok (.iload_n 2, 1) := by decide +kernel
theorem d_M_remove_12 : decode cc_M_remove 12 = .ok (.invokevirtual 98, 3) := by decide +kernel
theorem d_M_remove_5 : decode cc_M_remove 5 = .ok (.iconst 1, 1) := by decide +kernel
theorem d_M_remove_6 : decode cc_M_remove 6 = .ok (.goto 9, 3) := by decide +kernel
theorem d_M_remove_15 : decode cc_M_remove 15 = .ok (.putfield 32, 3) := by decide +kernel
theorem d_M_remove_18 : decode cc_M_remove 18 = .ok (.aload_n 0, 1) := by decide +kernel
theorem d_M_remove_19 : decode cc_M_remove 19 = .ok (.getfield 32, 3) := by decide +kernel
theorem d_M_remove_22 : decode cc_M_remove 22 = .ok (.ifCond .ne 9, 3) := by decide +kernel
theorem d_M_remove_31 : decode cc_M_remove 31 = .ok (.iconst 0, 1) := by decide +kernel
theorem d_M_remove_32 : decode cc_M_remove 32 = .ok (.istore_n 3, 1) := by decide +kernel
theorem d_M_remove_33 : decode cc_M_remove 33 = .ok (.aload_n 0, 1) := by decide +kernel
theorem d_M_remove_34 : decode cc_M_remove 34 = .ok (.getfield 32, 3) := by decide +kernel
theorem d_M_remove_37 : decode cc_M_remove 37 = .ok (.ifCond .ne 12, 3) := by decide +kernel
theorem d_M_remove_49 : decode cc_M_remove 49 = .ok (.iconst 0, 1) := by decide +kernel
theorem d_M_remove_40 : decode cc_M_remove 40 = .ok (.aload_n 0, 1) := by decide +kernel
theorem d_M_remove_41 : decode cc_M_remove 41 = .ok (.iload_n 3, 1) := by decide +kernel
theorem d_M_remove_42 : decode cc_M_remove 42 = .ok (.iload_n 2, 1) := by decide +kernel
theorem d_M_remove_43 : decode cc_M_remove 43 = .ok (.invokevirtual 68, 3) := by decide +kernel
theorem d_M_remove_46 : decode cc_M_remove 46 = .ok (.goto 4, 3) := by decide +kernel
theorem d_M_remove_25 : decode cc_M_remove 25 = .ok (.iload_n 1, 1) := by decide +kernel
theorem d_M_remove_26 : decode cc_M_remove 26 = .ok (.iconst 4, 1) := by decide +kernel
theorem d_M_remove_27 : decode cc_M_remove 27 = .ok (.idiv, 1) := by decide +kernel
theorem d_M_remove_28 : decode cc_M_remove 28 = .ok (.goto 4, 3) := by decide +kernel
theorem d_M_remove_50 : decode cc_M_remove 50 = .ok (.istore 4, 2) := by decide +kernel
theorem d_M_remove_52 : decode cc_M_remove 52 = .ok (.aload_n 0, 1) := by decide +kernel
theorem d_M_remove_53 : decode cc_M_remove 53 = .ok (.aload_n 0, 1) := by decide +kernel
theorem d_M_remove_54 : decode cc_M_remove 54 = .ok (.getfield 32, 3) := by decide +kernel
theorem d_M_remove_57 : decode cc_M_remove 57 = .ok (.ifCond .ne 29, 3) := by decide +kernel
theorem d_M_remove_86 : decode cc_M_remove 86 = .ok (.aload_n 0, 1) := by decide +kernel
theorem d_M_remove_87 : decode cc_M_remove 87 = .ok (.getfield 32, 3) := by decide +kernel
theorem d_M_remove_60 : decode cc_M_remove 60 = .ok (.aload_n 0, 1) := by decide +kernel
theorem d_M_remove_61 : decode cc_M_remove 61 = .ok (.iload_n 3, 1) := by decide +kernel
theorem d_M_remove_62 : decode cc_M_remove 62 = .ok (.iload 4, 2) := by decide +kernel
theorem d_M_remove_64 : decode cc_M_remove 64 = .ok (.iconst 0, 1) := by decide +kernel
theorem d_M_remove_65 : decode cc_M_remove 65 = .ok (.invokevirtual 64, 3) := by decide +kernel
theorem d_M_remove_68 : decode cc_M_remove 68 = .ok (.iconst 1, 1) := by decide +kernel
theorem d_M_remove_69 : decode cc_M_remove 69 = .ok (.if_icmp .ne 17, 3) := by decide +kernel
theorem d_M_remove_72 : decode cc_M_remove 72 = .ok (.aload_n 0, 1) := by decide +kernel
theorem d_M_remove_73 : decode cc_M_remove 73 = .ok (.iload_n 3, 1) := by decide +kernel
theorem d_M_remove_74 : decode cc_M_remove 74 = .ok (.iload 4, 2) := by decide +kernel
theorem d_M_remove_76 : decode cc_M_remove 76 = .ok (.invokevirtual 113, 3) := by decide +kernel
theorem d_M_remove_79 : decode cc_M_remove 79 = .ok (.ifCond .eq 7, 3) := by decide +kernel
theorem d_M_remove_82 : decode cc_M_remove 82 = .ok (.iconst 4, 1) := by decide +kernel
theorem d_M_remove_83 : decode cc_M_remove 83 = .ok (.goto 7, 3) := by decide +kernel
theorem d_M_remove_90 : decode cc_M_remove 90 = .ok (.putfield 32, 3) := by decide +kernel
theorem d_M_remove_93 : decode cc_M_remove 93 = .ok (.aload_n 0, 1) := by decide +kernel
theorem d_M_remove_94 : decode cc_M_remove 94 = .ok (.getfield 32, 3) := by decide +kernel
theorem d_M_remove_97 : decode cc_M_remove 97 = .ok (.ifCond .le 5, 3) := by decide +kernel
theorem d_M_remove_102 : decode cc_M_remove 102 = .ok (.aload_n 0, 1) := by decide +kernel
theorem d_M_remove_103 : decode cc_M_remove 103 = .ok (.iload_n 3, 1) := by decide +kernel
theorem d_M_remove_104 : decode cc_M_remove 104 = .ok (.invokevirtual 91, 3) := by decide +kernel
theorem d_M_remove_107 : decode cc_M_remove 107 = .ok (.aload_n 0, 1) := by decide +kernel
theorem d_M_remove_108 : decode cc_M_remove 108 = .ok (.getfield 25, 3) := by decide +kernel
theorem d_M_remove_111 : decode cc_M_remove 111 = .ok (.bipush 8, 2) := by decide +kernel
theorem d_M_remove_113 : decode cc_M_remove 113 = .ok (.bipush 8, 2) := by decide +kernel
theorem d_M_remove_115 : decode cc_M_remove 115 = .ok (.iload 4, 2) := by decide +kernel
theorem d_M_remove_117 : decode cc_M_remove 117 = .ok (.imul, 1) := by decide +kernel
theorem d_M_remove_118 : decode cc_M_remove 118 = .ok (.iadd, 1) := by decide +kernel
theorem d_M_remove_119 : decode cc_M_remove 119 = .ok (.bipush 6, 2) := by decide +kernel
theorem d_M_remove_121 : decode cc_M_remove 121 = .ok (.iadd, 1) := by decide +kernel
theorem d_M_remove_122 : decode cc_M_remove 122 = .ok (.iaload, 1) := by decide +kernel
theorem d_M_remove_123 : decode cc_M_remove 123 = .ok (.istore 5, 2) := by decide +kernel
theorem d_M_remove_125 : decode cc_M_remove 125 = .ok (.iconst 0, 1) := by decide +kernel
theorem d_M_remove_126 : decode cc_M_remove 126 = .ok (.istore 6, 2) := by decide +kernel
theorem d_M_remove_100 : decode cc_M_remove 100 = .ok (.iconst 0, 1) := by decide +kernel
theorem d_M_remove_101 : decode cc_M_remove 101 = .ok (.ireturn, 1) := by decide +kernel
theorem d_M_remove_128 : decode cc_M_remove 128 = .ok (.iload 6, 2) := by decide +kernel
theorem d_M_remove_130 : decode cc_M_remove 130 = .ok (.bipush 8, 2) := by decide +kernel
theorem d_M_remove_132 : decode cc_M_remove 132 = .ok (.if_icmp .ge 67, 3) := by decide +kernel
theorem d_M_remove_199 : decode cc_M_remove 199 = .ok (.iconst 4, 1) := by decide +kernel
theorem d_M_remove_200 : decode cc_M_remove 200 = .ok (.istore 6, 2) := by decide +kernel
theorem d_M_remove_135 : decode cc_M_remove 135 = .ok (.iload 5, 2) := by decide +kernel
theorem d_M_remove_137 : decode cc_M_remove 137 = .ok (.ifCond .le 62, 3) := by decide +kernel
theorem d_M_remove_140 : decode cc_M_remove 140 = .ok (.aload_n 0, 1) := by decide +kernel
theorem d_M_remove_141 : decode cc_M_remove 141 = .ok (.getfield 25, 3) := by decide +kernel
theorem d_M_remove_144 : decode cc_M_remove 144 = .ok (.bipush 64, 2) := by decide +kernel
theorem d_M_remove_146 : decode cc_M_remove 146 = .ok (.bipush 8, 2) := by decide +kernel
theorem d_M_remove_148 : decode cc_M_remove 148 = .ok (.iload 5, 2) := by decide +kernel
theorem d_M_remove_150 : decode cc_M_remove 150 = .ok (.imul, 1) := by decide +kernel
theorem d_M_remove_151 : decode cc_M_remove 151 = .ok (.iadd, 1) := by decide +kernel
theorem d_M_remove_152 : decode cc_M_remove 152 = .ok (.iload 6, 2) := by decide +kernel
theorem d_M_remove_154 : decode cc_M_remove 154 = .ok (.iadd, 1) := by decide +kernel
theorem d_M_remove_155 : decode cc_M_remove 155 = .ok (.iaload, 1) := by decide +kernel
theorem d_M_remove_156 : decode cc_M_remove 156 = .ok (.istore 7, 2) := by decide +kernel
theorem d_M_remove_158 : decode cc_M_remove 158 = .ok (.aload_n 0, 1) := by decide +kernel
theorem d_M_remove_159 : decode cc_M_remove 159 = .ok (.getfield 25, 3) := by decide +kernel
theorem d_M_remove_162 : decode cc_M_remove 162 = .ok (.iconst 0, 1) := by decide +kernel
theorem d_M_remove_163 : decode cc_M_remove 163 = .ok (.iload 7, 2) := by decide +kernel
theorem d_M_remove_165 : decode cc_M_remove 165 = .ok (.ifCond .le 21, 3) := by decide +kernel
theorem d_M_remove_186 : decode cc_M_remove 186 = .ok (.aload_n 0, 1) := by decide +kernel
theorem d_M_remove_187 : decode cc_M_remove 187 = .ok (.getfield 25, 3) := by decide +kernel
theorem d_M_remove_190 : decode cc_M_remove 190 = .ok (.iconst 0, 1) := by decide +kernel
theorem d_M_remove_191 : decode cc_M_remove 191 = .ok (.iaload, 1) := by decide +kernel
theorem d_M_remove_192 : decode cc_M_remove 192 = .ok (.iastore, 1) := by decide +kernel
theorem d_M_remove_193 : decode cc_M_remove 193 = .ok (.iinc 6 1, 3) := by decide +kernel
theorem d_M_remove_196 : decode cc_M_remove 196 = .ok (.goto (-68), 3) := by decide +kernel
theorem d_M_remove_168 : decode cc_M_remove 168 = .ok (.aload_n 0, 1) := by decide +kernel
theorem d_M_remove_169 : decode cc_M_remove 169 = .ok (.getfield 25, 3) := by decide +kernel
theorem d_M_remove_172 : decode cc_M_remove 172 = .ok (.iconst 0, 1) := by decide +kernel
theorem d_M_remove_173 : decode cc_M_remove 173 = .ok (.iaload, 1) := by decide +kernel
theorem d_M_remove_174 : decode cc_M_remove 174 = .ok (.iconst 1, 1) := by decide +kernel
theorem d_M_remove_175 : decode cc_M_remove 175 = .ok (.iload 7, 2) := by decide +kernel
theorem d_M_remove_177 : decode cc_M_remove 177 = .ok (.iconst 1, 1) := by decide +kernel
theorem d_M_remove_178 : decode cc_M_remove 178 = .ok (.isub, 1) := by decide +kernel
theorem d_M_remove_179 : decode cc_M_remove 179 = .ok (.ishl, 1) := by decide +kernel
theorem d_M_remove_180 : decode cc_M_remove 180 = .ok (.iconst (-1), 1) := by decide +kernel
theorem d_M_remove_181 : decode cc_M_remove 181 = .ok (.ixor, 1) := by decide +kernel
theorem d_M_remove_182 : decode cc_M_remove 182 = .ok (.iand, 1) := by decide +kernel
theorem d_M_remove_183 : decode cc_M_remove 183 = .ok (.goto 9, 3) := by decide +kernel
theorem d_M_remove_202 : decode cc_M_remove 202 = .ok (.iload 6, 2) := by decide +kernel
theorem d_M_remove_204 : decode cc_M_remove 204 = .ok (.bipush 7, 2) := by decide +kernel
theorem d_M_remove_206 : decode cc_M_remove 206 = .ok (.if_icmp .ge 62, 3) := by decide +kernel
theorem d_M_remove_268 : decode cc_M_remove 268 = .ok (.iconst 0, 1) := by decide +kernel
theorem d_M_remove_269 : decode cc_M_remove 269 = .ok (.istore 6, 2) := by decide +kernel
theorem d_M_remove_209 : decode cc_M_remove 209 = .ok (.aload_n 0, 1) := by decide +kernel
theorem d_M_remove_210 : decode cc_M_remove 210 = .ok (.getfield 25, 3) := by decide +kernel
theorem d_M_remove_213 : decode cc_M_remove 213 = .ok (.bipush 8, 2) := by decide +kernel
theorem d_M_remove_215 : decode cc_M_remove 215 = .ok (.bipush 8, 2) := by decide +kernel
theorem d_M_remove_217 : decode cc_M_remove 217 = .ok (.iload 4, 2) := by decide +kernel
theorem d_M_remove_219 : decode cc_M_remove 219 = .ok (.imul, 1) := by decide +kernel
theorem d_M_remove_220 : decode cc_M_remove 220 = .ok (.iadd, 1) := by decide +kernel
theorem d_M_remove_221 : decode cc_M_remove 221 = .ok (.iload 6, 2) := by decide +kernel
theorem d_M_remove_223 : decode cc_M_remove 223 = .ok (.iadd, 1) := by decide +kernel
theorem d_M_remove_224 : decode cc_M_remove 224 = .ok (.iaload, 1) := by decide +kernel
theorem d_M_remove_225 : decode cc_M_remove 225 = .ok (.istore 7, 2) := by decide +kernel
theorem d_M_remove_227 : decode cc_M_remove 227 = .ok (.aload_n 0, 1) := by decide +kernel
theorem d_M_remove_228 : decode cc_M_remove 228 = .ok (.getfield 25, 3) := by decide +kernel
theorem d_M_remove_231 : decode cc_M_remove 231 = .ok (.iconst 0, 1) := by decide +kernel
theorem d_M_remove_232 : decode cc_M_remove 232 = .ok (.iload 7, 2) := by decide +kernel
theorem d_M_remove_234 : decode cc_M_remove 234 = .ok (.ifCond .le 21, 3) := by decide +kernel
theorem d_M_remove_255 : decode cc_M_remove 255 = .ok (.aload_n 0, 1) := by decide +kernel
theorem d_M_remove_256 : decode cc_M_remove 256 = .ok (.getfield 25, 3) := by decide +kernel
theorem d_M_remove_259 : decode cc_M_remove 259 = .ok (.iconst 0, 1) := by decide +kernel
theorem d_M_remove_260 : decode cc_M_remove 260 = .ok (.iaload, 1) := by decide +kernel
theorem d_M_remove_261 : decode cc_M_remove 261 = .ok (.iastore, 1) := by decide +kernel
theorem d_M_remove_262 : decode cc_M_remove 262 = .ok (.iinc 6 1, 3) := by decide +kernel
theorem d_M_remove_265 : decode cc_M_remove 265 = .ok (.goto (-63), 3) := by decide +kernel
theorem d_M_remove_237 : decode cc_M_remove 237 = .ok (.aload_n 0, 1) := by decide +kernel
theorem d_M_remove_238 : decode cc_M_remove 238 = .ok (.getfield 25, 3) := by decide +kernel
theorem d_M_remove_241 : decode cc_M_remove 241 = .ok (.iconst 0, 1) := by decide +kernel
theorem d_M_remove_242 : decode cc_M_remove 242 = .ok (.iaload, 1) := by decide +kernel
theorem d_M_remove_243 : decode cc_M_remove 243 = .ok (.iconst 1, 1) := by decide +kernel
theorem d_M_remove_244 : decode cc_M_remove 244 = .ok (.iload 7, 2) := by decide +kernel
theorem d_M_remove_246 : decode cc_M_remove 246 = .ok (.iconst 1, 1) := by decide +kernel
theorem d_M_remove_247 : decode cc_M_remove 247 = .ok (.isub, 1) := by decide +kernel
theorem d_M_remove_248 : decode cc_M_remove 248 = .ok (.ishl, 1) := by decide +kernel
theorem d_M_remove_249 : decode cc_M_remove 249 = .ok (.iconst (-1), 1) := by decide +kernel
theorem d_M_remove_250 : decode cc_M_remove 250 = .ok (.ixor, 1) := by decide +kernel
theorem d_M_remove_251 : decode cc_M_remove 251 = .ok (.iand, 1) := by decide +kernel
theorem d_M_remove_252 : decode cc_M_remove 252 = .ok (.goto 9, 3) := by decide +kernel
theorem d_M_remove_271 : decode cc_M_remove 271 = .ok (.iload 6, 2) := by decide +kernel
theorem d_M_remove_273 : decode cc_M_remove 273 = .ok (.bipush 8, 2) := by decide +kernel
theorem d_M_remove_275 : decode cc_M_remove 275 = .ok (.if_icmp .ge 26, 3) := by decide +kernel
theorem d_M_remove_301 : decode cc_M_remove 301 = .ok (.aload_n 0, 1) := by decide +kernel
theorem d_M_remove_302 : decode cc_M_remove 302 = .ok (.iload_n 3, 1) := by decide +kernel
theorem d_M_remove_303 : decode cc_M_remove 303 = .ok (.iload 4, 2) := by decide +kernel
theorem d_M_remove_305 : decode cc_M_remove 305 = .ok (.invokevirtual 95, 3) := by decide +kernel
theorem d_M_remove_308 : decode cc_M_remove 308 = .ok (.ireturn, 1) := by decide +kernel
theorem d_M_remove_278 : decode cc_M_remove 278 = .ok (.aload_n 0, 1) := by decide +kernel
theorem d_M_remove_279 : decode cc_M_remove 279 = .ok (.getfield 25, 3) := by decide +kernel
theorem d_M_remove_282 : decode cc_M_remove 282 = .ok (.bipush 8, 2) := by decide +kernel
theorem d_M_remove_284 : decode cc_M_remove 284 = .ok (.bipush 8, 2) := by decide +kernel
theorem d_M_remove_286 : decode cc_M_remove 286 = .ok (.iload 4, 2) := by decide +kernel
theorem d_M_remove_288 : decode cc_M_remove 288 = .ok (.imul, 1) := by decide +kernel
theorem d_M_remove_289 : decode cc_M_remove 289 = .ok (.iadd, 1) := by decide +kernel
theorem d_M_remove_290 : decode cc_M_remove 290 = .ok (.iload 6, 2) := by decide +kernel
theorem d_M_remove_292 : decode cc_M_remove 292 = .ok (.iadd, 1) := by decide +kernel
theorem d_M_remove_293 : decode cc_M_remove 293 = .ok (.iconst 0, 1) := by decide +kernel
theorem d_M_remove_294 : decode cc_M_remove 294 = .ok (.iastore, 1) := by decide +kernel
theorem d_M_remove_295 : decode cc_M_remove 295 = .ok (.iinc 6 1, 3) := by decide +kernel
theorem d_M_remove_298 : decode cc_M_remove 298 = .ok (.goto (-27), 3) := by decide +kernel
def f_M_remove_271 (mar : Int32) (mLb : Nat → Int32) (y0 : Int32) (y1 : Int32) (y2 : Int32) (y3 : Int32) (y4 : Nat → Int32) (y5 : Nat → Int32) (y6 : Nat → Int32) (k271 : (Int32 × (Nat → Int32)) → Option (Int32 × Int32 × Int32 × (Nat → Int32) × (Nat → Int32) × (Nat → Int32) × (Nat → Int32))) (a : Int32 × (Nat → Int32)) : Option (Int32 × Int32 × Int32 × (Nat → Int32) × (Nat → Int32) × (Nat → Int32) × (Nat → Int32)) :=
  if (8 : Int32) ≤ a.1 then ((f_M_finish a.2 y0 y1 y3 y4 y5 y6).bind fun x35 => some (x35.1, y2, x35.2.1, x35.2.2.1, x35.2.2.2.1, x35.2.2.2.2, a.2)) else ((jv_sa a.2 232 (((8 : Int32) + ((8 : Int32) * y1)) + a.1) (0 : Int32)).bind fun F37 => k271 (a.1 + (1 : Int32), F37))
set_option maxHeartbeats 4000000 in
set_option maxRecDepth 100000 in
theorem b_M_remove_271 {l : Launch} {dC : Nat → ClassId} {dI : Nat → Nat → Nat} {cI cA cL : ClassId} {q_mo q_mlb_ q_mcl_ q_mus_ q_mwr_ q_mdk_ q_mcp_ : Nat} {mar : Int32} {mLb : Nat → Int32} {mCl : Nat → Int32} {p : Program} {e : Env} {s : State} {m : MethodId} {args : Array Value} {below : List Frame} {meth : Method} {c : Code} (cx : jv_cx p s m args meth c cc_M_remove 8 R_Model (some .int) ws_M_remove) (hK : va_K (dC, dI) vwCl (jv_ty cI cA cL) s) {A : Nat → Prop} (hA : ∀ q : Nat, s.heap.size ≤ q → A q) {r : Int32 × Int32 × Int32 × (Nat → Int32) × (Nat → Int32) × (Nat → Int32) × (Nat → Int32)} {y0 : Int32} {y1 : Int32} {y2 : Int32} {y3 : Int32} {y4 : Nat → Int32} {y5 : Nat → Int32} {y6 : Nat → Int32} {k271 : (Int32 × (Nat → Int32)) → Option (Int32 × Int32 × Int32 × (Nat → Int32) × (Nat → Int32) × (Nat → Int32) × (Nat → Int32))} (hk271 : ∀ (a : Int32 × (Nat → Int32)) (ls : Array Slot) (H : Heap) (locs : List Loc), lv_has ls 8 [(0, .ref q_mo), (3, .int y0), (4, .int y1), (6, .int a.1)] → va_P (dC, dI) vwCl (w_model cI q_mo q_mlb_ q_mcl_ q_mus_ q_mwr_ q_mdk_ q_mcp_ y2 mar y3 mLb mCl y4 y5 y6 a.2) H → va_D A (w_model cI q_mo q_mlb_ q_mcl_ q_mus_ q_mwr_ q_mdk_ q_mcp_ y2 mar y3 mLb mCl y4 y5 y6 a.2) → va_S A s.heap H locs → k271 a = some r → W p l e rm_M_remove s m args below meth c H locs 0 0 (MQ below (jv_Qi r.1 (dC, dI) (w_model cI q_mo q_mlb_ q_mcl_ q_mus_ q_mwr_ q_mdk_ q_mcp_ r.2.1 mar r.2.2.1 mLb mCl r.2.2.2.1 r.2.2.2.2.1 r.2.2.2.2.2.1 r.2.2.2.2.2.2) A) args s 0 0 A) (F0 m 271 ls [])) {a : Int32 × (Nat → Int32)} {ls : Array Slot} (hl : lv_has ls 8 [(0, .ref q_mo), (3, .int y0), (4, .int y1), (6, .int a.1)]) {H : Heap} {locs : List Loc} (hP : va_P (dC, dI) vwCl (w_model cI q_mo q_mlb_ q_mcl_ q_mus_ q_mwr_ q_mdk_ q_mcp_ y2 mar y3 mLb mCl y4 y5 y6 a.2) H) (hD : va_D A (w_model cI q_mo q_mlb_ q_mcl_ q_mus_ q_mwr_ q_mdk_ q_mcp_ y2 mar y3 mLb mCl y4 y5 y6 a.2)) (hS : va_S A s.heap H locs) (hf : f_M_remove_271 mar mLb y0 y1 y2 y3 y4 y5 y6 k271 a = some r) : W p l e rm_M_remove s m args below meth c H locs 0 0 (MQ below (jv_Qi r.1 (dC, dI) (w_model cI q_mo q_mlb_ q_mcl_ q_mus_ q_mwr_ q_mdk_ q_mcp_ r.2.1 mar r.2.2.1 mLb mCl r.2.2.2.1 r.2.2.2.2.1 r.2.2.2.2.2.1 r.2.2.2.2.2.2) A) args s 0 0 A) (F0 m 271 ls []) := by
  unfold f_M_remove_271 at hf
  obtain ⟨hx, hb, hml, hown, hts, hr, hlocks⟩ := id cx
  refine lv_iload hx hb d_M_remove_271 (lv_at hl 3 rfl) ?_
  refine lv_bipush (v := (8 : Int32)) hx hb d_M_remove_273 (by decide) ?_
  refine lv_icmp_ge (tgt := 301) hx hb d_M_remove_275 (by decide) (fun hc => ?_) (fun hc => ?_)
  · have hf := jv_it hf hc
    refine lv_aload_n hx hb d_M_remove_301 rfl (lv_at hl 0 rfl) ?_
    refine lv_iload_n hx hb d_M_remove_302 rfl (lv_at hl 1 rfl) ?_
    refine lv_iload hx hb d_M_remove_303 (lv_at hl 2 rfl) ?_
    obtain ⟨x35, g36, hf⟩ := jv_ob hf
    have hPc := hP.sub (ws' := (w_model cI q_mo q_mlb_ q_mcl_ q_mus_ q_mwr_ q_mdk_ q_mcp_ y2 mar y3 mLb mCl y4 y5 y6 a.2)) [0, 1, 2, 3, 4, 5, 6] rfl
    have hDc := hD.sub (ws' := (w_model cI q_mo q_mlb_ q_mcl_ q_mus_ q_mwr_ q_mdk_ q_mcp_ y2 mar y3 mLb mCl y4 y5 y6 a.2)) [0, 1, 2, 3, 4, 5, 6] (by decide) rfl
    have hFc := va_free (wc := (w_model cI q_mo q_mlb_ q_mcl_ q_mus_ q_mwr_ q_mdk_ q_mcp_ y2 mar y3 mLb mCl y4 y5 y6 a.2)) hD hS hA [0, 1, 2, 3, 4, 5, 6] rfl
    refine jv_cwi (va_runV (As := [.int y0, .int y1]) (rest := []) (b := q_mo) ⟨hx, hb, hml, hown, hts⟩ (c_M_finish l dC dI cI cA cL q_mo q_mlb_ q_mcl_ q_mus_ q_mwr_ q_mdk_ q_mcp_ y2 mar y3 mLb mCl y4 y5 y6 a.2 y0 y1 H.size x35 g36) (jv_cwV hts wa_261 wa_194 wa_262 wa_263 wa_264 rfl rfl yd_M_finish ⟨Nat.le_of_ble_eq_true rfl, Nat.le_of_ble_eq_true rfl⟩) (jv_preVW hK hPc hDc 0 rfl rfl) rfl rfl hl.1 rfl (lv_room (Nat.le_of_ble_eq_true rfl)) d_M_remove_305 ⟨Nat.zero_le _, Nat.zero_le _⟩) hS hFc (fun H1 locs hP1 hD1 hk1 hS => ?_)
    have hP : va_P (dC, dI) vwCl (w_model cI q_mo q_mlb_ q_mcl_ q_mus_ q_mwr_ q_mdk_ q_mcp_ y2 mar x35.2.1 mLb mCl x35.2.2.1 x35.2.2.2.1 x35.2.2.2.2 a.2) H1 := hP1.sub [0, 1, 2, 3, 4, 5, 6] rfl
    have hD : va_D A (w_model cI q_mo q_mlb_ q_mcl_ q_mus_ q_mwr_ q_mdk_ q_mcp_ y2 mar x35.2.1 mLb mCl x35.2.2.1 x35.2.2.2.1 x35.2.2.2.2 a.2) := (hD1.weaken (fun _ q _ h => hFc q.1 h)).sub [0, 1, 2, 3, 4, 5, 6] (by decide) rfl
    generalize H1 = H at hP hS ⊢
    obtain rfl := Option.some.inj hf
    exact W.iret hx hb hr (fun t ht hW => ⟨rfl, by rw [ht]; exact hP, hD, hS.F ht⟩) hS.2.2 d_M_remove_308
  · have hf := jv_if hf hc
    refine lv_aload_n hx hb d_M_remove_278 rfl (lv_at hl 0 rfl) ?_
    refine va_get (D := (dC, dI)) (ci := kModel) (v := .ref q_mcp_) (C := R_Model) (T := T_Model) (N := 9) hx hb hts (fun w h => List.mem_cons_of_mem _ (in_Model w h)) hown hK hP 0 rfl rfl 7 (by decide) (jv_w hts wa_238) (fun _ h9 => h9) rfl d_M_remove_279 ?_
    refine lv_bipush (v := (8 : Int32)) hx hb d_M_remove_282 (by decide) ?_
    refine lv_bipush (v := (8 : Int32)) hx hb d_M_remove_284 (by decide) ?_
    refine lv_iload hx hb d_M_remove_286 (lv_at hl 2 rfl) ?_
    refine lv_imul hx hb d_M_remove_288 ?_
    refine lv_iadd hx hb d_M_remove_289 ?_
    refine lv_iload hx hb d_M_remove_290 (lv_at hl 3 rfl) ?_
    refine lv_iadd hx hb d_M_remove_292 ?_
    refine lv_iconst (v := (0 : Int32)) hx hb d_M_remove_293 (by decide) ?_
    obtain ⟨F37, g38, hf⟩ := jv_ob hf
    refine jv_iast hx hb hK hP hD hS 6 0 rfl rfl g38 d_M_remove_294 (fun H locs hP hD hS => ?_)
    have hP : va_P (dC, dI) vwCl (w_model cI q_mo q_mlb_ q_mcl_ q_mus_ q_mwr_ q_mdk_ q_mcp_ y2 mar y3 mLb mCl y4 y5 y6 F37) H := hP
    have hD : va_D A (w_model cI q_mo q_mlb_ q_mcl_ q_mus_ q_mwr_ q_mdk_ q_mcp_ y2 mar y3 mLb mCl y4 y5 y6 F37) := hD
    refine lv_iinc (k := 3) (v := a.1 + (1 : Int32)) (lv' := [(6, .int (a.1 + (1 : Int32))), (0, .ref q_mo), (3, .int y0), (4, .int y1)]) hx hb d_M_remove_295 hl rfl (jv_inc _) (by decide) rfl (fun ls hl => ?_)
    refine lv_goto (tgt := 271) hx hb d_M_remove_298 (by decide) ?_
    exact hk271 (a.1 + (1 : Int32), F37) _ _ _ (lv_sub hl [1, 2, 3, 0] rfl) hP hD hS hf
set_option maxHeartbeats 4000000 in
set_option maxRecDepth 100000 in
theorem l_M_remove_271 {l : Launch} {dC : Nat → ClassId} {dI : Nat → Nat → Nat} {cI cA cL : ClassId} {q_mo q_mlb_ q_mcl_ q_mus_ q_mwr_ q_mdk_ q_mcp_ : Nat} {mar : Int32} {mLb : Nat → Int32} {mCl : Nat → Int32} {p : Program} {e : Env} {s : State} {m : MethodId} {args : Array Value} {below : List Frame} {meth : Method} {c : Code} (cx : jv_cx p s m args meth c cc_M_remove 8 R_Model (some .int) ws_M_remove) (hK : va_K (dC, dI) vwCl (jv_ty cI cA cL) s) {A : Nat → Prop} (hA : ∀ q : Nat, s.heap.size ≤ q → A q) {r : Int32 × Int32 × Int32 × (Nat → Int32) × (Nat → Int32) × (Nat → Int32) × (Nat → Int32)} {y0 : Int32} {y1 : Int32} {y2 : Int32} {y3 : Int32} {y4 : Nat → Int32} {y5 : Nat → Int32} {y6 : Nat → Int32} : ∀ n : Nat, ∀ (a : Int32 × (Nat → Int32)) (ls : Array Slot) (H : Heap) (locs : List Loc), lv_has ls 8 [(0, .ref q_mo), (3, .int y0), (4, .int y1), (6, .int a.1)] → va_P (dC, dI) vwCl (w_model cI q_mo q_mlb_ q_mcl_ q_mus_ q_mwr_ q_mdk_ q_mcp_ y2 mar y3 mLb mCl y4 y5 y6 a.2) H → va_D A (w_model cI q_mo q_mlb_ q_mcl_ q_mus_ q_mwr_ q_mdk_ q_mcp_ y2 mar y3 mLb mCl y4 y5 y6 a.2) → va_S A s.heap H locs → jv_fx (f_M_remove_271 mar mLb y0 y1 y2 y3 y4 y5 y6) n a = some r → W p l e rm_M_remove s m args below meth c H locs 0 0 (MQ below (jv_Qi r.1 (dC, dI) (w_model cI q_mo q_mlb_ q_mcl_ q_mus_ q_mwr_ q_mdk_ q_mcp_ r.2.1 mar r.2.2.1 mLb mCl r.2.2.2.1 r.2.2.2.2.1 r.2.2.2.2.2.1 r.2.2.2.2.2.2) A) args s 0 0 A) (F0 m 271 ls []) := by
  intro n
  induction n with
  | zero => intro a ls H locs hl hP hD hS hf; exact jv_no hf
  | succ n ih => intro a ls H locs hl hP hD hS hf; exact b_M_remove_271 cx hK hA ih hl hP hD hS hf
def f_M_remove_202 (mar : Int32) (mLb : Nat → Int32) (y0 : Int32) (y1 : Int32) (y2 : Int32) (y3 : Int32) (y4 : Nat → Int32) (y5 : Nat → Int32) (y6 : Nat → Int32) (k202 : (Int32 × (Nat → Int32)) → Option (Int32 × Int32 × Int32 × (Nat → Int32) × (Nat → Int32) × (Nat → Int32) × (Nat → Int32))) (a : Int32 × (Nat → Int32)) : Option (Int32 × Int32 × Int32 × (Nat → Int32) × (Nat → Int32) × (Nat → Int32) × (Nat → Int32)) :=
  if (7 : Int32) ≤ a.1 then (jv_fx (f_M_remove_271 mar mLb y0 y1 y2 y3 y4 y5 y6) 300 ((0 : Int32), a.2)) else ((jv_ga a.2 232 (((8 : Int32) + ((8 : Int32) * y1)) + a.1)).bind fun x25 => if x25 ≤ 0 then ((jv_ga a.2 232 (0 : Int32)).bind fun x27 => (jv_sa a.2 232 (0 : Int32) x27).bind fun F29 => k202 (a.1 + (1 : Int32), F29)) else ((jv_ga a.2 232 (0 : Int32)).bind fun x31 => (jv_sa a.2 232 (0 : Int32) (x31 &&& (((1 : Int32) <<< ((x25 - (1 : Int32)) &&& 31)) ^^^ (-1 : Int32)))).bind fun F33 => k202 (a.1 + (1 : Int32), F33)))
set_option maxHeartbeats 4000000 in
set_option maxRecDepth 100000 in
theorem b_M_remove_202 {l : Launch} {dC : Nat → ClassId} {dI : Nat → Nat → Nat} {cI cA cL : ClassId} {q_mo q_mlb_ q_mcl_ q_mus_ q_mwr_ q_mdk_ q_mcp_ : Nat} {mar : Int32} {mLb : Nat → Int32} {mCl : Nat → Int32} {p : Program} {e : Env} {s : State} {m : MethodId} {args : Array Value} {below : List Frame} {meth : Method} {c : Code} (cx : jv_cx p s m args meth c cc_M_remove 8 R_Model (some .int) ws_M_remove) (hK : va_K (dC, dI) vwCl (jv_ty cI cA cL) s) {A : Nat → Prop} (hA : ∀ q : Nat, s.heap.size ≤ q → A q) {r : Int32 × Int32 × Int32 × (Nat → Int32) × (Nat → Int32) × (Nat → Int32) × (Nat → Int32)} {y0 : Int32} {y1 : Int32} {y2 : Int32} {y3 : Int32} {y4 : Nat → Int32} {y5 : Nat → Int32} {y6 : Nat → Int32} {k202 : (Int32 × (Nat → Int32)) → Option (Int32 × Int32 × Int32 × (Nat → Int32) × (Nat → Int32) × (Nat → Int32) × (Nat → Int32))} (hk202 : ∀ (a : Int32 × (Nat → Int32)) (ls : Array Slot) (H : Heap) (locs : List Loc), lv_has ls 8 [(0, .ref q_mo), (3, .int y0), (4, .int y1), (6, .int a.1)] → va_P (dC, dI) vwCl (w_model cI q_mo q_mlb_ q_mcl_ q_mus_ q_mwr_ q_mdk_ q_mcp_ y2 mar y3 mLb mCl y4 y5 y6 a.2) H → va_D A (w_model cI q_mo q_mlb_ q_mcl_ q_mus_ q_mwr_ q_mdk_ q_mcp_ y2 mar y3 mLb mCl y4 y5 y6 a.2) → va_S A s.heap H locs → k202 a = some r → W p l e rm_M_remove s m args below meth c H locs 0 0 (MQ below (jv_Qi r.1 (dC, dI) (w_model cI q_mo q_mlb_ q_mcl_ q_mus_ q_mwr_ q_mdk_ q_mcp_ r.2.1 mar r.2.2.1 mLb mCl r.2.2.2.1 r.2.2.2.2.1 r.2.2.2.2.2.1 r.2.2.2.2.2.2) A) args s 0 0 A) (F0 m 202 ls [])) {a : Int32 × (Nat → Int32)} {ls : Array Slot} (hl : lv_has ls 8 [(0, .ref q_mo), (3, .int y0), (4, .int y1), (6, .int a.1)]) {H : Heap} {locs : List Loc} (hP : va_P (dC, dI) vwCl (w_model cI q_mo q_mlb_ q_mcl_ q_mus_ q_mwr_ q_mdk_ q_mcp_ y2 mar y3 mLb mCl y4 y5 y6 a.2) H) (hD : va_D A (w_model cI q_mo q_mlb_ q_mcl_ q_mus_ q_mwr_ q_mdk_ q_mcp_ y2 mar y3 mLb mCl y4 y5 y6 a.2)) (hS : va_S A s.heap H locs) (hf : f_M_remove_202 mar mLb y0 y1 y2 y3 y4 y5 y6 k202 a = some r) : W p l e rm_M_remove s m args below meth c H locs 0 0 (MQ below (jv_Qi r.1 (dC, dI) (w_model cI q_mo q_mlb_ q_mcl_ q_mus_ q_mwr_ q_mdk_ q_mcp_ r.2.1 mar r.2.2.1 mLb mCl r.2.2.2.1 r.2.2.2.2.1 r.2.2.2.2.2.1 r.2.2.2.2.2.2) A) args s 0 0 A) (F0 m 202 ls []) := by
  unfold f_M_remove_202 at hf
  obtain ⟨hx, hb, hml, hown, hts, hr, hlocks⟩ := id cx
  refine lv_iload hx hb d_M_remove_202 (lv_at hl 3 rfl) ?_
  refine lv_bipush (v := (7 : Int32)) hx hb d_M_remove_204 (by decide) ?_
  refine lv_icmp_ge (tgt := 268) hx hb d_M_remove_206 (by decide) (fun hc => ?_) (fun hc => ?_)
  · have hf := jv_it hf hc
    refine lv_iconst (v := (0 : Int32)) hx hb d_M_remove_268 (by decide) ?_
    refine lv_istore (lv' := [(6, .int (0 : Int32)), (0, .ref q_mo), (3, .int y0), (4, .int y1)]) hx hb d_M_remove_269 hl (by decide) rfl (fun ls hl => ?_)
    exact l_M_remove_271 (y0 := y0) (y1 := y1) (y2 := y2) (y3 := y3) (y4 := y4) (y5 := y5) (y6 := y6) cx hK hA 300 ((0 : Int32), a.2) _ _ _ (lv_sub hl [1, 2, 3, 0] rfl) hP hD hS hf
  · have hf := jv_if hf hc
    refine lv_aload_n hx hb d_M_remove_209 rfl (lv_at hl 0 rfl) ?_
    refine va_get (D := (dC, dI)) (ci := kModel) (v := .ref q_mcp_) (C := R_Model) (T := T_Model) (N := 9) hx hb hts (fun w h => List.mem_cons_of_mem _ (in_Model w h)) hown hK hP 0 rfl rfl 7 (by decide) (jv_w hts wa_238) (fun _ h9 => h9) rfl d_M_remove_210 ?_
    refine lv_bipush (v := (8 : Int32)) hx hb d_M_remove_213 (by decide) ?_
    refine lv_bipush (v := (8 : Int32)) hx hb d_M_remove_215 (by decide) ?_
    refine lv_iload hx hb d_M_remove_217 (lv_at hl 2 rfl) ?_
    refine lv_imul hx hb d_M_remove_219 ?_
    refine lv_iadd hx hb d_M_remove_220 ?_
    refine lv_iload hx hb d_M_remove_221 (lv_at hl 3 rfl) ?_
    refine lv_iadd hx hb d_M_remove_223 ?_
    obtain ⟨x25, g26, hf⟩ := jv_ob hf
    refine jv_iald hx hb hK hP 6 0 rfl rfl g26 d_M_remove_224 ?_
    refine lv_istore (lv' := [(7, .int x25), (0, .ref q_mo), (3, .int y0), (4, .int y1), (6, .int a.1)]) hx hb d_M_remove_225 hl (by decide) rfl (fun ls hl => ?_)
    refine lv_aload_n hx hb d_M_remove_227 rfl (lv_at hl 1 rfl) ?_
    refine va_get (D := (dC, dI)) (ci := kModel) (v := .ref q_mcp_) (C := R_Model) (T := T_Model) (N := 9) hx hb hts (fun w h => List.mem_cons_of_mem _ (in_Model w h)) hown hK hP 0 rfl rfl 7 (by decide) (jv_w hts wa_238) (fun _ h9 => h9) rfl d_M_remove_228 ?_
    refine lv_iconst (v := (0 : Int32)) hx hb d_M_remove_231 (by decide) ?_
    refine lv_iload hx hb d_M_remove_232 (lv_at hl 0 rfl) ?_
    refine lv_if_le (tgt := 255) hx hb d_M_remove_234 (by decide) (fun hc => ?_) (fun hc => ?_)
    · have hf := jv_it hf hc
      refine lv_aload_n hx hb d_M_remove_255 rfl (lv_at hl 1 rfl) ?_
      refine va_get (D := (dC, dI)) (ci := kModel) (v := .ref q_mcp_) (C := R_Model) (T := T_Model) (N := 9) hx hb hts (fun w h => List.mem_cons_of_mem _ (in_Model w h)) hown hK hP 0 rfl rfl 7 (by decide) (jv_w hts wa_238) (fun _ h9 => h9) rfl d_M_remove_256 ?_
      refine lv_iconst (v := (0 : Int32)) hx hb d_M_remove_259 (by decide) ?_
      obtain ⟨x27, g28, hf⟩ := jv_ob hf
      refine jv_iald hx hb hK hP 6 0 rfl rfl g28 d_M_remove_260 ?_
      obtain ⟨F29, g30, hf⟩ := jv_ob hf
      refine jv_iast hx hb hK hP hD hS 6 0 rfl rfl g30 d_M_remove_261 (fun H locs hP hD hS => ?_)
      have hP : va_P (dC, dI) vwCl (w_model cI q_mo q_mlb_ q_mcl_ q_mus_ q_mwr_ q_mdk_ q_mcp_ y2 mar y3 mLb mCl y4 y5 y6 F29) H := hP
      have hD : va_D A (w_model cI q_mo q_mlb_ q_mcl_ q_mus_ q_mwr_ q_mdk_ q_mcp_ y2 mar y3 mLb mCl y4 y5 y6 F29) := hD
      refine lv_iinc (k := 4) (v := a.1 + (1 : Int32)) (lv' := [(6, .int (a.1 + (1 : Int32))), (7, .int x25), (0, .ref q_mo), (3, .int y0), (4, .int y1)]) hx hb d_M_remove_262 hl rfl (jv_inc _) (by decide) rfl (fun ls hl => ?_)
      refine lv_goto (tgt := 202) hx hb d_M_remove_265 (by decide) ?_
      exact hk202 (a.1 + (1 : Int32), F29) _ _ _ (lv_sub hl [2, 3, 4, 0] rfl) hP hD hS hf
    · have hf := jv_if hf hc
      refine lv_aload_n hx hb d_M_remove_237 rfl (lv_at hl 1 rfl) ?_
      refine va_get (D := (dC, dI)) (ci := kModel) (v := .ref q_mcp_) (C := R_Model) (T := T_Model) (N := 9) hx hb hts (fun w h => List.mem_cons_of_mem _ (in_Model w h)) hown hK hP 0 rfl rfl 7 (by decide) (jv_w hts wa_238) (fun _ h9 => h9) rfl d_M_remove_238 ?_
      refine lv_iconst (v := (0 : Int32)) hx hb d_M_remove_241 (by decide) ?_
      obtain ⟨x31, g32, hf⟩ := jv_ob hf
      refine jv_iald hx hb hK hP 6 0 rfl rfl g32 d_M_remove_242 ?_
      refine lv_iconst (v := (1 : Int32)) hx hb d_M_remove_243 (by decide) ?_
      refine lv_iload hx hb d_M_remove_244 (lv_at hl 0 rfl) ?_
      refine lv_iconst (v := (1 : Int32)) hx hb d_M_remove_246 (by decide) ?_
      refine lv_isub hx hb d_M_remove_247 ?_
      refine lv_ishl hx hb d_M_remove_248 ?_
      refine lv_iconst (v := (-1 : Int32)) hx hb d_M_remove_249 (by decide) ?_
      refine lv_ixor hx hb d_M_remove_250 ?_
      refine lv_iand hx hb d_M_remove_251 ?_
      refine lv_goto (tgt := 261) hx hb d_M_remove_252 (by decide) ?_
      obtain ⟨F33, g34, hf⟩ := jv_ob hf
      refine jv_iast hx hb hK hP hD hS 6 0 rfl rfl g34 d_M_remove_261 (fun H locs hP hD hS => ?_)
      have hP : va_P (dC, dI) vwCl (w_model cI q_mo q_mlb_ q_mcl_ q_mus_ q_mwr_ q_mdk_ q_mcp_ y2 mar y3 mLb mCl y4 y5 y6 F33) H := hP
      have hD : va_D A (w_model cI q_mo q_mlb_ q_mcl_ q_mus_ q_mwr_ q_mdk_ q_mcp_ y2 mar y3 mLb mCl y4 y5 y6 F33) := hD
      refine lv_iinc (k := 4) (v := a.1 + (1 : Int32)) (lv' := [(6, .int (a.1 + (1 : Int32))), (7, .int x25), (0, .ref q_mo), (3, .int y0), (4, .int y1)]) hx hb d_M_remove_262 hl rfl (jv_inc _) (by decide) rfl (fun ls hl => ?_)
      refine lv_goto (tgt := 202) hx hb d_M_remove_265 (by decide) ?_
      exact hk202 (a.1 + (1 : Int32), F33) _ _ _ (lv_sub hl [2, 3, 4, 0] rfl) hP hD hS hf
set_option maxHeartbeats 4000000 in
set_option maxRecDepth 100000 in
theorem l_M_remove_202 {l : Launch} {dC : Nat → ClassId} {dI : Nat → Nat → Nat} {cI cA cL : ClassId} {q_mo q_mlb_ q_mcl_ q_mus_ q_mwr_ q_mdk_ q_mcp_ : Nat} {mar : Int32} {mLb : Nat → Int32} {mCl : Nat → Int32} {p : Program} {e : Env} {s : State} {m : MethodId} {args : Array Value} {below : List Frame} {meth : Method} {c : Code} (cx : jv_cx p s m args meth c cc_M_remove 8 R_Model (some .int) ws_M_remove) (hK : va_K (dC, dI) vwCl (jv_ty cI cA cL) s) {A : Nat → Prop} (hA : ∀ q : Nat, s.heap.size ≤ q → A q) {r : Int32 × Int32 × Int32 × (Nat → Int32) × (Nat → Int32) × (Nat → Int32) × (Nat → Int32)} {y0 : Int32} {y1 : Int32} {y2 : Int32} {y3 : Int32} {y4 : Nat → Int32} {y5 : Nat → Int32} {y6 : Nat → Int32} : ∀ n : Nat, ∀ (a : Int32 × (Nat → Int32)) (ls : Array Slot) (H : Heap) (locs : List Loc), lv_has ls 8 [(0, .ref q_mo), (3, .int y0), (4, .int y1), (6, .int a.1)] → va_P (dC, dI) vwCl (w_model cI q_mo q_mlb_ q_mcl_ q_mus_ q_mwr_ q_mdk_ q_mcp_ y2 mar y3 mLb mCl y4 y5 y6 a.2) H → va_D A (w_model cI q_mo q_mlb_ q_mcl_ q_mus_ q_mwr_ q_mdk_ q_mcp_ y2 mar y3 mLb mCl y4 y5 y6 a.2) → va_S A s.heap H locs → jv_fx (f_M_remove_202 mar mLb y0 y1 y2 y3 y4 y5 y6) n a = some r → W p l e rm_M_remove s m args below meth c H locs 0 0 (MQ below (jv_Qi r.1 (dC, dI) (w_model cI q_mo q_mlb_ q_mcl_ q_mus_ q_mwr_ q_mdk_ q_mcp_ r.2.1 mar r.2.2.1 mLb mCl r.2.2.2.1 r.2.2.2.2.1 r.2.2.2.2.2.1 r.2.2.2.2.2.2) A) args s 0 0 A) (F0 m 202 ls []) := by
  intro n
  induction n with
  | zero => intro a ls H locs hl hP hD hS hf; exact jv_no hf
  | succ n ih => intro a ls H locs hl hP hD hS hf; exact b_M_remove_202 cx hK hA ih hl hP hD hS hf
def f_M_remove_128 (mar : Int32) (mLb : Nat → Int32) (y0 : Int32) (y1 : Int32) (y2 : Int32) (y3 : Int32) (y4 : Int32) (y5 : Nat → Int32) (y6 : Nat → Int32) (y7 : Nat → Int32) (k128 : (Int32 × (Nat → Int32)) → Option (Int32 × Int32 × Int32 × (Nat → Int32) × (Nat → Int32) × (Nat → Int32) × (Nat → Int32))) (a : Int32 × (Nat → Int32)) : Option (Int32 × Int32 × Int32 × (Nat → Int32) × (Nat → Int32) × (Nat → Int32) × (Nat → Int32)) :=
  if (8 : Int32) ≤ a.1 then (jv_fx (f_M_remove_202 mar mLb y0 y1 y3 y4 y5 y6 y7) 300 ((4 : Int32), a.2)) else (if y2 ≤ 0 then (jv_fx (f_M_remove_202 mar mLb y0 y1 y3 y4 y5 y6 y7) 300 ((4 : Int32), a.2)) else ((jv_ga a.2 232 (((64 : Int32) + ((8 : Int32) * y2)) + a.1)).bind fun x15 => if x15 ≤ 0 then ((jv_ga a.2 232 (0 : Int32)).bind fun x17 => (jv_sa a.2 232 (0 : Int32) x17).bind fun F19 => k128 (a.1 + (1 : Int32), F19)) else ((jv_ga a.2 232 (0 : Int32)).bind fun x21 => (jv_sa a.2 232 (0 : Int32) (x21 &&& (((1 : Int32) <<< ((x15 - (1 : Int32)) &&& 31)) ^^^ (-1 : Int32)))).bind fun F23 => k128 (a.1 + (1 : Int32), F23))))
set_option maxHeartbeats 4000000 in
set_option maxRecDepth 100000 in
theorem b_M_remove_128 {l : Launch} {dC : Nat → ClassId} {dI : Nat → Nat → Nat} {cI cA cL : ClassId} {q_mo q_mlb_ q_mcl_ q_mus_ q_mwr_ q_mdk_ q_mcp_ : Nat} {mar : Int32} {mLb : Nat → Int32} {mCl : Nat → Int32} {p : Program} {e : Env} {s : State} {m : MethodId} {args : Array Value} {below : List Frame} {meth : Method} {c : Code} (cx : jv_cx p s m args meth c cc_M_remove 8 R_Model (some .int) ws_M_remove) (hK : va_K (dC, dI) vwCl (jv_ty cI cA cL) s) {A : Nat → Prop} (hA : ∀ q : Nat, s.heap.size ≤ q → A q) {r : Int32 × Int32 × Int32 × (Nat → Int32) × (Nat → Int32) × (Nat → Int32) × (Nat → Int32)} {y0 : Int32} {y1 : Int32} {y2 : Int32} {y3 : Int32} {y4 : Int32} {y5 : Nat → Int32} {y6 : Nat → Int32} {y7 : Nat → Int32} {k128 : (Int32 × (Nat → Int32)) → Option (Int32 × Int32 × Int32 × (Nat → Int32) × (Nat → Int32) × (Nat → Int32) × (Nat → Int32))} (hk128 : ∀ (a : Int32 × (Nat → Int32)) (ls : Array Slot) (H : Heap) (locs : List Loc), lv_has ls 8 [(0, .ref q_mo), (3, .int y0), (4, .int y1), (5, .int y2), (6, .int a.1)] → va_P (dC, dI) vwCl (w_model cI q_mo q_mlb_ q_mcl_ q_mus_ q_mwr_ q_mdk_ q_mcp_ y3 mar y4 mLb mCl y5 y6 y7 a.2) H → va_D A (w_model cI q_mo q_mlb_ q_mcl_ q_mus_ q_mwr_ q_mdk_ q_mcp_ y3 mar y4 mLb mCl y5 y6 y7 a.2) → va_S A s.heap H locs → k128 a = some r → W p l e rm_M_remove s m args below meth c H locs 0 0 (MQ below (jv_Qi r.1 (dC, dI) (w_model cI q_mo q_mlb_ q_mcl_ q_mus_ q_mwr_ q_mdk_ q_mcp_ r.2.1 mar r.2.2.1 mLb mCl r.2.2.2.1 r.2.2.2.2.1 r.2.2.2.2.2.1 r.2.2.2.2.2.2) A) args s 0 0 A) (F0 m 128 ls [])) {a : Int32 × (Nat → Int32)} {ls : Array Slot} (hl : lv_has ls 8 [(0, .ref q_mo), (3, .int y0), (4, .int y1), (5, .int y2), (6, .int a.1)]) {H : Heap} {locs : List Loc} (hP : va_P (dC, dI) vwCl (w_model cI q_mo q_mlb_ q_mcl_ q_mus_ q_mwr_ q_mdk_ q_mcp_ y3 mar y4 mLb mCl y5 y6 y7 a.2) H) (hD : va_D A (w_model cI q_mo q_mlb_ q_mcl_ q_mus_ q_mwr_ q_mdk_ q_mcp_ y3 mar y4 mLb mCl y5 y6 y7 a.2)) (hS : va_S A s.heap H locs) (hf : f_M_remove_128 mar mLb y0 y1 y2 y3 y4 y5 y6 y7 k128 a = some r) : W p l e rm_M_remove s m args below meth c H locs 0 0 (MQ below (jv_Qi r.1 (dC, dI) (w_model cI q_mo q_mlb_ q_mcl_ q_mus_ q_mwr_ q_mdk_ q_mcp_ r.2.1 mar r.2.2.1 mLb mCl r.2.2.2.1 r.2.2.2.2.1 r.2.2.2.2.2.1 r.2.2.2.2.2.2) A) args s 0 0 A) (F0 m 128 ls []) := by
  unfold f_M_remove_128 at hf
  obtain ⟨hx, hb, hml, hown, hts, hr, hlocks⟩ := id cx
  refine lv_iload hx hb d_M_remove_128 (lv_at hl 4 rfl) ?_
  refine lv_bipush (v := (8 : Int32)) hx hb d_M_remove_130 (by decide) ?_
  refine lv_icmp_ge (tgt := 199) hx hb d_M_remove_132 (by decide) (fun hc => ?_) (fun hc => ?_)
  · have hf := jv_it hf hc
    refine lv_iconst (v := (4 : Int32)) hx hb d_M_remove_199 (by decide) ?_
    refine lv_istore (lv' := [(6, .int (4 : Int32)), (0, .ref q_mo), (3, .int y0), (4, .int y1), (5, .int y2)]) hx hb d_M_remove_200 hl (by decide) rfl (fun ls hl => ?_)
    exact l_M_remove_202 (y0 := y0) (y1 := y1) (y2 := y3) (y3 := y4) (y4 := y5) (y5 := y6) (y6 := y7) cx hK hA 300 ((4 : Int32), a.2) _ _ _ (lv_sub hl [1, 2, 3, 0] rfl) hP hD hS hf
  · have hf := jv_if hf hc
    refine lv_iload hx hb d_M_remove_135 (lv_at hl 3 rfl) ?_
    refine lv_if_le (tgt := 199) hx hb d_M_remove_137 (by decide) (fun hc => ?_) (fun hc => ?_)
    · have hf := jv_it hf hc
      refine lv_iconst (v := (4 : Int32)) hx hb d_M_remove_199 (by decide) ?_
      refine lv_istore (lv' := [(6, .int (4 : Int32)), (0, .ref q_mo), (3, .int y0), (4, .int y1), (5, .int y2)]) hx hb d_M_remove_200 hl (by decide) rfl (fun ls hl => ?_)
      exact l_M_remove_202 (y0 := y0) (y1 := y1) (y2 := y3) (y3 := y4) (y4 := y5) (y5 := y6) (y6 := y7) cx hK hA 300 ((4 : Int32), a.2) _ _ _ (lv_sub hl [1, 2, 3, 0] rfl) hP hD hS hf
    · have hf := jv_if hf hc
      refine lv_aload_n hx hb d_M_remove_140 rfl (lv_at hl 0 rfl) ?_
      refine va_get (D := (dC, dI)) (ci := kModel) (v := .ref q_mcp_) (C := R_Model) (T := T_Model) (N := 9) hx hb hts (fun w h => List.mem_cons_of_mem _ (in_Model w h)) hown hK hP 0 rfl rfl 7 (by decide) (jv_w hts wa_238) (fun _ h9 => h9) rfl d_M_remove_141 ?_
      refine lv_bipush (v := (64 : Int32)) hx hb d_M_remove_144 (by decide) ?_
      refine lv_bipush (v := (8 : Int32)) hx hb d_M_remove_146 (by decide) ?_
      refine lv_iload hx hb d_M_remove_148 (lv_at hl 3 rfl) ?_
      refine lv_imul hx hb d_M_remove_150 ?_
      refine lv_iadd hx hb d_M_remove_151 ?_
      refine lv_iload hx hb d_M_remove_152 (lv_at hl 4 rfl) ?_
      refine lv_iadd hx hb d_M_remove_154 ?_
      obtain ⟨x15, g16, hf⟩ := jv_ob hf
      refine jv_iald hx hb hK hP 6 0 rfl rfl g16 d_M_remove_155 ?_
      refine lv_istore (lv' := [(7, .int x15), (0, .ref q_mo), (3, .int y0), (4, .int y1), (5, .int y2), (6, .int a.1)]) hx hb d_M_remove_156 hl (by decide) rfl (fun ls hl => ?_)
      refine lv_aload_n hx hb d_M_remove_158 rfl (lv_at hl 1 rfl) ?_
      refine va_get (D := (dC, dI)) (ci := kModel) (v := .ref q_mcp_) (C := R_Model) (T := T_Model) (N := 9) hx hb hts (fun w h => List.mem_cons_of_mem _ (in_Model w h)) hown hK hP 0 rfl rfl 7 (by decide) (jv_w hts wa_238) (fun _ h9 => h9) rfl d_M_remove_159 ?_
      refine lv_iconst (v := (0 : Int32)) hx hb d_M_remove_162 (by decide) ?_
      refine lv_iload hx hb d_M_remove_163 (lv_at hl 0 rfl) ?_
      refine lv_if_le (tgt := 186) hx hb d_M_remove_165 (by decide) (fun hc => ?_) (fun hc => ?_)
      · have hf := jv_it hf hc
        refine lv_aload_n hx hb d_M_remove_186 rfl (lv_at hl 1 rfl) ?_
        refine va_get (D := (dC, dI)) (ci := kModel) (v := .ref q_mcp_) (C := R_Model) (T := T_Model) (N := 9) hx hb hts (fun w h => List.mem_cons_of_mem _ (in_Model w h)) hown hK hP 0 rfl rfl 7 (by decide) (jv_w hts wa_238) (fun _ h9 => h9) rfl d_M_remove_187 ?_
        refine lv_iconst (v := (0 : Int32)) hx hb d_M_remove_190 (by decide) ?_
        obtain ⟨x17, g18, hf⟩ := jv_ob hf
        refine jv_iald hx hb hK hP 6 0 rfl rfl g18 d_M_remove_191 ?_
        obtain ⟨F19, g20, hf⟩ := jv_ob hf
        refine jv_iast hx hb hK hP hD hS 6 0 rfl rfl g20 d_M_remove_192 (fun H locs hP hD hS => ?_)
        have hP : va_P (dC, dI) vwCl (w_model cI q_mo q_mlb_ q_mcl_ q_mus_ q_mwr_ q_mdk_ q_mcp_ y3 mar y4 mLb mCl y5 y6 y7 F19) H := hP
        have hD : va_D A (w_model cI q_mo q_mlb_ q_mcl_ q_mus_ q_mwr_ q_mdk_ q_mcp_ y3 mar y4 mLb mCl y5 y6 y7 F19) := hD
        refine lv_iinc (k := 5) (v := a.1 + (1 : Int32)) (lv' := [(6, .int (a.1 + (1 : Int32))), (7, .int x15), (0, .ref q_mo), (3, .int y0), (4, .int y1), (5, .int y2)]) hx hb d_M_remove_193 hl rfl (jv_inc _) (by decide) rfl (fun ls hl => ?_)
        refine lv_goto (tgt := 128) hx hb d_M_remove_196 (by decide) ?_
        exact hk128 (a.1 + (1 : Int32), F19) _ _ _ (lv_sub hl [2, 3, 4, 5, 0] rfl) hP hD hS hf
      · have hf := jv_if hf hc
        refine lv_aload_n hx hb d_M_remove_168 rfl (lv_at hl 1 rfl) ?_
        refine va_get (D := (dC, dI)) (ci := kModel) (v := .ref q_mcp_) (C := R_Model) (T := T_Model) (N := 9) hx hb hts (fun w h => List.mem_cons_of_mem _ (in_Model w h)) hown hK hP 0 rfl rfl 7 (by decide) (jv_w hts wa_238) (fun _ h9 => h9) rfl d_M_remove_169 ?_
        refine lv_iconst (v := (0 : Int32)) hx hb d_M_remove_172 (by decide) ?_
        obtain ⟨x21, g22, hf⟩ := jv_ob hf
        refine jv_iald hx hb hK hP 6 0 rfl rfl g22 d_M_remove_173 ?_
        refine lv_iconst (v := (1 : Int32)) hx hb d_M_remove_174 (by decide) ?_
        refine lv_iload hx hb d_M_remove_175 (lv_at hl 0 rfl) ?_
        refine lv_iconst (v := (1 : Int32)) hx hb d_M_remove_177 (by decide) ?_
        refine lv_isub hx hb d_M_remove_178 ?_
        refine lv_ishl hx hb d_M_remove_179 ?_
        refine lv_iconst (v := (-1 : Int32)) hx hb d_M_remove_180 (by decide) ?_
        refine lv_ixor hx hb d_M_remove_181 ?_
        refine lv_iand hx hb d_M_remove_182 ?_
        refine lv_goto (tgt := 192) hx hb d_M_remove_183 (by decide) ?_
        obtain ⟨F23, g24, hf⟩ := jv_ob hf
        refine jv_iast hx hb hK hP hD hS 6 0 rfl rfl g24 d_M_remove_192 (fun H locs hP hD hS => ?_)
        have hP : va_P (dC, dI) vwCl (w_model cI q_mo q_mlb_ q_mcl_ q_mus_ q_mwr_ q_mdk_ q_mcp_ y3 mar y4 mLb mCl y5 y6 y7 F23) H := hP
        have hD : va_D A (w_model cI q_mo q_mlb_ q_mcl_ q_mus_ q_mwr_ q_mdk_ q_mcp_ y3 mar y4 mLb mCl y5 y6 y7 F23) := hD
        refine lv_iinc (k := 5) (v := a.1 + (1 : Int32)) (lv' := [(6, .int (a.1 + (1 : Int32))), (7, .int x15), (0, .ref q_mo), (3, .int y0), (4, .int y1), (5, .int y2)]) hx hb d_M_remove_193 hl rfl (jv_inc _) (by decide) rfl (fun ls hl => ?_)
        refine lv_goto (tgt := 128) hx hb d_M_remove_196 (by decide) ?_
        exact hk128 (a.1 + (1 : Int32), F23) _ _ _ (lv_sub hl [2, 3, 4, 5, 0] rfl) hP hD hS hf
set_option maxHeartbeats 4000000 in
set_option maxRecDepth 100000 in
theorem l_M_remove_128 {l : Launch} {dC : Nat → ClassId} {dI : Nat → Nat → Nat} {cI cA cL : ClassId} {q_mo q_mlb_ q_mcl_ q_mus_ q_mwr_ q_mdk_ q_mcp_ : Nat} {mar : Int32} {mLb : Nat → Int32} {mCl : Nat → Int32} {p : Program} {e : Env} {s : State} {m : MethodId} {args : Array Value} {below : List Frame} {meth : Method} {c : Code} (cx : jv_cx p s m args meth c cc_M_remove 8 R_Model (some .int) ws_M_remove) (hK : va_K (dC, dI) vwCl (jv_ty cI cA cL) s) {A : Nat → Prop} (hA : ∀ q : Nat, s.heap.size ≤ q → A q) {r : Int32 × Int32 × Int32 × (Nat → Int32) × (Nat → Int32) × (Nat → Int32) × (Nat → Int32)} {y0 : Int32} {y1 : Int32} {y2 : Int32} {y3 : Int32} {y4 : Int32} {y5 : Nat → Int32} {y6 : Nat → Int32} {y7 : Nat → Int32} : ∀ n : Nat, ∀ (a : Int32 × (Nat → Int32)) (ls : Array Slot) (H : Heap) (locs : List Loc), lv_has ls 8 [(0, .ref q_mo), (3, .int y0), (4, .int y1), (5, .int y2), (6, .int a.1)] → va_P (dC, dI) vwCl (w_model cI q_mo q_mlb_ q_mcl_ q_mus_ q_mwr_ q_mdk_ q_mcp_ y3 mar y4 mLb mCl y5 y6 y7 a.2) H → va_D A (w_model cI q_mo q_mlb_ q_mcl_ q_mus_ q_mwr_ q_mdk_ q_mcp_ y3 mar y4 mLb mCl y5 y6 y7 a.2) → va_S A s.heap H locs → jv_fx (f_M_remove_128 mar mLb y0 y1 y2 y3 y4 y5 y6 y7) n a = some r → W p l e rm_M_remove s m args below meth c H locs 0 0 (MQ below (jv_Qi r.1 (dC, dI) (w_model cI q_mo q_mlb_ q_mcl_ q_mus_ q_mwr_ q_mdk_ q_mcp_ r.2.1 mar r.2.2.1 mLb mCl r.2.2.2.1 r.2.2.2.2.1 r.2.2.2.2.2.1 r.2.2.2.2.2.2) A) args s 0 0 A) (F0 m 128 ls []) := by
  intro n
  induction n with
  | zero => intro a ls H locs hl hP hD hS hf; exact jv_no hf
  | succ n ih => intro a ls H locs hl hP hD hS hf; exact b_M_remove_128 cx hK hA ih hl hP hD hS hf
def f_M_remove_90 (mar : Int32) (mLb : Nat → Int32) (y0 : Int32) (y1 : Int32) (y2 : Int32) (y3 : Int32) (y4 : Int32) (y5 : Nat → Int32) (y6 : Nat → Int32) (y7 : Nat → Int32) (y8 : Nat → Int32) : Option (Int32 × Int32 × Int32 × (Nat → Int32) × (Nat → Int32) × (Nat → Int32) × (Nat → Int32)) :=
  if y2 ≤ 0 then ((f_M_start y7 y0 y8).bind fun x11 => (jv_ga x11 232 (((8 : Int32) + ((8 : Int32) * y1)) + (6 : Int32))).bind fun x13 => jv_fx (f_M_remove_128 mar mLb y0 y1 x13 y2 y4 y5 y6 y7) 300 ((0 : Int32), x11)) else (some ((0 : Int32), y2, y4, y5, y6, y7, y8))
set_option maxHeartbeats 4000000 in
set_option maxRecDepth 100000 in
theorem b_M_remove_90 {l : Launch} {dC : Nat → ClassId} {dI : Nat → Nat → Nat} {cI cA cL : ClassId} {q_mo q_mlb_ q_mcl_ q_mus_ q_mwr_ q_mdk_ q_mcp_ : Nat} {mar : Int32} {mLb : Nat → Int32} {mCl : Nat → Int32} {p : Program} {e : Env} {s : State} {m : MethodId} {args : Array Value} {below : List Frame} {meth : Method} {c : Code} (cx : jv_cx p s m args meth c cc_M_remove 8 R_Model (some .int) ws_M_remove) (hK : va_K (dC, dI) vwCl (jv_ty cI cA cL) s) {A : Nat → Prop} (hA : ∀ q : Nat, s.heap.size ≤ q → A q) {r : Int32 × Int32 × Int32 × (Nat → Int32) × (Nat → Int32) × (Nat → Int32) × (Nat → Int32)} {y0 : Int32} {y1 : Int32} {y2 : Int32} {y3 : Int32} {y4 : Int32} {y5 : Nat → Int32} {y6 : Nat → Int32} {y7 : Nat → Int32} {y8 : Nat → Int32} {ls : Array Slot} (hl : lv_has ls 8 [(0, .ref q_mo), (3, .int y0), (4, .int y1)]) {H : Heap} {locs : List Loc} (hP : va_P (dC, dI) vwCl (w_model cI q_mo q_mlb_ q_mcl_ q_mus_ q_mwr_ q_mdk_ q_mcp_ y3 mar y4 mLb mCl y5 y6 y7 y8) H) (hD : va_D A (w_model cI q_mo q_mlb_ q_mcl_ q_mus_ q_mwr_ q_mdk_ q_mcp_ y3 mar y4 mLb mCl y5 y6 y7 y8)) (hS : va_S A s.heap H locs) (hf : f_M_remove_90 mar mLb y0 y1 y2 y3 y4 y5 y6 y7 y8 = some r) : W p l e rm_M_remove s m args below meth c H locs 0 0 (MQ below (jv_Qi r.1 (dC, dI) (w_model cI q_mo q_mlb_ q_mcl_ q_mus_ q_mwr_ q_mdk_ q_mcp_ r.2.1 mar r.2.2.1 mLb mCl r.2.2.2.1 r.2.2.2.2.1 r.2.2.2.2.2.1 r.2.2.2.2.2.2) A) args s 0 0 A) (F0 m 90 ls [.int y2, .ref q_mo]) := by
  unfold f_M_remove_90 at hf
  obtain ⟨hx, hb, hml, hown, hts, hr, hlocks⟩ := id cx
  refine va_put (D := (dC, dI)) (ci := kModel) (v := .int y2) (ty := .int) (C := R_Model) (T := T_Model) (N := 9) hx hb hts (fun w h => List.mem_cons_of_mem _ (in_Model w h)) ty_Model tyok_Model nm_Model hown hK hP hD hS 0 rfl rfl 0 (by decide) (jv_w hts wa_200) (fun _ h9 => h9) rfl (by decide +kernel) rfl rfl (Nat.le_of_ble_eq_true rfl) d_M_remove_90 (fun H locs hP hD hS => ?_)
  have hP : va_P (dC, dI) vwCl (w_model cI q_mo q_mlb_ q_mcl_ q_mus_ q_mwr_ q_mdk_ q_mcp_ y2 mar y4 mLb mCl y5 y6 y7 y8) H := hP
  have hD : va_D A (w_model cI q_mo q_mlb_ q_mcl_ q_mus_ q_mwr_ q_mdk_ q_mcp_ y2 mar y4 mLb mCl y5 y6 y7 y8) := hD
  refine lv_aload_n hx hb d_M_remove_93 rfl (lv_at hl 0 rfl) ?_
  refine va_get (D := (dC, dI)) (ci := kModel) (v := .int y2) (C := R_Model) (T := T_Model) (N := 9) hx hb hts (fun w h => List.mem_cons_of_mem _ (in_Model w h)) hown hK hP 0 rfl rfl 0 (by decide) (jv_w hts wa_200) (fun _ h9 => h9) rfl d_M_remove_94 ?_
  refine lv_if_le (tgt := 102) hx hb d_M_remove_97 (by decide) (fun hc => ?_) (fun hc => ?_)
  · have hf := jv_it hf hc
    refine lv_aload_n hx hb d_M_remove_102 rfl (lv_at hl 0 rfl) ?_
    refine lv_iload_n hx hb d_M_remove_103 rfl (lv_at hl 1 rfl) ?_
    obtain ⟨x11, g12, hf⟩ := jv_ob hf
    have hPc := hP.sub (ws' := (w_model cI q_mo q_mlb_ q_mcl_ q_mus_ q_mwr_ q_mdk_ q_mcp_ y2 mar y4 mLb mCl y5 y6 y7 y8)) [0, 1, 2, 3, 4, 5, 6] rfl
    have hDc := hD.sub (ws' := (w_model cI q_mo q_mlb_ q_mcl_ q_mus_ q_mwr_ q_mdk_ q_mcp_ y2 mar y4 mLb mCl y5 y6 y7 y8)) [0, 1, 2, 3, 4, 5, 6] (by decide) rfl
    have hFc := va_free (wc := (w_model cI q_mo q_mlb_ q_mcl_ q_mus_ q_mwr_ q_mdk_ q_mcp_ y2 mar y4 mLb mCl y5 y6 y7 y8)) hD hS hA [0, 1, 2, 3, 4, 5, 6] rfl
    refine jv_cwv (va_runV (As := [.int y0]) (rest := []) (b := q_mo) ⟨hx, hb, hml, hown, hts⟩ (c_M_start l dC dI cI cA cL q_mo q_mlb_ q_mcl_ q_mus_ q_mwr_ q_mdk_ q_mcp_ y2 mar y4 mLb mCl y5 y6 y7 y8 y0 H.size x11 g12) (jv_cwV hts wa_257 wa_194 wa_258 wa_259 wa_260 rfl rfl yd_M_start ⟨Nat.le_of_ble_eq_true rfl, Nat.le_of_ble_eq_true rfl⟩) (jv_preVW hK hPc hDc 0 rfl rfl) rfl rfl hl.1 rfl (lv_room (Nat.le_of_ble_eq_true rfl)) d_M_remove_104 ⟨Nat.zero_le _, Nat.zero_le _⟩) hS hFc (fun H1 locs hP1 hD1 hk1 hS => ?_)
    have hP : va_P (dC, dI) vwCl (w_model cI q_mo q_mlb_ q_mcl_ q_mus_ q_mwr_ q_mdk_ q_mcp_ y2 mar y4 mLb mCl y5 y6 y7 x11) H1 := hP1.sub [0, 1, 2, 3, 4, 5, 6] rfl
    have hD : va_D A (w_model cI q_mo q_mlb_ q_mcl_ q_mus_ q_mwr_ q_mdk_ q_mcp_ y2 mar y4 mLb mCl y5 y6 y7 x11) := (hD1.weaken (fun _ q _ h => hFc q.1 h)).sub [0, 1, 2, 3, 4, 5, 6] (by decide) rfl
    generalize H1 = H at hP hS ⊢
    refine lv_aload_n hx hb d_M_remove_107 rfl (lv_at hl 0 rfl) ?_
    refine va_get (D := (dC, dI)) (ci := kModel) (v := .ref q_mcp_) (C := R_Model) (T := T_Model) (N := 9) hx hb hts (fun w h => List.mem_cons_of_mem _ (in_Model w h)) hown hK hP 0 rfl rfl 7 (by decide) (jv_w hts wa_238) (fun _ h9 => h9) rfl d_M_remove_108 ?_
    refine lv_bipush (v := (8 : Int32)) hx hb d_M_remove_111 (by decide) ?_
    refine lv_bipush (v := (8 : Int32)) hx hb d_M_remove_113 (by decide) ?_
    refine lv_iload hx hb d_M_remove_115 (lv_at hl 2 rfl) ?_
    refine lv_imul hx hb d_M_remove_117 ?_
    refine lv_iadd hx hb d_M_remove_118 ?_
    refine lv_bipush (v := (6 : Int32)) hx hb d_M_remove_119 (by decide) ?_
    refine lv_iadd hx hb d_M_remove_121 ?_
    obtain ⟨x13, g14, hf⟩ := jv_ob hf
    refine jv_iald hx hb hK hP 6 0 rfl rfl g14 d_M_remove_122 ?_
    refine lv_istore (lv' := [(5, .int x13), (0, .ref q_mo), (3, .int y0), (4, .int y1)]) hx hb d_M_remove_123 hl (by decide) rfl (fun ls hl => ?_)
    refine lv_iconst (v := (0 : Int32)) hx hb d_M_remove_125 (by decide) ?_
    refine lv_istore (lv' := [(6, .int (0 : Int32)), (5, .int x13), (0, .ref q_mo), (3, .int y0), (4, .int y1)]) hx hb d_M_remove_126 hl (by decide) rfl (fun ls hl => ?_)
    exact l_M_remove_128 (y0 := y0) (y1 := y1) (y2 := x13) (y3 := y2) (y4 := y4) (y5 := y5) (y6 := y6) (y7 := y7) cx hK hA 300 ((0 : Int32), x11) _ _ _ (lv_sub hl [2, 3, 4, 1, 0] rfl) hP hD hS hf
  · have hf := jv_if hf hc
    refine lv_iconst (v := (0 : Int32)) hx hb d_M_remove_100 (by decide) ?_
    obtain rfl := Option.some.inj hf
    exact W.iret hx hb hr (fun t ht hW => ⟨rfl, by rw [ht]; exact hP, hD, hS.F ht⟩) hS.2.2 d_M_remove_101
def f_M_remove_50 (mar : Int32) (mLb : Nat → Int32) (y0 : Int32) (y1 : Int32) (y2 : Int32) (y3 : Int32) (y4 : Nat → Int32) (y5 : Nat → Int32) (y6 : Nat → Int32) (y7 : Nat → Int32) : Option (Int32 × Int32 × Int32 × (Nat → Int32) × (Nat → Int32) × (Nat → Int32) × (Nat → Int32)) :=
  if y2 = 0 then ((f_M_inode y6 y0 y1 (0 : Int32)).bind fun x7 => if x7 = (1 : Int32) then ((f_M_hasChild y6 y0 y1).bind fun x9 => if x9 = 0 then (f_M_remove_90 mar mLb y0 y1 y2 y2 y3 y4 y5 y6 y7) else (f_M_remove_90 mar mLb y0 y1 (4 : Int32) y2 y3 y4 y5 y6 y7)) else (f_M_remove_90 mar mLb y0 y1 y2 y2 y3 y4 y5 y6 y7)) else (f_M_remove_90 mar mLb y0 y1 y2 y2 y3 y4 y5 y6 y7)
set_option maxHeartbeats 4000000 in
set_option maxRecDepth 100000 in
theorem b_M_remove_50 {l : Launch} {dC : Nat → ClassId} {dI : Nat → Nat → Nat} {cI cA cL : ClassId} {q_mo q_mlb_ q_mcl_ q_mus_ q_mwr_ q_mdk_ q_mcp_ : Nat} {mar : Int32} {mLb : Nat → Int32} {mCl : Nat → Int32} {p : Program} {e : Env} {s : State} {m : MethodId} {args : Array Value} {below : List Frame} {meth : Method} {c : Code} (cx : jv_cx p s m args meth c cc_M_remove 8 R_Model (some .int) ws_M_remove) (hK : va_K (dC, dI) vwCl (jv_ty cI cA cL) s) {A : Nat → Prop} (hA : ∀ q : Nat, s.heap.size ≤ q → A q) {r : Int32 × Int32 × Int32 × (Nat → Int32) × (Nat → Int32) × (Nat → Int32) × (Nat → Int32)} {y0 : Int32} {y1 : Int32} {y2 : Int32} {y3 : Int32} {y4 : Nat → Int32} {y5 : Nat → Int32} {y6 : Nat → Int32} {y7 : Nat → Int32} {ls : Array Slot} (hl : lv_has ls 8 [(0, .ref q_mo), (3, .int y0)]) {H : Heap} {locs : List Loc} (hP : va_P (dC, dI) vwCl (w_model cI q_mo q_mlb_ q_mcl_ q_mus_ q_mwr_ q_mdk_ q_mcp_ y2 mar y3 mLb mCl y4 y5 y6 y7) H) (hD : va_D A (w_model cI q_mo q_mlb_ q_mcl_ q_mus_ q_mwr_ q_mdk_ q_mcp_ y2 mar y3 mLb mCl y4 y5 y6 y7)) (hS : va_S A s.heap H locs) (hf : f_M_remove_50 mar mLb y0 y1 y2 y3 y4 y5 y6 y7 = some r) : W p l e rm_M_remove s m args below meth c H locs 0 0 (MQ below (jv_Qi r.1 (dC, dI) (w_model cI q_mo q_mlb_ q_mcl_ q_mus_ q_mwr_ q_mdk_ q_mcp_ r.2.1 mar r.2.2.1 mLb mCl r.2.2.2.1 r.2.2.2.2.1 r.2.2.2.2.2.1 r.2.2.2.2.2.2) A) args s 0 0 A) (F0 m 50 ls [.int y1]) := by
  unfold f_M_remove_50 at hf
  obtain ⟨hx, hb, hml, hown, hts, hr, hlocks⟩ := id cx
  refine lv_istore (lv' := [(4, .int y1), (0, .ref q_mo), (3, .int y0)]) hx hb d_M_remove_50 hl (by decide) rfl (fun ls hl => ?_)
  refine lv_aload_n hx hb d_M_remove_52 rfl (lv_at hl 1 rfl) ?_
  refine lv_aload_n hx hb d_M_remove_53 rfl (lv_at hl 1 rfl) ?_
  refine va_get (D := (dC, dI)) (ci := kModel) (v := .int y2) (C := R_Model) (T := T_Model) (N := 9) hx hb hts (fun w h => List.mem_cons_of_mem _ (in_Model w h)) hown hK hP 0 rfl rfl 0 (by decide) (jv_w hts wa_200) (fun _ h9 => h9) rfl d_M_remove_54 ?_
  refine lv_if_ne (tgt := 86) hx hb d_M_remove_57 (by decide) (fun hc => ?_) (fun hc => ?_)
  · have hf := jv_if hf hc
    refine lv_aload_n hx hb d_M_remove_86 rfl (lv_at hl 1 rfl) ?_
    refine va_get (D := (dC, dI)) (ci := kModel) (v := .int y2) (C := R_Model) (T := T_Model) (N := 9) hx hb hts (fun w h => List.mem_cons_of_mem _ (in_Model w h)) hown hK hP 0 rfl rfl 0 (by decide) (jv_w hts wa_200) (fun _ h9 => h9) rfl d_M_remove_87 ?_
    exact b_M_remove_90 (y0 := y0) (y1 := y1) (y2 := y2) (y3 := y2) (y4 := y3) (y5 := y4) (y6 := y5) (y7 := y6) (y8 := y7) cx hK hA (lv_sub hl [1, 2, 0] rfl) hP hD hS hf
  · have hf := jv_it hf hc
    refine lv_aload_n hx hb d_M_remove_60 rfl (lv_at hl 1 rfl) ?_
    refine lv_iload_n hx hb d_M_remove_61 rfl (lv_at hl 2 rfl) ?_
    refine lv_iload hx hb d_M_remove_62 (lv_at hl 0 rfl) ?_
    refine lv_iconst (v := (0 : Int32)) hx hb d_M_remove_64 (by decide) ?_
    obtain ⟨x7, g8, hf⟩ := jv_ob hf
    have hPc := hP.sub (ws' := (w_model cI q_mo q_mlb_ q_mcl_ q_mus_ q_mwr_ q_mdk_ q_mcp_ y2 mar y3 mLb mCl y4 y5 y6 y7)) [0, 1, 2, 3, 4, 5, 6] rfl
    refine jv_cs (W.runV (As := [.int y0, .int y1, .int (0 : Int32)]) (rest := [.ref q_mo]) (b := q_mo) ⟨hx, hb, hml, hown, hts⟩ (c_M_inode l dC dI cI cA cL q_mo q_mlb_ q_mcl_ q_mus_ q_mwr_ q_mdk_ q_mcp_ y2 mar y3 mLb mCl y4 y5 y6 y7 y0 y1 (0 : Int32) x7 g8) (jv_cwV hts wa_207 wa_194 wa_208 wa_209 wa_210 rfl rfl yd_M_inode ⟨Nat.le_of_ble_eq_true rfl, Nat.le_of_ble_eq_true rfl⟩) (jv_preV hK hPc 0 rfl rfl) rfl rfl hl.1 rfl (lv_room (Nat.le_of_ble_eq_true rfl)) d_M_remove_65 ⟨Nat.zero_le _, Nat.zero_le _⟩) ?_
    refine lv_iconst (v := (1 : Int32)) hx hb d_M_remove_68 (by decide) ?_
    refine lv_icmp_ne (tgt := 86) hx hb d_M_remove_69 (by decide) (fun hc => ?_) (fun hc => ?_)
    · have hf := jv_if hf hc
      refine lv_aload_n hx hb d_M_remove_86 rfl (lv_at hl 1 rfl) ?_
      refine va_get (D := (dC, dI)) (ci := kModel) (v := .int y2) (C := R_Model) (T := T_Model) (N := 9) hx hb hts (fun w h => List.mem_cons_of_mem _ (in_Model w h)) hown hK hP 0 rfl rfl 0 (by decide) (jv_w hts wa_200) (fun _ h9 => h9) rfl d_M_remove_87 ?_
      exact b_M_remove_90 (y0 := y0) (y1 := y1) (y2 := y2) (y3 := y2) (y4 := y3) (y5 := y4) (y6 := y5) (y7 := y6) (y8 := y7) cx hK hA (lv_sub hl [1, 2, 0] rfl) hP hD hS hf
    · have hf := jv_it hf hc
      refine lv_aload_n hx hb d_M_remove_72 rfl (lv_at hl 1 rfl) ?_
      refine lv_iload_n hx hb d_M_remove_73 rfl (lv_at hl 2 rfl) ?_
      refine lv_iload hx hb d_M_remove_74 (lv_at hl 0 rfl) ?_
      obtain ⟨x9, g10, hf⟩ := jv_ob hf
      have hPc := hP.sub (ws' := (w_model cI q_mo q_mlb_ q_mcl_ q_mus_ q_mwr_ q_mdk_ q_mcp_ y2 mar y3 mLb mCl y4 y5 y6 y7)) [0, 1, 2, 3, 4, 5, 6] rfl
      refine jv_cs (W.runV (As := [.int y0, .int y1]) (rest := [.ref q_mo]) (b := q_mo) ⟨hx, hb, hml, hown, hts⟩ (c_M_hasChild l dC dI cI cA cL q_mo q_mlb_ q_mcl_ q_mus_ q_mwr_ q_mdk_ q_mcp_ y2 mar y3 mLb mCl y4 y5 y6 y7 y0 y1 x9 g10) (jv_cwV hts wa_285 wa_194 wa_286 wa_287 wa_288 rfl rfl yd_M_hasChild ⟨Nat.le_of_ble_eq_true rfl, Nat.le_of_ble_eq_true rfl⟩) (jv_preV hK hPc 0 rfl rfl) rfl rfl hl.1 rfl (lv_room (Nat.le_of_ble_eq_true rfl)) d_M_remove_76 ⟨Nat.zero_le _, Nat.zero_le _⟩) ?_
      refine lv_if_eq (tgt := 86) hx hb d_M_remove_79 (by decide) (fun hc => ?_) (fun hc => ?_)
      · have hf := jv_it hf hc
        refine lv_aload_n hx hb d_M_remove_86 rfl (lv_at hl 1 rfl) ?_
        refine va_get (D := (dC, dI)) (ci := kModel) (v := .int y2) (C := R_Model) (T := T_Model) (N := 9) hx hb hts (fun w h => List.mem_cons_of_mem _ (in_Model w h)) hown hK hP 0 rfl rfl 0 (by decide) (jv_w hts wa_200) (fun _ h9 => h9) rfl d_M_remove_87 ?_
        exact b_M_remove_90 (y0 := y0) (y1 := y1) (y2 := y2) (y3 := y2) (y4 := y3) (y5 := y4) (y6 := y5) (y7 := y6) (y8 := y7) cx hK hA (lv_sub hl [1, 2, 0] rfl) hP hD hS hf
      · have hf := jv_if hf hc
        refine lv_iconst (v := (4 : Int32)) hx hb d_M_remove_82 (by decide) ?_
        refine lv_goto (tgt := 90) hx hb d_M_remove_83 (by decide) ?_
        exact b_M_remove_90 (y0 := y0) (y1 := y1) (y2 := (4 : Int32)) (y3 := y2) (y4 := y3) (y5 := y4) (y6 := y5) (y7 := y6) (y8 := y7) cx hK hA (lv_sub hl [1, 2, 0] rfl) hP hD hS hf
def f_M_remove_15 (mar : Int32) (mLb : Nat → Int32) (y0 : Int32) (y1 : Int32) (y2 : Int32) (y3 : Int32) (y4 : Int32) (y5 : Nat → Int32) (y6 : Nat → Int32) (y7 : Nat → Int32) (y8 : Nat → Int32) : Option (Int32 × Int32 × Int32 × (Nat → Int32) × (Nat → Int32) × (Nat → Int32) × (Nat → Int32)) :=
  if y2 = 0 then (if y2 = 0 then ((f_M_find y7 (y0 / (4 : Int32)) y1).bind fun x5 => f_M_remove_50 mar mLb (y0 / (4 : Int32)) x5 y2 y4 y5 y6 y7 y8) else (f_M_remove_50 mar mLb (y0 / (4 : Int32)) (0 : Int32) y2 y4 y5 y6 y7 y8)) else (if y2 = 0 then ((f_M_find y7 (0 : Int32) y1).bind fun x3 => f_M_remove_50 mar mLb (0 : Int32) x3 y2 y4 y5 y6 y7 y8) else (f_M_remove_50 mar mLb (0 : Int32) (0 : Int32) y2 y4 y5 y6 y7 y8))
set_option maxHeartbeats 4000000 in
set_option maxRecDepth 100000 in
theorem b_M_remove_15 {l : Launch} {dC : Nat → ClassId} {dI : Nat → Nat → Nat} {cI cA cL : ClassId} {q_mo q_mlb_ q_mcl_ q_mus_ q_mwr_ q_mdk_ q_mcp_ : Nat} {mar : Int32} {mLb : Nat → Int32} {mCl : Nat → Int32} {p : Program} {e : Env} {s : State} {m : MethodId} {args : Array Value} {below : List Frame} {meth : Method} {c : Code} (cx : jv_cx p s m args meth c cc_M_remove 8 R_Model (some .int) ws_M_remove) (hK : va_K (dC, dI) vwCl (jv_ty cI cA cL) s) {A : Nat → Prop} (hA : ∀ q : Nat, s.heap.size ≤ q → A q) {r : Int32 × Int32 × Int32 × (Nat → Int32) × (Nat → Int32) × (Nat → Int32) × (Nat → Int32)} {y0 : Int32} {y1 : Int32} {y2 : Int32} {y3 : Int32} {y4 : Int32} {y5 : Nat → Int32} {y6 : Nat → Int32} {y7 : Nat → Int32} {y8 : Nat → Int32} {ls : Array Slot} (hl : lv_has ls 8 [(0, .ref q_mo), (1, .int y0), (2, .int y1)]) {H : Heap} {locs : List Loc} (hP : va_P (dC, dI) vwCl (w_model cI q_mo q_mlb_ q_mcl_ q_mus_ q_mwr_ q_mdk_ q_mcp_ y3 mar y4 mLb mCl y5 y6 y7 y8) H) (hD : va_D A (w_model cI q_mo q_mlb_ q_mcl_ q_mus_ q_mwr_ q_mdk_ q_mcp_ y3 mar y4 mLb mCl y5 y6 y7 y8)) (hS : va_S A s.heap H locs) (hf : f_M_remove_15 mar mLb y0 y1 y2 y3 y4 y5 y6 y7 y8 = some r) : W p l e rm_M_remove s m args below meth c H locs 0 0 (MQ below (jv_Qi r.1 (dC, dI) (w_model cI q_mo q_mlb_ q_mcl_ q_mus_ q_mwr_ q_mdk_ q_mcp_ r.2.1 mar r.2.2.1 mLb mCl r.2.2.2.1 r.2.2.2.2.1 r.2.2.2.2.2.1 r.2.2.2.2.2.2) A) args s 0 0 A) (F0 m 15 ls [.int y2, .ref q_mo]) := by
  unfold f_M_remove_15 at hf
  obtain ⟨hx, hb, hml, hown, hts, hr, hlocks⟩ := id cx
  refine va_put (D := (dC, dI)) (ci := kModel) (v := .int y2) (ty := .int) (C := R_Model) (T := T_Model) (N := 9) hx hb hts (fun w h => List.mem_cons_of_mem _ (in_Model w h)) ty_Model tyok_Model nm_Model hown hK hP hD hS 0 rfl rfl 0 (by decide) (jv_w hts wa_200) (fun _ h9 => h9) rfl (by decide +kernel) rfl rfl (Nat.le_of_ble_eq_true rfl) d_M_remove_15 (fun H locs hP hD hS => ?_)
  have hP : va_P (dC, dI) vwCl (w_model cI q_mo q_mlb_ q_mcl_ q_mus_ q_mwr_ q_mdk_ q_mcp_ y2 mar y4 mLb mCl y5 y6 y7 y8) H := hP
  have hD : va_D A (w_model cI q_mo q_mlb_ q_mcl_ q_mus_ q_mwr_ q_mdk_ q_mcp_ y2 mar y4 mLb mCl y5 y6 y7 y8) := hD
  refine lv_aload_n hx hb d_M_remove_18 rfl (lv_at hl 0 rfl) ?_
  refine va_get (D := (dC, dI)) (ci := kModel) (v := .int y2) (C := R_Model) (T := T_Model) (N := 9) hx hb hts (fun w h => List.mem_cons_of_mem _ (in_Model w h)) hown hK hP 0 rfl rfl 0 (by decide) (jv_w hts wa_200) (fun _ h9 => h9) rfl d_M_remove_19 ?_
  refine lv_if_ne (tgt := 31) hx hb d_M_remove_22 (by decide) (fun hc => ?_) (fun hc => ?_)
  · have hf := jv_if hf hc
    refine lv_iconst (v := (0 : Int32)) hx hb d_M_remove_31 (by decide) ?_
    refine lv_istore_n (lv' := [(3, .int (0 : Int32)), (0, .ref q_mo), (1, .int y0), (2, .int y1)]) hx hb d_M_remove_32 rfl hl (by decide) rfl (fun ls hl => ?_)
    refine lv_aload_n hx hb d_M_remove_33 rfl (lv_at hl 1 rfl) ?_
    refine va_get (D := (dC, dI)) (ci := kModel) (v := .int y2) (C := R_Model) (T := T_Model) (N := 9) hx hb hts (fun w h => List.mem_cons_of_mem _ (in_Model w h)) hown hK hP 0 rfl rfl 0 (by decide) (jv_w hts wa_200) (fun _ h9 => h9) rfl d_M_remove_34 ?_
    refine lv_if_ne (tgt := 49) hx hb d_M_remove_37 (by decide) (fun hc => ?_) (fun hc => ?_)
    · have hf := jv_if hf hc
      refine lv_iconst (v := (0 : Int32)) hx hb d_M_remove_49 (by decide) ?_
      exact b_M_remove_50 (y0 := (0 : Int32)) (y1 := (0 : Int32)) (y2 := y2) (y3 := y4) (y4 := y5) (y5 := y6) (y6 := y7) (y7 := y8) cx hK hA (lv_sub hl [1, 0] rfl) hP hD hS hf
    · have hf := jv_it hf hc
      refine lv_aload_n hx hb d_M_remove_40 rfl (lv_at hl 1 rfl) ?_
      refine lv_iload_n hx hb d_M_remove_41 rfl (lv_at hl 0 rfl) ?_
      refine lv_iload_n hx hb d_M_remove_42 rfl (lv_at hl 3 rfl) ?_
      obtain ⟨x3, g4, hf⟩ := jv_ob hf
      have hPc := hP.sub (ws' := (w_model cI q_mo q_mlb_ q_mcl_ q_mus_ q_mwr_ q_mdk_ q_mcp_ y2 mar y4 mLb mCl y5 y6 y7 y8)) [0, 1, 2, 3, 4, 5, 6] rfl
      refine jv_cs (W.runV (As := [.int (0 : Int32), .int y1]) (rest := []) (b := q_mo) ⟨hx, hb, hml, hown, hts⟩ (c_M_find l dC dI cI cA cL q_mo q_mlb_ q_mcl_ q_mus_ q_mwr_ q_mdk_ q_mcp_ y2 mar y4 mLb mCl y5 y6 y7 y8 (0 : Int32) y1 x3 g4) (jv_cwV hts wa_211 wa_194 wa_212 wa_213 wa_214 rfl rfl yd_M_find ⟨Nat.le_of_ble_eq_true rfl, Nat.le_of_ble_eq_true rfl⟩) (jv_preV hK hPc 0 rfl rfl) rfl rfl hl.1 rfl (lv_room (Nat.le_of_ble_eq_true rfl)) d_M_remove_43 ⟨Nat.zero_le _, Nat.zero_le _⟩) ?_
      refine lv_goto (tgt := 50) hx hb d_M_remove_46 (by decide) ?_
      exact b_M_remove_50 (y0 := (0 : Int32)) (y1 := x3) (y2 := y2) (y3 := y4) (y4 := y5) (y5 := y6) (y6 := y7) (y7 := y8) cx hK hA (lv_sub hl [1, 0] rfl) hP hD hS hf
  · have hf := jv_it hf hc
    refine lv_iload_n hx hb d_M_remove_25 rfl (lv_at hl 1 rfl) ?_
    refine lv_iconst (v := (4 : Int32)) hx hb d_M_remove_26 (by decide) ?_
    refine lv_idiv hx hb d_M_remove_27 (by decide) ?_
    refine lv_goto (tgt := 32) hx hb d_M_remove_28 (by decide) ?_
    refine lv_istore_n (lv' := [(3, .int (y0 / (4 : Int32))), (0, .ref q_mo), (1, .int y0), (2, .int y1)]) hx hb d_M_remove_32 rfl hl (by decide) rfl (fun ls hl => ?_)
    refine lv_aload_n hx hb d_M_remove_33 rfl (lv_at hl 1 rfl) ?_
    refine va_get (D := (dC, dI)) (ci := kModel) (v := .int y2) (C := R_Model) (T := T_Model) (N := 9) hx hb hts (fun w h => List.mem_cons_of_mem _ (in_Model w h)) hown hK hP 0 rfl rfl 0 (by decide) (jv_w hts wa_200) (fun _ h9 => h9) rfl d_M_remove_34 ?_
    refine lv_if_ne (tgt := 49) hx hb d_M_remove_37 (by decide) (fun hc => ?_) (fun hc => ?_)
    · have hf := jv_if hf hc
      refine lv_iconst (v := (0 : Int32)) hx hb d_M_remove_49 (by decide) ?_
      exact b_M_remove_50 (y0 := y0 / (4 : Int32)) (y1 := (0 : Int32)) (y2 := y2) (y3 := y4) (y4 := y5) (y5 := y6) (y6 := y7) (y7 := y8) cx hK hA (lv_sub hl [1, 0] rfl) hP hD hS hf
    · have hf := jv_it hf hc
      refine lv_aload_n hx hb d_M_remove_40 rfl (lv_at hl 1 rfl) ?_
      refine lv_iload_n hx hb d_M_remove_41 rfl (lv_at hl 0 rfl) ?_
      refine lv_iload_n hx hb d_M_remove_42 rfl (lv_at hl 3 rfl) ?_
      obtain ⟨x5, g6, hf⟩ := jv_ob hf
      have hPc := hP.sub (ws' := (w_model cI q_mo q_mlb_ q_mcl_ q_mus_ q_mwr_ q_mdk_ q_mcp_ y2 mar y4 mLb mCl y5 y6 y7 y8)) [0, 1, 2, 3, 4, 5, 6] rfl
      refine jv_cs (W.runV (As := [.int (y0 / (4 : Int32)), .int y1]) (rest := []) (b := q_mo) ⟨hx, hb, hml, hown, hts⟩ (c_M_find l dC dI cI cA cL q_mo q_mlb_ q_mcl_ q_mus_ q_mwr_ q_mdk_ q_mcp_ y2 mar y4 mLb mCl y5 y6 y7 y8 (y0 / (4 : Int32)) y1 x5 g6) (jv_cwV hts wa_211 wa_194 wa_212 wa_213 wa_214 rfl rfl yd_M_find ⟨Nat.le_of_ble_eq_true rfl, Nat.le_of_ble_eq_true rfl⟩) (jv_preV hK hPc 0 rfl rfl) rfl rfl hl.1 rfl (lv_room (Nat.le_of_ble_eq_true rfl)) d_M_remove_43 ⟨Nat.zero_le _, Nat.zero_le _⟩) ?_
      refine lv_goto (tgt := 50) hx hb d_M_remove_46 (by decide) ?_
      exact b_M_remove_50 (y0 := y0 / (4 : Int32)) (y1 := x5) (y2 := y2) (y3 := y4) (y4 := y5) (y5 := y6) (y6 := y7) (y7 := y8) cx hK hA (lv_sub hl [1, 0] rfl) hP hD hS hf
def f_M_remove_0 (mar : Int32) (mLb : Nat → Int32) (y0 : Int32) (y1 : Int32) (y2 : Int32) (y3 : Int32) (y4 : Nat → Int32) (y5 : Nat → Int32) (y6 : Nat → Int32) (y7 : Nat → Int32) : Option (Int32 × Int32 × Int32 × (Nat → Int32) × (Nat → Int32) × (Nat → Int32) × (Nat → Int32)) :=
  if y1 = 0 then (f_M_remove_15 mar mLb y0 y1 (1 : Int32) y2 y3 y4 y5 y6 y7) else ((f_M_refusal mar mLb y4 y6 y0 y1).bind fun x1 => f_M_remove_15 mar mLb y0 y1 x1 y2 y3 y4 y5 y6 y7)
set_option maxHeartbeats 4000000 in
set_option maxRecDepth 100000 in
theorem b_M_remove_0 {l : Launch} {dC : Nat → ClassId} {dI : Nat → Nat → Nat} {cI cA cL : ClassId} {q_mo q_mlb_ q_mcl_ q_mus_ q_mwr_ q_mdk_ q_mcp_ : Nat} {mar : Int32} {mLb : Nat → Int32} {mCl : Nat → Int32} {p : Program} {e : Env} {s : State} {m : MethodId} {args : Array Value} {below : List Frame} {meth : Method} {c : Code} (cx : jv_cx p s m args meth c cc_M_remove 8 R_Model (some .int) ws_M_remove) (hK : va_K (dC, dI) vwCl (jv_ty cI cA cL) s) {A : Nat → Prop} (hA : ∀ q : Nat, s.heap.size ≤ q → A q) {r : Int32 × Int32 × Int32 × (Nat → Int32) × (Nat → Int32) × (Nat → Int32) × (Nat → Int32)} {y0 : Int32} {y1 : Int32} {y2 : Int32} {y3 : Int32} {y4 : Nat → Int32} {y5 : Nat → Int32} {y6 : Nat → Int32} {y7 : Nat → Int32} {ls : Array Slot} (hl : lv_has ls 8 [(0, .ref q_mo), (1, .int y0), (2, .int y1)]) {H : Heap} {locs : List Loc} (hP : va_P (dC, dI) vwCl (w_model cI q_mo q_mlb_ q_mcl_ q_mus_ q_mwr_ q_mdk_ q_mcp_ y2 mar y3 mLb mCl y4 y5 y6 y7) H) (hD : va_D A (w_model cI q_mo q_mlb_ q_mcl_ q_mus_ q_mwr_ q_mdk_ q_mcp_ y2 mar y3 mLb mCl y4 y5 y6 y7)) (hS : va_S A s.heap H locs) (hf : f_M_remove_0 mar mLb y0 y1 y2 y3 y4 y5 y6 y7 = some r) : W p l e rm_M_remove s m args below meth c H locs 0 0 (MQ below (jv_Qi r.1 (dC, dI) (w_model cI q_mo q_mlb_ q_mcl_ q_mus_ q_mwr_ q_mdk_ q_mcp_ r.2.1 mar r.2.2.1 mLb mCl r.2.2.2.1 r.2.2.2.2.1 r.2.2.2.2.2.1 r.2.2.2.2.2.2) A) args s 0 0 A) (F0 m 0 ls []) := by
  unfold f_M_remove_0 at hf
  obtain ⟨hx, hb, hml, hown, hts, hr, hlocks⟩ := id cx
  refine lv_aload_n hx hb d_M_remove_0 rfl (lv_at hl 0 rfl) ?_
  refine lv_iload_n hx hb d_M_remove_1 rfl (lv_at hl 2 rfl) ?_
  refine lv_if_ne (tgt := 9) hx hb d_M_remove_2 (by decide) (fun hc => ?_) (fun hc => ?_)
  · have hf := jv_if hf hc
    refine lv_aload_n hx hb d_M_remove_9 rfl (lv_at hl 0 rfl) ?_
    refine lv_iload_n hx hb d_M_remove_10 rfl (lv_at hl 1 rfl) ?_
    refine lv_iload_n hx hb d_M_remove_11 rfl (lv_at hl 2 rfl) ?_
    obtain ⟨x1, g2, hf⟩ := jv_ob hf
    have hPc := hP.sub (ws' := (w_model cI q_mo q_mlb_ q_mcl_ q_mus_ q_mwr_ q_mdk_ q_mcp_ y2 mar y3 mLb mCl y4 y5 y6 y7)) [0, 1, 2, 3, 4, 5, 6] rfl
    refine jv_cs (W.runV (As := [.int y0, .int y1]) (rest := [.ref q_mo]) (b := q_mo) ⟨hx, hb, hml, hown, hts⟩ (c_M_refusal l dC dI cI cA cL q_mo q_mlb_ q_mcl_ q_mus_ q_mwr_ q_mdk_ q_mcp_ y2 mar y3 mLb mCl y4 y5 y6 y7 y0 y1 x1 g2) (jv_cwV hts wa_265 wa_194 wa_266 wa_267 wa_268 rfl rfl yd_M_refusal ⟨Nat.le_of_ble_eq_true rfl, Nat.le_of_ble_eq_true rfl⟩) (jv_preV hK hPc 0 rfl rfl) rfl rfl hl.1 rfl (lv_room (Nat.le_of_ble_eq_true rfl)) d_M_remove_12 ⟨Nat.zero_le _, Nat.zero_le _⟩) ?_
    exact b_M_remove_15 (y0 := y0) (y1 := y1) (y2 := x1) (y3 := y2) (y4 := y3) (y5 := y4) (y6 := y5) (y7 := y6) (y8 := y7) cx hK hA (lv_sub hl [0, 1, 2] rfl) hP hD hS hf
  · have hf := jv_it hf hc
    refine lv_iconst (v := (1 : Int32)) hx hb d_M_remove_5 (by decide) ?_
    refine lv_goto (tgt := 15) hx hb d_M_remove_6 (by decide) ?_
    exact b_M_remove_15 (y0 := y0) (y1 := y1) (y2 := (1 : Int32)) (y3 := y2) (y4 := y3) (y5 := y4) (y6 := y5) (y7 := y6) (y8 := y7) cx hK hA (lv_sub hl [0, 1, 2] rfl) hP hD hS hf
def f_M_remove (mar : Int32) (mLb : Nat → Int32) (a0 : Int32) (a1 : Int32) (mth : Int32) (mfu : Int32) (mUs : Nat → Int32) (mWr : Nat → Int32) (mDk : Nat → Int32) (mCp : Nat → Int32) : Option (Int32 × Int32 × Int32 × (Nat → Int32) × (Nat → Int32) × (Nat → Int32) × (Nat → Int32)) := f_M_remove_0 mar mLb a0 a1 mth mfu mUs mWr mDk mCp
set_option maxHeartbeats 4000000 in
set_option maxRecDepth 100000 in
theorem c_M_remove (l : Launch) (dC : Nat → ClassId) (dI : Nat → Nat → Nat) (cI cA cL : ClassId) (q_mo q_mlb_ q_mcl_ q_mus_ q_mwr_ q_mdk_ q_mcp_ : Nat) (mth : Int32) (mar : Int32) (mfu : Int32) (mLb : Nat → Int32) (mCl : Nat → Int32) (mUs : Nat → Int32) (mWr : Nat → Int32) (mDk : Nat → Int32) (mCp : Nat → Int32) (a0 : Int32) (a1 : Int32) (sz : Nat) (r : Int32 × Int32 × Int32 × (Nat → Int32) × (Nat → Int32) × (Nat → Int32) × (Nat → Int32)) (hf : f_M_remove mar mLb a0 a1 mth mfu mUs mWr mDk mCp = some r) : Met l y_M_remove ws_M_remove rm_M_remove (jv_Pw [.ref q_mo, .int a0, .int a1] (dC, dI) (jv_ty cI cA cL) (w_model cI q_mo q_mlb_ q_mcl_ q_mus_ q_mwr_ q_mdk_ q_mcp_ mth mar mfu mLb mCl mUs mWr mDk mCp) sz) (jv_Qi r.1 (dC, dI) (w_model cI q_mo q_mlb_ q_mcl_ q_mus_ q_mwr_ q_mdk_ q_mcp_ r.2.1 mar r.2.2.1 mLb mCl r.2.2.2.1 r.2.2.2.2.1 r.2.2.2.2.2.1 r.2.2.2.2.2.2) (va_A (w_model cI q_mo q_mlb_ q_mcl_ q_mus_ q_mwr_ q_mdk_ q_mcp_ mth mar mfu mLb mCl mUs mWr mDk mCp) sz)) 0 0 (va_A (w_model cI q_mo q_mlb_ q_mcl_ q_mus_ q_mwr_ q_mdk_ q_mcp_ mth mar mfu mLb mCl mUs mWr mDk mCp) sz) := by
  refine Met.ofW (cc := cc_M_remove) (maxL := 8) (ret := (some .int)) (by decide) rfl ?_
  intro p e s m args below meth c s₁ B hml hv
  obtain ⟨rfl, hsz, hP, hK, hD0⟩ := hv
  have cx : jv_cx p s m _ meth c cc_M_remove 8 R_Model (some .int) ws_M_remove := ⟨B.exec, B.bytes, hml, findClass_of_methodNamed B.named, atoms_spec (ws := ws_M_remove) B.pre, B.returns, B.notSynchronized⟩
  subst hsz
  have hD := hD0.self (sz := s.heap.size)
  generalize hAe : va_A (w_model cI q_mo q_mlb_ q_mcl_ q_mus_ q_mwr_ q_mdk_ q_mcp_ mth mar mfu mLb mCl mUs mWr mDk mCp) s.heap.size = A at hD ⊢
  have hA : ∀ q : Nat, s.heap.size ≤ q → A q := fun q h => by rw [← hAe]; exact Or.inr h
  have hS : va_S A s.heap s.heap [] := va_S.rf
  have hl := lv_entry ([.ref q_mo, .int a0, .int a1]) (n := 8) (Nat.le_of_ble_eq_true rfl)
  rw [lg_entry_eq]
  generalize (lg_sl ([.ref q_mo, .int a0, .int a1]) ++ List.replicate (8 - (lg_sl ([.ref q_mo, .int a0, .int a1])).length) Slot.unset).toArray = ls at hl ⊢
  have hl : lv_has ls 8 [(0, .ref q_mo), (1, .int a0), (2, .int a1)] := hl
  exact b_M_remove_0 (y0 := a0) (y1 := a1) (y2 := mth) (y3 := mfu) (y4 := mUs) (y5 := mWr) (y6 := mDk) (y7 := mCp) cx hK hA (lv_sub hl [0, 1, 2] rfl) hP hD hS hf
