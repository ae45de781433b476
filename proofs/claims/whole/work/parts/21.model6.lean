theorem d_M_move_0 : decode cc_M_move 0 = .ok (.aload_n 0, 1) := by decide +kernel
theorem d_M_move_1 : decode cc_M_move 1 = .ok (.iload_n 2, 1) := by decide +kernel
theorem d_M_move_2 : decode cc_M_move 2 = .ok (.ifCond .eq 14, 3) := by decide +kernel
theorem d_M_move_16 : decode cc_M_move 16 = .ok (.iconst 1, 1) := by decide +kernel
theorem d_M_move_17 : decode cc_M_move 17 = .ok (.goto 9, 3) := by decide +kernel
theorem d_M_move_26 : decode cc_M_move 26 = .ok (.putfield 32, 3) := by decide +kernel
theorem d_M_move_29 : decode cc_M_move 29 = .ok (.aload_n 0, 1) := by decide +kernel
theorem d_M_move_30 : decode cc_M_move 30 = .ok (.getfield 32, 3) := by decide +kernel
theorem d_M_move_33 : decode cc_M_move 33 = .ok (.ifCond .ne 9, 3) := by decide +kernel
theorem d_M_move_42 : decode cc_M_move 42 = .ok (.iconst 0, 1) := by decide +kernel
theorem d_M_move_36 : decode cc_M_move 36 = .ok (.iload_n 1, 1) := by decide +kernel
theorem d_M_move_37 : decode cc_M_move 37 = .ok (.iconst 4, 1) := by decide +kernel
theorem d_M_move_38 : decode cc_M_move 38 = .ok (.idiv, 1) := by decide +kernel
theorem d_M_move_39 : decode cc_M_move 39 = .ok (.goto 4, 3) := by decide +kernel
theorem d_M_move_5 : decode cc_M_move 5 = .ok (.iload_n 3, 1) := by decide +kernel
theorem d_M_move_6 : decode cc_M_move 6 = .ok (.ifCond .eq 10, 3) := by decide +kernel
theorem d_M_move_9 : decode cc_M_move 9 = .ok (.iload_n 3, 1) := by decide +kernel
theorem d_M_move_10 : decode cc_M_move 10 = .ok (.invokestatic 81, 3) := by decide +kernel
theorem d_M_move_13 : decode cc_M_move 13 = .ok (.ifCond .ne 7, 3) := by decide +kernel
theorem d_M_move_20 : decode cc_M_move 20 = .ok (.aload_n 0, 1) := by decide +kernel
theorem d_M_move_21 : decode cc_M_move 21 = .ok (.iload_n 1, 1) := by decide +kernel
theorem d_M_move_22 : decode cc_M_move 22 = .ok (.iload_n 2, 1) := by decide +kernel
theorem d_M_move_23 : decode cc_M_move 23 = .ok (.invokevirtual 98, 3) := by decide +kernel
theorem d_M_move_43 : decode cc_M_move 43 = .ok (.istore 4, 2) := by decide +kernel
theorem d_M_move_45 : decode cc_M_move 45 = .ok (.aload_n 0, 1) := by decide +kernel
theorem d_M_move_46 : decode cc_M_move 46 = .ok (.aload_n 0, 1) := by decide +kernel
theorem d_M_move_47 : decode cc_M_move 47 = .ok (.getfield 32, 3) := by decide +kernel
theorem d_M_move_50 : decode cc_M_move 50 = .ok (.ifCond .ne 17, 3) := by decide +kernel
theorem d_M_move_67 : decode cc_M_move 67 = .ok (.aload_n 0, 1) := by decide +kernel
theorem d_M_move_68 : decode cc_M_move 68 = .ok (.getfield 32, 3) := by decide +kernel
theorem d_M_move_53 : decode cc_M_move 53 = .ok (.aload_n 0, 1) := by decide +kernel
theorem d_M_move_54 : decode cc_M_move 54 = .ok (.iload 4, 2) := by decide +kernel
theorem d_M_move_56 : decode cc_M_move 56 = .ok (.iload_n 3, 1) := by decide +kernel
theorem d_M_move_57 : decode cc_M_move 57 = .ok (.invokevirtual 74, 3) := by decide +kernel
theorem d_M_move_60 : decode cc_M_move 60 = .ok (.ifCond .le 7, 3) := by decide +kernel
theorem d_M_move_63 : decode cc_M_move 63 = .ok (.iconst 3, 1) := by decide +kernel
theorem d_M_move_64 : decode cc_M_move 64 = .ok (.goto 7, 3) := by decide +kernel
theorem d_M_move_71 : decode cc_M_move 71 = .ok (.putfield 32, 3) := by decide +kernel
theorem d_M_move_74 : decode cc_M_move 74 = .ok (.aload_n 0, 1) := by decide +kernel
theorem d_M_move_75 : decode cc_M_move 75 = .ok (.getfield 32, 3) := by decide +kernel
theorem d_M_move_78 : decode cc_M_move 78 = .ok (.ifCond .le 5, 3) := by decide +kernel
theorem d_M_move_83 : decode cc_M_move 83 = .ok (.aload_n 0, 1) := by decide +kernel
theorem d_M_move_84 : decode cc_M_move 84 = .ok (.iload 4, 2) := by decide +kernel
theorem d_M_move_86 : decode cc_M_move 86 = .ok (.iload_n 2, 1) := by decide +kernel
theorem d_M_move_87 : decode cc_M_move 87 = .ok (.invokevirtual 68, 3) := by decide +kernel
theorem d_M_move_90 : decode cc_M_move 90 = .ok (.istore 5, 2) := by decide +kernel
theorem d_M_move_92 : decode cc_M_move 92 = .ok (.iload_n 3, 1) := by decide +kernel
theorem d_M_move_93 : decode cc_M_move 93 = .ok (.invokestatic 56, 3) := by decide +kernel
theorem d_M_move_96 : decode cc_M_move 96 = .ok (.istore 6, 2) := by decide +kernel
theorem d_M_move_98 : decode cc_M_move 98 = .ok (.aload_n 0, 1) := by decide +kernel
theorem d_M_move_99 : decode cc_M_move 99 = .ok (.iload 4, 2) := by decide +kernel
theorem d_M_move_101 : decode cc_M_move 101 = .ok (.iload_n 3, 1) := by decide +kernel
theorem d_M_move_102 : decode cc_M_move 102 = .ok (.iload 6, 2) := by decide +kernel
theorem d_M_move_104 : decode cc_M_move 104 = .ok (.iconst 1, 1) := by decide +kernel
theorem d_M_move_105 : decode cc_M_move 105 = .ok (.isub, 1) := by decide +kernel
theorem d_M_move_106 : decode cc_M_move 106 = .ok (.invokestatic 60, 3) := by decide +kernel
theorem d_M_move_109 : decode cc_M_move 109 = .ok (.invokevirtual 68, 3) := by decide +kernel
theorem d_M_move_112 : decode cc_M_move 112 = .ok (.istore 7, 2) := by decide +kernel
theorem d_M_move_114 : decode cc_M_move 114 = .ok (.iload 7, 2) := by decide +kernel
theorem d_M_move_116 : decode cc_M_move 116 = .ok (.ifCond .lt 47, 3) := by decide +kernel
theorem d_M_move_163 : decode cc_M_move 163 = .ok (.iconst 1, 1) := by decide +kernel
theorem d_M_move_164 : decode cc_M_move 164 = .ok (.goto 4, 3) := by decide +kernel
theorem d_M_move_168 : decode cc_M_move 168 = .ok (.istore 8, 2) := by decide +kernel
theorem d_M_move_170 : decode cc_M_move 170 = .ok (.iconst 1, 1) := by decide +kernel
theorem d_M_move_171 : decode cc_M_move 171 = .ok (.istore 9, 2) := by decide +kernel
theorem d_M_move_119 : decode cc_M_move 119 = .ok (.aload_n 0, 1) := by decide +kernel
theorem d_M_move_120 : decode cc_M_move 120 = .ok (.iload 4, 2) := by decide +kernel
theorem d_M_move_122 : decode cc_M_move 122 = .ok (.iload 7, 2) := by decide +kernel
theorem d_M_move_124 : decode cc_M_move 124 = .ok (.ifCond .ge 7, 3) := by decide +kernel
theorem d_M_move_131 : decode cc_M_move 131 = .ok (.iload 7, 2) := by decide +kernel
theorem d_M_move_127 : decode cc_M_move 127 = .ok (.iconst 0, 1) := by decide +kernel
theorem d_M_move_128 : decode cc_M_move 128 = .ok (.goto 5, 3) := by decide +kernel
theorem d_M_move_81 : decode cc_M_move 81 = .ok (.iconst 0, 1) := by decide +kernel
theorem d_M_move_82 : decode cc_M_move 82 = .ok (.ireturn, 1) := by decide +kernel
theorem d_M_move_173 : decode cc_M_move 173 = .ok (.iload 9, 2) := by decide +kernel
theorem d_M_move_175 : decode cc_M_move 175 = .ok (.bipush 8, 2) := by decide +kernel
theorem d_M_move_177 : decode cc_M_move 177 = .ok (.if_icmp .ge 50, 3) := by decide +kernel
theorem d_M_move_227 : decode cc_M_move 227 = .ok (.aload_n 0, 1) := by decide +kernel
theorem d_M_move_228 : decode cc_M_move 228 = .ok (.iload 8, 2) := by decide +kernel
theorem d_M_move_230 : decode cc_M_move 230 = .ok (.ifCond .eq 7, 3) := by decide +kernel
theorem d_M_move_237 : decode cc_M_move 237 = .ok (.iconst 0, 1) := by decide +kernel
theorem d_M_move_233 : decode cc_M_move 233 = .ok (.iconst 4, 1) := by decide +kernel
theorem d_M_move_234 : decode cc_M_move 234 = .ok (.goto 4, 3) := by decide +kernel
theorem d_M_move_180 : decode cc_M_move 180 = .ok (.iload 8, 2) := by decide +kernel
theorem d_M_move_182 : decode cc_M_move 182 = .ok (.ifCond .ne 32, 3) := by decide +kernel
theorem d_M_move_214 : decode cc_M_move 214 = .ok (.iconst 1, 1) := by decide +kernel
theorem d_M_move_215 : decode cc_M_move 215 = .ok (.goto 4, 3) := by decide +kernel
theorem d_M_move_219 : decode cc_M_move 219 = .ok (.istore 8, 2) := by decide +kernel
theorem d_M_move_221 : decode cc_M_move 221 = .ok (.iinc 9 1, 3) := by decide +kernel
theorem d_M_move_224 : decode cc_M_move 224 = .ok (.goto (-51), 3) := by decide +kernel
theorem d_M_move_185 : decode cc_M_move 185 = .ok (.aload_n 0, 1) := by decide +kernel
theorem d_M_move_186 : decode cc_M_move 186 = .ok (.iload 4, 2) := by decide +kernel
theorem d_M_move_188 : decode cc_M_move 188 = .ok (.iload 9, 2) := by decide +kernel
theorem d_M_move_190 : decode cc_M_move 190 = .ok (.iconst 0, 1) := by decide +kernel
theorem d_M_move_191 : decode cc_M_move 191 = .ok (.invokevirtual 64, 3) := by decide +kernel
theorem d_M_move_194 : decode cc_M_move 194 = .ok (.ifCond .le 24, 3) := by decide +kernel
theorem d_M_move_218 : decode cc_M_move 218 = .ok (.iconst 0, 1) := by decide +kernel
theorem d_M_move_197 : decode cc_M_move 197 = .ok (.iload 6, 2) := by decide +kernel
theorem d_M_move_199 : decode cc_M_move 199 = .ok (.aload_n 0, 1) := by decide +kernel
theorem d_M_move_200 : decode cc_M_move 200 = .ok (.iload 4, 2) := by decide +kernel
theorem d_M_move_202 : decode cc_M_move 202 = .ok (.iload 9, 2) := by decide +kernel
theorem d_M_move_204 : decode cc_M_move 204 = .ok (.iload 5, 2) := by decide +kernel
theorem d_M_move_206 : decode cc_M_move 206 = .ok (.invokevirtual 116, 3) := by decide +kernel
theorem d_M_move_209 : decode cc_M_move 209 = .ok (.iadd, 1) := by decide +kernel
theorem d_M_move_210 : decode cc_M_move 210 = .ok (.iconst 4, 1) := by decide +kernel
theorem d_M_move_211 : decode cc_M_move 211 = .ok (.if_icmp .le 7, 3) := by decide +kernel
theorem d_M_move_238 : decode cc_M_move 238 = .ok (.putfield 32, 3) := by decide +kernel
theorem d_M_move_241 : decode cc_M_move 241 = .ok (.aload_n 0, 1) := by decide +kernel
theorem d_M_move_242 : decode cc_M_move 242 = .ok (.getfield 32, 3) := by decide +kernel
theorem d_M_move_245 : decode cc_M_move 245 = .ok (.ifCond .le 5, 3) := by decide +kernel
theorem d_M_move_250 : decode cc_M_move 250 = .ok (.aload_n 0, 1) := by decide +kernel
theorem d_M_move_251 : decode cc_M_move 251 = .ok (.iload 4, 2) := by decide +kernel
theorem d_M_move_253 : decode cc_M_move 253 = .ok (.invokevirtual 91, 3) := by decide +kernel
theorem d_M_move_256 : decode cc_M_move 256 = .ok (.aload_n 0, 1) := by decide +kernel
theorem d_M_move_257 : decode cc_M_move 257 = .ok (.getfield 25, 3) := by decide +kernel
theorem d_M_move_260 : decode cc_M_move 260 = .ok (.bipush 8, 2) := by decide +kernel
theorem d_M_move_262 : decode cc_M_move 262 = .ok (.bipush 8, 2) := by decide +kernel
theorem d_M_move_264 : decode cc_M_move 264 = .ok (.iload 5, 2) := by decide +kernel
theorem d_M_move_266 : decode cc_M_move 266 = .ok (.imul, 1) := by decide +kernel
theorem d_M_move_267 : decode cc_M_move 267 = .ok (.iadd, 1) := by decide +kernel
theorem d_M_move_268 : decode cc_M_move 268 = .ok (.iconst 1, 1) := by decide +kernel
theorem d_M_move_269 : decode cc_M_move 269 = .ok (.iadd, 1) := by decide +kernel
theorem d_M_move_270 : decode cc_M_move 270 = .ok (.iload 7, 2) := by decide +kernel
theorem d_M_move_272 : decode cc_M_move 272 = .ok (.iastore, 1) := by decide +kernel
theorem d_M_move_273 : decode cc_M_move 273 = .ok (.aload_n 0, 1) := by decide +kernel
theorem d_M_move_274 : decode cc_M_move 274 = .ok (.getfield 25, 3) := by decide +kernel
theorem d_M_move_277 : decode cc_M_move 277 = .ok (.bipush 8, 2) := by decide +kernel
theorem d_M_move_279 : decode cc_M_move 279 = .ok (.bipush 8, 2) := by decide +kernel
theorem d_M_move_281 : decode cc_M_move 281 = .ok (.iload 5, 2) := by decide +kernel
theorem d_M_move_283 : decode cc_M_move 283 = .ok (.imul, 1) := by decide +kernel
theorem d_M_move_284 : decode cc_M_move 284 = .ok (.iadd, 1) := by decide +kernel
theorem d_M_move_285 : decode cc_M_move 285 = .ok (.iconst 2, 1) := by decide +kernel
theorem d_M_move_286 : decode cc_M_move 286 = .ok (.iadd, 1) := by decide +kernel
theorem d_M_move_287 : decode cc_M_move 287 = .ok (.iload_n 3, 1) := by decide +kernel
theorem d_M_move_288 : decode cc_M_move 288 = .ok (.bipush 32, 2) := by decide +kernel
theorem d_M_move_290 : decode cc_M_move 290 = .ok (.irem, 1) := by decide +kernel
theorem d_M_move_291 : decode cc_M_move 291 = .ok (.iastore, 1) := by decide +kernel
theorem d_M_move_292 : decode cc_M_move 292 = .ok (.aload_n 0, 1) := by decide +kernel
theorem d_M_move_293 : decode cc_M_move 293 = .ok (.iload 4, 2) := by decide +kernel
theorem d_M_move_295 : decode cc_M_move 295 = .ok (.iload 5, 2) := by decide +kernel
theorem d_M_move_297 : decode cc_M_move 297 = .ok (.invokevirtual 95, 3) := by decide +kernel
theorem d_M_move_300 : decode cc_M_move 300 = .ok (.ireturn, 1) := by decide +kernel
theorem d_M_move_248 : decode cc_M_move 248 = .ok (.iconst 0, 1) := by decide +kernel
theorem d_M_move_249 : decode cc_M_move 249 = .ok (.ireturn, 1) := by decide +kernel
theorem d_M_move_133 : decode cc_M_move 133 = .ok (.iconst 0, 1) := by decide +kernel
theorem d_M_move_134 : decode cc_M_move 134 = .ok (.invokevirtual 64, 3) := by decide +kernel
theorem d_M_move_137 : decode cc_M_move 137 = .ok (.iconst 1, 1) := by decide +kernel
theorem d_M_move_138 : decode cc_M_move 138 = .ok (.if_icmp .ne 25, 3) := by decide +kernel
theorem d_M_move_141 : decode cc_M_move 141 = .ok (.aload_n 0, 1) := by decide +kernel
theorem d_M_move_142 : decode cc_M_move 142 = .ok (.iload 4, 2) := by decide +kernel
theorem d_M_move_144 : decode cc_M_move 144 = .ok (.iload 7, 2) := by decide +kernel
theorem d_M_move_146 : decode cc_M_move 146 = .ok (.ifCond .ge 7, 3) := by decide +kernel
theorem d_M_move_153 : decode cc_M_move 153 = .ok (.iload 7, 2) := by decide +kernel
theorem d_M_move_149 : decode cc_M_move 149 = .ok (.iconst 0, 1) := by decide +kernel
theorem d_M_move_150 : decode cc_M_move 150 = .ok (.goto 5, 3) := by decide +kernel
theorem d_M_move_155 : decode cc_M_move 155 = .ok (.iload 5, 2) := by decide +kernel
theorem d_M_move_157 : decode cc_M_move 157 = .ok (.invokevirtual 116, 3) := by decide +kernel
theorem d_M_move_160 : decode cc_M_move 160 = .ok (.ifCond .lt 7, 3) := by decide +kernel
theorem d_M_move_167 : decode cc_M_move 167 = .ok (.iconst 0, 1) := by decide +kernel
def f_M_move_238 (mar : Int32) (mLb : Nat → Int32) (y0 : Int32) (y1 : Int32) (y2 : Int32) (y3 : Int32) (y4 : Int32) (y5 : Int32) (y6 : Int32) (y7 : Nat → Int32) (y8 : Nat → Int32) (y9 : Nat → Int32) (y10 : Nat → Int32) : Option (Int32 × Int32 × Int32 × (Nat → Int32) × (Nat → Int32) × (Nat → Int32) × (Nat → Int32)) :=
  if y4 ≤ 0 then ((f_M_start y9 y1 y10).bind fun x19 => (jv_sa x19 232 (((8 : Int32) + ((8 : Int32) * y2)) + (1 : Int32)) y3).bind fun F21 => (jv_sa F21 232 (((8 : Int32) + ((8 : Int32) * y2)) + (2 : Int32)) (y0 - y0 / (32 : Int32) * (32 : Int32))).bind fun F23 => (f_M_finish F23 y1 y2 y6 y7 y8 y9).bind fun x25 => some (x25.1, y4, x25.2.1, x25.2.2.1, x25.2.2.2.1, x25.2.2.2.2, F23)) else (some ((0 : Int32), y4, y6, y7, y8, y9, y10))
set_option maxHeartbeats 4000000 in
set_option maxRecDepth 100000 in
theorem b_M_move_238 {l : Launch} {dC : Nat → ClassId} {dI : Nat → Nat → Nat} {cI cA cL : ClassId} {q_mo q_mlb_ q_mcl_ q_mus_ q_mwr_ q_mdk_ q_mcp_ : Nat} {mar : Int32} {mLb : Nat → Int32} {mCl : Nat → Int32} {p : Program} {e : Env} {s : State} {m : MethodId} {args : Array Value} {below : List Frame} {meth : Method} {c : Code} (cx : jv_cx p s m args meth c cc_M_move 10 R_Model (some .int) ws_M_move) (hK : va_K (dC, dI) vwCl (jv_ty cI cA cL) s) {A : Nat → Prop} (hA : ∀ q : Nat, s.heap.size ≤ q → A q) {r : Int32 × Int32 × Int32 × (Nat → Int32) × (Nat → Int32) × (Nat → Int32) × (Nat → Int32)} {y0 : Int32} {y1 : Int32} {y2 : Int32} {y3 : Int32} {y4 : Int32} {y5 : Int32} {y6 : Int32} {y7 : Nat → Int32} {y8 : Nat → Int32} {y9 : Nat → Int32} {y10 : Nat → Int32} {ls : Array Slot} (hl : lv_has ls 10 [(0, .ref q_mo), (3, .int y0), (4, .int y1), (5, .int y2), (7, .int y3)]) {H : Heap} {locs : List Loc} (hP : va_P (dC, dI) vwCl (w_model cI q_mo q_mlb_ q_mcl_ q_mus_ q_mwr_ q_mdk_ q_mcp_ y5 mar y6 mLb mCl y7 y8 y9 y10) H) (hD : va_D A (w_model cI q_mo q_mlb_ q_mcl_ q_mus_ q_mwr_ q_mdk_ q_mcp_ y5 mar y6 mLb mCl y7 y8 y9 y10)) (hS : va_S A s.heap H locs) (hf : f_M_move_238 mar mLb y0 y1 y2 y3 y4 y5 y6 y7 y8 y9 y10 = some r) : W p l e rm_M_move s m args below meth c H locs 0 0 (MQ below (jv_Qi r.1 (dC, dI) (w_model cI q_mo q_mlb_ q_mcl_ q_mus_ q_mwr_ q_mdk_ q_mcp_ r.2.1 mar r.2.2.1 mLb mCl r.2.2.2.1 r.2.2.2.2.1 r.2.2.2.2.2.1 r.2.2.2.2.2.2) A) args s 0 0 A) (F0 m 238 ls [.int y4, .ref q_mo]) := by
  unfold f_M_move_238 at hf
  obtain ⟨hx, hb, hml, hown, hts, hr, hlocks⟩ := id cx
  refine va_put (D := (dC, dI)) (ci := kModel) (v := .int y4) (ty := .int) (C := R_Model) (T := T_Model) (N := 9) hx hb hts (fun w h => List.mem_cons_of_mem _ (in_Model w h)) ty_Model tyok_Model nm_Model hown hK hP hD hS 0 rfl rfl 0 (by decide) (jv_w hts wa_200) (fun _ h9 => h9) rfl (by decide +kernel) rfl rfl (Nat.le_of_ble_eq_true rfl) d_M_move_238 (fun H locs hP hD hS => ?_)
  have hP : va_P (dC, dI) vwCl (w_model cI q_mo q_mlb_ q_mcl_ q_mus_ q_mwr_ q_mdk_ q_mcp_ y4 mar y6 mLb mCl y7 y8 y9 y10) H := hP
  have hD : va_D A (w_model cI q_mo q_mlb_ q_mcl_ q_mus_ q_mwr_ q_mdk_ q_mcp_ y4 mar y6 mLb mCl y7 y8 y9 y10) := hD
  refine lv_aload_n hx hb d_M_move_241 rfl (lv_at hl 0 rfl) ?_
  refine va_get (D := (dC, dI)) (ci := kModel) (v := .int y4) (C := R_Model) (T := T_Model) (N := 9) hx hb hts (fun w h => List.mem_cons_of_mem _ (in_Model w h)) hown hK hP 0 rfl rfl 0 (by decide) (jv_w hts wa_200) (fun _ h9 => h9) rfl d_M_move_242 ?_
  refine lv_if_le (tgt := 250) hx hb d_M_move_245 (by decide) (fun hc => ?_) (fun hc => ?_)
  · have hf := jv_it hf hc
    refine lv_aload_n hx hb d_M_move_250 rfl (lv_at hl 0 rfl) ?_
    refine lv_iload hx hb d_M_move_251 (lv_at hl 2 rfl) ?_
    obtain ⟨x19, g20, hf⟩ := jv_ob hf
    have hPc := hP.sub (ws' := (w_model cI q_mo q_mlb_ q_mcl_ q_mus_ q_mwr_ q_mdk_ q_mcp_ y4 mar y6 mLb mCl y7 y8 y9 y10)) [0, 1, 2, 3, 4, 5, 6] rfl
    have hDc := hD.sub (ws' := (w_model cI q_mo q_mlb_ q_mcl_ q_mus_ q_mwr_ q_mdk_ q_mcp_ y4 mar y6 mLb mCl y7 y8 y9 y10)) [0, 1, 2, 3, 4, 5, 6] (by decide) rfl
    have hFc := va_free (wc := (w_model cI q_mo q_mlb_ q_mcl_ q_mus_ q_mwr_ q_mdk_ q_mcp_ y4 mar y6 mLb mCl y7 y8 y9 y10)) hD hS hA [0, 1, 2, 3, 4, 5, 6] rfl
    refine jv_cwv (va_runV (As := [.int y1]) (rest := []) (b := q_mo) ⟨hx, hb, hml, hown, hts⟩ (c_M_start l dC dI cI cA cL q_mo q_mlb_ q_mcl_ q_mus_ q_mwr_ q_mdk_ q_mcp_ y4 mar y6 mLb mCl y7 y8 y9 y10 y1 H.size x19 g20) (jv_cwV hts wa_257 wa_194 wa_258 wa_259 wa_260 rfl rfl yd_M_start ⟨Nat.le_of_ble_eq_true rfl, Nat.le_of_ble_eq_true rfl⟩) (jv_preVW hK hPc hDc 0 rfl rfl) rfl rfl hl.1 rfl (lv_room (Nat.le_of_ble_eq_true rfl)) d_M_move_253 ⟨Nat.zero_le _, Nat.zero_le _⟩) hS hFc (fun H1 locs hP1 hD1 hk1 hS => ?_)
    have hP : va_P (dC, dI) vwCl (w_model cI q_mo q_mlb_ q_mcl_ q_mus_ q_mwr_ q_mdk_ q_mcp_ y4 mar y6 mLb mCl y7 y8 y9 x19) H1 := hP1.sub [0, 1, 2, 3, 4, 5, 6] rfl
    have hD : va_D A (w_model cI q_mo q_mlb_ q_mcl_ q_mus_ q_mwr_ q_mdk_ q_mcp_ y4 mar y6 mLb mCl y7 y8 y9 x19) := (hD1.weaken (fun _ q _ h => hFc q.1 h)).sub [0, 1, 2, 3, 4, 5, 6] (by decide) rfl
    generalize H1 = H at hP hS ⊢
    refine lv_aload_n hx hb d_M_move_256 rfl (lv_at hl 0 rfl) ?_
    refine va_get (D := (dC, dI)) (ci := kModel) (v := .ref q_mcp_) (C := R_Model) (T := T_Model) (N := 9) hx hb hts (fun w h => List.mem_cons_of_mem _ (in_Model w h)) hown hK hP 0 rfl rfl 7 (by decide) (jv_w hts wa_238) (fun _ h9 => h9) rfl d_M_move_257 ?_
    refine lv_bipush (v := (8 : Int32)) hx hb d_M_move_260 (by decide) ?_
    refine lv_bipush (v := (8 : Int32)) hx hb d_M_move_262 (by decide) ?_
    refine lv_iload hx hb d_M_move_264 (lv_at hl 3 rfl) ?_
    refine lv_imul hx hb d_M_move_266 ?_
    refine lv_iadd hx hb d_M_move_267 ?_
    refine lv_iconst (v := (1 : Int32)) hx hb d_M_move_268 (by decide) ?_
    refine lv_iadd hx hb d_M_move_269 ?_
    refine lv_iload hx hb d_M_move_270 (lv_at hl 4 rfl) ?_
    obtain ⟨F21, g22, hf⟩ := jv_ob hf
    refine jv_iast hx hb hK hP hD hS 6 0 rfl rfl g22 d_M_move_272 (fun H locs hP hD hS => ?_)
    have hP : va_P (dC, dI) vwCl (w_model cI q_mo q_mlb_ q_mcl_ q_mus_ q_mwr_ q_mdk_ q_mcp_ y4 mar y6 mLb mCl y7 y8 y9 F21) H := hP
    have hD : va_D A (w_model cI q_mo q_mlb_ q_mcl_ q_mus_ q_mwr_ q_mdk_ q_mcp_ y4 mar y6 mLb mCl y7 y8 y9 F21) := hD
    refine lv_aload_n hx hb d_M_move_273 rfl (lv_at hl 0 rfl) ?_
    refine va_get (D := (dC, dI)) (ci := kModel) (v := .ref q_mcp_) (C := R_Model) (T := T_Model) (N := 9) hx hb hts (fun w h => List.mem_cons_of_mem _ (in_Model w h)) hown hK hP 0 rfl rfl 7 (by decide) (jv_w hts wa_238) (fun _ h9 => h9) rfl d_M_move_274 ?_
    refine lv_bipush (v := (8 : Int32)) hx hb d_M_move_277 (by decide) ?_
    refine lv_bipush (v := (8 : Int32)) hx hb d_M_move_279 (by decide) ?_
    refine lv_iload hx hb d_M_move_281 (lv_at hl 3 rfl) ?_
    refine lv_imul hx hb d_M_move_283 ?_
    refine lv_iadd hx hb d_M_move_284 ?_
    refine lv_iconst (v := (2 : Int32)) hx hb d_M_move_285 (by decide) ?_
    refine lv_iadd hx hb d_M_move_286 ?_
    refine lv_iload_n hx hb d_M_move_287 rfl (lv_at hl 1 rfl) ?_
    refine lv_bipush (v := (32 : Int32)) hx hb d_M_move_288 (by decide) ?_
    refine lv_irem hx hb d_M_move_290 (by decide) ?_
    obtain ⟨F23, g24, hf⟩ := jv_ob hf
    refine jv_iast hx hb hK hP hD hS 6 0 rfl rfl g24 d_M_move_291 (fun H locs hP hD hS => ?_)
    have hP : va_P (dC, dI) vwCl (w_model cI q_mo q_mlb_ q_mcl_ q_mus_ q_mwr_ q_mdk_ q_mcp_ y4 mar y6 mLb mCl y7 y8 y9 F23) H := hP
    have hD : va_D A (w_model cI q_mo q_mlb_ q_mcl_ q_mus_ q_mwr_ q_mdk_ q_mcp_ y4 mar y6 mLb mCl y7 y8 y9 F23) := hD
    refine lv_aload_n hx hb d_M_move_292 rfl (lv_at hl 0 rfl) ?_
    refine lv_iload hx hb d_M_move_293 (lv_at hl 2 rfl) ?_
    refine lv_iload hx hb d_M_move_295 (lv_at hl 3 rfl) ?_
    obtain ⟨x25, g26, hf⟩ := jv_ob hf
    have hPc := hP.sub (ws' := (w_model cI q_mo q_mlb_ q_mcl_ q_mus_ q_mwr_ q_mdk_ q_mcp_ y4 mar y6 mLb mCl y7 y8 y9 F23)) [0, 1, 2, 3, 4, 5, 6] rfl
    have hDc := hD.sub (ws' := (w_model cI q_mo q_mlb_ q_mcl_ q_mus_ q_mwr_ q_mdk_ q_mcp_ y4 mar y6 mLb mCl y7 y8 y9 F23)) [0, 1, 2, 3, 4, 5, 6] (by decide) rfl
    have hFc := va_free (wc := (w_model cI q_mo q_mlb_ q_mcl_ q_mus_ q_mwr_ q_mdk_ q_mcp_ y4 mar y6 mLb mCl y7 y8 y9 F23)) hD hS hA [0, 1, 2, 3, 4, 5, 6] rfl
    refine jv_cwi (va_runV (As := [.int y1, .int y2]) (rest := []) (b := q_mo) ⟨hx, hb, hml, hown, hts⟩ (c_M_finish l dC dI cI cA cL q_mo q_mlb_ q_mcl_ q_mus_ q_mwr_ q_mdk_ q_mcp_ y4 mar y6 mLb mCl y7 y8 y9 F23 y1 y2 H.size x25 g26) (jv_cwV hts wa_261 wa_194 wa_262 wa_263 wa_264 rfl rfl yd_M_finish ⟨Nat.le_of_ble_eq_true rfl, Nat.le_of_ble_eq_true rfl⟩) (jv_preVW hK hPc hDc 0 rfl rfl) rfl rfl hl.1 rfl (lv_room (Nat.le_of_ble_eq_true rfl)) d_M_move_297 ⟨Nat.zero_le _, Nat.zero_le _⟩) hS hFc (fun H1 locs hP1 hD1 hk1 hS => ?_)
    have hP : va_P (dC, dI) vwCl (w_model cI q_mo q_mlb_ q_mcl_ q_mus_ q_mwr_ q_mdk_ q_mcp_ y4 mar x25.2.1 mLb mCl x25.2.2.1 x25.2.2.2.1 x25.2.2.2.2 F23) H1 := hP1.sub [0, 1, 2, 3, 4, 5, 6] rfl
    have hD : va_D A (w_model cI q_mo q_mlb_ q_mcl_ q_mus_ q_mwr_ q_mdk_ q_mcp_ y4 mar x25.2.1 mLb mCl x25.2.2.1 x25.2.2.2.1 x25.2.2.2.2 F23) := (hD1.weaken (fun _ q _ h => hFc q.1 h)).sub [0, 1, 2, 3, 4, 5, 6] (by decide) rfl
    generalize H1 = H at hP hS ⊢
    obtain rfl := Option.some.inj hf
    exact W.iret hx hb hr (fun t ht hW => ⟨rfl, by rw [ht]; exact hP, hD, hS.F ht⟩) hS.2.2 d_M_move_300
  · have hf := jv_if hf hc
    refine lv_iconst (v := (0 : Int32)) hx hb d_M_move_248 (by decide) ?_
    obtain rfl := Option.some.inj hf
    exact W.iret hx hb hr (fun t ht hW => ⟨rfl, by rw [ht]; exact hP, hD, hS.F ht⟩) hS.2.2 d_M_move_249
def f_M_move_173 (mar : Int32) (mLb : Nat → Int32) (y0 : Int32) (y1 : Int32) (y2 : Int32) (y3 : Int32) (y4 : Int32) (y5 : Int32) (y6 : Int32) (y7 : Nat → Int32) (y8 : Nat → Int32) (y9 : Nat → Int32) (y10 : Nat → Int32) (k173 : (Int32 × Int32) → Option (Int32 × Int32 × Int32 × (Nat → Int32) × (Nat → Int32) × (Nat → Int32) × (Nat → Int32))) (a : Int32 × Int32) : Option (Int32 × Int32 × Int32 × (Nat → Int32) × (Nat → Int32) × (Nat → Int32) × (Nat → Int32)) :=
  if (8 : Int32) ≤ a.2 then (if a.1 = 0 then (f_M_move_238 mar mLb y0 y1 y2 y4 (0 : Int32) y5 y6 y7 y8 y9 y10) else (f_M_move_238 mar mLb y0 y1 y2 y4 (4 : Int32) y5 y6 y7 y8 y9 y10)) else (if a.1 = 0 then ((f_M_inode y9 y1 a.2 (0 : Int32)).bind fun x15 => if x15 ≤ 0 then (k173 ((0 : Int32), a.2 + (1 : Int32))) else ((f_M_below y9 y1 a.2 y2).bind fun x17 => if (y3 + x17) ≤ (4 : Int32) then (k173 ((0 : Int32), a.2 + (1 : Int32))) else (k173 ((1 : Int32), a.2 + (1 : Int32))))) else (k173 ((1 : Int32), a.2 + (1 : Int32))))
set_option maxHeartbeats 4000000 in
set_option maxRecDepth 100000 in
theorem b_M_move_173 {l : Launch} {dC : Nat → ClassId} {dI : Nat → Nat → Nat} {cI cA cL : ClassId} {q_mo q_mlb_ q_mcl_ q_mus_ q_mwr_ q_mdk_ q_mcp_ : Nat} {mar : Int32} {mLb : Nat → Int32} {mCl : Nat → Int32} {p : Program} {e : Env} {s : State} {m : MethodId} {args : Array Value} {below : List Frame} {meth : Method} {c : Code} (cx : jv_cx p s m args meth c cc_M_move 10 R_Model (some .int) ws_M_move) (hK : va_K (dC, dI) vwCl (jv_ty cI cA cL) s) {A : Nat → Prop} (hA : ∀ q : Nat, s.heap.size ≤ q → A q) {r : Int32 × Int32 × Int32 × (Nat → Int32) × (Nat → Int32) × (Nat → Int32) × (Nat → Int32)} {y0 : Int32} {y1 : Int32} {y2 : Int32} {y3 : Int32} {y4 : Int32} {y5 : Int32} {y6 : Int32} {y7 : Nat → Int32} {y8 : Nat → Int32} {y9 : Nat → Int32} {y10 : Nat → Int32} {k173 : (Int32 × Int32) → Option (Int32 × Int32 × Int32 × (Nat → Int32) × (Nat → Int32) × (Nat → Int32) × (Nat → Int32))} (hk173 : ∀ (a : Int32 × Int32) (ls : Array Slot) (H : Heap) (locs : List Loc), lv_has ls 10 [(0, .ref q_mo), (3, .int y0), (4, .int y1), (5, .int y2), (6, .int y3), (7, .int y4), (8, .int a.1), (9, .int a.2)] → va_P (dC, dI) vwCl (w_model cI q_mo q_mlb_ q_mcl_ q_mus_ q_mwr_ q_mdk_ q_mcp_ y5 mar y6 mLb mCl y7 y8 y9 y10) H → va_D A (w_model cI q_mo q_mlb_ q_mcl_ q_mus_ q_mwr_ q_mdk_ q_mcp_ y5 mar y6 mLb mCl y7 y8 y9 y10) → va_S A s.heap H locs → k173 a = some r → W p l e rm_M_move s m args below meth c H locs 0 0 (MQ below (jv_Qi r.1 (dC, dI) (w_model cI q_mo q_mlb_ q_mcl_ q_mus_ q_mwr_ q_mdk_ q_mcp_ r.2.1 mar r.2.2.1 mLb mCl r.2.2.2.1 r.2.2.2.2.1 r.2.2.2.2.2.1 r.2.2.2.2.2.2) A) args s 0 0 A) (F0 m 173 ls [])) {a : Int32 × Int32} {ls : Array Slot} (hl : lv_has ls 10 [(0, .ref q_mo), (3, .int y0), (4, .int y1), (5, .int y2), (6, .int y3), (7, .int y4), (8, .int a.1), (9, .int a.2)]) {H : Heap} {locs : List Loc} (hP : va_P (dC, dI) vwCl (w_model cI q_mo q_mlb_ q_mcl_ q_mus_ q_mwr_ q_mdk_ q_mcp_ y5 mar y6 mLb mCl y7 y8 y9 y10) H) (hD : va_D A (w_model cI q_mo q_mlb_ q_mcl_ q_mus_ q_mwr_ q_mdk_ q_mcp_ y5 mar y6 mLb mCl y7 y8 y9 y10)) (hS : va_S A s.heap H locs) (hf : f_M_move_173 mar mLb y0 y1 y2 y3 y4 y5 y6 y7 y8 y9 y10 k173 a = some r) : W p l e rm_M_move s m args below meth c H locs 0 0 (MQ below (jv_Qi r.1 (dC, dI) (w_model cI q_mo q_mlb_ q_mcl_ q_mus_ q_mwr_ q_mdk_ q_mcp_ r.2.1 mar r.2.2.1 mLb mCl r.2.2.2.1 r.2.2.2.2.1 r.2.2.2.2.2.1 r.2.2.2.2.2.2) A) args s 0 0 A) (F0 m 173 ls []) := by
  unfold f_M_move_173 at hf
  obtain ⟨hx, hb, hml, hown, hts, hr, hlocks⟩ := id cx
  refine lv_iload hx hb d_M_move_173 (lv_at hl 7 rfl) ?_
  refine lv_bipush (v := (8 : Int32)) hx hb d_M_move_175 (by decide) ?_
  refine lv_icmp_ge (tgt := 227) hx hb d_M_move_177 (by decide) (fun hc => ?_) (fun hc => ?_)
  · have hf := jv_it hf hc
    refine lv_aload_n hx hb d_M_move_227 rfl (lv_at hl 0 rfl) ?_
    refine lv_iload hx hb d_M_move_228 (lv_at hl 6 rfl) ?_
    refine lv_if_eq (tgt := 237) hx hb d_M_move_230 (by decide) (fun hc => ?_) (fun hc => ?_)
    · have hf := jv_it hf hc
      refine lv_iconst (v := (0 : Int32)) hx hb d_M_move_237 (by decide) ?_
      exact b_M_move_238 (y0 := y0) (y1 := y1) (y2 := y2) (y3 := y4) (y4 := (0 : Int32)) (y5 := y5) (y6 := y6) (y7 := y7) (y8 := y8) (y9 := y9) (y10 := y10) cx hK hA (lv_sub hl [0, 1, 2, 3, 5] rfl) hP hD hS hf
    · have hf := jv_if hf hc
      refine lv_iconst (v := (4 : Int32)) hx hb d_M_move_233 (by decide) ?_
      refine lv_goto (tgt := 238) hx hb d_M_move_234 (by decide) ?_
      exact b_M_move_238 (y0 := y0) (y1 := y1) (y2 := y2) (y3 := y4) (y4 := (4 : Int32)) (y5 := y5) (y6 := y6) (y7 := y7) (y8 := y8) (y9 := y9) (y10 := y10) cx hK hA (lv_sub hl [0, 1, 2, 3, 5] rfl) hP hD hS hf
  · have hf := jv_if hf hc
    refine lv_iload hx hb d_M_move_180 (lv_at hl 6 rfl) ?_
    refine lv_if_ne (tgt := 214) hx hb d_M_move_182 (by decide) (fun hc => ?_) (fun hc => ?_)
    · have hf := jv_if hf hc
      refine lv_iconst (v := (1 : Int32)) hx hb d_M_move_214 (by decide) ?_
      refine lv_goto (tgt := 219) hx hb d_M_move_215 (by decide) ?_
      refine lv_istore (lv' := [(8, .int (1 : Int32)), (0, .ref q_mo), (3, .int y0), (4, .int y1), (5, .int y2), (6, .int y3), (7, .int y4), (9, .int a.2)]) hx hb d_M_move_219 hl (by decide) rfl (fun ls hl => ?_)
      refine lv_iinc (k := 7) (v := a.2 + (1 : Int32)) (lv' := [(9, .int (a.2 + (1 : Int32))), (8, .int (1 : Int32)), (0, .ref q_mo), (3, .int y0), (4, .int y1), (5, .int y2), (6, .int y3), (7, .int y4)]) hx hb d_M_move_221 hl rfl (jv_inc _) (by decide) rfl (fun ls hl => ?_)
      refine lv_goto (tgt := 173) hx hb d_M_move_224 (by decide) ?_
      exact hk173 ((1 : Int32), a.2 + (1 : Int32)) _ _ _ (lv_sub hl [2, 3, 4, 5, 6, 7, 1, 0] rfl) hP hD hS hf
    · have hf := jv_it hf hc
      refine lv_aload_n hx hb d_M_move_185 rfl (lv_at hl 0 rfl) ?_
      refine lv_iload hx hb d_M_move_186 (lv_at hl 2 rfl) ?_
      refine lv_iload hx hb d_M_move_188 (lv_at hl 7 rfl) ?_
      refine lv_iconst (v := (0 : Int32)) hx hb d_M_move_190 (by decide) ?_
      obtain ⟨x15, g16, hf⟩ := jv_ob hf
      have hPc := hP.sub (ws' := (w_model cI q_mo q_mlb_ q_mcl_ q_mus_ q_mwr_ q_mdk_ q_mcp_ y5 mar y6 mLb mCl y7 y8 y9 y10)) [0, 1, 2, 3, 4, 5, 6] rfl
      refine jv_cs (W.runV (As := [.int y1, .int a.2, .int (0 : Int32)]) (rest := []) (b := q_mo) ⟨hx, hb, hml, hown, hts⟩ (c_M_inode l dC dI cI cA cL q_mo q_mlb_ q_mcl_ q_mus_ q_mwr_ q_mdk_ q_mcp_ y5 mar y6 mLb mCl y7 y8 y9 y10 y1 a.2 (0 : Int32) x15 g16) (jv_cwV hts wa_207 wa_194 wa_208 wa_209 wa_210 rfl rfl yd_M_inode ⟨Nat.le_of_ble_eq_true rfl, Nat.le_of_ble_eq_true rfl⟩) (jv_preV hK hPc 0 rfl rfl) rfl rfl hl.1 rfl (lv_room (Nat.le_of_ble_eq_true rfl)) d_M_move_191 ⟨Nat.zero_le _, Nat.zero_le _⟩) ?_
      refine lv_if_le (tgt := 218) hx hb d_M_move_194 (by decide) (fun hc => ?_) (fun hc => ?_)
      · have hf := jv_it hf hc
        refine lv_iconst (v := (0 : Int32)) hx hb d_M_move_218 (by decide) ?_
        refine lv_istore (lv' := [(8, .int (0 : Int32)), (0, .ref q_mo), (3, .int y0), (4, .int y1), (5, .int y2), (6, .int y3), (7, .int y4), (9, .int a.2)]) hx hb d_M_move_219 hl (by decide) rfl (fun ls hl => ?_)
        refine lv_iinc (k := 7) (v := a.2 + (1 : Int32)) (lv' := [(9, .int (a.2 + (1 : Int32))), (8, .int (0 : Int32)), (0, .ref q_mo), (3, .int y0), (4, .int y1), (5, .int y2), (6, .int y3), (7, .int y4)]) hx hb d_M_move_221 hl rfl (jv_inc _) (by decide) rfl (fun ls hl => ?_)
        refine lv_goto (tgt := 173) hx hb d_M_move_224 (by decide) ?_
        exact hk173 ((0 : Int32), a.2 + (1 : Int32)) _ _ _ (lv_sub hl [2, 3, 4, 5, 6, 7, 1, 0] rfl) hP hD hS hf
      · have hf := jv_if hf hc
        refine lv_iload hx hb d_M_move_197 (lv_at hl 4 rfl) ?_
        refine lv_aload_n hx hb d_M_move_199 rfl (lv_at hl 0 rfl) ?_
        refine lv_iload hx hb d_M_move_200 (lv_at hl 2 rfl) ?_
        refine lv_iload hx hb d_M_move_202 (lv_at hl 7 rfl) ?_
        refine lv_iload hx hb d_M_move_204 (lv_at hl 3 rfl) ?_
        obtain ⟨x17, g18, hf⟩ := jv_ob hf
        have hPc := hP.sub (ws' := (w_model cI q_mo q_mlb_ q_mcl_ q_mus_ q_mwr_ q_mdk_ q_mcp_ y5 mar y6 mLb mCl y7 y8 y9 y10)) [0, 1, 2, 3, 4, 5, 6] rfl
        refine jv_cs (W.runV (As := [.int y1, .int a.2, .int y2]) (rest := [.int y3]) (b := q_mo) ⟨hx, hb, hml, hown, hts⟩ (c_M_below l dC dI cI cA cL q_mo q_mlb_ q_mcl_ q_mus_ q_mwr_ q_mdk_ q_mcp_ y5 mar y6 mLb mCl y7 y8 y9 y10 y1 a.2 y2 x17 g18) (jv_cwV hts wa_289 wa_194 wa_290 wa_291 wa_292 rfl rfl yd_M_below ⟨Nat.le_of_ble_eq_true rfl, Nat.le_of_ble_eq_true rfl⟩) (jv_preV hK hPc 0 rfl rfl) rfl rfl hl.1 rfl (lv_room (Nat.le_of_ble_eq_true rfl)) d_M_move_206 ⟨Nat.zero_le _, Nat.zero_le _⟩) ?_
        refine lv_iadd hx hb d_M_move_209 ?_
        refine lv_iconst (v := (4 : Int32)) hx hb d_M_move_210 (by decide) ?_
        refine lv_icmp_le (tgt := 218) hx hb d_M_move_211 (by decide) (fun hc => ?_) (fun hc => ?_)
        · have hf := jv_it hf hc
          refine lv_iconst (v := (0 : Int32)) hx hb d_M_move_218 (by decide) ?_
          refine lv_istore (lv' := [(8, .int (0 : Int32)), (0, .ref q_mo), (3, .int y0), (4, .int y1), (5, .int y2), (6, .int y3), (7, .int y4), (9, .int a.2)]) hx hb d_M_move_219 hl (by decide) rfl (fun ls hl => ?_)
          refine lv_iinc (k := 7) (v := a.2 + (1 : Int32)) (lv' := [(9, .int (a.2 + (1 : Int32))), (8, .int (0 : Int32)), (0, .ref q_mo), (3, .int y0), (4, .int y1), (5, .int y2), (6, .int y3), (7, .int y4)]) hx hb d_M_move_221 hl rfl (jv_inc _) (by decide) rfl (fun ls hl => ?_)
          refine lv_goto (tgt := 173) hx hb d_M_move_224 (by decide) ?_
          exact hk173 ((0 : Int32), a.2 + (1 : Int32)) _ _ _ (lv_sub hl [2, 3, 4, 5, 6, 7, 1, 0] rfl) hP hD hS hf
        · have hf := jv_if hf hc
          refine lv_iconst (v := (1 : Int32)) hx hb d_M_move_214 (by decide) ?_
          refine lv_goto (tgt := 219) hx hb d_M_move_215 (by decide) ?_
          refine lv_istore (lv' := [(8, .int (1 : Int32)), (0, .ref q_mo), (3, .int y0), (4, .int y1), (5, .int y2), (6, .int y3), (7, .int y4), (9, .int a.2)]) hx hb d_M_move_219 hl (by decide) rfl (fun ls hl => ?_)
          refine lv_iinc (k := 7) (v := a.2 + (1 : Int32)) (lv' := [(9, .int (a.2 + (1 : Int32))), (8, .int (1 : Int32)), (0, .ref q_mo), (3, .int y0), (4, .int y1), (5, .int y2), (6, .int y3), (7, .int y4)]) hx hb d_M_move_221 hl rfl (jv_inc _) (by decide) rfl (fun ls hl => ?_)
          refine lv_goto (tgt := 173) hx hb d_M_move_224 (by decide) ?_
          exact hk173 ((1 : Int32), a.2 + (1 : Int32)) _ _ _ (lv_sub hl [2, 3, 4, 5, 6, 7, 1, 0] rfl) hP hD hS hf
set_option maxHeartbeats 4000000 in
set_option maxRecDepth 100000 in
theorem l_M_move_173 {l : Launch} {dC : Nat → ClassId} {dI : Nat → Nat → Nat} {cI cA cL : ClassId} {q_mo q_mlb_ q_mcl_ q_mus_ q_mwr_ q_mdk_ q_mcp_ : Nat} {mar : Int32} {mLb : Nat → Int32} {mCl : Nat → Int32} {p : Program} {e : Env} {s : State} {m : MethodId} {args : Array Value} {below : List Frame} {meth : Method} {c : Code} (cx : jv_cx p s m args meth c cc_M_move 10 R_Model (some .int) ws_M_move) (hK : va_K (dC, dI) vwCl (jv_ty cI cA cL) s) {A : Nat → Prop} (hA : ∀ q : Nat, s.heap.size ≤ q → A q) {r : Int32 × Int32 × Int32 × (Nat → Int32) × (Nat → Int32) × (Nat → Int32) × (Nat → Int32)} {y0 : Int32} {y1 : Int32} {y2 : Int32} {y3 : Int32} {y4 : Int32} {y5 : Int32} {y6 : Int32} {y7 : Nat → Int32} {y8 : Nat → Int32} {y9 : Nat → Int32} {y10 : Nat → Int32} : ∀ n : Nat, ∀ (a : Int32 × Int32) (ls : Array Slot) (H : Heap) (locs : List Loc), lv_has ls 10 [(0, .ref q_mo), (3, .int y0), (4, .int y1), (5, .int y2), (6, .int y3), (7, .int y4), (8, .int a.1), (9, .int a.2)] → va_P (dC, dI) vwCl (w_model cI q_mo q_mlb_ q_mcl_ q_mus_ q_mwr_ q_mdk_ q_mcp_ y5 mar y6 mLb mCl y7 y8 y9 y10) H → va_D A (w_model cI q_mo q_mlb_ q_mcl_ q_mus_ q_mwr_ q_mdk_ q_mcp_ y5 mar y6 mLb mCl y7 y8 y9 y10) → va_S A s.heap H locs → jv_fx (f_M_move_173 mar mLb y0 y1 y2 y3 y4 y5 y6 y7 y8 y9 y10) n a = some r → W p l e rm_M_move s m args below meth c H locs 0 0 (MQ below (jv_Qi r.1 (dC, dI) (w_model cI q_mo q_mlb_ q_mcl_ q_mus_ q_mwr_ q_mdk_ q_mcp_ r.2.1 mar r.2.2.1 mLb mCl r.2.2.2.1 r.2.2.2.2.1 r.2.2.2.2.2.1 r.2.2.2.2.2.2) A) args s 0 0 A) (F0 m 173 ls []) := by
  intro n
  induction n with
  | zero => intro a ls H locs hl hP hD hS hf; exact jv_no hf
  | succ n ih => intro a ls H locs hl hP hD hS hf; exact b_M_move_173 cx hK hA ih hl hP hD hS hf
def f_M_move_155 (mar : Int32) (mLb : Nat → Int32) (y0 : Int32) (y1 : Int32) (y2 : Int32) (y3 : Int32) (y4 : Int32) (y5 : Int32) (y6 : Int32) (y7 : Int32) (y8 : Int32) (y9 : Nat → Int32) (y10 : Nat → Int32) (y11 : Nat → Int32) (y12 : Nat → Int32) : Option (Int32 × Int32 × Int32 × (Nat → Int32) × (Nat → Int32) × (Nat → Int32) × (Nat → Int32)) :=
  (f_M_below y11 y6 y5 y2).bind fun x29 => if x29 < 0 then (jv_fx (f_M_move_173 mar mLb y0 y1 y2 y3 y4 y7 y8 y9 y10 y11 y12) 300 ((0 : Int32), (1 : Int32))) else (jv_fx (f_M_move_173 mar mLb y0 y1 y2 y3 y4 y7 y8 y9 y10 y11 y12) 300 ((1 : Int32), (1 : Int32)))
set_option maxHeartbeats 4000000 in
set_option maxRecDepth 100000 in
theorem b_M_move_155 {l : Launch} {dC : Nat → ClassId} {dI : Nat → Nat → Nat} {cI cA cL : ClassId} {q_mo q_mlb_ q_mcl_ q_mus_ q_mwr_ q_mdk_ q_mcp_ : Nat} {mar : Int32} {mLb : Nat → Int32} {mCl : Nat → Int32} {p : Program} {e : Env} {s : State} {m : MethodId} {args : Array Value} {below : List Frame} {meth : Method} {c : Code} (cx : jv_cx p s m args meth c cc_M_move 10 R_Model (some .int) ws_M_move) (hK : va_K (dC, dI) vwCl (jv_ty cI cA cL) s) {A : Nat → Prop} (hA : ∀ q : Nat, s.heap.size ≤ q → A q) {r : Int32 × Int32 × Int32 × (Nat → Int32) × (Nat → Int32) × (Nat → Int32) × (Nat → Int32)} {y0 : Int32} {y1 : Int32} {y2 : Int32} {y3 : Int32} {y4 : Int32} {y5 : Int32} {y6 : Int32} {y7 : Int32} {y8 : Int32} {y9 : Nat → Int32} {y10 : Nat → Int32} {y11 : Nat → Int32} {y12 : Nat → Int32} {ls : Array Slot} (hl : lv_has ls 10 [(0, .ref q_mo), (3, .int y0), (4, .int y1), (5, .int y2), (6, .int y3), (7, .int y4)]) {H : Heap} {locs : List Loc} (hP : va_P (dC, dI) vwCl (w_model cI q_mo q_mlb_ q_mcl_ q_mus_ q_mwr_ q_mdk_ q_mcp_ y7 mar y8 mLb mCl y9 y10 y11 y12) H) (hD : va_D A (w_model cI q_mo q_mlb_ q_mcl_ q_mus_ q_mwr_ q_mdk_ q_mcp_ y7 mar y8 mLb mCl y9 y10 y11 y12)) (hS : va_S A s.heap H locs) (hf : f_M_move_155 mar mLb y0 y1 y2 y3 y4 y5 y6 y7 y8 y9 y10 y11 y12 = some r) : W p l e rm_M_move s m args below meth c H locs 0 0 (MQ below (jv_Qi r.1 (dC, dI) (w_model cI q_mo q_mlb_ q_mcl_ q_mus_ q_mwr_ q_mdk_ q_mcp_ r.2.1 mar r.2.2.1 mLb mCl r.2.2.2.1 r.2.2.2.2.1 r.2.2.2.2.2.1 r.2.2.2.2.2.2) A) args s 0 0 A) (F0 m 155 ls [.int y5, .int y6, .ref q_mo]) := by
  unfold f_M_move_155 at hf
  obtain ⟨hx, hb, hml, hown, hts, hr, hlocks⟩ := id cx
  refine lv_iload hx hb d_M_move_155 (lv_at hl 3 rfl) ?_
  obtain ⟨x29, g30, hf⟩ := jv_ob hf
  have hPc := hP.sub (ws' := (w_model cI q_mo q_mlb_ q_mcl_ q_mus_ q_mwr_ q_mdk_ q_mcp_ y7 mar y8 mLb mCl y9 y10 y11 y12)) [0, 1, 2, 3, 4, 5, 6] rfl
  refine jv_cs (W.runV (As := [.int y6, .int y5, .int y2]) (rest := []) (b := q_mo) ⟨hx, hb, hml, hown, hts⟩ (c_M_below l dC dI cI cA cL q_mo q_mlb_ q_mcl_ q_mus_ q_mwr_ q_mdk_ q_mcp_ y7 mar y8 mLb mCl y9 y10 y11 y12 y6 y5 y2 x29 g30) (jv_cwV hts wa_289 wa_194 wa_290 wa_291 wa_292 rfl rfl yd_M_below ⟨Nat.le_of_ble_eq_true rfl, Nat.le_of_ble_eq_true rfl⟩) (jv_preV hK hPc 0 rfl rfl) rfl rfl hl.1 rfl (lv_room (Nat.le_of_ble_eq_true rfl)) d_M_move_157 ⟨Nat.zero_le _, Nat.zero_le _⟩) ?_
  refine lv_if_lt (tgt := 167) hx hb d_M_move_160 (by decide) (fun hc => ?_) (fun hc => ?_)
  · have hf := jv_it hf hc
    refine lv_iconst (v := (0 : Int32)) hx hb d_M_move_167 (by decide) ?_
    refine lv_istore (lv' := [(8, .int (0 : Int32)), (0, .ref q_mo), (3, .int y0), (4, .int y1), (5, .int y2), (6, .int y3), (7, .int y4)]) hx hb d_M_move_168 hl (by decide) rfl (fun ls hl => ?_)
    refine lv_iconst (v := (1 : Int32)) hx hb d_M_move_170 (by decide) ?_
    refine lv_istore (lv' := [(9, .int (1 : Int32)), (8, .int (0 : Int32)), (0, .ref q_mo), (3, .int y0), (4, .int y1), (5, .int y2), (6, .int y3), (7, .int y4)]) hx hb d_M_move_171 hl (by decide) rfl (fun ls hl => ?_)
    exact l_M_move_173 (y0 := y0) (y1 := y1) (y2 := y2) (y3 := y3) (y4 := y4) (y5 := y7) (y6 := y8) (y7 := y9) (y8 := y10) (y9 := y11) (y10 := y12) cx hK hA 300 ((0 : Int32), (1 : Int32)) _ _ _ (lv_sub hl [2, 3, 4, 5, 6, 7, 1, 0] rfl) hP hD hS hf
  · have hf := jv_if hf hc
    refine lv_iconst (v := (1 : Int32)) hx hb d_M_move_163 (by decide) ?_
    refine lv_goto (tgt := 168) hx hb d_M_move_164 (by decide) ?_
    refine lv_istore (lv' := [(8, .int (1 : Int32)), (0, .ref q_mo), (3, .int y0), (4, .int y1), (5, .int y2), (6, .int y3), (7, .int y4)]) hx hb d_M_move_168 hl (by decide) rfl (fun ls hl => ?_)
    refine lv_iconst (v := (1 : Int32)) hx hb d_M_move_170 (by decide) ?_
    refine lv_istore (lv' := [(9, .int (1 : Int32)), (8, .int (1 : Int32)), (0, .ref q_mo), (3, .int y0), (4, .int y1), (5, .int y2), (6, .int y3), (7, .int y4)]) hx hb d_M_move_171 hl (by decide) rfl (fun ls hl => ?_)
    exact l_M_move_173 (y0 := y0) (y1 := y1) (y2 := y2) (y3 := y3) (y4 := y4) (y5 := y7) (y6 := y8) (y7 := y9) (y8 := y10) (y9 := y11) (y10 := y12) cx hK hA 300 ((1 : Int32), (1 : Int32)) _ _ _ (lv_sub hl [2, 3, 4, 5, 6, 7, 1, 0] rfl) hP hD hS hf
def f_M_move_133 (mar : Int32) (mLb : Nat → Int32) (y0 : Int32) (y1 : Int32) (y2 : Int32) (y3 : Int32) (y4 : Int32) (y5 : Int32) (y6 : Int32) (y7 : Int32) (y8 : Int32) (y9 : Nat → Int32) (y10 : Nat → Int32) (y11 : Nat → Int32) (y12 : Nat → Int32) : Option (Int32 × Int32 × Int32 × (Nat → Int32) × (Nat → Int32) × (Nat → Int32) × (Nat → Int32)) :=
  (f_M_inode y11 y6 y5 (0 : Int32)).bind fun x27 => if x27 = (1 : Int32) then (if 0 ≤ y4 then (f_M_move_155 mar mLb y0 y1 y2 y3 y4 y4 y1 y7 y8 y9 y10 y11 y12) else (f_M_move_155 mar mLb y0 y1 y2 y3 y4 (0 : Int32) y1 y7 y8 y9 y10 y11 y12)) else (jv_fx (f_M_move_173 mar mLb y0 y1 y2 y3 y4 y7 y8 y9 y10 y11 y12) 300 ((1 : Int32), (1 : Int32)))
set_option maxHeartbeats 4000000 in
set_option maxRecDepth 100000 in
theorem b_M_move_133 {l : Launch} {dC : Nat → ClassId} {dI : Nat → Nat → Nat} {cI cA cL : ClassId} {q_mo q_mlb_ q_mcl_ q_mus_ q_mwr_ q_mdk_ q_mcp_ : Nat} {mar : Int32} {mLb : Nat → Int32} {mCl : Nat → Int32} {p : Program} {e : Env} {s : State} {m : MethodId} {args : Array Value} {below : List Frame} {meth : Method} {c : Code} (cx : jv_cx p s m args meth c cc_M_move 10 R_Model (some .int) ws_M_move) (hK : va_K (dC, dI) vwCl (jv_ty cI cA cL) s) {A : Nat → Prop} (hA : ∀ q : Nat, s.heap.size ≤ q → A q) {r : Int32 × Int32 × Int32 × (Nat → Int32) × (Nat → Int32) × (Nat → Int32) × (Nat → Int32)} {y0 : Int32} {y1 : Int32} {y2 : Int32} {y3 : Int32} {y4 : Int32} {y5 : Int32} {y6 : Int32} {y7 : Int32} {y8 : Int32} {y9 : Nat → Int32} {y10 : Nat → Int32} {y11 : Nat → Int32} {y12 : Nat → Int32} {ls : Array Slot} (hl : lv_has ls 10 [(0, .ref q_mo), (3, .int y0), (4, .int y1), (5, .int y2), (6, .int y3), (7, .int y4)]) {H : Heap} {locs : List Loc} (hP : va_P (dC, dI) vwCl (w_model cI q_mo q_mlb_ q_mcl_ q_mus_ q_mwr_ q_mdk_ q_mcp_ y7 mar y8 mLb mCl y9 y10 y11 y12) H) (hD : va_D A (w_model cI q_mo q_mlb_ q_mcl_ q_mus_ q_mwr_ q_mdk_ q_mcp_ y7 mar y8 mLb mCl y9 y10 y11 y12)) (hS : va_S A s.heap H locs) (hf : f_M_move_133 mar mLb y0 y1 y2 y3 y4 y5 y6 y7 y8 y9 y10 y11 y12 = some r) : W p l e rm_M_move s m args below meth c H locs 0 0 (MQ below (jv_Qi r.1 (dC, dI) (w_model cI q_mo q_mlb_ q_mcl_ q_mus_ q_mwr_ q_mdk_ q_mcp_ r.2.1 mar r.2.2.1 mLb mCl r.2.2.2.1 r.2.2.2.2.1 r.2.2.2.2.2.1 r.2.2.2.2.2.2) A) args s 0 0 A) (F0 m 133 ls [.int y5, .int y6, .ref q_mo]) := by
  unfold f_M_move_133 at hf
  obtain ⟨hx, hb, hml, hown, hts, hr, hlocks⟩ := id cx
  refine lv_iconst (v := (0 : Int32)) hx hb d_M_move_133 (by decide) ?_
  obtain ⟨x27, g28, hf⟩ := jv_ob hf
  have hPc := hP.sub (ws' := (w_model cI q_mo q_mlb_ q_mcl_ q_mus_ q_mwr_ q_mdk_ q_mcp_ y7 mar y8 mLb mCl y9 y10 y11 y12)) [0, 1, 2, 3, 4, 5, 6] rfl
  refine jv_cs (W.runV (As := [.int y6, .int y5, .int (0 : Int32)]) (rest := []) (b := q_mo) ⟨hx, hb, hml, hown, hts⟩ (c_M_inode l dC dI cI cA cL q_mo q_mlb_ q_mcl_ q_mus_ q_mwr_ q_mdk_ q_mcp_ y7 mar y8 mLb mCl y9 y10 y11 y12 y6 y5 (0 : Int32) x27 g28) (jv_cwV hts wa_207 wa_194 wa_208 wa_209 wa_210 rfl rfl yd_M_inode ⟨Nat.le_of_ble_eq_true rfl, Nat.le_of_ble_eq_true rfl⟩) (jv_preV hK hPc 0 rfl rfl) rfl rfl hl.1 rfl (lv_room (Nat.le_of_ble_eq_true rfl)) d_M_move_134 ⟨Nat.zero_le _, Nat.zero_le _⟩) ?_
  refine lv_iconst (v := (1 : Int32)) hx hb d_M_move_137 (by decide) ?_
  refine lv_icmp_ne (tgt := 163) hx hb d_M_move_138 (by decide) (fun hc => ?_) (fun hc => ?_)
  · have hf := jv_if hf hc
    refine lv_iconst (v := (1 : Int32)) hx hb d_M_move_163 (by decide) ?_
    refine lv_goto (tgt := 168) hx hb d_M_move_164 (by decide) ?_
    refine lv_istore (lv' := [(8, .int (1 : Int32)), (0, .ref q_mo), (3, .int y0), (4, .int y1), (5, .int y2), (6, .int y3), (7, .int y4)]) hx hb d_M_move_168 hl (by decide) rfl (fun ls hl => ?_)
    refine lv_iconst (v := (1 : Int32)) hx hb d_M_move_170 (by decide) ?_
    refine lv_istore (lv' := [(9, .int (1 : Int32)), (8, .int (1 : Int32)), (0, .ref q_mo), (3, .int y0), (4, .int y1), (5, .int y2), (6, .int y3), (7, .int y4)]) hx hb d_M_move_171 hl (by decide) rfl (fun ls hl => ?_)
    exact l_M_move_173 (y0 := y0) (y1 := y1) (y2 := y2) (y3 := y3) (y4 := y4) (y5 := y7) (y6 := y8) (y7 := y9) (y8 := y10) (y9 := y11) (y10 := y12) cx hK hA 300 ((1 : Int32), (1 : Int32)) _ _ _ (lv_sub hl [2, 3, 4, 5, 6, 7, 1, 0] rfl) hP hD hS hf
  · have hf := jv_it hf hc
    refine lv_aload_n hx hb d_M_move_141 rfl (lv_at hl 0 rfl) ?_
    refine lv_iload hx hb d_M_move_142 (lv_at hl 2 rfl) ?_
    refine lv_iload hx hb d_M_move_144 (lv_at hl 5 rfl) ?_
    refine lv_if_ge (tgt := 153) hx hb d_M_move_146 (by decide) (fun hc => ?_) (fun hc => ?_)
    · have hf := jv_it hf hc
      refine lv_iload hx hb d_M_move_153 (lv_at hl 5 rfl) ?_
      exact b_M_move_155 (y0 := y0) (y1 := y1) (y2 := y2) (y3 := y3) (y4 := y4) (y5 := y4) (y6 := y1) (y7 := y7) (y8 := y8) (y9 := y9) (y10 := y10) (y11 := y11) (y12 := y12) cx hK hA (lv_sub hl [0, 1, 2, 3, 4, 5] rfl) hP hD hS hf
    · have hf := jv_if hf hc
      refine lv_iconst (v := (0 : Int32)) hx hb d_M_move_149 (by decide) ?_
      refine lv_goto (tgt := 155) hx hb d_M_move_150 (by decide) ?_
      exact b_M_move_155 (y0 := y0) (y1 := y1) (y2 := y2) (y3 := y3) (y4 := y4) (y5 := (0 : Int32)) (y6 := y1) (y7 := y7) (y8 := y8) (y9 := y9) (y10 := y10) (y11 := y11) (y12 := y12) cx hK hA (lv_sub hl [0, 1, 2, 3, 4, 5] rfl) hP hD hS hf
def f_M_move_71 (mar : Int32) (mLb : Nat → Int32) (y0 : Int32) (y1 : Int32) (y2 : Int32) (y3 : Int32) (y4 : Int32) (y5 : Int32) (y6 : Nat → Int32) (y7 : Nat → Int32) (y8 : Nat → Int32) (y9 : Nat → Int32) : Option (Int32 × Int32 × Int32 × (Nat → Int32) × (Nat → Int32) × (Nat → Int32) × (Nat → Int32)) :=
  if y3 ≤ 0 then ((f_M_find y8 y2 y0).bind fun x7 => (f_M_names y1).bind fun x9 => (f_M_prefix y1 (x9 - (1 : Int32))).bind fun x11 => (f_M_find y8 y2 x11).bind fun x13 => if x13 < 0 then (jv_fx (f_M_move_173 mar mLb y1 y2 x7 x9 x13 y3 y5 y6 y7 y8 y9) 300 ((1 : Int32), (1 : Int32))) else (if 0 ≤ x13 then (f_M_move_133 mar mLb y1 y2 x7 x9 x13 x13 y2 y3 y5 y6 y7 y8 y9) else (f_M_move_133 mar mLb y1 y2 x7 x9 x13 (0 : Int32) y2 y3 y5 y6 y7 y8 y9))) else (some ((0 : Int32), y3, y5, y6, y7, y8, y9))
set_option maxHeartbeats 4000000 in
set_option maxRecDepth 100000 in
theorem b_M_move_71 {l : Launch} {dC : Nat → ClassId} {dI : Nat → Nat → Nat} {cI cA cL : ClassId} {q_mo q_mlb_ q_mcl_ q_mus_ q_mwr_ q_mdk_ q_mcp_ : Nat} {mar : Int32} {mLb : Nat → Int32} {mCl : Nat → Int32} {p : Program} {e : Env} {s : State} {m : MethodId} {args : Array Value} {below : List Frame} {meth : Method} {c : Code} (cx : jv_cx p s m args meth c cc_M_move 10 R_Model (some .int) ws_M_move) (hK : va_K (dC, dI) vwCl (jv_ty cI cA cL) s) {A : Nat → Prop} (hA : ∀ q : Nat, s.heap.size ≤ q → A q) {r : Int32 × Int32 × Int32 × (Nat → Int32) × (Nat → Int32) × (Nat → Int32) × (Nat → Int32)} {y0 : Int32} {y1 : Int32} {y2 : Int32} {y3 : Int32} {y4 : Int32} {y5 : Int32} {y6 : Nat → Int32} {y7 : Nat → Int32} {y8 : Nat → Int32} {y9 : Nat → Int32} {ls : Array Slot} (hl : lv_has ls 10 [(0, .ref q_mo), (2, .int y0), (3, .int y1), (4, .int y2)]) {H : Heap} {locs : List Loc} (hP : va_P (dC, dI) vwCl (w_model cI q_mo q_mlb_ q_mcl_ q_mus_ q_mwr_ q_mdk_ q_mcp_ y4 mar y5 mLb mCl y6 y7 y8 y9) H) (hD : va_D A (w_model cI q_mo q_mlb_ q_mcl_ q_mus_ q_mwr_ q_mdk_ q_mcp_ y4 mar y5 mLb mCl y6 y7 y8 y9)) (hS : va_S A s.heap H locs) (hf : f_M_move_71 mar mLb y0 y1 y2 y3 y4 y5 y6 y7 y8 y9 = some r) : W p l e rm_M_move s m args below meth c H locs 0 0 (MQ below (jv_Qi r.1 (dC, dI) (w_model cI q_mo q_mlb_ q_mcl_ q_mus_ q_mwr_ q_mdk_ q_mcp_ r.2.1 mar r.2.2.1 mLb mCl r.2.2.2.1 r.2.2.2.2.1 r.2.2.2.2.2.1 r.2.2.2.2.2.2) A) args s 0 0 A) (F0 m 71 ls [.int y3, .ref q_mo]) := by
  unfold f_M_move_71 at hf
  obtain ⟨hx, hb, hml, hown, hts, hr, hlocks⟩ := id cx
  refine va_put (D := (dC, dI)) (ci := kModel) (v := .int y3) (ty := .int) (C := R_Model) (T := T_Model) (N := 9) hx hb hts (fun w h => List.mem_cons_of_mem _ (in_Model w h)) ty_Model tyok_Model nm_Model hown hK hP hD hS 0 rfl rfl 0 (by decide) (jv_w hts wa_200) (fun _ h9 => h9) rfl (by decide +kernel) rfl rfl (Nat.le_of_ble_eq_true rfl) d_M_move_71 (fun H locs hP hD hS => ?_)
  have hP : va_P (dC, dI) vwCl (w_model cI q_mo q_mlb_ q_mcl_ q_mus_ q_mwr_ q_mdk_ q_mcp_ y3 mar y5 mLb mCl y6 y7 y8 y9) H := hP
  have hD : va_D A (w_model cI q_mo q_mlb_ q_mcl_ q_mus_ q_mwr_ q_mdk_ q_mcp_ y3 mar y5 mLb mCl y6 y7 y8 y9) := hD
  refine lv_aload_n hx hb d_M_move_74 rfl (lv_at hl 0 rfl) ?_
  refine va_get (D := (dC, dI)) (ci := kModel) (v := .int y3) (C := R_Model) (T := T_Model) (N := 9) hx hb hts (fun w h => List.mem_cons_of_mem _ (in_Model w h)) hown hK hP 0 rfl rfl 0 (by decide) (jv_w hts wa_200) (fun _ h9 => h9) rfl d_M_move_75 ?_
  refine lv_if_le (tgt := 83) hx hb d_M_move_78 (by decide) (fun hc => ?_) (fun hc => ?_)
  · have hf := jv_it hf hc
    refine lv_aload_n hx hb d_M_move_83 rfl (lv_at hl 0 rfl) ?_
    refine lv_iload hx hb d_M_move_84 (lv_at hl 3 rfl) ?_
    refine lv_iload_n hx hb d_M_move_86 rfl (lv_at hl 1 rfl) ?_
    obtain ⟨x7, g8, hf⟩ := jv_ob hf
    have hPc := hP.sub (ws' := (w_model cI q_mo q_mlb_ q_mcl_ q_mus_ q_mwr_ q_mdk_ q_mcp_ y3 mar y5 mLb mCl y6 y7 y8 y9)) [0, 1, 2, 3, 4, 5, 6] rfl
    refine jv_cs (W.runV (As := [.int y2, .int y0]) (rest := []) (b := q_mo) ⟨hx, hb, hml, hown, hts⟩ (c_M_find l dC dI cI cA cL q_mo q_mlb_ q_mcl_ q_mus_ q_mwr_ q_mdk_ q_mcp_ y3 mar y5 mLb mCl y6 y7 y8 y9 y2 y0 x7 g8) (jv_cwV hts wa_211 wa_194 wa_212 wa_213 wa_214 rfl rfl yd_M_find ⟨Nat.le_of_ble_eq_true rfl, Nat.le_of_ble_eq_true rfl⟩) (jv_preV hK hPc 0 rfl rfl) rfl rfl hl.1 rfl (lv_room (Nat.le_of_ble_eq_true rfl)) d_M_move_87 ⟨Nat.zero_le _, Nat.zero_le _⟩) ?_
    refine lv_istore (lv' := [(5, .int x7), (0, .ref q_mo), (2, .int y0), (3, .int y1), (4, .int y2)]) hx hb d_M_move_90 hl (by decide) rfl (fun ls hl => ?_)
    refine lv_iload_n hx hb d_M_move_92 rfl (lv_at hl 3 rfl) ?_
    obtain ⟨x9, g10, hf⟩ := jv_ob hf
    refine jv_cs (W.runS (As := [.int y1]) (rest := []) ⟨hx, hb, hml, hown, hts⟩ (c_M_names l y1 x9 g10) (jv_cwS hts wa_197 wa_194 wa_198 wa_199 rfl rfl yd_M_names ⟨Nat.le_of_ble_eq_true rfl, Nat.le_of_ble_eq_true rfl⟩) jv_pre0 rfl rfl hl.1 rfl (lv_room (Nat.le_of_ble_eq_true rfl)) d_M_move_93 ⟨Nat.zero_le _, Nat.zero_le _⟩) ?_
    refine lv_istore (lv' := [(6, .int x9), (5, .int x7), (0, .ref q_mo), (2, .int y0), (3, .int y1), (4, .int y2)]) hx hb d_M_move_96 hl (by decide) rfl (fun ls hl => ?_)
    refine lv_aload_n hx hb d_M_move_98 rfl (lv_at hl 2 rfl) ?_
    refine lv_iload hx hb d_M_move_99 (lv_at hl 5 rfl) ?_
    refine lv_iload_n hx hb d_M_move_101 rfl (lv_at hl 4 rfl) ?_
    refine lv_iload hx hb d_M_move_102 (lv_at hl 0 rfl) ?_
    refine lv_iconst (v := (1 : Int32)) hx hb d_M_move_104 (by decide) ?_
    refine lv_isub hx hb d_M_move_105 ?_
    obtain ⟨x11, g12, hf⟩ := jv_ob hf
    refine jv_cs (W.runS (As := [.int y1, .int (x9 - (1 : Int32))]) (rest := [.int y2, .ref q_mo]) ⟨hx, hb, hml, hown, hts⟩ (c_M_prefix l y1 (x9 - (1 : Int32)) x11 g12) (jv_cwS hts wa_204 wa_194 wa_205 wa_206 rfl rfl yd_M_prefix ⟨Nat.le_of_ble_eq_true rfl, Nat.le_of_ble_eq_true rfl⟩) jv_pre0 rfl rfl hl.1 rfl (lv_room (Nat.le_of_ble_eq_true rfl)) d_M_move_106 ⟨Nat.zero_le _, Nat.zero_le _⟩) ?_
    obtain ⟨x13, g14, hf⟩ := jv_ob hf
    have hPc := hP.sub (ws' := (w_model cI q_mo q_mlb_ q_mcl_ q_mus_ q_mwr_ q_mdk_ q_mcp_ y3 mar y5 mLb mCl y6 y7 y8 y9)) [0, 1, 2, 3, 4, 5, 6] rfl
    refine jv_cs (W.runV (As := [.int y2, .int x11]) (rest := []) (b := q_mo) ⟨hx, hb, hml, hown, hts⟩ (c_M_find l dC dI cI cA cL q_mo q_mlb_ q_mcl_ q_mus_ q_mwr_ q_mdk_ q_mcp_ y3 mar y5 mLb mCl y6 y7 y8 y9 y2 x11 x13 g14) (jv_cwV hts wa_211 wa_194 wa_212 wa_213 wa_214 rfl rfl yd_M_find ⟨Nat.le_of_ble_eq_true rfl, Nat.le_of_ble_eq_true rfl⟩) (jv_preV hK hPc 0 rfl rfl) rfl rfl hl.1 rfl (lv_room (Nat.le_of_ble_eq_true rfl)) d_M_move_109 ⟨Nat.zero_le _, Nat.zero_le _⟩) ?_
    refine lv_istore (lv' := [(7, .int x13), (6, .int x9), (5, .int x7), (0, .ref q_mo), (2, .int y0), (3, .int y1), (4, .int y2)]) hx hb d_M_move_112 hl (by decide) rfl (fun ls hl => ?_)
    refine lv_iload hx hb d_M_move_114 (lv_at hl 0 rfl) ?_
    refine lv_if_lt (tgt := 163) hx hb d_M_move_116 (by decide) (fun hc => ?_) (fun hc => ?_)
    · have hf := jv_it hf hc
      refine lv_iconst (v := (1 : Int32)) hx hb d_M_move_163 (by decide) ?_
      refine lv_goto (tgt := 168) hx hb d_M_move_164 (by decide) ?_
      refine lv_istore (lv' := [(8, .int (1 : Int32)), (7, .int x13), (6, .int x9), (5, .int x7), (0, .ref q_mo), (2, .int y0), (3, .int y1), (4, .int y2)]) hx hb d_M_move_168 hl (by decide) rfl (fun ls hl => ?_)
      refine lv_iconst (v := (1 : Int32)) hx hb d_M_move_170 (by decide) ?_
      refine lv_istore (lv' := [(9, .int (1 : Int32)), (8, .int (1 : Int32)), (7, .int x13), (6, .int x9), (5, .int x7), (0, .ref q_mo), (2, .int y0), (3, .int y1), (4, .int y2)]) hx hb d_M_move_171 hl (by decide) rfl (fun ls hl => ?_)
      exact l_M_move_173 (y0 := y1) (y1 := y2) (y2 := x7) (y3 := x9) (y4 := x13) (y5 := y3) (y6 := y5) (y7 := y6) (y8 := y7) (y9 := y8) (y10 := y9) cx hK hA 300 ((1 : Int32), (1 : Int32)) _ _ _ (lv_sub hl [5, 7, 8, 4, 3, 2, 1, 0] rfl) hP hD hS hf
    · have hf := jv_if hf hc
      refine lv_aload_n hx hb d_M_move_119 rfl (lv_at hl 3 rfl) ?_
      refine lv_iload hx hb d_M_move_120 (lv_at hl 6 rfl) ?_
      refine lv_iload hx hb d_M_move_122 (lv_at hl 0 rfl) ?_
      refine lv_if_ge (tgt := 131) hx hb d_M_move_124 (by decide) (fun hc => ?_) (fun hc => ?_)
      · have hf := jv_it hf hc
        refine lv_iload hx hb d_M_move_131 (lv_at hl 0 rfl) ?_
        exact b_M_move_133 (y0 := y1) (y1 := y2) (y2 := x7) (y3 := x9) (y4 := x13) (y5 := x13) (y6 := y2) (y7 := y3) (y8 := y5) (y9 := y6) (y10 := y7) (y11 := y8) (y12 := y9) cx hK hA (lv_sub hl [3, 5, 6, 2, 1, 0] rfl) hP hD hS hf
      · have hf := jv_if hf hc
        refine lv_iconst (v := (0 : Int32)) hx hb d_M_move_127 (by decide) ?_
        refine lv_goto (tgt := 133) hx hb d_M_move_128 (by decide) ?_
        exact b_M_move_133 (y0 := y1) (y1 := y2) (y2 := x7) (y3 := x9) (y4 := x13) (y5 := (0 : Int32)) (y6 := y2) (y7 := y3) (y8 := y5) (y9 := y6) (y10 := y7) (y11 := y8) (y12 := y9) cx hK hA (lv_sub hl [3, 5, 6, 2, 1, 0] rfl) hP hD hS hf
  · have hf := jv_if hf hc
    refine lv_iconst (v := (0 : Int32)) hx hb d_M_move_81 (by decide) ?_
    obtain rfl := Option.some.inj hf
    exact W.iret hx hb hr (fun t ht hW => ⟨rfl, by rw [ht]; exact hP, hD, hS.F ht⟩) hS.2.2 d_M_move_82
def f_M_move_43 (mar : Int32) (mLb : Nat → Int32) (y0 : Int32) (y1 : Int32) (y2 : Int32) (y3 : Int32) (y4 : Int32) (y5 : Nat → Int32) (y6 : Nat → Int32) (y7 : Nat → Int32) (y8 : Nat → Int32) : Option (Int32 × Int32 × Int32 × (Nat → Int32) × (Nat → Int32) × (Nat → Int32) × (Nat → Int32)) :=
  if y3 = 0 then ((f_M_kind y7 y2 y1).bind fun x5 => if x5 ≤ 0 then (f_M_move_71 mar mLb y0 y1 y2 y3 y3 y4 y5 y6 y7 y8) else (f_M_move_71 mar mLb y0 y1 y2 (3 : Int32) y3 y4 y5 y6 y7 y8)) else (f_M_move_71 mar mLb y0 y1 y2 y3 y3 y4 y5 y6 y7 y8)
set_option maxHeartbeats 4000000 in
set_option maxRecDepth 100000 in
theorem b_M_move_43 {l : Launch} {dC : Nat → ClassId} {dI : Nat → Nat → Nat} {cI cA cL : ClassId} {q_mo q_mlb_ q_mcl_ q_mus_ q_mwr_ q_mdk_ q_mcp_ : Nat} {mar : Int32} {mLb : Nat → Int32} {mCl : Nat → Int32} {p : Program} {e : Env} {s : State} {m : MethodId} {args : Array Value} {below : List Frame} {meth : Method} {c : Code} (cx : jv_cx p s m args meth c cc_M_move 10 R_Model (some .int) ws_M_move) (hK : va_K (dC, dI) vwCl (jv_ty cI cA cL) s) {A : Nat → Prop} (hA : ∀ q : Nat, s.heap.size ≤ q → A q) {r : Int32 × Int32 × Int32 × (Nat → Int32) × (Nat → Int32) × (Nat → Int32) × (Nat → Int32)} {y0 : Int32} {y1 : Int32} {y2 : Int32} {y3 : Int32} {y4 : Int32} {y5 : Nat → Int32} {y6 : Nat → Int32} {y7 : Nat → Int32} {y8 : Nat → Int32} {ls : Array Slot} (hl : lv_has ls 10 [(0, .ref q_mo), (2, .int y0), (3, .int y1)]) {H : Heap} {locs : List Loc} (hP : va_P (dC, dI) vwCl (w_model cI q_mo q_mlb_ q_mcl_ q_mus_ q_mwr_ q_mdk_ q_mcp_ y3 mar y4 mLb mCl y5 y6 y7 y8) H) (hD : va_D A (w_model cI q_mo q_mlb_ q_mcl_ q_mus_ q_mwr_ q_mdk_ q_mcp_ y3 mar y4 mLb mCl y5 y6 y7 y8)) (hS : va_S A s.heap H locs) (hf : f_M_move_43 mar mLb y0 y1 y2 y3 y4 y5 y6 y7 y8 = some r) : W p l e rm_M_move s m args below meth c H locs 0 0 (MQ below (jv_Qi r.1 (dC, dI) (w_model cI q_mo q_mlb_ q_mcl_ q_mus_ q_mwr_ q_mdk_ q_mcp_ r.2.1 mar r.2.2.1 mLb mCl r.2.2.2.1 r.2.2.2.2.1 r.2.2.2.2.2.1 r.2.2.2.2.2.2) A) args s 0 0 A) (F0 m 43 ls [.int y2]) := by
  unfold f_M_move_43 at hf
  obtain ⟨hx, hb, hml, hown, hts, hr, hlocks⟩ := id cx
  refine lv_istore (lv' := [(4, .int y2), (0, .ref q_mo), (2, .int y0), (3, .int y1)]) hx hb d_M_move_43 hl (by decide) rfl (fun ls hl => ?_)
  refine lv_aload_n hx hb d_M_move_45 rfl (lv_at hl 1 rfl) ?_
  refine lv_aload_n hx hb d_M_move_46 rfl (lv_at hl 1 rfl) ?_
  refine va_get (D := (dC, dI)) (ci := kModel) (v := .int y3) (C := R_Model) (T := T_Model) (N := 9) hx hb hts (fun w h => List.mem_cons_of_mem _ (in_Model w h)) hown hK hP 0 rfl rfl 0 (by decide) (jv_w hts wa_200) (fun _ h9 => h9) rfl d_M_move_47 ?_
  refine lv_if_ne (tgt := 67) hx hb d_M_move_50 (by decide) (fun hc => ?_) (fun hc => ?_)
  · have hf := jv_if hf hc
    refine lv_aload_n hx hb d_M_move_67 rfl (lv_at hl 1 rfl) ?_
    refine va_get (D := (dC, dI)) (ci := kModel) (v := .int y3) (C := R_Model) (T := T_Model) (N := 9) hx hb hts (fun w h => List.mem_cons_of_mem _ (in_Model w h)) hown hK hP 0 rfl rfl 0 (by decide) (jv_w hts wa_200) (fun _ h9 => h9) rfl d_M_move_68 ?_
    exact b_M_move_71 (y0 := y0) (y1 := y1) (y2 := y2) (y3 := y3) (y4 := y3) (y5 := y4) (y6 := y5) (y7 := y6) (y8 := y7) (y9 := y8) cx hK hA (lv_sub hl [1, 2, 3, 0] rfl) hP hD hS hf
  · have hf := jv_it hf hc
    refine lv_aload_n hx hb d_M_move_53 rfl (lv_at hl 1 rfl) ?_
    refine lv_iload hx hb d_M_move_54 (lv_at hl 0 rfl) ?_
    refine lv_iload_n hx hb d_M_move_56 rfl (lv_at hl 3 rfl) ?_
    obtain ⟨x5, g6, hf⟩ := jv_ob hf
    have hPc := hP.sub (ws' := (w_model cI q_mo q_mlb_ q_mcl_ q_mus_ q_mwr_ q_mdk_ q_mcp_ y3 mar y4 mLb mCl y5 y6 y7 y8)) [0, 1, 2, 3, 4, 5, 6] rfl
    refine jv_cs (W.runV (As := [.int y2, .int y1]) (rest := [.ref q_mo]) (b := q_mo) ⟨hx, hb, hml, hown, hts⟩ (c_M_kind l dC dI cI cA cL q_mo q_mlb_ q_mcl_ q_mus_ q_mwr_ q_mdk_ q_mcp_ y3 mar y4 mLb mCl y5 y6 y7 y8 y2 y1 x5 g6) (jv_cwV hts wa_223 wa_194 wa_224 wa_225 wa_226 rfl rfl yd_M_kind ⟨Nat.le_of_ble_eq_true rfl, Nat.le_of_ble_eq_true rfl⟩) (jv_preV hK hPc 0 rfl rfl) rfl rfl hl.1 rfl (lv_room (Nat.le_of_ble_eq_true rfl)) d_M_move_57 ⟨Nat.zero_le _, Nat.zero_le _⟩) ?_
    refine lv_if_le (tgt := 67) hx hb d_M_move_60 (by decide) (fun hc => ?_) (fun hc => ?_)
    · have hf := jv_it hf hc
      refine lv_aload_n hx hb d_M_move_67 rfl (lv_at hl 1 rfl) ?_
      refine va_get (D := (dC, dI)) (ci := kModel) (v := .int y3) (C := R_Model) (T := T_Model) (N := 9) hx hb hts (fun w h => List.mem_cons_of_mem _ (in_Model w h)) hown hK hP 0 rfl rfl 0 (by decide) (jv_w hts wa_200) (fun _ h9 => h9) rfl d_M_move_68 ?_
      exact b_M_move_71 (y0 := y0) (y1 := y1) (y2 := y2) (y3 := y3) (y4 := y3) (y5 := y4) (y6 := y5) (y7 := y6) (y8 := y7) (y9 := y8) cx hK hA (lv_sub hl [1, 2, 3, 0] rfl) hP hD hS hf
    · have hf := jv_if hf hc
      refine lv_iconst (v := (3 : Int32)) hx hb d_M_move_63 (by decide) ?_
      refine lv_goto (tgt := 71) hx hb d_M_move_64 (by decide) ?_
      exact b_M_move_71 (y0 := y0) (y1 := y1) (y2 := y2) (y3 := (3 : Int32)) (y4 := y3) (y5 := y4) (y6 := y5) (y7 := y6) (y8 := y7) (y9 := y8) cx hK hA (lv_sub hl [1, 2, 3, 0] rfl) hP hD hS hf
def f_M_move_0 (mar : Int32) (mLb : Nat → Int32) (y0 : Int32) (y1 : Int32) (y2 : Int32) (y3 : Int32) (y4 : Int32) (y5 : Nat → Int32) (y6 : Nat → Int32) (y7 : Nat → Int32) (y8 : Nat → Int32) : Option (Int32 × Int32 × Int32 × (Nat → Int32) × (Nat → Int32) × (Nat → Int32) × (Nat → Int32)) :=
  if y1 = 0 then (if (1 : Int32) = 0 then (f_M_move_43 mar mLb y1 y2 (y0 / (4 : Int32)) (1 : Int32) y4 y5 y6 y7 y8) else (f_M_move_43 mar mLb y1 y2 (0 : Int32) (1 : Int32) y4 y5 y6 y7 y8)) else (if y2 = 0 then (if (1 : Int32) = 0 then (f_M_move_43 mar mLb y1 y2 (y0 / (4 : Int32)) (1 : Int32) y4 y5 y6 y7 y8) else (f_M_move_43 mar mLb y1 y2 (0 : Int32) (1 : Int32) y4 y5 y6 y7 y8)) else ((f_M_isPath y2).bind fun x1 => if x1 = 0 then (if (1 : Int32) = 0 then (f_M_move_43 mar mLb y1 y2 (y0 / (4 : Int32)) (1 : Int32) y4 y5 y6 y7 y8) else (f_M_move_43 mar mLb y1 y2 (0 : Int32) (1 : Int32) y4 y5 y6 y7 y8)) else ((f_M_refusal mar mLb y5 y7 y0 y1).bind fun x3 => if x3 = 0 then (f_M_move_43 mar mLb y1 y2 (y0 / (4 : Int32)) x3 y4 y5 y6 y7 y8) else (f_M_move_43 mar mLb y1 y2 (0 : Int32) x3 y4 y5 y6 y7 y8))))
set_option maxHeartbeats 4000000 in
set_option maxRecDepth 100000 in
theorem b_M_move_0 {l : Launch} {dC : Nat → ClassId} {dI : Nat → Nat → Nat} {cI cA cL : ClassId} {q_mo q_mlb_ q_mcl_ q_mus_ q_mwr_ q_mdk_ q_mcp_ : Nat} {mar : Int32} {mLb : Nat → Int32} {mCl : Nat → Int32} {p : Program} {e : Env} {s : State} {m : MethodId} {args : Array Value} {below : List Frame} {meth : Method} {c : Code} (cx : jv_cx p s m args meth c cc_M_move 10 R_Model (some .int) ws_M_move) (hK : va_K (dC, dI) vwCl (jv_ty cI cA cL) s) {A : Nat → Prop} (hA : ∀ q : Nat, s.heap.size ≤ q → A q) {r : Int32 × Int32 × Int32 × (Nat → Int32) × (Nat → Int32) × (Nat → Int32) × (Nat → Int32)} {y0 : Int32} {y1 : Int32} {y2 : Int32} {y3 : Int32} {y4 : Int32} {y5 : Nat → Int32} {y6 : Nat → Int32} {y7 : Nat → Int32} {y8 : Nat → Int32} {ls : Array Slot} (hl : lv_has ls 10 [(0, .ref q_mo), (1, .int y0), (2, .int y1), (3, .int y2)]) {H : Heap} {locs : List Loc} (hP : va_P (dC, dI) vwCl (w_model cI q_mo q_mlb_ q_mcl_ q_mus_ q_mwr_ q_mdk_ q_mcp_ y3 mar y4 mLb mCl y5 y6 y7 y8) H) (hD : va_D A (w_model cI q_mo q_mlb_ q_mcl_ q_mus_ q_mwr_ q_mdk_ q_mcp_ y3 mar y4 mLb mCl y5 y6 y7 y8)) (hS : va_S A s.heap H locs) (hf : f_M_move_0 mar mLb y0 y1 y2 y3 y4 y5 y6 y7 y8 = some r) : W p l e rm_M_move s m args below meth c H locs 0 0 (MQ below (jv_Qi r.1 (dC, dI) (w_model cI q_mo q_mlb_ q_mcl_ q_mus_ q_mwr_ q_mdk_ q_mcp_ r.2.1 mar r.2.2.1 mLb mCl r.2.2.2.1 r.2.2.2.2.1 r.2.2.2.2.2.1 r.2.2.2.2.2.2) A) args s 0 0 A) (F0 m 0 ls []) := by
  unfold f_M_move_0 at hf
  obtain ⟨hx, hb, hml, hown, hts, hr, hlocks⟩ := id cx
  refine lv_aload_n hx hb d_M_move_0 rfl (lv_at hl 0 rfl) ?_
  refine lv_iload_n hx hb d_M_move_1 rfl (lv_at hl 2 rfl) ?_
  refine lv_if_eq (tgt := 16) hx hb d_M_move_2 (by decide) (fun hc => ?_) (fun hc => ?_)
  · have hf := jv_it hf hc
    refine lv_iconst (v := (1 : Int32)) hx hb d_M_move_16 (by decide) ?_
    refine lv_goto (tgt := 26) hx hb d_M_move_17 (by decide) ?_
    refine va_put (D := (dC, dI)) (ci := kModel) (v := .int (1 : Int32)) (ty := .int) (C := R_Model) (T := T_Model) (N := 9) hx hb hts (fun w h => List.mem_cons_of_mem _ (in_Model w h)) ty_Model tyok_Model nm_Model hown hK hP hD hS 0 rfl rfl 0 (by decide) (jv_w hts wa_200) (fun _ h9 => h9) rfl (by decide +kernel) rfl rfl (Nat.le_of_ble_eq_true rfl) d_M_move_26 (fun H locs hP hD hS => ?_)
    have hP : va_P (dC, dI) vwCl (w_model cI q_mo q_mlb_ q_mcl_ q_mus_ q_mwr_ q_mdk_ q_mcp_ (1 : Int32) mar y4 mLb mCl y5 y6 y7 y8) H := hP
    have hD : va_D A (w_model cI q_mo q_mlb_ q_mcl_ q_mus_ q_mwr_ q_mdk_ q_mcp_ (1 : Int32) mar y4 mLb mCl y5 y6 y7 y8) := hD
    refine lv_aload_n hx hb d_M_move_29 rfl (lv_at hl 0 rfl) ?_
    refine va_get (D := (dC, dI)) (ci := kModel) (v := .int (1 : Int32)) (C := R_Model) (T := T_Model) (N := 9) hx hb hts (fun w h => List.mem_cons_of_mem _ (in_Model w h)) hown hK hP 0 rfl rfl 0 (by decide) (jv_w hts wa_200) (fun _ h9 => h9) rfl d_M_move_30 ?_
    refine lv_if_ne (tgt := 42) hx hb d_M_move_33 (by decide) (fun hc => ?_) (fun hc => ?_)
    · have hf := jv_if hf hc
      refine lv_iconst (v := (0 : Int32)) hx hb d_M_move_42 (by decide) ?_
      exact b_M_move_43 (y0 := y1) (y1 := y2) (y2 := (0 : Int32)) (y3 := (1 : Int32)) (y4 := y4) (y5 := y5) (y6 := y6) (y7 := y7) (y8 := y8) cx hK hA (lv_sub hl [0, 2, 3] rfl) hP hD hS hf
    · have hf := jv_it hf hc
      refine lv_iload_n hx hb d_M_move_36 rfl (lv_at hl 1 rfl) ?_
      refine lv_iconst (v := (4 : Int32)) hx hb d_M_move_37 (by decide) ?_
      refine lv_idiv hx hb d_M_move_38 (by decide) ?_
      refine lv_goto (tgt := 43) hx hb d_M_move_39 (by decide) ?_
      exact b_M_move_43 (y0 := y1) (y1 := y2) (y2 := y0 / (4 : Int32)) (y3 := (1 : Int32)) (y4 := y4) (y5 := y5) (y6 := y6) (y7 := y7) (y8 := y8) cx hK hA (lv_sub hl [0, 2, 3] rfl) hP hD hS hf
  · have hf := jv_if hf hc
    refine lv_iload_n hx hb d_M_move_5 rfl (lv_at hl 3 rfl) ?_
    refine lv_if_eq (tgt := 16) hx hb d_M_move_6 (by decide) (fun hc => ?_) (fun hc => ?_)
    · have hf := jv_it hf hc
      refine lv_iconst (v := (1 : Int32)) hx hb d_M_move_16 (by decide) ?_
      refine lv_goto (tgt := 26) hx hb d_M_move_17 (by decide) ?_
      refine va_put (D := (dC, dI)) (ci := kModel) (v := .int (1 : Int32)) (ty := .int) (C := R_Model) (T := T_Model) (N := 9) hx hb hts (fun w h => List.mem_cons_of_mem _ (in_Model w h)) ty_Model tyok_Model nm_Model hown hK hP hD hS 0 rfl rfl 0 (by decide) (jv_w hts wa_200) (fun _ h9 => h9) rfl (by decide +kernel) rfl rfl (Nat.le_of_ble_eq_true rfl) d_M_move_26 (fun H locs hP hD hS => ?_)
      have hP : va_P (dC, dI) vwCl (w_model cI q_mo q_mlb_ q_mcl_ q_mus_ q_mwr_ q_mdk_ q_mcp_ (1 : Int32) mar y4 mLb mCl y5 y6 y7 y8) H := hP
      have hD : va_D A (w_model cI q_mo q_mlb_ q_mcl_ q_mus_ q_mwr_ q_mdk_ q_mcp_ (1 : Int32) mar y4 mLb mCl y5 y6 y7 y8) := hD
      refine lv_aload_n hx hb d_M_move_29 rfl (lv_at hl 0 rfl) ?_
      refine va_get (D := (dC, dI)) (ci := kModel) (v := .int (1 : Int32)) (C := R_Model) (T := T_Model) (N := 9) hx hb hts (fun w h => List.mem_cons_of_mem _ (in_Model w h)) hown hK hP 0 rfl rfl 0 (by decide) (jv_w hts wa_200) (fun _ h9 => h9) rfl d_M_move_30 ?_
      refine lv_if_ne (tgt := 42) hx hb d_M_move_33 (by decide) (fun hc => ?_) (fun hc => ?_)
      · have hf := jv_if hf hc
        refine lv_iconst (v := (0 : Int32)) hx hb d_M_move_42 (by decide) ?_
        exact b_M_move_43 (y0 := y1) (y1 := y2) (y2 := (0 : Int32)) (y3 := (1 : Int32)) (y4 := y4) (y5 := y5) (y6 := y6) (y7 := y7) (y8 := y8) cx hK hA (lv_sub hl [0, 2, 3] rfl) hP hD hS hf
      · have hf := jv_it hf hc
        refine lv_iload_n hx hb d_M_move_36 rfl (lv_at hl 1 rfl) ?_
        refine lv_iconst (v := (4 : Int32)) hx hb d_M_move_37 (by decide) ?_
        refine lv_idiv hx hb d_M_move_38 (by decide) ?_
        refine lv_goto (tgt := 43) hx hb d_M_move_39 (by decide) ?_
        exact b_M_move_43 (y0 := y1) (y1 := y2) (y2 := y0 / (4 : Int32)) (y3 := (1 : Int32)) (y4 := y4) (y5 := y5) (y6 := y6) (y7 := y7) (y8 := y8) cx hK hA (lv_sub hl [0, 2, 3] rfl) hP hD hS hf
    · have hf := jv_if hf hc
      refine lv_iload_n hx hb d_M_move_9 rfl (lv_at hl 3 rfl) ?_
      obtain ⟨x1, g2, hf⟩ := jv_ob hf
      refine jv_cs (W.runS (As := [.int y2]) (rest := [.ref q_mo]) ⟨hx, hb, hml, hown, hts⟩ (c_M_isPath l y2 x1 g2) (jv_cwS hts wa_231 wa_194 wa_232 wa_233 rfl rfl yd_M_isPath ⟨Nat.le_of_ble_eq_true rfl, Nat.le_of_ble_eq_true rfl⟩) jv_pre0 rfl rfl hl.1 rfl (lv_room (Nat.le_of_ble_eq_true rfl)) d_M_move_10 ⟨Nat.zero_le _, Nat.zero_le _⟩) ?_
      refine lv_if_ne (tgt := 20) hx hb d_M_move_13 (by decide) (fun hc => ?_) (fun hc => ?_)
      · have hf := jv_if hf hc
        refine lv_aload_n hx hb d_M_move_20 rfl (lv_at hl 0 rfl) ?_
        refine lv_iload_n hx hb d_M_move_21 rfl (lv_at hl 1 rfl) ?_
        refine lv_iload_n hx hb d_M_move_22 rfl (lv_at hl 2 rfl) ?_
        obtain ⟨x3, g4, hf⟩ := jv_ob hf
        have hPc := hP.sub (ws' := (w_model cI q_mo q_mlb_ q_mcl_ q_mus_ q_mwr_ q_mdk_ q_mcp_ y3 mar y4 mLb mCl y5 y6 y7 y8)) [0, 1, 2, 3, 4, 5, 6] rfl
        refine jv_cs (W.runV (As := [.int y0, .int y1]) (rest := [.ref q_mo]) (b := q_mo) ⟨hx, hb, hml, hown, hts⟩ (c_M_refusal l dC dI cI cA cL q_mo q_mlb_ q_mcl_ q_mus_ q_mwr_ q_mdk_ q_mcp_ y3 mar y4 mLb mCl y5 y6 y7 y8 y0 y1 x3 g4) (jv_cwV hts wa_265 wa_194 wa_266 wa_267 wa_268 rfl rfl yd_M_refusal ⟨Nat.le_of_ble_eq_true rfl, Nat.le_of_ble_eq_true rfl⟩) (jv_preV hK hPc 0 rfl rfl) rfl rfl hl.1 rfl (lv_room (Nat.le_of_ble_eq_true rfl)) d_M_move_23 ⟨Nat.zero_le _, Nat.zero_le _⟩) ?_
        refine va_put (D := (dC, dI)) (ci := kModel) (v := .int x3) (ty := .int) (C := R_Model) (T := T_Model) (N := 9) hx hb hts (fun w h => List.mem_cons_of_mem _ (in_Model w h)) ty_Model tyok_Model nm_Model hown hK hP hD hS 0 rfl rfl 0 (by decide) (jv_w hts wa_200) (fun _ h9 => h9) rfl (by decide +kernel) rfl rfl (Nat.le_of_ble_eq_true rfl) d_M_move_26 (fun H locs hP hD hS => ?_)
        have hP : va_P (dC, dI) vwCl (w_model cI q_mo q_mlb_ q_mcl_ q_mus_ q_mwr_ q_mdk_ q_mcp_ x3 mar y4 mLb mCl y5 y6 y7 y8) H := hP
        have hD : va_D A (w_model cI q_mo q_mlb_ q_mcl_ q_mus_ q_mwr_ q_mdk_ q_mcp_ x3 mar y4 mLb mCl y5 y6 y7 y8) := hD
        refine lv_aload_n hx hb d_M_move_29 rfl (lv_at hl 0 rfl) ?_
        refine va_get (D := (dC, dI)) (ci := kModel) (v := .int x3) (C := R_Model) (T := T_Model) (N := 9) hx hb hts (fun w h => List.mem_cons_of_mem _ (in_Model w h)) hown hK hP 0 rfl rfl 0 (by decide) (jv_w hts wa_200) (fun _ h9 => h9) rfl d_M_move_30 ?_
        refine lv_if_ne (tgt := 42) hx hb d_M_move_33 (by decide) (fun hc => ?_) (fun hc => ?_)
        · have hf := jv_if hf hc
          refine lv_iconst (v := (0 : Int32)) hx hb d_M_move_42 (by decide) ?_
          exact b_M_move_43 (y0 := y1) (y1 := y2) (y2 := (0 : Int32)) (y3 := x3) (y4 := y4) (y5 := y5) (y6 := y6) (y7 := y7) (y8 := y8) cx hK hA (lv_sub hl [0, 2, 3] rfl) hP hD hS hf
        · have hf := jv_it hf hc
          refine lv_iload_n hx hb d_M_move_36 rfl (lv_at hl 1 rfl) ?_
          refine lv_iconst (v := (4 : Int32)) hx hb d_M_move_37 (by decide) ?_
          refine lv_idiv hx hb d_M_move_38 (by decide) ?_
          refine lv_goto (tgt := 43) hx hb d_M_move_39 (by decide) ?_
          exact b_M_move_43 (y0 := y1) (y1 := y2) (y2 := y0 / (4 : Int32)) (y3 := x3) (y4 := y4) (y5 := y5) (y6 := y6) (y7 := y7) (y8 := y8) cx hK hA (lv_sub hl [0, 2, 3] rfl) hP hD hS hf
      · have hf := jv_it hf hc
        refine lv_iconst (v := (1 : Int32)) hx hb d_M_move_16 (by decide) ?_
        refine lv_goto (tgt := 26) hx hb d_M_move_17 (by decide) ?_
        refine va_put (D := (dC, dI)) (ci := kModel) (v := .int (1 : Int32)) (ty := .int) (C := R_Model) (T := T_Model) (N := 9) hx hb hts (fun w h => List.mem_cons_of_mem _ (in_Model w h)) ty_Model tyok_Model nm_Model hown hK hP hD hS 0 rfl rfl 0 (by decide) (jv_w hts wa_200) (fun _ h9 => h9) rfl (by decide +kernel) rfl rfl (Nat.le_of_ble_eq_true rfl) d_M_move_26 (fun H locs hP hD hS => ?_)
        have hP : va_P (dC, dI) vwCl (w_model cI q_mo q_mlb_ q_mcl_ q_mus_ q_mwr_ q_mdk_ q_mcp_ (1 : Int32) mar y4 mLb mCl y5 y6 y7 y8) H := hP
        have hD : va_D A (w_model cI q_mo q_mlb_ q_mcl_ q_mus_ q_mwr_ q_mdk_ q_mcp_ (1 : Int32) mar y4 mLb mCl y5 y6 y7 y8) := hD
        refine lv_aload_n hx hb d_M_move_29 rfl (lv_at hl 0 rfl) ?_
        refine va_get (D := (dC, dI)) (ci := kModel) (v := .int (1 : Int32)) (C := R_Model) (T := T_Model) (N := 9) hx hb hts (fun w h => List.mem_cons_of_mem _ (in_Model w h)) hown hK hP 0 rfl rfl 0 (by decide) (jv_w hts wa_200) (fun _ h9 => h9) rfl d_M_move_30 ?_
        refine lv_if_ne (tgt := 42) hx hb d_M_move_33 (by decide) (fun hc => ?_) (fun hc => ?_)
        · have hf := jv_if hf hc
          refine lv_iconst (v := (0 : Int32)) hx hb d_M_move_42 (by decide) ?_
          exact b_M_move_43 (y0 := y1) (y1 := y2) (y2 := (0 : Int32)) (y3 := (1 : Int32)) (y4 := y4) (y5 := y5) (y6 := y6) (y7 := y7) (y8 := y8) cx hK hA (lv_sub hl [0, 2, 3] rfl) hP hD hS hf
        · have hf := jv_it hf hc
          refine lv_iload_n hx hb d_M_move_36 rfl (lv_at hl 1 rfl) ?_
          refine lv_iconst (v := (4 : Int32)) hx hb d_M_move_37 (by decide) ?_
          refine lv_idiv hx hb d_M_move_38 (by decide) ?_
          refine lv_goto (tgt := 43) hx hb d_M_move_39 (by decide) ?_
          exact b_M_move_43 (y0 := y1) (y1 := y2) (y2 := y0 / (4 : Int32)) (y3 := (1 : Int32)) (y4 := y4) (y5 := y5) (y6 := y6) (y7 := y7) (y8 := y8) cx hK hA (lv_sub hl [0, 2, 3] rfl) hP hD hS hf
def f_M_move (mar : Int32) (mLb : Nat → Int32) (a0 : Int32) (a1 : Int32) (a2 : Int32) (mth : Int32) (mfu : Int32) (mUs : Nat → Int32) (mWr : Nat → Int32) (mDk : Nat → Int32) (mCp : Nat → Int32) : Option (Int32 × Int32 × Int32 × (Nat → Int32) × (Nat → Int32) × (Nat → Int32) × (Nat → Int32)) := f_M_move_0 mar mLb a0 a1 a2 mth mfu mUs mWr mDk mCp
set_option maxHeartbeats 4000000 in
set_option maxRecDepth 100000 in
theorem c_M_move (l : Launch) (dC : Nat → ClassId) (dI : Nat → Nat → Nat) (cI cA cL : ClassId) (q_mo q_mlb_ q_mcl_ q_mus_ q_mwr_ q_mdk_ q_mcp_ : Nat) (mth : Int32) (mar : Int32) (mfu : Int32) (mLb : Nat → Int32) (mCl : Nat → Int32) (mUs : Nat → Int32) (mWr : Nat → Int32) (mDk : Nat → Int32) (mCp : Nat → Int32) (a0 : Int32) (a1 : Int32) (a2 : Int32) (sz : Nat) (r : Int32 × Int32 × Int32 × (Nat → Int32) × (Nat → Int32) × (Nat → Int32) × (Nat → Int32)) (hf : f_M_move mar mLb a0 a1 a2 mth mfu mUs mWr mDk mCp = some r) : Met l y_M_move ws_M_move rm_M_move (jv_Pw [.ref q_mo, .int a0, .int a1, .int a2] (dC, dI) (jv_ty cI cA cL) (w_model cI q_mo q_mlb_ q_mcl_ q_mus_ q_mwr_ q_mdk_ q_mcp_ mth mar mfu mLb mCl mUs mWr mDk mCp) sz) (jv_Qi r.1 (dC, dI) (w_model cI q_mo q_mlb_ q_mcl_ q_mus_ q_mwr_ q_mdk_ q_mcp_ r.2.1 mar r.2.2.1 mLb mCl r.2.2.2.1 r.2.2.2.2.1 r.2.2.2.2.2.1 r.2.2.2.2.2.2) (va_A (w_model cI q_mo q_mlb_ q_mcl_ q_mus_ q_mwr_ q_mdk_ q_mcp_ mth mar mfu mLb mCl mUs mWr mDk mCp) sz)) 0 0 (va_A (w_model cI q_mo q_mlb_ q_mcl_ q_mus_ q_mwr_ q_mdk_ q_mcp_ mth mar mfu mLb mCl mUs mWr mDk mCp) sz) := by
  refine Met.ofW (cc := cc_M_move) (maxL := 10) (ret := (some .int)) (by decide) rfl ?_
  intro p e s m args below meth c s₁ B hml hv
  obtain ⟨rfl, hsz, hP, hK, hD0⟩ := hv
  have cx : jv_cx p s m _ meth c cc_M_move 10 R_Model (some .int) ws_M_move := ⟨B.exec, B.bytes, hml, findClass_of_methodNamed B.named, atoms_spec (ws := ws_M_move) B.pre, B.returns, B.notSynchronized⟩
  subst hsz
  have hD := hD0.self (sz := s.heap.size)
  generalize hAe : va_A (w_model cI q_mo q_mlb_ q_mcl_ q_mus_ q_mwr_ q_mdk_ q_mcp_ mth mar mfu mLb mCl mUs mWr mDk mCp) s.heap.size = A at hD ⊢
  have hA : ∀ q : Nat, s.heap.size ≤ q → A q := fun q h => by rw [← hAe]; exact Or.inr h
  have hS : va_S A s.heap s.heap [] := va_S.rf
  have hl := lv_entry ([.ref q_mo, .int a0, .int a1, .int a2]) (n := 10) (Nat.le_of_ble_eq_true rfl)
  rw [lg_entry_eq]
  generalize (lg_sl ([.ref q_mo, .int a0, .int a1, .int a2]) ++ List.replicate (10 - (lg_sl ([.ref q_mo, .int a0, .int a1, .int a2])).length) Slot.unset).toArray = ls at hl ⊢
  have hl : lv_has ls 10 [(0, .ref q_mo), (1, .int a0), (2, .int a1), (3, .int a2)] := hl
  exact b_M_move_0 (y0 := a0) (y1 := a1) (y2 := a2) (y3 := mth) (y4 := mfu) (y5 := mUs) (y6 := mWr) (y7 := mDk) (y8 := mCp) cx hK hA (lv_sub hl [0, 1, 2, 3] rfl) hP hD hS hf
