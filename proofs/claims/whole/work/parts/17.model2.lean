theorem d_M_finish_0 : decode cc_M_finish 0 = .ok (.iconst 0, 1) := by decide +kernel
theorem d_M_finish_1 : decode cc_M_finish 1 = .ok (.istore_n 3, 1) := by decide +kernel
theorem d_M_finish_2 : decode cc_M_finish 2 = .ok (.iconst 0, 1) := by decide +kernel
theorem d_M_finish_3 : decode cc_M_finish 3 = .ok (.istore 4, 2) := by decide +kernel
theorem d_M_finish_5 : decode cc_M_finish 5 = .ok (.iload 4, 2) := by decide +kernel
theorem d_M_finish_7 : decode cc_M_finish 7 = .ok (.bipush 29, 2) := by decide +kernel
theorem d_M_finish_9 : decode cc_M_finish 9 = .ok (.if_icmp .ge 86, 3) := by decide +kernel
theorem d_M_finish_95 : decode cc_M_finish 95 = .ok (.iload_n 3, 1) := by decide +kernel
theorem d_M_finish_96 : decode cc_M_finish 96 = .ok (.ifCond .ne 7, 3) := by decide +kernel
theorem d_M_finish_103 : decode cc_M_finish 103 = .ok (.iconst 2, 1) := by decide +kernel
theorem d_M_finish_104 : decode cc_M_finish 104 = .ok (.iload_n 3, 1) := by decide +kernel
theorem d_M_finish_105 : decode cc_M_finish 105 = .ok (.imul, 1) := by decide +kernel
theorem d_M_finish_106 : decode cc_M_finish 106 = .ok (.iconst 2, 1) := by decide +kernel
theorem d_M_finish_107 : decode cc_M_finish 107 = .ok (.iadd, 1) := by decide +kernel
theorem d_M_finish_99 : decode cc_M_finish 99 = .ok (.iconst 0, 1) := by decide +kernel
theorem d_M_finish_100 : decode cc_M_finish 100 = .ok (.goto 8, 3) := by decide +kernel
theorem d_M_finish_12 : decode cc_M_finish 12 = .ok (.iconst 0, 1) := by decide +kernel
theorem d_M_finish_13 : decode cc_M_finish 13 = .ok (.istore 5, 2) := by decide +kernel
theorem d_M_finish_15 : decode cc_M_finish 15 = .ok (.bipush 8, 2) := by decide +kernel
theorem d_M_finish_17 : decode cc_M_finish 17 = .ok (.iload 4, 2) := by decide +kernel
theorem d_M_finish_19 : decode cc_M_finish 19 = .ok (.imul, 1) := by decide +kernel
theorem d_M_finish_20 : decode cc_M_finish 20 = .ok (.istore 6, 2) := by decide +kernel
theorem d_M_finish_108 : decode cc_M_finish 108 = .ok (.istore 4, 2) := by decide +kernel
theorem d_M_finish_110 : decode cc_M_finish 110 = .ok (.aload_n 0, 1) := by decide +kernel
theorem d_M_finish_111 : decode cc_M_finish 111 = .ok (.getfield 28, 3) := by decide +kernel
theorem d_M_finish_114 : decode cc_M_finish 114 = .ok (.iconst (-1), 1) := by decide +kernel
theorem d_M_finish_115 : decode cc_M_finish 115 = .ok (.if_icmp .eq 16, 3) := by decide +kernel
theorem d_M_finish_131 : decode cc_M_finish 131 = .ok (.iconst 0, 1) := by decide +kernel
theorem d_M_finish_118 : decode cc_M_finish 118 = .ok (.aload_n 0, 1) := by decide +kernel
theorem d_M_finish_119 : decode cc_M_finish 119 = .ok (.getfield 28, 3) := by decide +kernel
theorem d_M_finish_122 : decode cc_M_finish 122 = .ok (.iload 4, 2) := by decide +kernel
theorem d_M_finish_124 : decode cc_M_finish 124 = .ok (.if_icmp .ge 7, 3) := by decide +kernel
theorem d_M_finish_127 : decode cc_M_finish 127 = .ok (.iconst 1, 1) := by decide +kernel
theorem d_M_finish_128 : decode cc_M_finish 128 = .ok (.goto 4, 3) := by decide +kernel
theorem d_M_finish_132 : decode cc_M_finish 132 = .ok (.istore 5, 2) := by decide +kernel
theorem d_M_finish_134 : decode cc_M_finish 134 = .ok (.iload 5, 2) := by decide +kernel
theorem d_M_finish_136 : decode cc_M_finish 136 = .ok (.ifCond .eq 10, 3) := by decide +kernel
theorem d_M_finish_146 : decode cc_M_finish 146 = .ok (.iload 4, 2) := by decide +kernel
theorem d_M_finish_148 : decode cc_M_finish 148 = .ok (.istore 6, 2) := by decide +kernel
theorem d_M_finish_150 : decode cc_M_finish 150 = .ok (.aload_n 0, 1) := by decide +kernel
theorem d_M_finish_151 : decode cc_M_finish 151 = .ok (.getfield 19, 3) := by decide +kernel
theorem d_M_finish_154 : decode cc_M_finish 154 = .ok (.iload_n 1, 1) := by decide +kernel
theorem d_M_finish_155 : decode cc_M_finish 155 = .ok (.dup2, 1) := by decide +kernel
theorem d_M_finish_156 : decode cc_M_finish 156 = .ok (.iaload, 1) := by decide +kernel
theorem d_M_finish_157 : decode cc_M_finish 157 = .ok (.iload 6, 2) := by decide +kernel
theorem d_M_finish_159 : decode cc_M_finish 159 = .ok (.iadd, 1) := by decide +kernel
theorem d_M_finish_160 : decode cc_M_finish 160 = .ok (.iastore, 1) := by decide +kernel
theorem d_M_finish_161 : decode cc_M_finish 161 = .ok (.iconst 0, 1) := by decide +kernel
theorem d_M_finish_162 : decode cc_M_finish 162 = .ok (.istore 7, 2) := by decide +kernel
theorem d_M_finish_139 : decode cc_M_finish 139 = .ok (.aload_n 0, 1) := by decide +kernel
theorem d_M_finish_140 : decode cc_M_finish 140 = .ok (.getfield 28, 3) := by decide +kernel
theorem d_M_finish_143 : decode cc_M_finish 143 = .ok (.goto 5, 3) := by decide +kernel
theorem d_M_finish_164 : decode cc_M_finish 164 = .ok (.iload 7, 2) := by decide +kernel
theorem d_M_finish_166 : decode cc_M_finish 166 = .ok (.sipush 232, 3) := by decide +kernel
theorem d_M_finish_169 : decode cc_M_finish 169 = .ok (.if_icmp .ge 40, 3) := by decide +kernel
theorem d_M_finish_172 : decode cc_M_finish 172 = .ok (.iload 5, 2) := by decide +kernel
theorem d_M_finish_174 : decode cc_M_finish 174 = .ok (.ifCond .eq 9, 3) := by decide +kernel
theorem d_M_finish_177 : decode cc_M_finish 177 = .ok (.iload 6, 2) := by decide +kernel
theorem d_M_finish_179 : decode cc_M_finish 179 = .ok (.iload_n 3, 1) := by decide +kernel
theorem d_M_finish_180 : decode cc_M_finish 180 = .ok (.if_icmp .le 29, 3) := by decide +kernel
theorem d_M_finish_209 : decode cc_M_finish 209 = .ok (.iload 5, 2) := by decide +kernel
theorem d_M_finish_211 : decode cc_M_finish 211 = .ok (.ifCond .eq 11, 3) := by decide +kernel
theorem d_M_finish_222 : decode cc_M_finish 222 = .ok (.aload_n 0, 1) := by decide +kernel
theorem d_M_finish_223 : decode cc_M_finish 223 = .ok (.aload_n 0, 1) := by decide +kernel
theorem d_M_finish_224 : decode cc_M_finish 224 = .ok (.getfield 28, 3) := by decide +kernel
theorem d_M_finish_227 : decode cc_M_finish 227 = .ok (.iconst (-1), 1) := by decide +kernel
theorem d_M_finish_228 : decode cc_M_finish 228 = .ok (.if_icmp .ne 7, 3) := by decide +kernel
theorem d_M_finish_235 : decode cc_M_finish 235 = .ok (.aload_n 0, 1) := by decide +kernel
theorem d_M_finish_236 : decode cc_M_finish 236 = .ok (.getfield 28, 3) := by decide +kernel
theorem d_M_finish_239 : decode cc_M_finish 239 = .ok (.iload 4, 2) := by decide +kernel
theorem d_M_finish_241 : decode cc_M_finish 241 = .ok (.isub, 1) := by decide +kernel
theorem d_M_finish_242 : decode cc_M_finish 242 = .ok (.putfield 28, 3) := by decide +kernel
theorem d_M_finish_245 : decode cc_M_finish 245 = .ok (.iload_n 2, 1) := by decide +kernel
theorem d_M_finish_246 : decode cc_M_finish 246 = .ok (.ireturn, 1) := by decide +kernel
theorem d_M_finish_231 : decode cc_M_finish 231 = .ok (.iconst (-1), 1) := by decide +kernel
theorem d_M_finish_232 : decode cc_M_finish 232 = .ok (.goto 10, 3) := by decide +kernel
theorem d_M_finish_214 : decode cc_M_finish 214 = .ok (.aload_n 0, 1) := by decide +kernel
theorem d_M_finish_215 : decode cc_M_finish 215 = .ok (.invokevirtual 77, 3) := by decide +kernel
theorem d_M_finish_218 : decode cc_M_finish 218 = .ok (.pop, 1) := by decide +kernel
theorem d_M_finish_219 : decode cc_M_finish 219 = .ok (.bipush (-3), 2) := by decide +kernel
theorem d_M_finish_221 : decode cc_M_finish 221 = .ok (.ireturn, 1) := by decide +kernel
theorem d_M_finish_183 : decode cc_M_finish 183 = .ok (.aload_n 0, 1) := by decide +kernel
theorem d_M_finish_184 : decode cc_M_finish 184 = .ok (.getfield 22, 3) := by decide +kernel
theorem d_M_finish_187 : decode cc_M_finish 187 = .ok (.sipush 232, 3) := by decide +kernel
theorem d_M_finish_190 : decode cc_M_finish 190 = .ok (.iload_n 1, 1) := by decide +kernel
theorem d_M_finish_191 : decode cc_M_finish 191 = .ok (.imul, 1) := by decide +kernel
theorem d_M_finish_192 : decode cc_M_finish 192 = .ok (.iload 7, 2) := by decide +kernel
theorem d_M_finish_194 : decode cc_M_finish 194 = .ok (.iadd, 1) := by decide +kernel
theorem d_M_finish_195 : decode cc_M_finish 195 = .ok (.aload_n 0, 1) := by decide +kernel
theorem d_M_finish_196 : decode cc_M_finish 196 = .ok (.getfield 25, 3) := by decide +kernel
theorem d_M_finish_199 : decode cc_M_finish 199 = .ok (.iload 7, 2) := by decide +kernel
theorem d_M_finish_201 : decode cc_M_finish 201 = .ok (.iaload, 1) := by decide +kernel
theorem d_M_finish_202 : decode cc_M_finish 202 = .ok (.iastore, 1) := by decide +kernel
theorem d_M_finish_203 : decode cc_M_finish 203 = .ok (.iinc 7 1, 3) := by decide +kernel
theorem d_M_finish_206 : decode cc_M_finish 206 = .ok (.goto (-42), 3) := by decide +kernel
theorem d_M_finish_22 : decode cc_M_finish 22 = .ok (.iload 6, 2) := by decide +kernel
theorem d_M_finish_24 : decode cc_M_finish 24 = .ok (.bipush 8, 2) := by decide +kernel
theorem d_M_finish_26 : decode cc_M_finish 26 = .ok (.iload 4, 2) := by decide +kernel
theorem d_M_finish_28 : decode cc_M_finish 28 = .ok (.imul, 1) := by decide +kernel
theorem d_M_finish_29 : decode cc_M_finish 29 = .ok (.bipush 8, 2) := by decide +kernel
theorem d_M_finish_31 : decode cc_M_finish 31 = .ok (.iadd, 1) := by decide +kernel
theorem d_M_finish_32 : decode cc_M_finish 32 = .ok (.if_icmp .ge 44, 3) := by decide +kernel
theorem d_M_finish_76 : decode cc_M_finish 76 = .ok (.iload_n 3, 1) := by decide +kernel
theorem d_M_finish_77 : decode cc_M_finish 77 = .ok (.iload 5, 2) := by decide +kernel
theorem d_M_finish_79 : decode cc_M_finish 79 = .ok (.ifCond .eq 7, 3) := by decide +kernel
theorem d_M_finish_86 : decode cc_M_finish 86 = .ok (.iconst 0, 1) := by decide +kernel
theorem d_M_finish_87 : decode cc_M_finish 87 = .ok (.iadd, 1) := by decide +kernel
theorem d_M_finish_88 : decode cc_M_finish 88 = .ok (.istore_n 3, 1) := by decide +kernel
theorem d_M_finish_89 : decode cc_M_finish 89 = .ok (.iinc 4 1, 3) := by decide +kernel
theorem d_M_finish_92 : decode cc_M_finish 92 = .ok (.goto (-87), 3) := by decide +kernel
theorem d_M_finish_82 : decode cc_M_finish 82 = .ok (.iconst 1, 1) := by decide +kernel
theorem d_M_finish_83 : decode cc_M_finish 83 = .ok (.goto 4, 3) := by decide +kernel
theorem d_M_finish_35 : decode cc_M_finish 35 = .ok (.iload 5, 2) := by decide +kernel
theorem d_M_finish_37 : decode cc_M_finish 37 = .ok (.ifCond .ne 26, 3) := by decide +kernel
theorem d_M_finish_63 : decode cc_M_finish 63 = .ok (.iconst 1, 1) := by decide +kernel
theorem d_M_finish_64 : decode cc_M_finish 64 = .ok (.goto 4, 3) := by decide +kernel
theorem d_M_finish_68 : decode cc_M_finish 68 = .ok (.istore 5, 2) := by decide +kernel
theorem d_M_finish_70 : decode cc_M_finish 70 = .ok (.iinc 6 1, 3) := by decide +kernel
theorem d_M_finish_73 : decode cc_M_finish 73 = .ok (.goto (-51), 3) := by decide +kernel
theorem d_M_finish_40 : decode cc_M_finish 40 = .ok (.aload_n 0, 1) := by decide +kernel
theorem d_M_finish_41 : decode cc_M_finish 41 = .ok (.getfield 25, 3) := by decide +kernel
theorem d_M_finish_44 : decode cc_M_finish 44 = .ok (.iload 6, 2) := by decide +kernel
theorem d_M_finish_46 : decode cc_M_finish 46 = .ok (.iaload, 1) := by decide +kernel
theorem d_M_finish_47 : decode cc_M_finish 47 = .ok (.aload_n 0, 1) := by decide +kernel
theorem d_M_finish_48 : decode cc_M_finish 48 = .ok (.getfield 22, 3) := by decide +kernel
theorem d_M_finish_51 : decode cc_M_finish 51 = .ok (.sipush 232, 3) := by decide +kernel
theorem d_M_finish_54 : decode cc_M_finish 54 = .ok (.iload_n 1, 1) := by decide +kernel
theorem d_M_finish_55 : decode cc_M_finish 55 = .ok (.imul, 1) := by decide +kernel
theorem d_M_finish_56 : decode cc_M_finish 56 = .ok (.iload 6, 2) := by decide +kernel
theorem d_M_finish_58 : decode cc_M_finish 58 = .ok (.iadd, 1) := by decide +kernel
theorem d_M_finish_59 : decode cc_M_finish 59 = .ok (.iaload, 1) := by decide +kernel
theorem d_M_finish_60 : decode cc_M_finish 60 = .ok (.if_icmp .eq 7, 3) := by decide +kernel
theorem d_M_finish_67 : decode cc_M_finish 67 = .ok (.iconst 0, 1) := by decide +kernel
def f_M_finish_209 (mCp : Nat → Int32) (y0 : Int32) (y1 : Int32) (y2 : Int32) (y3 : Int32) (y4 : Nat → Int32) (y5 : Nat → Int32) (y6 : Nat → Int32) : Option (Int32 × Int32 × (Nat → Int32) × (Nat → Int32) × (Nat → Int32)) :=
  if y2 = 0 then (if y3 = (-1 : Int32) then (some (y0, (-1 : Int32), y4, y5, y6)) else (some (y0, y3 - y1, y4, y5, y6))) else ((f_M_crashNow y3 y4).bind fun x9 => some ((-3 : Int32), x9.2.1, x9.2.2, y5, y6))
set_option maxHeartbeats 4000000 in
set_option maxRecDepth 100000 in
theorem b_M_finish_209 {l : Launch} {dC : Nat → ClassId} {dI : Nat → Nat → Nat} {cI cA cL : ClassId} {q_mo q_mlb_ q_mcl_ q_mus_ q_mwr_ q_mdk_ q_mcp_ : Nat} {mth : Int32} {mar : Int32} {mLb : Nat → Int32} {mCl : Nat → Int32} {mCp : Nat → Int32} {p : Program} {e : Env} {s : State} {m : MethodId} {args : Array Value} {below : List Frame} {meth : Method} {c : Code} (cx : jv_cx p s m args meth c cc_M_finish 8 R_Model (some .int) ws_M_finish) (hK : va_K (dC, dI) vwCl (jv_ty cI cA cL) s) {A : Nat → Prop} (hA : ∀ q : Nat, s.heap.size ≤ q → A q) {r : Int32 × Int32 × (Nat → Int32) × (Nat → Int32) × (Nat → Int32)} {y0 : Int32} {y1 : Int32} {y2 : Int32} {y3 : Int32} {y4 : Nat → Int32} {y5 : Nat → Int32} {y6 : Nat → Int32} {ls : Array Slot} (hl : lv_has ls 8 [(0, .ref q_mo), (2, .int y0), (4, .int y1), (5, .int y2)]) {H : Heap} {locs : List Loc} (hP : va_P (dC, dI) vwCl (w_model cI q_mo q_mlb_ q_mcl_ q_mus_ q_mwr_ q_mdk_ q_mcp_ mth mar y3 mLb mCl y4 y5 y6 mCp) H) (hD : va_D A (w_model cI q_mo q_mlb_ q_mcl_ q_mus_ q_mwr_ q_mdk_ q_mcp_ mth mar y3 mLb mCl y4 y5 y6 mCp)) (hS : va_S A s.heap H locs) (hf : f_M_finish_209 mCp y0 y1 y2 y3 y4 y5 y6 = some r) : W p l e rm_M_finish s m args below meth c H locs 0 0 (MQ below (jv_Qi r.1 (dC, dI) (w_model cI q_mo q_mlb_ q_mcl_ q_mus_ q_mwr_ q_mdk_ q_mcp_ mth mar r.2.1 mLb mCl r.2.2.1 r.2.2.2.1 r.2.2.2.2 mCp) A) args s 0 0 A) (F0 m 209 ls []) := by
  unfold f_M_finish_209 at hf
  obtain ⟨hx, hb, hml, hown, hts, hr, hlocks⟩ := id cx
  refine lv_iload hx hb d_M_finish_209 (lv_at hl 3 rfl) ?_
  refine lv_if_eq (tgt := 222) hx hb d_M_finish_211 (by decide) (fun hc => ?_) (fun hc => ?_)
  · have hf := jv_it hf hc
    refine lv_aload_n hx hb d_M_finish_222 rfl (lv_at hl 0 rfl) ?_
    refine lv_aload_n hx hb d_M_finish_223 rfl (lv_at hl 0 rfl) ?_
    refine va_get (D := (dC, dI)) (ci := kModel) (v := .int y3) (C := R_Model) (T := T_Model) (N := 9) hx hb hts (fun w h => List.mem_cons_of_mem _ (in_Model w h)) hown hK hP 0 rfl rfl 8 (by decide) (jv_w hts wa_247) (fun _ h9 => h9) rfl d_M_finish_224 ?_
    refine lv_iconst (v := (-1 : Int32)) hx hb d_M_finish_227 (by decide) ?_
    refine lv_icmp_ne (tgt := 235) hx hb d_M_finish_228 (by decide) (fun hc => ?_) (fun hc => ?_)
    · have hf := jv_if hf hc
      refine lv_aload_n hx hb d_M_finish_235 rfl (lv_at hl 0 rfl) ?_
      refine va_get (D := (dC, dI)) (ci := kModel) (v := .int y3) (C := R_Model) (T := T_Model) (N := 9) hx hb hts (fun w h => List.mem_cons_of_mem _ (in_Model w h)) hown hK hP 0 rfl rfl 8 (by decide) (jv_w hts wa_247) (fun _ h9 => h9) rfl d_M_finish_236 ?_
      refine lv_iload hx hb d_M_finish_239 (lv_at hl 2 rfl) ?_
      refine lv_isub hx hb d_M_finish_241 ?_
      refine va_put (D := (dC, dI)) (ci := kModel) (v := .int (y3 - y1)) (ty := .int) (C := R_Model) (T := T_Model) (N := 9) hx hb hts (fun w h => List.mem_cons_of_mem _ (in_Model w h)) ty_Model tyok_Model nm_Model hown hK hP hD hS 0 rfl rfl 8 (by decide) (jv_w hts wa_247) (fun _ h9 => h9) rfl (by decide +kernel) rfl rfl (Nat.le_of_ble_eq_true rfl) d_M_finish_242 (fun H locs hP hD hS => ?_)
      have hP : va_P (dC, dI) vwCl (w_model cI q_mo q_mlb_ q_mcl_ q_mus_ q_mwr_ q_mdk_ q_mcp_ mth mar (y3 - y1) mLb mCl y4 y5 y6 mCp) H := hP
      have hD : va_D A (w_model cI q_mo q_mlb_ q_mcl_ q_mus_ q_mwr_ q_mdk_ q_mcp_ mth mar (y3 - y1) mLb mCl y4 y5 y6 mCp) := hD
      refine lv_iload_n hx hb d_M_finish_245 rfl (lv_at hl 1 rfl) ?_
      obtain rfl := Option.some.inj hf
      exact W.iret hx hb hr (fun t ht hW => ⟨rfl, by rw [ht]; exact hP, hD, hS.F ht⟩) hS.2.2 d_M_finish_246
    · have hf := jv_it hf hc
      refine lv_iconst (v := (-1 : Int32)) hx hb d_M_finish_231 (by decide) ?_
      refine lv_goto (tgt := 242) hx hb d_M_finish_232 (by decide) ?_
      refine va_put (D := (dC, dI)) (ci := kModel) (v := .int (-1 : Int32)) (ty := .int) (C := R_Model) (T := T_Model) (N := 9) hx hb hts (fun w h => List.mem_cons_of_mem _ (in_Model w h)) ty_Model tyok_Model nm_Model hown hK hP hD hS 0 rfl rfl 8 (by decide) (jv_w hts wa_247) (fun _ h9 => h9) rfl (by decide +kernel) rfl rfl (Nat.le_of_ble_eq_true rfl) d_M_finish_242 (fun H locs hP hD hS => ?_)
      have hP : va_P (dC, dI) vwCl (w_model cI q_mo q_mlb_ q_mcl_ q_mus_ q_mwr_ q_mdk_ q_mcp_ mth mar (-1 : Int32) mLb mCl y4 y5 y6 mCp) H := hP
      have hD : va_D A (w_model cI q_mo q_mlb_ q_mcl_ q_mus_ q_mwr_ q_mdk_ q_mcp_ mth mar (-1 : Int32) mLb mCl y4 y5 y6 mCp) := hD
      refine lv_iload_n hx hb d_M_finish_245 rfl (lv_at hl 1 rfl) ?_
      obtain rfl := Option.some.inj hf
      exact W.iret hx hb hr (fun t ht hW => ⟨rfl, by rw [ht]; exact hP, hD, hS.F ht⟩) hS.2.2 d_M_finish_246
  · have hf := jv_if hf hc
    refine lv_aload_n hx hb d_M_finish_214 rfl (lv_at hl 0 rfl) ?_
    obtain ⟨x9, g10, hf⟩ := jv_ob hf
    have hPc := hP.sub (ws' := (w_model cI q_mo q_mlb_ q_mcl_ q_mus_ q_mwr_ q_mdk_ q_mcp_ mth mar y3 mLb mCl y4 y5 y6 mCp)) [0, 1, 2, 3, 4, 5, 6] rfl
    have hDc := hD.sub (ws' := (w_model cI q_mo q_mlb_ q_mcl_ q_mus_ q_mwr_ q_mdk_ q_mcp_ mth mar y3 mLb mCl y4 y5 y6 mCp)) [0, 1, 2, 3, 4, 5, 6] (by decide) rfl
    have hFc := va_free (wc := (w_model cI q_mo q_mlb_ q_mcl_ q_mus_ q_mwr_ q_mdk_ q_mcp_ mth mar y3 mLb mCl y4 y5 y6 mCp)) hD hS hA [0, 1, 2, 3, 4, 5, 6] rfl
    refine jv_cwi (va_runV (As := []) (rest := []) (b := q_mo) ⟨hx, hb, hml, hown, hts⟩ (c_M_crashNow l dC dI cI cA cL q_mo q_mlb_ q_mcl_ q_mus_ q_mwr_ q_mdk_ q_mcp_ mth mar y3 mLb mCl y4 y5 y6 mCp H.size x9 g10) (jv_cwV hts wa_249 wa_194 wa_250 wa_251 wa_252 rfl rfl yd_M_crashNow ⟨Nat.le_of_ble_eq_true rfl, Nat.le_of_ble_eq_true rfl⟩) (jv_preVW hK hPc hDc 0 rfl rfl) rfl rfl hl.1 rfl (lv_room (Nat.le_of_ble_eq_true rfl)) d_M_finish_215 ⟨Nat.zero_le _, Nat.zero_le _⟩) hS hFc (fun H1 locs hP1 hD1 hk1 hS => ?_)
    have hP : va_P (dC, dI) vwCl (w_model cI q_mo q_mlb_ q_mcl_ q_mus_ q_mwr_ q_mdk_ q_mcp_ mth mar x9.2.1 mLb mCl x9.2.2 y5 y6 mCp) H1 := hP1.sub [0, 1, 2, 3, 4, 5, 6] rfl
    have hD : va_D A (w_model cI q_mo q_mlb_ q_mcl_ q_mus_ q_mwr_ q_mdk_ q_mcp_ mth mar x9.2.1 mLb mCl x9.2.2 y5 y6 mCp) := (hD1.weaken (fun _ q _ h => hFc q.1 h)).sub [0, 1, 2, 3, 4, 5, 6] (by decide) rfl
    generalize H1 = H at hP hS ⊢
    refine lv_pop hx hb d_M_finish_218 rfl ?_
    refine lv_bipush (v := (-3 : Int32)) hx hb d_M_finish_219 (by decide) ?_
    obtain rfl := Option.some.inj hf
    exact W.iret hx hb hr (fun t ht hW => ⟨rfl, by rw [ht]; exact hP, hD, hS.F ht⟩) hS.2.2 d_M_finish_221
def f_M_finish_183 (mCp : Nat → Int32) (k164 : (Int32 × (Nat → Int32)) → Option (Int32 × Int32 × (Nat → Int32) × (Nat → Int32) × (Nat → Int32))) (y0 : Int32) (y1 : Int32) (y2 : Int32) (y3 : Int32) (y4 : Int32) (y5 : Int32) (y6 : Int32) (y7 : Int32) (y8 : Nat → Int32) (y9 : Nat → Int32) (y10 : Nat → Int32) : Option (Int32 × Int32 × (Nat → Int32) × (Nat → Int32) × (Nat → Int32)) :=
  (jv_ga mCp 232 y6).bind fun x11 => (jv_sa y10 1392 (((232 : Int32) * y0) + y6) x11).bind fun F13 => k164 (y6 + (1 : Int32), F13)
set_option maxHeartbeats 4000000 in
set_option maxRecDepth 100000 in
theorem b_M_finish_183 {l : Launch} {dC : Nat → ClassId} {dI : Nat → Nat → Nat} {cI cA cL : ClassId} {q_mo q_mlb_ q_mcl_ q_mus_ q_mwr_ q_mdk_ q_mcp_ : Nat} {mth : Int32} {mar : Int32} {mLb : Nat → Int32} {mCl : Nat → Int32} {mCp : Nat → Int32} {p : Program} {e : Env} {s : State} {m : MethodId} {args : Array Value} {below : List Frame} {meth : Method} {c : Code} (cx : jv_cx p s m args meth c cc_M_finish 8 R_Model (some .int) ws_M_finish) (hK : va_K (dC, dI) vwCl (jv_ty cI cA cL) s) {A : Nat → Prop} (hA : ∀ q : Nat, s.heap.size ≤ q → A q) {r : Int32 × Int32 × (Nat → Int32) × (Nat → Int32) × (Nat → Int32)} {k164 : (Int32 × (Nat → Int32)) → Option (Int32 × Int32 × (Nat → Int32) × (Nat → Int32) × (Nat → Int32))} {y0 : Int32} {y1 : Int32} {y2 : Int32} {y3 : Int32} {y4 : Int32} {y5 : Int32} {y6 : Int32} {y7 : Int32} {y8 : Nat → Int32} {y9 : Nat → Int32} {y10 : Nat → Int32} (hk164 : ∀ (a : Int32 × (Nat → Int32)) (ls : Array Slot) (H : Heap) (locs : List Loc), lv_has ls 8 [(0, .ref q_mo), (1, .int y0), (2, .int y1), (3, .int y2), (4, .int y3), (5, .int y4), (6, .int y5), (7, .int a.1)] → va_P (dC, dI) vwCl (w_model cI q_mo q_mlb_ q_mcl_ q_mus_ q_mwr_ q_mdk_ q_mcp_ mth mar y7 mLb mCl y8 y9 a.2 mCp) H → va_D A (w_model cI q_mo q_mlb_ q_mcl_ q_mus_ q_mwr_ q_mdk_ q_mcp_ mth mar y7 mLb mCl y8 y9 a.2 mCp) → va_S A s.heap H locs → k164 a = some r → W p l e rm_M_finish s m args below meth c H locs 0 0 (MQ below (jv_Qi r.1 (dC, dI) (w_model cI q_mo q_mlb_ q_mcl_ q_mus_ q_mwr_ q_mdk_ q_mcp_ mth mar r.2.1 mLb mCl r.2.2.1 r.2.2.2.1 r.2.2.2.2 mCp) A) args s 0 0 A) (F0 m 164 ls [])) {ls : Array Slot} (hl : lv_has ls 8 [(0, .ref q_mo), (1, .int y0), (2, .int y1), (3, .int y2), (4, .int y3), (5, .int y4), (6, .int y5), (7, .int y6)]) {H : Heap} {locs : List Loc} (hP : va_P (dC, dI) vwCl (w_model cI q_mo q_mlb_ q_mcl_ q_mus_ q_mwr_ q_mdk_ q_mcp_ mth mar y7 mLb mCl y8 y9 y10 mCp) H) (hD : va_D A (w_model cI q_mo q_mlb_ q_mcl_ q_mus_ q_mwr_ q_mdk_ q_mcp_ mth mar y7 mLb mCl y8 y9 y10 mCp)) (hS : va_S A s.heap H locs) (hf : f_M_finish_183 mCp k164 y0 y1 y2 y3 y4 y5 y6 y7 y8 y9 y10 = some r) : W p l e rm_M_finish s m args below meth c H locs 0 0 (MQ below (jv_Qi r.1 (dC, dI) (w_model cI q_mo q_mlb_ q_mcl_ q_mus_ q_mwr_ q_mdk_ q_mcp_ mth mar r.2.1 mLb mCl r.2.2.1 r.2.2.2.1 r.2.2.2.2 mCp) A) args s 0 0 A) (F0 m 183 ls []) := by
  unfold f_M_finish_183 at hf
  obtain ⟨hx, hb, hml, hown, hts, hr, hlocks⟩ := id cx
  refine lv_aload_n hx hb d_M_finish_183 rfl (lv_at hl 0 rfl) ?_
  refine va_get (D := (dC, dI)) (ci := kModel) (v := .ref q_mdk_) (C := R_Model) (T := T_Model) (N := 9) hx hb hts (fun w h => List.mem_cons_of_mem _ (in_Model w h)) hown hK hP 0 rfl rfl 6 (by decide) (jv_w hts wa_203) (fun _ h9 => h9) rfl d_M_finish_184 ?_
  refine lv_sipush (v := (232 : Int32)) hx hb d_M_finish_187 (by decide) ?_
  refine lv_iload_n hx hb d_M_finish_190 rfl (lv_at hl 1 rfl) ?_
  refine lv_imul hx hb d_M_finish_191 ?_
  refine lv_iload hx hb d_M_finish_192 (lv_at hl 7 rfl) ?_
  refine lv_iadd hx hb d_M_finish_194 ?_
  refine lv_aload_n hx hb d_M_finish_195 rfl (lv_at hl 0 rfl) ?_
  refine va_get (D := (dC, dI)) (ci := kModel) (v := .ref q_mcp_) (C := R_Model) (T := T_Model) (N := 9) hx hb hts (fun w h => List.mem_cons_of_mem _ (in_Model w h)) hown hK hP 0 rfl rfl 7 (by decide) (jv_w hts wa_238) (fun _ h9 => h9) rfl d_M_finish_196 ?_
  refine lv_iload hx hb d_M_finish_199 (lv_at hl 7 rfl) ?_
  obtain ⟨x11, g12, hf⟩ := jv_ob hf
  refine jv_iald hx hb hK hP 6 0 rfl rfl g12 d_M_finish_201 ?_
  obtain ⟨F13, g14, hf⟩ := jv_ob hf
  refine jv_iast hx hb hK hP hD hS 5 0 rfl rfl g14 d_M_finish_202 (fun H locs hP hD hS => ?_)
  have hP : va_P (dC, dI) vwCl (w_model cI q_mo q_mlb_ q_mcl_ q_mus_ q_mwr_ q_mdk_ q_mcp_ mth mar y7 mLb mCl y8 y9 F13 mCp) H := hP
  have hD : va_D A (w_model cI q_mo q_mlb_ q_mcl_ q_mus_ q_mwr_ q_mdk_ q_mcp_ mth mar y7 mLb mCl y8 y9 F13 mCp) := hD
  refine lv_iinc (k := 7) (v := y6 + (1 : Int32)) (lv' := [(7, .int (y6 + (1 : Int32))), (0, .ref q_mo), (1, .int y0), (2, .int y1), (3, .int y2), (4, .int y3), (5, .int y4), (6, .int y5)]) hx hb d_M_finish_203 hl rfl (jv_inc _) (by decide) rfl (fun ls hl => ?_)
  refine lv_goto (tgt := 164) hx hb d_M_finish_206 (by decide) ?_
  exact hk164 (y6 + (1 : Int32), F13) _ _ _ (lv_sub hl [1, 2, 3, 4, 5, 6, 7, 0] rfl) hP hD hS hf
def f_M_finish_164 (mCp : Nat → Int32) (y0 : Int32) (y1 : Int32) (y2 : Int32) (y3 : Int32) (y4 : Int32) (y5 : Int32) (y6 : Int32) (y7 : Nat → Int32) (y8 : Nat → Int32) (k164 : (Int32 × (Nat → Int32)) → Option (Int32 × Int32 × (Nat → Int32) × (Nat → Int32) × (Nat → Int32))) (a : Int32 × (Nat → Int32)) : Option (Int32 × Int32 × (Nat → Int32) × (Nat → Int32) × (Nat → Int32)) :=
  if (232 : Int32) ≤ a.1 then (f_M_finish_209 mCp y1 y3 y4 y6 y7 y8 a.2) else (if y4 = 0 then (f_M_finish_183 mCp k164 y0 y1 y2 y3 y4 y5 a.1 y6 y7 y8 a.2) else (if y5 ≤ y2 then (f_M_finish_209 mCp y1 y3 y4 y6 y7 y8 a.2) else (f_M_finish_183 mCp k164 y0 y1 y2 y3 y4 y5 a.1 y6 y7 y8 a.2)))
set_option maxHeartbeats 4000000 in
set_option maxRecDepth 100000 in
theorem b_M_finish_164 {l : Launch} {dC : Nat → ClassId} {dI : Nat → Nat → Nat} {cI cA cL : ClassId} {q_mo q_mlb_ q_mcl_ q_mus_ q_mwr_ q_mdk_ q_mcp_ : Nat} {mth : Int32} {mar : Int32} {mLb : Nat → Int32} {mCl : Nat → Int32} {mCp : Nat → Int32} {p : Program} {e : Env} {s : State} {m : MethodId} {args : Array Value} {below : List Frame} {meth : Method} {c : Code} (cx : jv_cx p s m args meth c cc_M_finish 8 R_Model (some .int) ws_M_finish) (hK : va_K (dC, dI) vwCl (jv_ty cI cA cL) s) {A : Nat → Prop} (hA : ∀ q : Nat, s.heap.size ≤ q → A q) {r : Int32 × Int32 × (Nat → Int32) × (Nat → Int32) × (Nat → Int32)} {y0 : Int32} {y1 : Int32} {y2 : Int32} {y3 : Int32} {y4 : Int32} {y5 : Int32} {y6 : Int32} {y7 : Nat → Int32} {y8 : Nat → Int32} {k164 : (Int32 × (Nat → Int32)) → Option (Int32 × Int32 × (Nat → Int32) × (Nat → Int32) × (Nat → Int32))} (hk164 : ∀ (a : Int32 × (Nat → Int32)) (ls : Array Slot) (H : Heap) (locs : List Loc), lv_has ls 8 [(0, .ref q_mo), (1, .int y0), (2, .int y1), (3, .int y2), (4, .int y3), (5, .int y4), (6, .int y5), (7, .int a.1)] → va_P (dC, dI) vwCl (w_model cI q_mo q_mlb_ q_mcl_ q_mus_ q_mwr_ q_mdk_ q_mcp_ mth mar y6 mLb mCl y7 y8 a.2 mCp) H → va_D A (w_model cI q_mo q_mlb_ q_mcl_ q_mus_ q_mwr_ q_mdk_ q_mcp_ mth mar y6 mLb mCl y7 y8 a.2 mCp) → va_S A s.heap H locs → k164 a = some r → W p l e rm_M_finish s m args below meth c H locs 0 0 (MQ below (jv_Qi r.1 (dC, dI) (w_model cI q_mo q_mlb_ q_mcl_ q_mus_ q_mwr_ q_mdk_ q_mcp_ mth mar r.2.1 mLb mCl r.2.2.1 r.2.2.2.1 r.2.2.2.2 mCp) A) args s 0 0 A) (F0 m 164 ls [])) {a : Int32 × (Nat → Int32)} {ls : Array Slot} (hl : lv_has ls 8 [(0, .ref q_mo), (1, .int y0), (2, .int y1), (3, .int y2), (4, .int y3), (5, .int y4), (6, .int y5), (7, .int a.1)]) {H : Heap} {locs : List Loc} (hP : va_P (dC, dI) vwCl (w_model cI q_mo q_mlb_ q_mcl_ q_mus_ q_mwr_ q_mdk_ q_mcp_ mth mar y6 mLb mCl y7 y8 a.2 mCp) H) (hD : va_D A (w_model cI q_mo q_mlb_ q_mcl_ q_mus_ q_mwr_ q_mdk_ q_mcp_ mth mar y6 mLb mCl y7 y8 a.2 mCp)) (hS : va_S A s.heap H locs) (hf : f_M_finish_164 mCp y0 y1 y2 y3 y4 y5 y6 y7 y8 k164 a = some r) : W p l e rm_M_finish s m args below meth c H locs 0 0 (MQ below (jv_Qi r.1 (dC, dI) (w_model cI q_mo q_mlb_ q_mcl_ q_mus_ q_mwr_ q_mdk_ q_mcp_ mth mar r.2.1 mLb mCl r.2.2.1 r.2.2.2.1 r.2.2.2.2 mCp) A) args s 0 0 A) (F0 m 164 ls []) := by
  unfold f_M_finish_164 at hf
  obtain ⟨hx, hb, hml, hown, hts, hr, hlocks⟩ := id cx
  refine lv_iload hx hb d_M_finish_164 (lv_at hl 7 rfl) ?_
  refine lv_sipush (v := (232 : Int32)) hx hb d_M_finish_166 (by decide) ?_
  refine lv_icmp_ge (tgt := 209) hx hb d_M_finish_169 (by decide) (fun hc => ?_) (fun hc => ?_)
  · have hf := jv_it hf hc
    exact b_M_finish_209 (y0 := y1) (y1 := y3) (y2 := y4) (y3 := y6) (y4 := y7) (y5 := y8) (y6 := a.2) cx hK hA (lv_sub hl [0, 2, 4, 5] rfl) hP hD hS hf
  · have hf := jv_if hf hc
    refine lv_iload hx hb d_M_finish_172 (lv_at hl 5 rfl) ?_
    refine lv_if_eq (tgt := 183) hx hb d_M_finish_174 (by decide) (fun hc => ?_) (fun hc => ?_)
    · have hf := jv_it hf hc
      exact b_M_finish_183 (y0 := y0) (y1 := y1) (y2 := y2) (y3 := y3) (y4 := y4) (y5 := y5) (y6 := a.1) (y7 := y6) (y8 := y7) (y9 := y8) (y10 := a.2) cx hK hA hk164 (lv_sub hl [0, 1, 2, 3, 4, 5, 6, 7] rfl) hP hD hS hf
    · have hf := jv_if hf hc
      refine lv_iload hx hb d_M_finish_177 (lv_at hl 6 rfl) ?_
      refine lv_iload_n hx hb d_M_finish_179 rfl (lv_at hl 3 rfl) ?_
      refine lv_icmp_le (tgt := 209) hx hb d_M_finish_180 (by decide) (fun hc => ?_) (fun hc => ?_)
      · have hf := jv_it hf hc
        exact b_M_finish_209 (y0 := y1) (y1 := y3) (y2 := y4) (y3 := y6) (y4 := y7) (y5 := y8) (y6 := a.2) cx hK hA (lv_sub hl [0, 2, 4, 5] rfl) hP hD hS hf
      · have hf := jv_if hf hc
        exact b_M_finish_183 (y0 := y0) (y1 := y1) (y2 := y2) (y3 := y3) (y4 := y4) (y5 := y5) (y6 := a.1) (y7 := y6) (y8 := y7) (y9 := y8) (y10 := a.2) cx hK hA hk164 (lv_sub hl [0, 1, 2, 3, 4, 5, 6, 7] rfl) hP hD hS hf
set_option maxHeartbeats 4000000 in
set_option maxRecDepth 100000 in
theorem l_M_finish_164 {l : Launch} {dC : Nat → ClassId} {dI : Nat → Nat → Nat} {cI cA cL : ClassId} {q_mo q_mlb_ q_mcl_ q_mus_ q_mwr_ q_mdk_ q_mcp_ : Nat} {mth : Int32} {mar : Int32} {mLb : Nat → Int32} {mCl : Nat → Int32} {mCp : Nat → Int32} {p : Program} {e : Env} {s : State} {m : MethodId} {args : Array Value} {below : List Frame} {meth : Method} {c : Code} (cx : jv_cx p s m args meth c cc_M_finish 8 R_Model (some .int) ws_M_finish) (hK : va_K (dC, dI) vwCl (jv_ty cI cA cL) s) {A : Nat → Prop} (hA : ∀ q : Nat, s.heap.size ≤ q → A q) {r : Int32 × Int32 × (Nat → Int32) × (Nat → Int32) × (Nat → Int32)} {y0 : Int32} {y1 : Int32} {y2 : Int32} {y3 : Int32} {y4 : Int32} {y5 : Int32} {y6 : Int32} {y7 : Nat → Int32} {y8 : Nat → Int32} : ∀ n : Nat, ∀ (a : Int32 × (Nat → Int32)) (ls : Array Slot) (H : Heap) (locs : List Loc), lv_has ls 8 [(0, .ref q_mo), (1, .int y0), (2, .int y1), (3, .int y2), (4, .int y3), (5, .int y4), (6, .int y5), (7, .int a.1)] → va_P (dC, dI) vwCl (w_model cI q_mo q_mlb_ q_mcl_ q_mus_ q_mwr_ q_mdk_ q_mcp_ mth mar y6 mLb mCl y7 y8 a.2 mCp) H → va_D A (w_model cI q_mo q_mlb_ q_mcl_ q_mus_ q_mwr_ q_mdk_ q_mcp_ mth mar y6 mLb mCl y7 y8 a.2 mCp) → va_S A s.heap H locs → jv_fx (f_M_finish_164 mCp y0 y1 y2 y3 y4 y5 y6 y7 y8) n a = some r → W p l e rm_M_finish s m args below meth c H locs 0 0 (MQ below (jv_Qi r.1 (dC, dI) (w_model cI q_mo q_mlb_ q_mcl_ q_mus_ q_mwr_ q_mdk_ q_mcp_ mth mar r.2.1 mLb mCl r.2.2.1 r.2.2.2.1 r.2.2.2.2 mCp) A) args s 0 0 A) (F0 m 164 ls []) := by
  intro n
  induction n with
  | zero => intro a ls H locs hl hP hD hS hf; exact jv_no hf
  | succ n ih => intro a ls H locs hl hP hD hS hf; exact b_M_finish_164 cx hK hA ih hl hP hD hS hf
def f_M_finish_132 (mCp : Nat → Int32) (y0 : Int32) (y1 : Int32) (y2 : Int32) (y3 : Int32) (y4 : Int32) (y5 : Int32) (y6 : Nat → Int32) (y7 : Nat → Int32) (y8 : Nat → Int32) : Option (Int32 × Int32 × (Nat → Int32) × (Nat → Int32) × (Nat → Int32)) :=
  if y4 = 0 then ((jv_ga y7 6 y0).bind fun x1 => (jv_sa y7 6 y0 (x1 + y3)).bind fun F3 => jv_fx (f_M_finish_164 mCp y0 y1 y2 y3 y4 y3 y5 y6 F3) 300 ((0 : Int32), y8)) else ((jv_ga y7 6 y0).bind fun x5 => (jv_sa y7 6 y0 (x5 + y5)).bind fun F7 => jv_fx (f_M_finish_164 mCp y0 y1 y2 y3 y4 y5 y5 y6 F7) 300 ((0 : Int32), y8))
set_option maxHeartbeats 4000000 in
set_option maxRecDepth 100000 in
theorem b_M_finish_132 {l : Launch} {dC : Nat → ClassId} {dI : Nat → Nat → Nat} {cI cA cL : ClassId} {q_mo q_mlb_ q_mcl_ q_mus_ q_mwr_ q_mdk_ q_mcp_ : Nat} {mth : Int32} {mar : Int32} {mLb : Nat → Int32} {mCl : Nat → Int32} {mCp : Nat → Int32} {p : Program} {e : Env} {s : State} {m : MethodId} {args : Array Value} {below : List Frame} {meth : Method} {c : Code} (cx : jv_cx p s m args meth c cc_M_finish 8 R_Model (some .int) ws_M_finish) (hK : va_K (dC, dI) vwCl (jv_ty cI cA cL) s) {A : Nat → Prop} (hA : ∀ q : Nat, s.heap.size ≤ q → A q) {r : Int32 × Int32 × (Nat → Int32) × (Nat → Int32) × (Nat → Int32)} {y0 : Int32} {y1 : Int32} {y2 : Int32} {y3 : Int32} {y4 : Int32} {y5 : Int32} {y6 : Nat → Int32} {y7 : Nat → Int32} {y8 : Nat → Int32} {ls : Array Slot} (hl : lv_has ls 8 [(0, .ref q_mo), (1, .int y0), (2, .int y1), (3, .int y2), (4, .int y3)]) {H : Heap} {locs : List Loc} (hP : va_P (dC, dI) vwCl (w_model cI q_mo q_mlb_ q_mcl_ q_mus_ q_mwr_ q_mdk_ q_mcp_ mth mar y5 mLb mCl y6 y7 y8 mCp) H) (hD : va_D A (w_model cI q_mo q_mlb_ q_mcl_ q_mus_ q_mwr_ q_mdk_ q_mcp_ mth mar y5 mLb mCl y6 y7 y8 mCp)) (hS : va_S A s.heap H locs) (hf : f_M_finish_132 mCp y0 y1 y2 y3 y4 y5 y6 y7 y8 = some r) : W p l e rm_M_finish s m args below meth c H locs 0 0 (MQ below (jv_Qi r.1 (dC, dI) (w_model cI q_mo q_mlb_ q_mcl_ q_mus_ q_mwr_ q_mdk_ q_mcp_ mth mar r.2.1 mLb mCl r.2.2.1 r.2.2.2.1 r.2.2.2.2 mCp) A) args s 0 0 A) (F0 m 132 ls [.int y4]) := by
  unfold f_M_finish_132 at hf
  obtain ⟨hx, hb, hml, hown, hts, hr, hlocks⟩ := id cx
  refine lv_istore (lv' := [(5, .int y4), (0, .ref q_mo), (1, .int y0), (2, .int y1), (3, .int y2), (4, .int y3)]) hx hb d_M_finish_132 hl (by decide) rfl (fun ls hl => ?_)
  refine lv_iload hx hb d_M_finish_134 (lv_at hl 0 rfl) ?_
  refine lv_if_eq (tgt := 146) hx hb d_M_finish_136 (by decide) (fun hc => ?_) (fun hc => ?_)
  · have hf := jv_it hf hc
    refine lv_iload hx hb d_M_finish_146 (lv_at hl 5 rfl) ?_
    refine lv_istore (lv' := [(6, .int y3), (5, .int y4), (0, .ref q_mo), (1, .int y0), (2, .int y1), (3, .int y2), (4, .int y3)]) hx hb d_M_finish_148 hl (by decide) rfl (fun ls hl => ?_)
    refine lv_aload_n hx hb d_M_finish_150 rfl (lv_at hl 2 rfl) ?_
    refine va_get (D := (dC, dI)) (ci := kModel) (v := .ref q_mwr_) (C := R_Model) (T := T_Model) (N := 9) hx hb hts (fun w h => List.mem_cons_of_mem _ (in_Model w h)) hown hK hP 0 rfl rfl 5 (by decide) (jv_w hts wa_248) (fun _ h9 => h9) rfl d_M_finish_151 ?_
    refine lv_iload_n hx hb d_M_finish_154 rfl (lv_at hl 3 rfl) ?_
    refine lv_dup2_11 hx hb d_M_finish_155 rfl rfl ?_
    obtain ⟨x1, g2, hf⟩ := jv_ob hf
    refine jv_iald hx hb hK hP 4 0 rfl rfl g2 d_M_finish_156 ?_
    refine lv_iload hx hb d_M_finish_157 (lv_at hl 0 rfl) ?_
    refine lv_iadd hx hb d_M_finish_159 ?_
    obtain ⟨F3, g4, hf⟩ := jv_ob hf
    refine jv_iast hx hb hK hP hD hS 4 0 rfl rfl g4 d_M_finish_160 (fun H locs hP hD hS => ?_)
    have hP : va_P (dC, dI) vwCl (w_model cI q_mo q_mlb_ q_mcl_ q_mus_ q_mwr_ q_mdk_ q_mcp_ mth mar y5 mLb mCl y6 F3 y8 mCp) H := hP
    have hD : va_D A (w_model cI q_mo q_mlb_ q_mcl_ q_mus_ q_mwr_ q_mdk_ q_mcp_ mth mar y5 mLb mCl y6 F3 y8 mCp) := hD
    refine lv_iconst (v := (0 : Int32)) hx hb d_M_finish_161 (by decide) ?_
    refine lv_istore (lv' := [(7, .int (0 : Int32)), (6, .int y3), (5, .int y4), (0, .ref q_mo), (1, .int y0), (2, .int y1), (3, .int y2), (4, .int y3)]) hx hb d_M_finish_162 hl (by decide) rfl (fun ls hl => ?_)
    exact l_M_finish_164 (y0 := y0) (y1 := y1) (y2 := y2) (y3 := y3) (y4 := y4) (y5 := y3) (y6 := y5) (y7 := y6) (y8 := F3) cx hK hA 300 ((0 : Int32), y8) _ _ _ (lv_sub hl [3, 4, 5, 6, 7, 2, 1, 0] rfl) hP hD hS hf
  · have hf := jv_if hf hc
    refine lv_aload_n hx hb d_M_finish_139 rfl (lv_at hl 1 rfl) ?_
    refine va_get (D := (dC, dI)) (ci := kModel) (v := .int y5) (C := R_Model) (T := T_Model) (N := 9) hx hb hts (fun w h => List.mem_cons_of_mem _ (in_Model w h)) hown hK hP 0 rfl rfl 8 (by decide) (jv_w hts wa_247) (fun _ h9 => h9) rfl d_M_finish_140 ?_
    refine lv_goto (tgt := 148) hx hb d_M_finish_143 (by decide) ?_
    refine lv_istore (lv' := [(6, .int y5), (5, .int y4), (0, .ref q_mo), (1, .int y0), (2, .int y1), (3, .int y2), (4, .int y3)]) hx hb d_M_finish_148 hl (by decide) rfl (fun ls hl => ?_)
    refine lv_aload_n hx hb d_M_finish_150 rfl (lv_at hl 2 rfl) ?_
    refine va_get (D := (dC, dI)) (ci := kModel) (v := .ref q_mwr_) (C := R_Model) (T := T_Model) (N := 9) hx hb hts (fun w h => List.mem_cons_of_mem _ (in_Model w h)) hown hK hP 0 rfl rfl 5 (by decide) (jv_w hts wa_248) (fun _ h9 => h9) rfl d_M_finish_151 ?_
    refine lv_iload_n hx hb d_M_finish_154 rfl (lv_at hl 3 rfl) ?_
    refine lv_dup2_11 hx hb d_M_finish_155 rfl rfl ?_
    obtain ⟨x5, g6, hf⟩ := jv_ob hf
    refine jv_iald hx hb hK hP 4 0 rfl rfl g6 d_M_finish_156 ?_
    refine lv_iload hx hb d_M_finish_157 (lv_at hl 0 rfl) ?_
    refine lv_iadd hx hb d_M_finish_159 ?_
    obtain ⟨F7, g8, hf⟩ := jv_ob hf
    refine jv_iast hx hb hK hP hD hS 4 0 rfl rfl g8 d_M_finish_160 (fun H locs hP hD hS => ?_)
    have hP : va_P (dC, dI) vwCl (w_model cI q_mo q_mlb_ q_mcl_ q_mus_ q_mwr_ q_mdk_ q_mcp_ mth mar y5 mLb mCl y6 F7 y8 mCp) H := hP
    have hD : va_D A (w_model cI q_mo q_mlb_ q_mcl_ q_mus_ q_mwr_ q_mdk_ q_mcp_ mth mar y5 mLb mCl y6 F7 y8 mCp) := hD
    refine lv_iconst (v := (0 : Int32)) hx hb d_M_finish_161 (by decide) ?_
    refine lv_istore (lv' := [(7, .int (0 : Int32)), (6, .int y5), (5, .int y4), (0, .ref q_mo), (1, .int y0), (2, .int y1), (3, .int y2), (4, .int y3)]) hx hb d_M_finish_162 hl (by decide) rfl (fun ls hl => ?_)
    exact l_M_finish_164 (y0 := y0) (y1 := y1) (y2 := y2) (y3 := y3) (y4 := y4) (y5 := y5) (y6 := y5) (y7 := y6) (y8 := F7) cx hK hA 300 ((0 : Int32), y8) _ _ _ (lv_sub hl [3, 4, 5, 6, 7, 2, 1, 0] rfl) hP hD hS hf
def f_M_finish_108 (mCp : Nat → Int32) (y0 : Int32) (y1 : Int32) (y2 : Int32) (y3 : Int32) (y4 : Int32) (y5 : Nat → Int32) (y6 : Nat → Int32) (y7 : Nat → Int32) : Option (Int32 × Int32 × (Nat → Int32) × (Nat → Int32) × (Nat → Int32)) :=
  if y4 = (-1 : Int32) then (f_M_finish_132 mCp y0 y1 y2 y3 (0 : Int32) y4 y5 y6 y7) else (if y3 ≤ y4 then (f_M_finish_132 mCp y0 y1 y2 y3 (0 : Int32) y4 y5 y6 y7) else (f_M_finish_132 mCp y0 y1 y2 y3 (1 : Int32) y4 y5 y6 y7))
set_option maxHeartbeats 4000000 in
set_option maxRecDepth 100000 in
theorem b_M_finish_108 {l : Launch} {dC : Nat → ClassId} {dI : Nat → Nat → Nat} {cI cA cL : ClassId} {q_mo q_mlb_ q_mcl_ q_mus_ q_mwr_ q_mdk_ q_mcp_ : Nat} {mth : Int32} {mar : Int32} {mLb : Nat → Int32} {mCl : Nat → Int32} {mCp : Nat → Int32} {p : Program} {e : Env} {s : State} {m : MethodId} {args : Array Value} {below : List Frame} {meth : Method} {c : Code} (cx : jv_cx p s m args meth c cc_M_finish 8 R_Model (some .int) ws_M_finish) (hK : va_K (dC, dI) vwCl (jv_ty cI cA cL) s) {A : Nat → Prop} (hA : ∀ q : Nat, s.heap.size ≤ q → A q) {r : Int32 × Int32 × (Nat → Int32) × (Nat → Int32) × (Nat → Int32)} {y0 : Int32} {y1 : Int32} {y2 : Int32} {y3 : Int32} {y4 : Int32} {y5 : Nat → Int32} {y6 : Nat → Int32} {y7 : Nat → Int32} {ls : Array Slot} (hl : lv_has ls 8 [(0, .ref q_mo), (1, .int y0), (2, .int y1), (3, .int y2)]) {H : Heap} {locs : List Loc} (hP : va_P (dC, dI) vwCl (w_model cI q_mo q_mlb_ q_mcl_ q_mus_ q_mwr_ q_mdk_ q_mcp_ mth mar y4 mLb mCl y5 y6 y7 mCp) H) (hD : va_D A (w_model cI q_mo q_mlb_ q_mcl_ q_mus_ q_mwr_ q_mdk_ q_mcp_ mth mar y4 mLb mCl y5 y6 y7 mCp)) (hS : va_S A s.heap H locs) (hf : f_M_finish_108 mCp y0 y1 y2 y3 y4 y5 y6 y7 = some r) : W p l e rm_M_finish s m args below meth c H locs 0 0 (MQ below (jv_Qi r.1 (dC, dI) (w_model cI q_mo q_mlb_ q_mcl_ q_mus_ q_mwr_ q_mdk_ q_mcp_ mth mar r.2.1 mLb mCl r.2.2.1 r.2.2.2.1 r.2.2.2.2 mCp) A) args s 0 0 A) (F0 m 108 ls [.int y3]) := by
  unfold f_M_finish_108 at hf
  obtain ⟨hx, hb, hml, hown, hts, hr, hlocks⟩ := id cx
  refine lv_istore (lv' := [(4, .int y3), (0, .ref q_mo), (1, .int y0), (2, .int y1), (3, .int y2)]) hx hb d_M_finish_108 hl (by decide) rfl (fun ls hl => ?_)
  refine lv_aload_n hx hb d_M_finish_110 rfl (lv_at hl 1 rfl) ?_
  refine va_get (D := (dC, dI)) (ci := kModel) (v := .int y4) (C := R_Model) (T := T_Model) (N := 9) hx hb hts (fun w h => List.mem_cons_of_mem _ (in_Model w h)) hown hK hP 0 rfl rfl 8 (by decide) (jv_w hts wa_247) (fun _ h9 => h9) rfl d_M_finish_111 ?_
  refine lv_iconst (v := (-1 : Int32)) hx hb d_M_finish_114 (by decide) ?_
  refine lv_icmp_eq (tgt := 131) hx hb d_M_finish_115 (by decide) (fun hc => ?_) (fun hc => ?_)
  · have hf := jv_it hf hc
    refine lv_iconst (v := (0 : Int32)) hx hb d_M_finish_131 (by decide) ?_
    exact b_M_finish_132 (y0 := y0) (y1 := y1) (y2 := y2) (y3 := y3) (y4 := (0 : Int32)) (y5 := y4) (y6 := y5) (y7 := y6) (y8 := y7) cx hK hA (lv_sub hl [1, 2, 3, 4, 0] rfl) hP hD hS hf
  · have hf := jv_if hf hc
    refine lv_aload_n hx hb d_M_finish_118 rfl (lv_at hl 1 rfl) ?_
    refine va_get (D := (dC, dI)) (ci := kModel) (v := .int y4) (C := R_Model) (T := T_Model) (N := 9) hx hb hts (fun w h => List.mem_cons_of_mem _ (in_Model w h)) hown hK hP 0 rfl rfl 8 (by decide) (jv_w hts wa_247) (fun _ h9 => h9) rfl d_M_finish_119 ?_
    refine lv_iload hx hb d_M_finish_122 (lv_at hl 0 rfl) ?_
    refine lv_icmp_ge (tgt := 131) hx hb d_M_finish_124 (by decide) (fun hc => ?_) (fun hc => ?_)
    · have hf := jv_it hf hc
      refine lv_iconst (v := (0 : Int32)) hx hb d_M_finish_131 (by decide) ?_
      exact b_M_finish_132 (y0 := y0) (y1 := y1) (y2 := y2) (y3 := y3) (y4 := (0 : Int32)) (y5 := y4) (y6 := y5) (y7 := y6) (y8 := y7) cx hK hA (lv_sub hl [1, 2, 3, 4, 0] rfl) hP hD hS hf
    · have hf := jv_if hf hc
      refine lv_iconst (v := (1 : Int32)) hx hb d_M_finish_127 (by decide) ?_
      refine lv_goto (tgt := 132) hx hb d_M_finish_128 (by decide) ?_
      exact b_M_finish_132 (y0 := y0) (y1 := y1) (y2 := y2) (y3 := y3) (y4 := (1 : Int32)) (y5 := y4) (y6 := y5) (y7 := y6) (y8 := y7) cx hK hA (lv_sub hl [1, 2, 3, 4, 0] rfl) hP hD hS hf
def f_M_finish_22 (mCp : Nat → Int32) (k5 : (Int32 × Int32) → Option (Int32 × Int32 × (Nat → Int32) × (Nat → Int32) × (Nat → Int32))) (y0 : Int32) (y1 : Int32) (y2 : Int32) (y3 : Int32) (y4 : Int32) (y5 : Nat → Int32) (y6 : Nat → Int32) (y7 : Nat → Int32) (k22 : (Int32 × Int32) → Option (Int32 × Int32 × (Nat → Int32) × (Nat → Int32) × (Nat → Int32))) (a : Int32 × Int32) : Option (Int32 × Int32 × (Nat → Int32) × (Nat → Int32) × (Nat → Int32)) :=
  if (((8 : Int32) * y3) + (8 : Int32)) ≤ a.2 then (if a.1 = 0 then (k5 (y2 + (0 : Int32), y3 + (1 : Int32))) else (k5 (y2 + (1 : Int32), y3 + (1 : Int32)))) else (if a.1 = 0 then ((jv_ga mCp 232 a.2).bind fun x15 => (jv_ga y7 1392 (((232 : Int32) * y0) + a.2)).bind fun x17 => if x15 = x17 then (k22 ((0 : Int32), a.2 + (1 : Int32))) else (k22 ((1 : Int32), a.2 + (1 : Int32)))) else (k22 ((1 : Int32), a.2 + (1 : Int32))))
set_option maxHeartbeats 4000000 in
set_option maxRecDepth 100000 in
theorem b_M_finish_22 {l : Launch} {dC : Nat → ClassId} {dI : Nat → Nat → Nat} {cI cA cL : ClassId} {q_mo q_mlb_ q_mcl_ q_mus_ q_mwr_ q_mdk_ q_mcp_ : Nat} {mth : Int32} {mar : Int32} {mLb : Nat → Int32} {mCl : Nat → Int32} {mCp : Nat → Int32} {p : Program} {e : Env} {s : State} {m : MethodId} {args : Array Value} {below : List Frame} {meth : Method} {c : Code} (cx : jv_cx p s m args meth c cc_M_finish 8 R_Model (some .int) ws_M_finish) (hK : va_K (dC, dI) vwCl (jv_ty cI cA cL) s) {A : Nat → Prop} (hA : ∀ q : Nat, s.heap.size ≤ q → A q) {r : Int32 × Int32 × (Nat → Int32) × (Nat → Int32) × (Nat → Int32)} {k5 : (Int32 × Int32) → Option (Int32 × Int32 × (Nat → Int32) × (Nat → Int32) × (Nat → Int32))} {y0 : Int32} {y1 : Int32} {y2 : Int32} {y3 : Int32} {y4 : Int32} {y5 : Nat → Int32} {y6 : Nat → Int32} {y7 : Nat → Int32} (hk5 : ∀ (a : Int32 × Int32) (ls : Array Slot) (H : Heap) (locs : List Loc), lv_has ls 8 [(0, .ref q_mo), (1, .int y0), (2, .int y1), (3, .int a.1), (4, .int a.2)] → va_P (dC, dI) vwCl (w_model cI q_mo q_mlb_ q_mcl_ q_mus_ q_mwr_ q_mdk_ q_mcp_ mth mar y4 mLb mCl y5 y6 y7 mCp) H → va_D A (w_model cI q_mo q_mlb_ q_mcl_ q_mus_ q_mwr_ q_mdk_ q_mcp_ mth mar y4 mLb mCl y5 y6 y7 mCp) → va_S A s.heap H locs → k5 a = some r → W p l e rm_M_finish s m args below meth c H locs 0 0 (MQ below (jv_Qi r.1 (dC, dI) (w_model cI q_mo q_mlb_ q_mcl_ q_mus_ q_mwr_ q_mdk_ q_mcp_ mth mar r.2.1 mLb mCl r.2.2.1 r.2.2.2.1 r.2.2.2.2 mCp) A) args s 0 0 A) (F0 m 5 ls [])) {k22 : (Int32 × Int32) → Option (Int32 × Int32 × (Nat → Int32) × (Nat → Int32) × (Nat → Int32))} (hk22 : ∀ (a : Int32 × Int32) (ls : Array Slot) (H : Heap) (locs : List Loc), lv_has ls 8 [(0, .ref q_mo), (1, .int y0), (2, .int y1), (3, .int y2), (4, .int y3), (5, .int a.1), (6, .int a.2)] → va_P (dC, dI) vwCl (w_model cI q_mo q_mlb_ q_mcl_ q_mus_ q_mwr_ q_mdk_ q_mcp_ mth mar y4 mLb mCl y5 y6 y7 mCp) H → va_D A (w_model cI q_mo q_mlb_ q_mcl_ q_mus_ q_mwr_ q_mdk_ q_mcp_ mth mar y4 mLb mCl y5 y6 y7 mCp) → va_S A s.heap H locs → k22 a = some r → W p l e rm_M_finish s m args below meth c H locs 0 0 (MQ below (jv_Qi r.1 (dC, dI) (w_model cI q_mo q_mlb_ q_mcl_ q_mus_ q_mwr_ q_mdk_ q_mcp_ mth mar r.2.1 mLb mCl r.2.2.1 r.2.2.2.1 r.2.2.2.2 mCp) A) args s 0 0 A) (F0 m 22 ls [])) {a : Int32 × Int32} {ls : Array Slot} (hl : lv_has ls 8 [(0, .ref q_mo), (1, .int y0), (2, .int y1), (3, .int y2), (4, .int y3), (5, .int a.1), (6, .int a.2)]) {H : Heap} {locs : List Loc} (hP : va_P (dC, dI) vwCl (w_model cI q_mo q_mlb_ q_mcl_ q_mus_ q_mwr_ q_mdk_ q_mcp_ mth mar y4 mLb mCl y5 y6 y7 mCp) H) (hD : va_D A (w_model cI q_mo q_mlb_ q_mcl_ q_mus_ q_mwr_ q_mdk_ q_mcp_ mth mar y4 mLb mCl y5 y6 y7 mCp)) (hS : va_S A s.heap H locs) (hf : f_M_finish_22 mCp k5 y0 y1 y2 y3 y4 y5 y6 y7 k22 a = some r) : W p l e rm_M_finish s m args below meth c H locs 0 0 (MQ below (jv_Qi r.1 (dC, dI) (w_model cI q_mo q_mlb_ q_mcl_ q_mus_ q_mwr_ q_mdk_ q_mcp_ mth mar r.2.1 mLb mCl r.2.2.1 r.2.2.2.1 r.2.2.2.2 mCp) A) args s 0 0 A) (F0 m 22 ls []) := by
  unfold f_M_finish_22 at hf
  obtain ⟨hx, hb, hml, hown, hts, hr, hlocks⟩ := id cx
  refine lv_iload hx hb d_M_finish_22 (lv_at hl 6 rfl) ?_
  refine lv_bipush (v := (8 : Int32)) hx hb d_M_finish_24 (by decide) ?_
  refine lv_iload hx hb d_M_finish_26 (lv_at hl 4 rfl) ?_
  refine lv_imul hx hb d_M_finish_28 ?_
  refine lv_bipush (v := (8 : Int32)) hx hb d_M_finish_29 (by decide) ?_
  refine lv_iadd hx hb d_M_finish_31 ?_
  refine lv_icmp_ge (tgt := 76) hx hb d_M_finish_32 (by decide) (fun hc => ?_) (fun hc => ?_)
  · have hf := jv_it hf hc
    refine lv_iload_n hx hb d_M_finish_76 rfl (lv_at hl 3 rfl) ?_
    refine lv_iload hx hb d_M_finish_77 (lv_at hl 5 rfl) ?_
    refine lv_if_eq (tgt := 86) hx hb d_M_finish_79 (by decide) (fun hc => ?_) (fun hc => ?_)
    · have hf := jv_it hf hc
      refine lv_iconst (v := (0 : Int32)) hx hb d_M_finish_86 (by decide) ?_
      refine lv_iadd hx hb d_M_finish_87 ?_
      refine lv_istore_n (lv' := [(3, .int (y2 + (0 : Int32))), (0, .ref q_mo), (1, .int y0), (2, .int y1), (4, .int y3), (5, .int a.1), (6, .int a.2)]) hx hb d_M_finish_88 rfl hl (by decide) rfl (fun ls hl => ?_)
      refine lv_iinc (k := 4) (v := y3 + (1 : Int32)) (lv' := [(4, .int (y3 + (1 : Int32))), (3, .int (y2 + (0 : Int32))), (0, .ref q_mo), (1, .int y0), (2, .int y1), (5, .int a.1), (6, .int a.2)]) hx hb d_M_finish_89 hl rfl (jv_inc _) (by decide) rfl (fun ls hl => ?_)
      refine lv_goto (tgt := 5) hx hb d_M_finish_92 (by decide) ?_
      exact hk5 (y2 + (0 : Int32), y3 + (1 : Int32)) _ _ _ (lv_sub hl [2, 3, 4, 1, 0] rfl) hP hD hS hf
    · have hf := jv_if hf hc
      refine lv_iconst (v := (1 : Int32)) hx hb d_M_finish_82 (by decide) ?_
      refine lv_goto (tgt := 87) hx hb d_M_finish_83 (by decide) ?_
      refine lv_iadd hx hb d_M_finish_87 ?_
      refine lv_istore_n (lv' := [(3, .int (y2 + (1 : Int32))), (0, .ref q_mo), (1, .int y0), (2, .int y1), (4, .int y3), (5, .int a.1), (6, .int a.2)]) hx hb d_M_finish_88 rfl hl (by decide) rfl (fun ls hl => ?_)
      refine lv_iinc (k := 4) (v := y3 + (1 : Int32)) (lv' := [(4, .int (y3 + (1 : Int32))), (3, .int (y2 + (1 : Int32))), (0, .ref q_mo), (1, .int y0), (2, .int y1), (5, .int a.1), (6, .int a.2)]) hx hb d_M_finish_89 hl rfl (jv_inc _) (by decide) rfl (fun ls hl => ?_)
      refine lv_goto (tgt := 5) hx hb d_M_finish_92 (by decide) ?_
      exact hk5 (y2 + (1 : Int32), y3 + (1 : Int32)) _ _ _ (lv_sub hl [2, 3, 4, 1, 0] rfl) hP hD hS hf
  · have hf := jv_if hf hc
    refine lv_iload hx hb d_M_finish_35 (lv_at hl 5 rfl) ?_
    refine lv_if_ne (tgt := 63) hx hb d_M_finish_37 (by decide) (fun hc => ?_) (fun hc => ?_)
    · have hf := jv_if hf hc
      refine lv_iconst (v := (1 : Int32)) hx hb d_M_finish_63 (by decide) ?_
      refine lv_goto (tgt := 68) hx hb d_M_finish_64 (by decide) ?_
      refine lv_istore (lv' := [(5, .int (1 : Int32)), (0, .ref q_mo), (1, .int y0), (2, .int y1), (3, .int y2), (4, .int y3), (6, .int a.2)]) hx hb d_M_finish_68 hl (by decide) rfl (fun ls hl => ?_)
      refine lv_iinc (k := 6) (v := a.2 + (1 : Int32)) (lv' := [(6, .int (a.2 + (1 : Int32))), (5, .int (1 : Int32)), (0, .ref q_mo), (1, .int y0), (2, .int y1), (3, .int y2), (4, .int y3)]) hx hb d_M_finish_70 hl rfl (jv_inc _) (by decide) rfl (fun ls hl => ?_)
      refine lv_goto (tgt := 22) hx hb d_M_finish_73 (by decide) ?_
      exact hk22 ((1 : Int32), a.2 + (1 : Int32)) _ _ _ (lv_sub hl [2, 3, 4, 5, 6, 1, 0] rfl) hP hD hS hf
    · have hf := jv_it hf hc
      refine lv_aload_n hx hb d_M_finish_40 rfl (lv_at hl 0 rfl) ?_
      refine va_get (D := (dC, dI)) (ci := kModel) (v := .ref q_mcp_) (C := R_Model) (T := T_Model) (N := 9) hx hb hts (fun w h => List.mem_cons_of_mem _ (in_Model w h)) hown hK hP 0 rfl rfl 7 (by decide) (jv_w hts wa_238) (fun _ h9 => h9) rfl d_M_finish_41 ?_
      refine lv_iload hx hb d_M_finish_44 (lv_at hl 6 rfl) ?_
      obtain ⟨x15, g16, hf⟩ := jv_ob hf
      refine jv_iald hx hb hK hP 6 0 rfl rfl g16 d_M_finish_46 ?_
      refine lv_aload_n hx hb d_M_finish_47 rfl (lv_at hl 0 rfl) ?_
      refine va_get (D := (dC, dI)) (ci := kModel) (v := .ref q_mdk_) (C := R_Model) (T := T_Model) (N := 9) hx hb hts (fun w h => List.mem_cons_of_mem _ (in_Model w h)) hown hK hP 0 rfl rfl 6 (by decide) (jv_w hts wa_203) (fun _ h9 => h9) rfl d_M_finish_48 ?_
      refine lv_sipush (v := (232 : Int32)) hx hb d_M_finish_51 (by decide) ?_
      refine lv_iload_n hx hb d_M_finish_54 rfl (lv_at hl 1 rfl) ?_
      refine lv_imul hx hb d_M_finish_55 ?_
      refine lv_iload hx hb d_M_finish_56 (lv_at hl 6 rfl) ?_
      refine lv_iadd hx hb d_M_finish_58 ?_
      obtain ⟨x17, g18, hf⟩ := jv_ob hf
      refine jv_iald hx hb hK hP 5 0 rfl rfl g18 d_M_finish_59 ?_
      refine lv_icmp_eq (tgt := 67) hx hb d_M_finish_60 (by decide) (fun hc => ?_) (fun hc => ?_)
      · have hf := jv_it hf hc
        refine lv_iconst (v := (0 : Int32)) hx hb d_M_finish_67 (by decide) ?_
        refine lv_istore (lv' := [(5, .int (0 : Int32)), (0, .ref q_mo), (1, .int y0), (2, .int y1), (3, .int y2), (4, .int y3), (6, .int a.2)]) hx hb d_M_finish_68 hl (by decide) rfl (fun ls hl => ?_)
        refine lv_iinc (k := 6) (v := a.2 + (1 : Int32)) (lv' := [(6, .int (a.2 + (1 : Int32))), (5, .int (0 : Int32)), (0, .ref q_mo), (1, .int y0), (2, .int y1), (3, .int y2), (4, .int y3)]) hx hb d_M_finish_70 hl rfl (jv_inc _) (by decide) rfl (fun ls hl => ?_)
        refine lv_goto (tgt := 22) hx hb d_M_finish_73 (by decide) ?_
        exact hk22 ((0 : Int32), a.2 + (1 : Int32)) _ _ _ (lv_sub hl [2, 3, 4, 5, 6, 1, 0] rfl) hP hD hS hf
      · have hf := jv_if hf hc
        refine lv_iconst (v := (1 : Int32)) hx hb d_M_finish_63 (by decide) ?_
        refine lv_goto (tgt := 68) hx hb d_M_finish_64 (by decide) ?_
        refine lv_istore (lv' := [(5, .int (1 : Int32)), (0, .ref q_mo), (1, .int y0), (2, .int y1), (3, .int y2), (4, .int y3), (6, .int a.2)]) hx hb d_M_finish_68 hl (by decide) rfl (fun ls hl => ?_)
        refine lv_iinc (k := 6) (v := a.2 + (1 : Int32)) (lv' := [(6, .int (a.2 + (1 : Int32))), (5, .int (1 : Int32)), (0, .ref q_mo), (1, .int y0), (2, .int y1), (3, .int y2), (4, .int y3)]) hx hb d_M_finish_70 hl rfl (jv_inc _) (by decide) rfl (fun ls hl => ?_)
        refine lv_goto (tgt := 22) hx hb d_M_finish_73 (by decide) ?_
        exact hk22 ((1 : Int32), a.2 + (1 : Int32)) _ _ _ (lv_sub hl [2, 3, 4, 5, 6, 1, 0] rfl) hP hD hS hf
set_option maxHeartbeats 4000000 in
set_option maxRecDepth 100000 in
theorem l_M_finish_22 {l : Launch} {dC : Nat → ClassId} {dI : Nat → Nat → Nat} {cI cA cL : ClassId} {q_mo q_mlb_ q_mcl_ q_mus_ q_mwr_ q_mdk_ q_mcp_ : Nat} {mth : Int32} {mar : Int32} {mLb : Nat → Int32} {mCl : Nat → Int32} {mCp : Nat → Int32} {p : Program} {e : Env} {s : State} {m : MethodId} {args : Array Value} {below : List Frame} {meth : Method} {c : Code} (cx : jv_cx p s m args meth c cc_M_finish 8 R_Model (some .int) ws_M_finish) (hK : va_K (dC, dI) vwCl (jv_ty cI cA cL) s) {A : Nat → Prop} (hA : ∀ q : Nat, s.heap.size ≤ q → A q) {r : Int32 × Int32 × (Nat → Int32) × (Nat → Int32) × (Nat → Int32)} {k5 : (Int32 × Int32) → Option (Int32 × Int32 × (Nat → Int32) × (Nat → Int32) × (Nat → Int32))} {y0 : Int32} {y1 : Int32} {y2 : Int32} {y3 : Int32} {y4 : Int32} {y5 : Nat → Int32} {y6 : Nat → Int32} {y7 : Nat → Int32} (hk5 : ∀ (a : Int32 × Int32) (ls : Array Slot) (H : Heap) (locs : List Loc), lv_has ls 8 [(0, .ref q_mo), (1, .int y0), (2, .int y1), (3, .int a.1), (4, .int a.2)] → va_P (dC, dI) vwCl (w_model cI q_mo q_mlb_ q_mcl_ q_mus_ q_mwr_ q_mdk_ q_mcp_ mth mar y4 mLb mCl y5 y6 y7 mCp) H → va_D A (w_model cI q_mo q_mlb_ q_mcl_ q_mus_ q_mwr_ q_mdk_ q_mcp_ mth mar y4 mLb mCl y5 y6 y7 mCp) → va_S A s.heap H locs → k5 a = some r → W p l e rm_M_finish s m args below meth c H locs 0 0 (MQ below (jv_Qi r.1 (dC, dI) (w_model cI q_mo q_mlb_ q_mcl_ q_mus_ q_mwr_ q_mdk_ q_mcp_ mth mar r.2.1 mLb mCl r.2.2.1 r.2.2.2.1 r.2.2.2.2 mCp) A) args s 0 0 A) (F0 m 5 ls [])) : ∀ n : Nat, ∀ (a : Int32 × Int32) (ls : Array Slot) (H : Heap) (locs : List Loc), lv_has ls 8 [(0, .ref q_mo), (1, .int y0), (2, .int y1), (3, .int y2), (4, .int y3), (5, .int a.1), (6, .int a.2)] → va_P (dC, dI) vwCl (w_model cI q_mo q_mlb_ q_mcl_ q_mus_ q_mwr_ q_mdk_ q_mcp_ mth mar y4 mLb mCl y5 y6 y7 mCp) H → va_D A (w_model cI q_mo q_mlb_ q_mcl_ q_mus_ q_mwr_ q_mdk_ q_mcp_ mth mar y4 mLb mCl y5 y6 y7 mCp) → va_S A s.heap H locs → jv_fx (f_M_finish_22 mCp k5 y0 y1 y2 y3 y4 y5 y6 y7) n a = some r → W p l e rm_M_finish s m args below meth c H locs 0 0 (MQ below (jv_Qi r.1 (dC, dI) (w_model cI q_mo q_mlb_ q_mcl_ q_mus_ q_mwr_ q_mdk_ q_mcp_ mth mar r.2.1 mLb mCl r.2.2.1 r.2.2.2.1 r.2.2.2.2 mCp) A) args s 0 0 A) (F0 m 22 ls []) := by
  intro n
  induction n with
  | zero => intro a ls H locs hl hP hD hS hf; exact jv_no hf
  | succ n ih => intro a ls H locs hl hP hD hS hf; exact b_M_finish_22 cx hK hA hk5 ih hl hP hD hS hf
def f_M_finish_5 (mCp : Nat → Int32) (y0 : Int32) (y1 : Int32) (y2 : Int32) (y3 : Nat → Int32) (y4 : Nat → Int32) (y5 : Nat → Int32) (k5 : (Int32 × Int32) → Option (Int32 × Int32 × (Nat → Int32) × (Nat → Int32) × (Nat → Int32))) (a : Int32 × Int32) : Option (Int32 × Int32 × (Nat → Int32) × (Nat → Int32) × (Nat → Int32)) :=
  if (29 : Int32) ≤ a.2 then (if a.1 = 0 then (f_M_finish_108 mCp y0 y1 a.1 (0 : Int32) y2 y3 y4 y5) else (f_M_finish_108 mCp y0 y1 a.1 (((2 : Int32) * a.1) + (2 : Int32)) y2 y3 y4 y5)) else (jv_fx (f_M_finish_22 mCp k5 y0 y1 a.1 a.2 y2 y3 y4 y5) 300 ((0 : Int32), (8 : Int32) * a.2))
set_option maxHeartbeats 4000000 in
set_option maxRecDepth 100000 in
theorem b_M_finish_5 {l : Launch} {dC : Nat → ClassId} {dI : Nat → Nat → Nat} {cI cA cL : ClassId} {q_mo q_mlb_ q_mcl_ q_mus_ q_mwr_ q_mdk_ q_mcp_ : Nat} {mth : Int32} {mar : Int32} {mLb : Nat → Int32} {mCl : Nat → Int32} {mCp : Nat → Int32} {p : Program} {e : Env} {s : State} {m : MethodId} {args : Array Value} {below : List Frame} {meth : Method} {c : Code} (cx : jv_cx p s m args meth c cc_M_finish 8 R_Model (some .int) ws_M_finish) (hK : va_K (dC, dI) vwCl (jv_ty cI cA cL) s) {A : Nat → Prop} (hA : ∀ q : Nat, s.heap.size ≤ q → A q) {r : Int32 × Int32 × (Nat → Int32) × (Nat → Int32) × (Nat → Int32)} {y0 : Int32} {y1 : Int32} {y2 : Int32} {y3 : Nat → Int32} {y4 : Nat → Int32} {y5 : Nat → Int32} {k5 : (Int32 × Int32) → Option (Int32 × Int32 × (Nat → Int32) × (Nat → Int32) × (Nat → Int32))} (hk5 : ∀ (a : Int32 × Int32) (ls : Array Slot) (H : Heap) (locs : List Loc), lv_has ls 8 [(0, .ref q_mo), (1, .int y0), (2, .int y1), (3, .int a.1), (4, .int a.2)] → va_P (dC, dI) vwCl (w_model cI q_mo q_mlb_ q_mcl_ q_mus_ q_mwr_ q_mdk_ q_mcp_ mth mar y2 mLb mCl y3 y4 y5 mCp) H → va_D A (w_model cI q_mo q_mlb_ q_mcl_ q_mus_ q_mwr_ q_mdk_ q_mcp_ mth mar y2 mLb mCl y3 y4 y5 mCp) → va_S A s.heap H locs → k5 a = some r → W p l e rm_M_finish s m args below meth c H locs 0 0 (MQ below (jv_Qi r.1 (dC, dI) (w_model cI q_mo q_mlb_ q_mcl_ q_mus_ q_mwr_ q_mdk_ q_mcp_ mth mar r.2.1 mLb mCl r.2.2.1 r.2.2.2.1 r.2.2.2.2 mCp) A) args s 0 0 A) (F0 m 5 ls [])) {a : Int32 × Int32} {ls : Array Slot} (hl : lv_has ls 8 [(0, .ref q_mo), (1, .int y0), (2, .int y1), (3, .int a.1), (4, .int a.2)]) {H : Heap} {locs : List Loc} (hP : va_P (dC, dI) vwCl (w_model cI q_mo q_mlb_ q_mcl_ q_mus_ q_mwr_ q_mdk_ q_mcp_ mth mar y2 mLb mCl y3 y4 y5 mCp) H) (hD : va_D A (w_model cI q_mo q_mlb_ q_mcl_ q_mus_ q_mwr_ q_mdk_ q_mcp_ mth mar y2 mLb mCl y3 y4 y5 mCp)) (hS : va_S A s.heap H locs) (hf : f_M_finish_5 mCp y0 y1 y2 y3 y4 y5 k5 a = some r) : W p l e rm_M_finish s m args below meth c H locs 0 0 (MQ below (jv_Qi r.1 (dC, dI) (w_model cI q_mo q_mlb_ q_mcl_ q_mus_ q_mwr_ q_mdk_ q_mcp_ mth mar r.2.1 mLb mCl r.2.2.1 r.2.2.2.1 r.2.2.2.2 mCp) A) args s 0 0 A) (F0 m 5 ls []) := by
  unfold f_M_finish_5 at hf
  obtain ⟨hx, hb, hml, hown, hts, hr, hlocks⟩ := id cx
  refine lv_iload hx hb d_M_finish_5 (lv_at hl 4 rfl) ?_
  refine lv_bipush (v := (29 : Int32)) hx hb d_M_finish_7 (by decide) ?_
  refine lv_icmp_ge (tgt := 95) hx hb d_M_finish_9 (by decide) (fun hc => ?_) (fun hc => ?_)
  · have hf := jv_it hf hc
    refine lv_iload_n hx hb d_M_finish_95 rfl (lv_at hl 3 rfl) ?_
    refine lv_if_ne (tgt := 103) hx hb d_M_finish_96 (by decide) (fun hc => ?_) (fun hc => ?_)
    · have hf := jv_if hf hc
      refine lv_iconst (v := (2 : Int32)) hx hb d_M_finish_103 (by decide) ?_
      refine lv_iload_n hx hb d_M_finish_104 rfl (lv_at hl 3 rfl) ?_
      refine lv_imul hx hb d_M_finish_105 ?_
      refine lv_iconst (v := (2 : Int32)) hx hb d_M_finish_106 (by decide) ?_
      refine lv_iadd hx hb d_M_finish_107 ?_
      exact b_M_finish_108 (y0 := y0) (y1 := y1) (y2 := a.1) (y3 := ((2 : Int32) * a.1) + (2 : Int32)) (y4 := y2) (y5 := y3) (y6 := y4) (y7 := y5) cx hK hA (lv_sub hl [0, 1, 2, 3] rfl) hP hD hS hf
    · have hf := jv_it hf hc
      refine lv_iconst (v := (0 : Int32)) hx hb d_M_finish_99 (by decide) ?_
      refine lv_goto (tgt := 108) hx hb d_M_finish_100 (by decide) ?_
      exact b_M_finish_108 (y0 := y0) (y1 := y1) (y2 := a.1) (y3 := (0 : Int32)) (y4 := y2) (y5 := y3) (y6 := y4) (y7 := y5) cx hK hA (lv_sub hl [0, 1, 2, 3] rfl) hP hD hS hf
  · have hf := jv_if hf hc
    refine lv_iconst (v := (0 : Int32)) hx hb d_M_finish_12 (by decide) ?_
    refine lv_istore (lv' := [(5, .int (0 : Int32)), (0, .ref q_mo), (1, .int y0), (2, .int y1), (3, .int a.1), (4, .int a.2)]) hx hb d_M_finish_13 hl (by decide) rfl (fun ls hl => ?_)
    refine lv_bipush (v := (8 : Int32)) hx hb d_M_finish_15 (by decide) ?_
    refine lv_iload hx hb d_M_finish_17 (lv_at hl 5 rfl) ?_
    refine lv_imul hx hb d_M_finish_19 ?_
    refine lv_istore (lv' := [(6, .int ((8 : Int32) * a.2)), (5, .int (0 : Int32)), (0, .ref q_mo), (1, .int y0), (2, .int y1), (3, .int a.1), (4, .int a.2)]) hx hb d_M_finish_20 hl (by decide) rfl (fun ls hl => ?_)
    exact l_M_finish_22 (y0 := y0) (y1 := y1) (y2 := a.1) (y3 := a.2) (y4 := y2) (y5 := y3) (y6 := y4) (y7 := y5) cx hK hA hk5 300 ((0 : Int32), (8 : Int32) * a.2) _ _ _ (lv_sub hl [2, 3, 4, 5, 6, 1, 0] rfl) hP hD hS hf
set_option maxHeartbeats 4000000 in
set_option maxRecDepth 100000 in
theorem l_M_finish_5 {l : Launch} {dC : Nat → ClassId} {dI : Nat → Nat → Nat} {cI cA cL : ClassId} {q_mo q_mlb_ q_mcl_ q_mus_ q_mwr_ q_mdk_ q_mcp_ : Nat} {mth : Int32} {mar : Int32} {mLb : Nat → Int32} {mCl : Nat → Int32} {mCp : Nat → Int32} {p : Program} {e : Env} {s : State} {m : MethodId} {args : Array Value} {below : List Frame} {meth : Method} {c : Code} (cx : jv_cx p s m args meth c cc_M_finish 8 R_Model (some .int) ws_M_finish) (hK : va_K (dC, dI) vwCl (jv_ty cI cA cL) s) {A : Nat → Prop} (hA : ∀ q : Nat, s.heap.size ≤ q → A q) {r : Int32 × Int32 × (Nat → Int32) × (Nat → Int32) × (Nat → Int32)} {y0 : Int32} {y1 : Int32} {y2 : Int32} {y3 : Nat → Int32} {y4 : Nat → Int32} {y5 : Nat → Int32} : ∀ n : Nat, ∀ (a : Int32 × Int32) (ls : Array Slot) (H : Heap) (locs : List Loc), lv_has ls 8 [(0, .ref q_mo), (1, .int y0), (2, .int y1), (3, .int a.1), (4, .int a.2)] → va_P (dC, dI) vwCl (w_model cI q_mo q_mlb_ q_mcl_ q_mus_ q_mwr_ q_mdk_ q_mcp_ mth mar y2 mLb mCl y3 y4 y5 mCp) H → va_D A (w_model cI q_mo q_mlb_ q_mcl_ q_mus_ q_mwr_ q_mdk_ q_mcp_ mth mar y2 mLb mCl y3 y4 y5 mCp) → va_S A s.heap H locs → jv_fx (f_M_finish_5 mCp y0 y1 y2 y3 y4 y5) n a = some r → W p l e rm_M_finish s m args below meth c H locs 0 0 (MQ below (jv_Qi r.1 (dC, dI) (w_model cI q_mo q_mlb_ q_mcl_ q_mus_ q_mwr_ q_mdk_ q_mcp_ mth mar r.2.1 mLb mCl r.2.2.1 r.2.2.2.1 r.2.2.2.2 mCp) A) args s 0 0 A) (F0 m 5 ls []) := by
  intro n
  induction n with
  | zero => intro a ls H locs hl hP hD hS hf; exact jv_no hf
  | succ n ih => intro a ls H locs hl hP hD hS hf; exact b_M_finish_5 cx hK hA ih hl hP hD hS hf
def f_M_finish_0 (mCp : Nat → Int32) (y0 : Int32) (y1 : Int32) (y2 : Int32) (y3 : Nat → Int32) (y4 : Nat → Int32) (y5 : Nat → Int32) : Option (Int32 × Int32 × (Nat → Int32) × (Nat → Int32) × (Nat → Int32)) :=
  jv_fx (f_M_finish_5 mCp y0 y1 y2 y3 y4 y5) 300 ((0 : Int32), (0 : Int32))
set_option maxHeartbeats 4000000 in
set_option maxRecDepth 100000 in
theorem b_M_finish_0 {l : Launch} {dC : Nat → ClassId} {dI : Nat → Nat → Nat} {cI cA cL : ClassId} {q_mo q_mlb_ q_mcl_ q_mus_ q_mwr_ q_mdk_ q_mcp_ : Nat} {mth : Int32} {mar : Int32} {mLb : Nat → Int32} {mCl : Nat → Int32} {mCp : Nat → Int32} {p : Program} {e : Env} {s : State} {m : MethodId} {args : Array Value} {below : List Frame} {meth : Method} {c : Code} (cx : jv_cx p s m args meth c cc_M_finish 8 R_Model (some .int) ws_M_finish) (hK : va_K (dC, dI) vwCl (jv_ty cI cA cL) s) {A : Nat → Prop} (hA : ∀ q : Nat, s.heap.size ≤ q → A q) {r : Int32 × Int32 × (Nat → Int32) × (Nat → Int32) × (Nat → Int32)} {y0 : Int32} {y1 : Int32} {y2 : Int32} {y3 : Nat → Int32} {y4 : Nat → Int32} {y5 : Nat → Int32} {ls : Array Slot} (hl : lv_has ls 8 [(0, .ref q_mo), (1, .int y0), (2, .int y1)]) {H : Heap} {locs : List Loc} (hP : va_P (dC, dI) vwCl (w_model cI q_mo q_mlb_ q_mcl_ q_mus_ q_mwr_ q_mdk_ q_mcp_ mth mar y2 mLb mCl y3 y4 y5 mCp) H) (hD : va_D A (w_model cI q_mo q_mlb_ q_mcl_ q_mus_ q_mwr_ q_mdk_ q_mcp_ mth mar y2 mLb mCl y3 y4 y5 mCp)) (hS : va_S A s.heap H locs) (hf : f_M_finish_0 mCp y0 y1 y2 y3 y4 y5 = some r) : W p l e rm_M_finish s m args below meth c H locs 0 0 (MQ below (jv_Qi r.1 (dC, dI) (w_model cI q_mo q_mlb_ q_mcl_ q_mus_ q_mwr_ q_mdk_ q_mcp_ mth mar r.2.1 mLb mCl r.2.2.1 r.2.2.2.1 r.2.2.2.2 mCp) A) args s 0 0 A) (F0 m 0 ls []) := by
  unfold f_M_finish_0 at hf
  obtain ⟨hx, hb, hml, hown, hts, hr, hlocks⟩ := id cx
  refine lv_iconst (v := (0 : Int32)) hx hb d_M_finish_0 (by decide) ?_
  refine lv_istore_n (lv' := [(3, .int (0 : Int32)), (0, .ref q_mo), (1, .int y0), (2, .int y1)]) hx hb d_M_finish_1 rfl hl (by decide) rfl (fun ls hl => ?_)
  refine lv_iconst (v := (0 : Int32)) hx hb d_M_finish_2 (by decide) ?_
  refine lv_istore (lv' := [(4, .int (0 : Int32)), (3, .int (0 : Int32)), (0, .ref q_mo), (1, .int y0), (2, .int y1)]) hx hb d_M_finish_3 hl (by decide) rfl (fun ls hl => ?_)
  exact l_M_finish_5 (y0 := y0) (y1 := y1) (y2 := y2) (y3 := y3) (y4 := y4) (y5 := y5) cx hK hA 300 ((0 : Int32), (0 : Int32)) _ _ _ (lv_sub hl [2, 3, 4, 1, 0] rfl) hP hD hS hf
def f_M_finish (mCp : Nat → Int32) (a0 : Int32) (a1 : Int32) (mfu : Int32) (mUs : Nat → Int32) (mWr : Nat → Int32) (mDk : Nat → Int32) : Option (Int32 × Int32 × (Nat → Int32) × (Nat → Int32) × (Nat → Int32)) := f_M_finish_0 mCp a0 a1 mfu mUs mWr mDk
set_option maxHeartbeats 4000000 in
set_option maxRecDepth 100000 in
theorem c_M_finish (l : Launch) (dC : Nat → ClassId) (dI : Nat → Nat → Nat) (cI cA cL : ClassId) (q_mo q_mlb_ q_mcl_ q_mus_ q_mwr_ q_mdk_ q_mcp_ : Nat) (mth : Int32) (mar : Int32) (mfu : Int32) (mLb : Nat → Int32) (mCl : Nat → Int32) (mUs : Nat → Int32) (mWr : Nat → Int32) (mDk : Nat → Int32) (mCp : Nat → Int32) (a0 : Int32) (a1 : Int32) (sz : Nat) (r : Int32 × Int32 × (Nat → Int32) × (Nat → Int32) × (Nat → Int32)) (hf : f_M_finish mCp a0 a1 mfu mUs mWr mDk = some r) : Met l y_M_finish ws_M_finish rm_M_finish (jv_Pw [.ref q_mo, .int a0, .int a1] (dC, dI) (jv_ty cI cA cL) (w_model cI q_mo q_mlb_ q_mcl_ q_mus_ q_mwr_ q_mdk_ q_mcp_ mth mar mfu mLb mCl mUs mWr mDk mCp) sz) (jv_Qi r.1 (dC, dI) (w_model cI q_mo q_mlb_ q_mcl_ q_mus_ q_mwr_ q_mdk_ q_mcp_ mth mar r.2.1 mLb mCl r.2.2.1 r.2.2.2.1 r.2.2.2.2 mCp) (va_A (w_model cI q_mo q_mlb_ q_mcl_ q_mus_ q_mwr_ q_mdk_ q_mcp_ mth mar mfu mLb mCl mUs mWr mDk mCp) sz)) 0 0 (va_A (w_model cI q_mo q_mlb_ q_mcl_ q_mus_ q_mwr_ q_mdk_ q_mcp_ mth mar mfu mLb mCl mUs mWr mDk mCp) sz) := by
  refine Met.ofW (cc := cc_M_finish) (maxL := 8) (ret := (some .int)) (by decide) rfl ?_
  intro p e s m args below meth c s₁ B hml hv
  obtain ⟨rfl, hsz, hP, hK, hD0⟩ := hv
  have cx : jv_cx p s m _ meth c cc_M_finish 8 R_Model (some .int) ws_M_finish := ⟨B.exec, B.bytes, hml, findClass_of_methodNamed B.named, atoms_spec (ws := ws_M_finish) B.pre, B.returns, B.notSynchronized⟩
  subst hsz
  have hD := hD0.self (sz := s.heap.size)
  generalize hAe : va_A (w_model cI q_mo q_mlb_ q_mcl_ q_mus_ q_mwr_ q_mdk_ q_mcp_ mth mar mfu mLb mCl mUs mWr mDk mCp) s.heap.size = A at hD ⊢
  have hA : ∀ q : Nat, s.heap.size ≤ q → A q := fun q h => by rw [← hAe]; exact Or.inr h
  have hS : va_S A s.heap s.heap [] := va_S.rf
  have hl := lv_entry ([.ref q_mo, .int a0, .int a1]) (n := 8) (Nat.le_of_ble_eq_true rfl)
  rw [lg_entry_eq]
  generalize (lg_sl ([.ref q_mo, .int a0, .int a1]) ++ List.replicate (8 - (lg_sl ([.ref q_mo, .int a0, .int a1])).length) Slot.unset).toArray = ls at hl ⊢
  have hl : lv_has ls 8 [(0, .ref q_mo), (1, .int a0), (2, .int a1)] := hl
  exact b_M_finish_0 (y0 := a0) (y1 := a1) (y2 := mfu) (y3 := mUs) (y4 := mWr) (y5 := mDk) cx hK hA (lv_sub hl [0, 1, 2] rfl) hP hD hS hf
theorem d_M_takeBlock_0 : decode cc_M_takeBlock 0 = .ok (.iconst 0, 1) := by decide +kernel
theorem d_M_takeBlock_1 : decode cc_M_takeBlock 1 = .ok (.istore_n 1, 1) := by decide +kernel
theorem d_M_takeBlock_2 : decode cc_M_takeBlock 2 = .ok (.aload_n 0, 1) := by decide +kernel
theorem d_M_takeBlock_3 : decode cc_M_takeBlock 3 = .ok (.getfield 25, 3) := by decide +kernel
theorem d_M_takeBlock_6 : decode cc_M_takeBlock 6 = .ok (.iconst 0, 1) := by decide +kernel
theorem d_M_takeBlock_7 : decode cc_M_takeBlock 7 = .ok (.iaload, 1) := by decide +kernel
theorem d_M_takeBlock_8 : decode cc_M_takeBlock 8 = .ok (.iload_n 1, 1) := by decide +kernel
theorem d_M_takeBlock_9 : decode cc_M_takeBlock 9 = .ok (.ishr, 1) := by decide +kernel
theorem d_M_takeBlock_10 : decode cc_M_takeBlock 10 = .ok (.iconst 1, 1) := by decide +kernel
theorem d_M_takeBlock_11 : decode cc_M_takeBlock 11 = .ok (.iand, 1) := by decide +kernel
theorem d_M_takeBlock_12 : decode cc_M_takeBlock 12 = .ok (.iconst 1, 1) := by decide +kernel
theorem d_M_takeBlock_13 : decode cc_M_takeBlock 13 = .ok (.if_icmp .ne 9, 3) := by decide +kernel
theorem d_M_takeBlock_22 : decode cc_M_takeBlock 22 = .ok (.aload_n 0, 1) := by decide +kernel
theorem d_M_takeBlock_23 : decode cc_M_takeBlock 23 = .ok (.getfield 25, 3) := by decide +kernel
theorem d_M_takeBlock_26 : decode cc_M_takeBlock 26 = .ok (.iconst 0, 1) := by decide +kernel
theorem d_M_takeBlock_27 : decode cc_M_takeBlock 27 = .ok (.aload_n 0, 1) := by decide +kernel
theorem d_M_takeBlock_28 : decode cc_M_takeBlock 28 = .ok (.getfield 25, 3) := by decide +kernel
theorem d_M_takeBlock_31 : decode cc_M_takeBlock 31 = .ok (.iconst 0, 1) := by decide +kernel
theorem d_M_takeBlock_32 : decode cc_M_takeBlock 32 = .ok (.iaload, 1) := by decide +kernel
theorem d_M_takeBlock_33 : decode cc_M_takeBlock 33 = .ok (.iconst 1, 1) := by decide +kernel
theorem d_M_takeBlock_34 : decode cc_M_takeBlock 34 = .ok (.iload_n 1, 1) := by decide +kernel
theorem d_M_takeBlock_35 : decode cc_M_takeBlock 35 = .ok (.ishl, 1) := by decide +kernel
theorem d_M_takeBlock_36 : decode cc_M_takeBlock 36 = .ok (.ior, 1) := by decide +kernel
theorem d_M_takeBlock_37 : decode cc_M_takeBlock 37 = .ok (.iastore, 1) := by decide +kernel
theorem d_M_takeBlock_38 : decode cc_M_takeBlock 38 = .ok (.iconst 0, 1) := by decide +kernel
theorem d_M_takeBlock_39 : decode cc_M_takeBlock 39 = .ok (.istore_n 2, 1) := by decide +kernel
theorem d_M_takeBlock_16 : decode cc_M_takeBlock 16 = .ok (.iinc 1 1, 3) := by decide +kernel
theorem d_M_takeBlock_19 : decode cc_M_takeBlock 19 = .ok (.goto (-17), 3) := by decide +kernel
theorem d_M_takeBlock_40 : decode cc_M_takeBlock 40 = .ok (.iload_n 2, 1) := by decide +kernel
theorem d_M_takeBlock_41 : decode cc_M_takeBlock 41 = .ok (.bipush 8, 2) := by decide +kernel
theorem d_M_takeBlock_43 : decode cc_M_takeBlock 43 = .ok (.if_icmp .ge 24, 3) := by decide +kernel
theorem d_M_takeBlock_67 : decode cc_M_takeBlock 67 = .ok (.iload_n 1, 1) := by decide +kernel
theorem d_M_takeBlock_68 : decode cc_M_takeBlock 68 = .ok (.iconst 1, 1) := by decide +kernel
theorem d_M_takeBlock_69 : decode cc_M_takeBlock 69 = .ok (.iadd, 1) := by decide +kernel
theorem d_M_takeBlock_70 : decode cc_M_takeBlock 70 = .ok (.ireturn, 1) := by decide +kernel
theorem d_M_takeBlock_46 : decode cc_M_takeBlock 46 = .ok (.aload_n 0, 1) := by decide +kernel
theorem d_M_takeBlock_47 : decode cc_M_takeBlock 47 = .ok (.getfield 25, 3) := by decide +kernel
theorem d_M_takeBlock_50 : decode cc_M_takeBlock 50 = .ok (.bipush 72, 2) := by decide +kernel
theorem d_M_takeBlock_52 : decode cc_M_takeBlock 52 = .ok (.bipush 8, 2) := by decide +kernel
theorem d_M_takeBlock_54 : decode cc_M_takeBlock 54 = .ok (.iload_n 1, 1) := by decide +kernel
theorem d_M_takeBlock_55 : decode cc_M_takeBlock 55 = .ok (.imul, 1) := by decide +kernel
theorem d_M_takeBlock_56 : decode cc_M_takeBlock 56 = .ok (.iadd, 1) := by decide +kernel
theorem d_M_takeBlock_57 : decode cc_M_takeBlock 57 = .ok (.iload_n 2, 1) := by decide +kernel
theorem d_M_takeBlock_58 : decode cc_M_takeBlock 58 = .ok (.iadd, 1) := by decide +kernel
theorem d_M_takeBlock_59 : decode cc_M_takeBlock 59 = .ok (.iconst 0, 1) := by decide +kernel
theorem d_M_takeBlock_60 : decode cc_M_takeBlock 60 = .ok (.iastore, 1) := by decide +kernel
theorem d_M_takeBlock_61 : decode cc_M_takeBlock 61 = .ok (.iinc 2 1, 3) := by decide +kernel
theorem d_M_takeBlock_64 : decode cc_M_takeBlock 64 = .ok (.goto (-24), 3) := by decide +kernel
def f_M_takeBlock_40 (y0 : Int32) (k40 : (Int32 × (Nat → Int32)) → Option (Int32 × (Nat → Int32))) (a : Int32 × (Nat → Int32)) : Option (Int32 × (Nat → Int32)) :=
  if (8 : Int32) ≤ a.1 then (some (y0 + (1 : Int32), a.2)) else ((jv_sa a.2 232 (((72 : Int32) + ((8 : Int32) * y0)) + a.1) (0 : Int32)).bind fun F7 => k40 (a.1 + (1 : Int32), F7))
set_option maxHeartbeats 4000000 in
set_option maxRecDepth 100000 in
theorem b_M_takeBlock_40 {l : Launch} {dC : Nat → ClassId} {dI : Nat → Nat → Nat} {cI cA cL : ClassId} {q_mo q_mlb_ q_mcl_ q_mus_ q_mwr_ q_mdk_ q_mcp_ : Nat} {mth : Int32} {mar : Int32} {mfu : Int32} {mLb : Nat → Int32} {mCl : Nat → Int32} {mUs : Nat → Int32} {mWr : Nat → Int32} {mDk : Nat → Int32} {p : Program} {e : Env} {s : State} {m : MethodId} {args : Array Value} {below : List Frame} {meth : Method} {c : Code} (cx : jv_cx p s m args meth c cc_M_takeBlock 3 R_Model (some .int) ws_M_takeBlock) (hK : va_K (dC, dI) vwCl (jv_ty cI cA cL) s) {A : Nat → Prop} (hA : ∀ q : Nat, s.heap.size ≤ q → A q) {r : Int32 × (Nat → Int32)} {y0 : Int32} {k40 : (Int32 × (Nat → Int32)) → Option (Int32 × (Nat → Int32))} (hk40 : ∀ (a : Int32 × (Nat → Int32)) (ls : Array Slot) (H : Heap) (locs : List Loc), lv_has ls 3 [(0, .ref q_mo), (1, .int y0), (2, .int a.1)] → va_P (dC, dI) vwCl (w_model cI q_mo q_mlb_ q_mcl_ q_mus_ q_mwr_ q_mdk_ q_mcp_ mth mar mfu mLb mCl mUs mWr mDk a.2) H → va_D A (w_model cI q_mo q_mlb_ q_mcl_ q_mus_ q_mwr_ q_mdk_ q_mcp_ mth mar mfu mLb mCl mUs mWr mDk a.2) → va_S A s.heap H locs → k40 a = some r → W p l e rm_M_takeBlock s m args below meth c H locs 0 0 (MQ below (jv_Qi r.1 (dC, dI) (w_model cI q_mo q_mlb_ q_mcl_ q_mus_ q_mwr_ q_mdk_ q_mcp_ mth mar mfu mLb mCl mUs mWr mDk r.2) A) args s 0 0 A) (F0 m 40 ls [])) {a : Int32 × (Nat → Int32)} {ls : Array Slot} (hl : lv_has ls 3 [(0, .ref q_mo), (1, .int y0), (2, .int a.1)]) {H : Heap} {locs : List Loc} (hP : va_P (dC, dI) vwCl (w_model cI q_mo q_mlb_ q_mcl_ q_mus_ q_mwr_ q_mdk_ q_mcp_ mth mar mfu mLb mCl mUs mWr mDk a.2) H) (hD : va_D A (w_model cI q_mo q_mlb_ q_mcl_ q_mus_ q_mwr_ q_mdk_ q_mcp_ mth mar mfu mLb mCl mUs mWr mDk a.2)) (hS : va_S A s.heap H locs) (hf : f_M_takeBlock_40 y0 k40 a = some r) : W p l e rm_M_takeBlock s m args below meth c H locs 0 0 (MQ below (jv_Qi r.1 (dC, dI) (w_model cI q_mo q_mlb_ q_mcl_ q_mus_ q_mwr_ q_mdk_ q_mcp_ mth mar mfu mLb mCl mUs mWr mDk r.2) A) args s 0 0 A) (F0 m 40 ls []) := by
  unfold f_M_takeBlock_40 at hf
  obtain ⟨hx, hb, hml, hown, hts, hr, hlocks⟩ := id cx
  refine lv_iload_n hx hb d_M_takeBlock_40 rfl (lv_at hl 2 rfl) ?_
  refine lv_bipush (v := (8 : Int32)) hx hb d_M_takeBlock_41 (by decide) ?_
  refine lv_icmp_ge (tgt := 67) hx hb d_M_takeBlock_43 (by decide) (fun hc => ?_) (fun hc => ?_)
  · have hf := jv_it hf hc
    refine lv_iload_n hx hb d_M_takeBlock_67 rfl (lv_at hl 1 rfl) ?_
    refine lv_iconst (v := (1 : Int32)) hx hb d_M_takeBlock_68 (by decide) ?_
    refine lv_iadd hx hb d_M_takeBlock_69 ?_
    obtain rfl := Option.some.inj hf
    exact W.iret hx hb hr (fun t ht hW => ⟨rfl, by rw [ht]; exact hP, hD, hS.F ht⟩) hS.2.2 d_M_takeBlock_70
  · have hf := jv_if hf hc
    refine lv_aload_n hx hb d_M_takeBlock_46 rfl (lv_at hl 0 rfl) ?_
    refine va_get (D := (dC, dI)) (ci := kModel) (v := .ref q_mcp_) (C := R_Model) (T := T_Model) (N := 9) hx hb hts (fun w h => List.mem_cons_of_mem _ (in_Model w h)) hown hK hP 0 rfl rfl 7 (by decide) (jv_w hts wa_238) (fun _ h9 => h9) rfl d_M_takeBlock_47 ?_
    refine lv_bipush (v := (72 : Int32)) hx hb d_M_takeBlock_50 (by decide) ?_
    refine lv_bipush (v := (8 : Int32)) hx hb d_M_takeBlock_52 (by decide) ?_
    refine lv_iload_n hx hb d_M_takeBlock_54 rfl (lv_at hl 1 rfl) ?_
    refine lv_imul hx hb d_M_takeBlock_55 ?_
    refine lv_iadd hx hb d_M_takeBlock_56 ?_
    refine lv_iload_n hx hb d_M_takeBlock_57 rfl (lv_at hl 2 rfl) ?_
    refine lv_iadd hx hb d_M_takeBlock_58 ?_
    refine lv_iconst (v := (0 : Int32)) hx hb d_M_takeBlock_59 (by decide) ?_
    obtain ⟨F7, g8, hf⟩ := jv_ob hf
    refine jv_iast hx hb hK hP hD hS 6 0 rfl rfl g8 d_M_takeBlock_60 (fun H locs hP hD hS => ?_)
    have hP : va_P (dC, dI) vwCl (w_model cI q_mo q_mlb_ q_mcl_ q_mus_ q_mwr_ q_mdk_ q_mcp_ mth mar mfu mLb mCl mUs mWr mDk F7) H := hP
    have hD : va_D A (w_model cI q_mo q_mlb_ q_mcl_ q_mus_ q_mwr_ q_mdk_ q_mcp_ mth mar mfu mLb mCl mUs mWr mDk F7) := hD
    refine lv_iinc (k := 2) (v := a.1 + (1 : Int32)) (lv' := [(2, .int (a.1 + (1 : Int32))), (0, .ref q_mo), (1, .int y0)]) hx hb d_M_takeBlock_61 hl rfl (jv_inc _) (by decide) rfl (fun ls hl => ?_)
    refine lv_goto (tgt := 40) hx hb d_M_takeBlock_64 (by decide) ?_
    exact hk40 (a.1 + (1 : Int32), F7) _ _ _ (lv_sub hl [1, 2, 0] rfl) hP hD hS hf
set_option maxHeartbeats 4000000 in
set_option maxRecDepth 100000 in
theorem l_M_takeBlock_40 {l : Launch} {dC : Nat → ClassId} {dI : Nat → Nat → Nat} {cI cA cL : ClassId} {q_mo q_mlb_ q_mcl_ q_mus_ q_mwr_ q_mdk_ q_mcp_ : Nat} {mth : Int32} {mar : Int32} {mfu : Int32} {mLb : Nat → Int32} {mCl : Nat → Int32} {mUs : Nat → Int32} {mWr : Nat → Int32} {mDk : Nat → Int32} {p : Program} {e : Env} {s : State} {m : MethodId} {args : Array Value} {below : List Frame} {meth : Method} {c : Code} (cx : jv_cx p s m args meth c cc_M_takeBlock 3 R_Model (some .int) ws_M_takeBlock) (hK : va_K (dC, dI) vwCl (jv_ty cI cA cL) s) {A : Nat → Prop} (hA : ∀ q : Nat, s.heap.size ≤ q → A q) {r : Int32 × (Nat → Int32)} {y0 : Int32} : ∀ n : Nat, ∀ (a : Int32 × (Nat → Int32)) (ls : Array Slot) (H : Heap) (locs : List Loc), lv_has ls 3 [(0, .ref q_mo), (1, .int y0), (2, .int a.1)] → va_P (dC, dI) vwCl (w_model cI q_mo q_mlb_ q_mcl_ q_mus_ q_mwr_ q_mdk_ q_mcp_ mth mar mfu mLb mCl mUs mWr mDk a.2) H → va_D A (w_model cI q_mo q_mlb_ q_mcl_ q_mus_ q_mwr_ q_mdk_ q_mcp_ mth mar mfu mLb mCl mUs mWr mDk a.2) → va_S A s.heap H locs → jv_fx (f_M_takeBlock_40 y0) n a = some r → W p l e rm_M_takeBlock s m args below meth c H locs 0 0 (MQ below (jv_Qi r.1 (dC, dI) (w_model cI q_mo q_mlb_ q_mcl_ q_mus_ q_mwr_ q_mdk_ q_mcp_ mth mar mfu mLb mCl mUs mWr mDk r.2) A) args s 0 0 A) (F0 m 40 ls []) := by
  intro n
  induction n with
  | zero => intro a ls H locs hl hP hD hS hf; exact jv_no hf
  | succ n ih => intro a ls H locs hl hP hD hS hf; exact b_M_takeBlock_40 cx hK hA ih hl hP hD hS hf
def f_M_takeBlock_2 (y0 : Nat → Int32) (k2 : (Int32) → Option (Int32 × (Nat → Int32))) (a : Int32) : Option (Int32 × (Nat → Int32)) :=
  (jv_ga y0 232 (0 : Int32)).bind fun x1 => if ((x1 >>> (a &&& 31)) &&& (1 : Int32)) = (1 : Int32) then (k2 (a + (1 : Int32))) else ((jv_ga y0 232 (0 : Int32)).bind fun x3 => (jv_sa y0 232 (0 : Int32) (x3 ||| ((1 : Int32) <<< (a &&& 31)))).bind fun F5 => jv_fx (f_M_takeBlock_40 a) 300 ((0 : Int32), F5))
set_option maxHeartbeats 4000000 in
set_option maxRecDepth 100000 in
theorem b_M_takeBlock_2 {l : Launch} {dC : Nat → ClassId} {dI : Nat → Nat → Nat} {cI cA cL : ClassId} {q_mo q_mlb_ q_mcl_ q_mus_ q_mwr_ q_mdk_ q_mcp_ : Nat} {mth : Int32} {mar : Int32} {mfu : Int32} {mLb : Nat → Int32} {mCl : Nat → Int32} {mUs : Nat → Int32} {mWr : Nat → Int32} {mDk : Nat → Int32} {p : Program} {e : Env} {s : State} {m : MethodId} {args : Array Value} {below : List Frame} {meth : Method} {c : Code} (cx : jv_cx p s m args meth c cc_M_takeBlock 3 R_Model (some .int) ws_M_takeBlock) (hK : va_K (dC, dI) vwCl (jv_ty cI cA cL) s) {A : Nat → Prop} (hA : ∀ q : Nat, s.heap.size ≤ q → A q) {r : Int32 × (Nat → Int32)} {y0 : Nat → Int32} {k2 : (Int32) → Option (Int32 × (Nat → Int32))} (hk2 : ∀ (a : Int32) (ls : Array Slot) (H : Heap) (locs : List Loc), lv_has ls 3 [(0, .ref q_mo), (1, .int a)] → va_P (dC, dI) vwCl (w_model cI q_mo q_mlb_ q_mcl_ q_mus_ q_mwr_ q_mdk_ q_mcp_ mth mar mfu mLb mCl mUs mWr mDk y0) H → va_D A (w_model cI q_mo q_mlb_ q_mcl_ q_mus_ q_mwr_ q_mdk_ q_mcp_ mth mar mfu mLb mCl mUs mWr mDk y0) → va_S A s.heap H locs → k2 a = some r → W p l e rm_M_takeBlock s m args below meth c H locs 0 0 (MQ below (jv_Qi r.1 (dC, dI) (w_model cI q_mo q_mlb_ q_mcl_ q_mus_ q_mwr_ q_mdk_ q_mcp_ mth mar mfu mLb mCl mUs mWr mDk r.2) A) args s 0 0 A) (F0 m 2 ls [])) {a : Int32} {ls : Array Slot} (hl : lv_has ls 3 [(0, .ref q_mo), (1, .int a)]) {H : Heap} {locs : List Loc} (hP : va_P (dC, dI) vwCl (w_model cI q_mo q_mlb_ q_mcl_ q_mus_ q_mwr_ q_mdk_ q_mcp_ mth mar mfu mLb mCl mUs mWr mDk y0) H) (hD : va_D A (w_model cI q_mo q_mlb_ q_mcl_ q_mus_ q_mwr_ q_mdk_ q_mcp_ mth mar mfu mLb mCl mUs mWr mDk y0)) (hS : va_S A s.heap H locs) (hf : f_M_takeBlock_2 y0 k2 a = some r) : W p l e rm_M_takeBlock s m args below meth c H locs 0 0 (MQ below (jv_Qi r.1 (dC, dI) (w_model cI q_mo q_mlb_ q_mcl_ q_mus_ q_mwr_ q_mdk_ q_mcp_ mth mar mfu mLb mCl mUs mWr mDk r.2) A) args s 0 0 A) (F0 m 2 ls []) := by
  unfold f_M_takeBlock_2 at hf
  obtain ⟨hx, hb, hml, hown, hts, hr, hlocks⟩ := id cx
  refine lv_aload_n hx hb d_M_takeBlock_2 rfl (lv_at hl 0 rfl) ?_
  refine va_get (D := (dC, dI)) (ci := kModel) (v := .ref q_mcp_) (C := R_Model) (T := T_Model) (N := 9) hx hb hts (fun w h => List.mem_cons_of_mem _ (in_Model w h)) hown hK hP 0 rfl rfl 7 (by decide) (jv_w hts wa_238) (fun _ h9 => h9) rfl d_M_takeBlock_3 ?_
  refine lv_iconst (v := (0 : Int32)) hx hb d_M_takeBlock_6 (by decide) ?_
  obtain ⟨x1, g2, hf⟩ := jv_ob hf
  refine jv_iald hx hb hK hP 6 0 rfl rfl g2 d_M_takeBlock_7 ?_
  refine lv_iload_n hx hb d_M_takeBlock_8 rfl (lv_at hl 1 rfl) ?_
  refine lv_ishr hx hb d_M_takeBlock_9 ?_
  refine lv_iconst (v := (1 : Int32)) hx hb d_M_takeBlock_10 (by decide) ?_
  refine lv_iand hx hb d_M_takeBlock_11 ?_
  refine lv_iconst (v := (1 : Int32)) hx hb d_M_takeBlock_12 (by decide) ?_
  refine lv_icmp_ne (tgt := 22) hx hb d_M_takeBlock_13 (by decide) (fun hc => ?_) (fun hc => ?_)
  · have hf := jv_if hf hc
    refine lv_aload_n hx hb d_M_takeBlock_22 rfl (lv_at hl 0 rfl) ?_
    refine va_get (D := (dC, dI)) (ci := kModel) (v := .ref q_mcp_) (C := R_Model) (T := T_Model) (N := 9) hx hb hts (fun w h => List.mem_cons_of_mem _ (in_Model w h)) hown hK hP 0 rfl rfl 7 (by decide) (jv_w hts wa_238) (fun _ h9 => h9) rfl d_M_takeBlock_23 ?_
    refine lv_iconst (v := (0 : Int32)) hx hb d_M_takeBlock_26 (by decide) ?_
    refine lv_aload_n hx hb d_M_takeBlock_27 rfl (lv_at hl 0 rfl) ?_
    refine va_get (D := (dC, dI)) (ci := kModel) (v := .ref q_mcp_) (C := R_Model) (T := T_Model) (N := 9) hx hb hts (fun w h => List.mem_cons_of_mem _ (in_Model w h)) hown hK hP 0 rfl rfl 7 (by decide) (jv_w hts wa_238) (fun _ h9 => h9) rfl d_M_takeBlock_28 ?_
    refine lv_iconst (v := (0 : Int32)) hx hb d_M_takeBlock_31 (by decide) ?_
    obtain ⟨x3, g4, hf⟩ := jv_ob hf
    refine jv_iald hx hb hK hP 6 0 rfl rfl g4 d_M_takeBlock_32 ?_
    refine lv_iconst (v := (1 : Int32)) hx hb d_M_takeBlock_33 (by decide) ?_
    refine lv_iload_n hx hb d_M_takeBlock_34 rfl (lv_at hl 1 rfl) ?_
    refine lv_ishl hx hb d_M_takeBlock_35 ?_
    refine lv_ior hx hb d_M_takeBlock_36 ?_
    obtain ⟨F5, g6, hf⟩ := jv_ob hf
    refine jv_iast hx hb hK hP hD hS 6 0 rfl rfl g6 d_M_takeBlock_37 (fun H locs hP hD hS => ?_)
    have hP : va_P (dC, dI) vwCl (w_model cI q_mo q_mlb_ q_mcl_ q_mus_ q_mwr_ q_mdk_ q_mcp_ mth mar mfu mLb mCl mUs mWr mDk F5) H := hP
    have hD : va_D A (w_model cI q_mo q_mlb_ q_mcl_ q_mus_ q_mwr_ q_mdk_ q_mcp_ mth mar mfu mLb mCl mUs mWr mDk F5) := hD
    refine lv_iconst (v := (0 : Int32)) hx hb d_M_takeBlock_38 (by decide) ?_
    refine lv_istore_n (lv' := [(2, .int (0 : Int32)), (0, .ref q_mo), (1, .int a)]) hx hb d_M_takeBlock_39 rfl hl (by decide) rfl (fun ls hl => ?_)
    exact l_M_takeBlock_40 (y0 := a) cx hK hA 300 ((0 : Int32), F5) _ _ _ (lv_sub hl [1, 2, 0] rfl) hP hD hS hf
  · have hf := jv_it hf hc
    refine lv_iinc (k := 1) (v := a + (1 : Int32)) (lv' := [(1, .int (a + (1 : Int32))), (0, .ref q_mo)]) hx hb d_M_takeBlock_16 hl rfl (jv_inc _) (by decide) rfl (fun ls hl => ?_)
    refine lv_goto (tgt := 2) hx hb d_M_takeBlock_19 (by decide) ?_
    exact hk2 (a + (1 : Int32)) _ _ _ (lv_sub hl [1, 0] rfl) hP hD hS hf
set_option maxHeartbeats 4000000 in
set_option maxRecDepth 100000 in
theorem l_M_takeBlock_2 {l : Launch} {dC : Nat → ClassId} {dI : Nat → Nat → Nat} {cI cA cL : ClassId} {q_mo q_mlb_ q_mcl_ q_mus_ q_mwr_ q_mdk_ q_mcp_ : Nat} {mth : Int32} {mar : Int32} {mfu : Int32} {mLb : Nat → Int32} {mCl : Nat → Int32} {mUs : Nat → Int32} {mWr : Nat → Int32} {mDk : Nat → Int32} {p : Program} {e : Env} {s : State} {m : MethodId} {args : Array Value} {below : List Frame} {meth : Method} {c : Code} (cx : jv_cx p s m args meth c cc_M_takeBlock 3 R_Model (some .int) ws_M_takeBlock) (hK : va_K (dC, dI) vwCl (jv_ty cI cA cL) s) {A : Nat → Prop} (hA : ∀ q : Nat, s.heap.size ≤ q → A q) {r : Int32 × (Nat → Int32)} {y0 : Nat → Int32} : ∀ n : Nat, ∀ (a : Int32) (ls : Array Slot) (H : Heap) (locs : List Loc), lv_has ls 3 [(0, .ref q_mo), (1, .int a)] → va_P (dC, dI) vwCl (w_model cI q_mo q_mlb_ q_mcl_ q_mus_ q_mwr_ q_mdk_ q_mcp_ mth mar mfu mLb mCl mUs mWr mDk y0) H → va_D A (w_model cI q_mo q_mlb_ q_mcl_ q_mus_ q_mwr_ q_mdk_ q_mcp_ mth mar mfu mLb mCl mUs mWr mDk y0) → va_S A s.heap H locs → jv_fx (f_M_takeBlock_2 y0) n a = some r → W p l e rm_M_takeBlock s m args below meth c H locs 0 0 (MQ below (jv_Qi r.1 (dC, dI) (w_model cI q_mo q_mlb_ q_mcl_ q_mus_ q_mwr_ q_mdk_ q_mcp_ mth mar mfu mLb mCl mUs mWr mDk r.2) A) args s 0 0 A) (F0 m 2 ls []) := by
  intro n
  induction n with
  | zero => intro a ls H locs hl hP hD hS hf; exact jv_no hf
  | succ n ih => intro a ls H locs hl hP hD hS hf; exact b_M_takeBlock_2 cx hK hA ih hl hP hD hS hf
def f_M_takeBlock_0 (y0 : Nat → Int32) : Option (Int32 × (Nat → Int32)) :=
  jv_fx (f_M_takeBlock_2 y0) 300 (0 : Int32)
set_option maxHeartbeats 4000000 in
set_option maxRecDepth 100000 in
theorem b_M_takeBlock_0 {l : Launch} {dC : Nat → ClassId} {dI : Nat → Nat → Nat} {cI cA cL : ClassId} {q_mo q_mlb_ q_mcl_ q_mus_ q_mwr_ q_mdk_ q_mcp_ : Nat} {mth : Int32} {mar : Int32} {mfu : Int32} {mLb : Nat → Int32} {mCl : Nat → Int32} {mUs : Nat → Int32} {mWr : Nat → Int32} {mDk : Nat → Int32} {p : Program} {e : Env} {s : State} {m : MethodId} {args : Array Value} {below : List Frame} {meth : Method} {c : Code} (cx : jv_cx p s m args meth c cc_M_takeBlock 3 R_Model (some .int) ws_M_takeBlock) (hK : va_K (dC, dI) vwCl (jv_ty cI cA cL) s) {A : Nat → Prop} (hA : ∀ q : Nat, s.heap.size ≤ q → A q) {r : Int32 × (Nat → Int32)} {y0 : Nat → Int32} {ls : Array Slot} (hl : lv_has ls 3 [(0, .ref q_mo)]) {H : Heap} {locs : List Loc} (hP : va_P (dC, dI) vwCl (w_model cI q_mo q_mlb_ q_mcl_ q_mus_ q_mwr_ q_mdk_ q_mcp_ mth mar mfu mLb mCl mUs mWr mDk y0) H) (hD : va_D A (w_model cI q_mo q_mlb_ q_mcl_ q_mus_ q_mwr_ q_mdk_ q_mcp_ mth mar mfu mLb mCl mUs mWr mDk y0)) (hS : va_S A s.heap H locs) (hf : f_M_takeBlock_0 y0 = some r) : W p l e rm_M_takeBlock s m args below meth c H locs 0 0 (MQ below (jv_Qi r.1 (dC, dI) (w_model cI q_mo q_mlb_ q_mcl_ q_mus_ q_mwr_ q_mdk_ q_mcp_ mth mar mfu mLb mCl mUs mWr mDk r.2) A) args s 0 0 A) (F0 m 0 ls []) := by
  unfold f_M_takeBlock_0 at hf
  obtain ⟨hx, hb, hml, hown, hts, hr, hlocks⟩ := id cx
  refine lv_iconst (v := (0 : Int32)) hx hb d_M_takeBlock_0 (by decide) ?_
  refine lv_istore_n (lv' := [(1, .int (0 : Int32)), (0, .ref q_mo)]) hx hb d_M_takeBlock_1 rfl hl (by decide) rfl (fun ls hl => ?_)
  exact l_M_takeBlock_2 (y0 := y0) cx hK hA 300 (0 : Int32) _ _ _ (lv_sub hl [1, 0] rfl) hP hD hS hf
def f_M_takeBlock (mCp : Nat → Int32) : Option (Int32 × (Nat → Int32)) := f_M_takeBlock_0 mCp
set_option maxHeartbeats 4000000 in
set_option maxRecDepth 100000 in
theorem c_M_takeBlock (l : Launch) (dC : Nat → ClassId) (dI : Nat → Nat → Nat) (cI cA cL : ClassId) (q_mo q_mlb_ q_mcl_ q_mus_ q_mwr_ q_mdk_ q_mcp_ : Nat) (mth : Int32) (mar : Int32) (mfu : Int32) (mLb : Nat → Int32) (mCl : Nat → Int32) (mUs : Nat → Int32) (mWr : Nat → Int32) (mDk : Nat → Int32) (mCp : Nat → Int32) (sz : Nat) (r : Int32 × (Nat → Int32)) (hf : f_M_takeBlock mCp = some r) : Met l y_M_takeBlock ws_M_takeBlock rm_M_takeBlock (jv_Pw [.ref q_mo] (dC, dI) (jv_ty cI cA cL) (w_model cI q_mo q_mlb_ q_mcl_ q_mus_ q_mwr_ q_mdk_ q_mcp_ mth mar mfu mLb mCl mUs mWr mDk mCp) sz) (jv_Qi r.1 (dC, dI) (w_model cI q_mo q_mlb_ q_mcl_ q_mus_ q_mwr_ q_mdk_ q_mcp_ mth mar mfu mLb mCl mUs mWr mDk r.2) (va_A (w_model cI q_mo q_mlb_ q_mcl_ q_mus_ q_mwr_ q_mdk_ q_mcp_ mth mar mfu mLb mCl mUs mWr mDk mCp) sz)) 0 0 (va_A (w_model cI q_mo q_mlb_ q_mcl_ q_mus_ q_mwr_ q_mdk_ q_mcp_ mth mar mfu mLb mCl mUs mWr mDk mCp) sz) := by
  refine Met.ofW (cc := cc_M_takeBlock) (maxL := 3) (ret := (some .int)) (by decide) rfl ?_
  intro p e s m args below meth c s₁ B hml hv
  obtain ⟨rfl, hsz, hP, hK, hD0⟩ := hv
  have cx : jv_cx p s m _ meth c cc_M_takeBlock 3 R_Model (some .int) ws_M_takeBlock := ⟨B.exec, B.bytes, hml, findClass_of_methodNamed B.named, atoms_spec (ws := ws_M_takeBlock) B.pre, B.returns, B.notSynchronized⟩
  subst hsz
  have hD := hD0.self (sz := s.heap.size)
  generalize hAe : va_A (w_model cI q_mo q_mlb_ q_mcl_ q_mus_ q_mwr_ q_mdk_ q_mcp_ mth mar mfu mLb mCl mUs mWr mDk mCp) s.heap.size = A at hD ⊢
  have hA : ∀ q : Nat, s.heap.size ≤ q → A q := fun q h => by rw [← hAe]; exact Or.inr h
  have hS : va_S A s.heap s.heap [] := va_S.rf
  have hl := lv_entry ([.ref q_mo]) (n := 3) (Nat.le_of_ble_eq_true rfl)
  rw [lg_entry_eq]
  generalize (lg_sl ([.ref q_mo]) ++ List.replicate (3 - (lg_sl ([.ref q_mo])).length) Slot.unset).toArray = ls at hl ⊢
  have hl : lv_has ls 3 [(0, .ref q_mo)] := hl
  exact b_M_takeBlock_0 (y0 := mCp) cx hK hA (lv_sub hl [0] rfl) hP hD hS hf
theorem d_M_write_0 : decode cc_M_write 0 = .ok (.aload_n 0, 1) := by decide +kernel
theorem d_M_write_1 : decode cc_M_write 1 = .ok (.iload_n 3, 1) := by decide +kernel
theorem d_M_write_2 : decode cc_M_write 2 = .ok (.ifCond .lt 9, 3) := by decide +kernel
theorem d_M_write_11 : decode cc_M_write 11 = .ok (.iconst 1, 1) := by decide +kernel
theorem d_M_write_12 : decode cc_M_write 12 = .ok (.goto 9, 3) := by decide +kernel
theorem d_M_write_5 : decode cc_M_write 5 = .ok (.iload_n 3, 1) := by decide +kernel
theorem d_M_write_6 : decode cc_M_write 6 = .ok (.bipush 79, 2) := by decide +kernel
theorem d_M_write_8 : decode cc_M_write 8 = .ok (.if_icmp .le 7, 3) := by decide +kernel
theorem d_M_write_15 : decode cc_M_write 15 = .ok (.aload_n 0, 1) := by decide +kernel
theorem d_M_write_16 : decode cc_M_write 16 = .ok (.iload_n 1, 1) := by decide +kernel
theorem d_M_write_17 : decode cc_M_write 17 = .ok (.iload_n 2, 1) := by decide +kernel
theorem d_M_write_18 : decode cc_M_write 18 = .ok (.invokevirtual 98, 3) := by decide +kernel
theorem d_M_write_21 : decode cc_M_write 21 = .ok (.putfield 32, 3) := by decide +kernel
theorem d_M_write_24 : decode cc_M_write 24 = .ok (.aload_n 0, 1) := by decide +kernel
theorem d_M_write_25 : decode cc_M_write 25 = .ok (.aload_n 0, 1) := by decide +kernel
theorem d_M_write_26 : decode cc_M_write 26 = .ok (.getfield 32, 3) := by decide +kernel
theorem d_M_write_29 : decode cc_M_write 29 = .ok (.ifCond .ne 19, 3) := by decide +kernel
theorem d_M_write_48 : decode cc_M_write 48 = .ok (.aload_n 0, 1) := by decide +kernel
theorem d_M_write_49 : decode cc_M_write 49 = .ok (.getfield 32, 3) := by decide +kernel
theorem d_M_write_32 : decode cc_M_write 32 = .ok (.aload_n 0, 1) := by decide +kernel
theorem d_M_write_33 : decode cc_M_write 33 = .ok (.iload_n 1, 1) := by decide +kernel
theorem d_M_write_34 : decode cc_M_write 34 = .ok (.iconst 4, 1) := by decide +kernel
theorem d_M_write_35 : decode cc_M_write 35 = .ok (.idiv, 1) := by decide +kernel
theorem d_M_write_36 : decode cc_M_write 36 = .ok (.iload_n 2, 1) := by decide +kernel
theorem d_M_write_37 : decode cc_M_write 37 = .ok (.invokevirtual 74, 3) := by decide +kernel
theorem d_M_write_40 : decode cc_M_write 40 = .ok (.iconst 1, 1) := by decide +kernel
theorem d_M_write_41 : decode cc_M_write 41 = .ok (.if_icmp .ne 7, 3) := by decide +kernel
theorem d_M_write_44 : decode cc_M_write 44 = .ok (.iconst 4, 1) := by decide +kernel
theorem d_M_write_45 : decode cc_M_write 45 = .ok (.goto 7, 3) := by decide +kernel
theorem d_M_write_52 : decode cc_M_write 52 = .ok (.putfield 32, 3) := by decide +kernel
theorem d_M_write_55 : decode cc_M_write 55 = .ok (.aload_n 0, 1) := by decide +kernel
theorem d_M_write_56 : decode cc_M_write 56 = .ok (.getfield 32, 3) := by decide +kernel
theorem d_M_write_59 : decode cc_M_write 59 = .ok (.ifCond .le 5, 3) := by decide +kernel
theorem d_M_write_64 : decode cc_M_write 64 = .ok (.iload_n 1, 1) := by decide +kernel
theorem d_M_write_65 : decode cc_M_write 65 = .ok (.iconst 4, 1) := by decide +kernel
theorem d_M_write_66 : decode cc_M_write 66 = .ok (.idiv, 1) := by decide +kernel
theorem d_M_write_67 : decode cc_M_write 67 = .ok (.istore 5, 2) := by decide +kernel
theorem d_M_write_69 : decode cc_M_write 69 = .ok (.aload_n 0, 1) := by decide +kernel
theorem d_M_write_70 : decode cc_M_write 70 = .ok (.iload 5, 2) := by decide +kernel
theorem d_M_write_72 : decode cc_M_write 72 = .ok (.iload_n 2, 1) := by decide +kernel
theorem d_M_write_73 : decode cc_M_write 73 = .ok (.invokevirtual 68, 3) := by decide +kernel
theorem d_M_write_76 : decode cc_M_write 76 = .ok (.istore 6, 2) := by decide +kernel
theorem d_M_write_78 : decode cc_M_write 78 = .ok (.aload_n 0, 1) := by decide +kernel
theorem d_M_write_79 : decode cc_M_write 79 = .ok (.iload 5, 2) := by decide +kernel
theorem d_M_write_81 : decode cc_M_write 81 = .ok (.invokevirtual 91, 3) := by decide +kernel
theorem d_M_write_84 : decode cc_M_write 84 = .ok (.iload_n 3, 1) := by decide +kernel
theorem d_M_write_85 : decode cc_M_write 85 = .ok (.bipush 8, 2) := by decide +kernel
theorem d_M_write_87 : decode cc_M_write 87 = .ok (.idiv, 1) := by decide +kernel
theorem d_M_write_88 : decode cc_M_write 88 = .ok (.istore 7, 2) := by decide +kernel
theorem d_M_write_90 : decode cc_M_write 90 = .ok (.aload_n 0, 1) := by decide +kernel
theorem d_M_write_91 : decode cc_M_write 91 = .ok (.iload 6, 2) := by decide +kernel
theorem d_M_write_93 : decode cc_M_write 93 = .ok (.iload 7, 2) := by decide +kernel
theorem d_M_write_95 : decode cc_M_write 95 = .ok (.invokevirtual 101, 3) := by decide +kernel
theorem d_M_write_98 : decode cc_M_write 98 = .ok (.istore 8, 2) := by decide +kernel
theorem d_M_write_100 : decode cc_M_write 100 = .ok (.iload 8, 2) := by decide +kernel
theorem d_M_write_102 : decode cc_M_write 102 = .ok (.ifCond .ge 7, 3) := by decide +kernel
theorem d_M_write_109 : decode cc_M_write 109 = .ok (.aload_n 0, 1) := by decide +kernel
theorem d_M_write_110 : decode cc_M_write 110 = .ok (.getfield 25, 3) := by decide +kernel
theorem d_M_write_113 : decode cc_M_write 113 = .ok (.iload 8, 2) := by decide +kernel
theorem d_M_write_115 : decode cc_M_write 115 = .ok (.iaload, 1) := by decide +kernel
theorem d_M_write_116 : decode cc_M_write 116 = .ok (.ifCond .ne 7, 3) := by decide +kernel
theorem d_M_write_123 : decode cc_M_write 123 = .ok (.iconst 0, 1) := by decide +kernel
theorem d_M_write_119 : decode cc_M_write 119 = .ok (.iconst 1, 1) := by decide +kernel
theorem d_M_write_120 : decode cc_M_write 120 = .ok (.goto 4, 3) := by decide +kernel
theorem d_M_write_105 : decode cc_M_write 105 = .ok (.iconst 2, 1) := by decide +kernel
theorem d_M_write_106 : decode cc_M_write 106 = .ok (.goto 18, 3) := by decide +kernel
theorem d_M_write_62 : decode cc_M_write 62 = .ok (.iconst 0, 1) := by decide +kernel
theorem d_M_write_63 : decode cc_M_write 63 = .ok (.ireturn, 1) := by decide +kernel
theorem d_M_write_124 : decode cc_M_write 124 = .ok (.istore 9, 2) := by decide +kernel
theorem d_M_write_126 : decode cc_M_write 126 = .ok (.aload_n 0, 1) := by decide +kernel
theorem d_M_write_127 : decode cc_M_write 127 = .ok (.iload 5, 2) := by decide +kernel
theorem d_M_write_129 : decode cc_M_write 129 = .ok (.invokevirtual 104, 3) := by decide +kernel
theorem d_M_write_132 : decode cc_M_write 132 = .ok (.iload 9, 2) := by decide +kernel
theorem d_M_write_134 : decode cc_M_write 134 = .ok (.if_icmp .ge 6, 3) := by decide +kernel
theorem d_M_write_140 : decode cc_M_write 140 = .ok (.iload 8, 2) := by decide +kernel
theorem d_M_write_142 : decode cc_M_write 142 = .ok (.ifCond .ge 33, 3) := by decide +kernel
theorem d_M_write_145 : decode cc_M_write 145 = .ok (.aload_n 0, 1) := by decide +kernel
theorem d_M_write_146 : decode cc_M_write 146 = .ok (.getfield 25, 3) := by decide +kernel
theorem d_M_write_149 : decode cc_M_write 149 = .ok (.bipush 8, 2) := by decide +kernel
theorem d_M_write_151 : decode cc_M_write 151 = .ok (.bipush 8, 2) := by decide +kernel
theorem d_M_write_153 : decode cc_M_write 153 = .ok (.iload 6, 2) := by decide +kernel
theorem d_M_write_155 : decode cc_M_write 155 = .ok (.imul, 1) := by decide +kernel
theorem d_M_write_156 : decode cc_M_write 156 = .ok (.iadd, 1) := by decide +kernel
theorem d_M_write_157 : decode cc_M_write 157 = .ok (.bipush 6, 2) := by decide +kernel
theorem d_M_write_159 : decode cc_M_write 159 = .ok (.iadd, 1) := by decide +kernel
theorem d_M_write_160 : decode cc_M_write 160 = .ok (.aload_n 0, 1) := by decide +kernel
theorem d_M_write_161 : decode cc_M_write 161 = .ok (.invokevirtual 107, 3) := by decide +kernel
theorem d_M_write_164 : decode cc_M_write 164 = .ok (.iastore, 1) := by decide +kernel
theorem d_M_write_165 : decode cc_M_write 165 = .ok (.aload_n 0, 1) := by decide +kernel
theorem d_M_write_166 : decode cc_M_write 166 = .ok (.iload 6, 2) := by decide +kernel
theorem d_M_write_168 : decode cc_M_write 168 = .ok (.iload 7, 2) := by decide +kernel
theorem d_M_write_170 : decode cc_M_write 170 = .ok (.invokevirtual 101, 3) := by decide +kernel
theorem d_M_write_173 : decode cc_M_write 173 = .ok (.istore 8, 2) := by decide +kernel
theorem d_M_write_137 : decode cc_M_write 137 = .ok (.bipush (-2), 2) := by decide +kernel
theorem d_M_write_139 : decode cc_M_write 139 = .ok (.ireturn, 1) := by decide +kernel
theorem d_M_write_175 : decode cc_M_write 175 = .ok (.aload_n 0, 1) := by decide +kernel
theorem d_M_write_176 : decode cc_M_write 176 = .ok (.getfield 25, 3) := by decide +kernel
theorem d_M_write_179 : decode cc_M_write 179 = .ok (.iload 8, 2) := by decide +kernel
theorem d_M_write_181 : decode cc_M_write 181 = .ok (.iaload, 1) := by decide +kernel
theorem d_M_write_182 : decode cc_M_write 182 = .ok (.ifCond .ne 18, 3) := by decide +kernel
theorem d_M_write_185 : decode cc_M_write 185 = .ok (.aload_n 0, 1) := by decide +kernel
theorem d_M_write_186 : decode cc_M_write 186 = .ok (.invokevirtual 107, 3) := by decide +kernel
theorem d_M_write_189 : decode cc_M_write 189 = .ok (.istore 10, 2) := by decide +kernel
theorem d_M_write_191 : decode cc_M_write 191 = .ok (.aload_n 0, 1) := by decide +kernel
theorem d_M_write_192 : decode cc_M_write 192 = .ok (.getfield 25, 3) := by decide +kernel
theorem d_M_write_195 : decode cc_M_write 195 = .ok (.iload 8, 2) := by decide +kernel
theorem d_M_write_197 : decode cc_M_write 197 = .ok (.iload 10, 2) := by decide +kernel
theorem d_M_write_199 : decode cc_M_write 199 = .ok (.iastore, 1) := by decide +kernel
theorem d_M_write_200 : decode cc_M_write 200 = .ok (.aload_n 0, 1) := by decide +kernel
theorem d_M_write_201 : decode cc_M_write 201 = .ok (.getfield 25, 3) := by decide +kernel
theorem d_M_write_204 : decode cc_M_write 204 = .ok (.bipush 64, 2) := by decide +kernel
theorem d_M_write_206 : decode cc_M_write 206 = .ok (.bipush 8, 2) := by decide +kernel
theorem d_M_write_208 : decode cc_M_write 208 = .ok (.aload_n 0, 1) := by decide +kernel
theorem d_M_write_209 : decode cc_M_write 209 = .ok (.getfield 25, 3) := by decide +kernel
theorem d_M_write_212 : decode cc_M_write 212 = .ok (.iload 8, 2) := by decide +kernel
theorem d_M_write_214 : decode cc_M_write 214 = .ok (.iaload, 1) := by decide +kernel
theorem d_M_write_215 : decode cc_M_write 215 = .ok (.imul, 1) := by decide +kernel
theorem d_M_write_216 : decode cc_M_write 216 = .ok (.iadd, 1) := by decide +kernel
theorem d_M_write_217 : decode cc_M_write 217 = .ok (.iload_n 3, 1) := by decide +kernel
theorem d_M_write_218 : decode cc_M_write 218 = .ok (.bipush 8, 2) := by decide +kernel
theorem d_M_write_220 : decode cc_M_write 220 = .ok (.irem, 1) := by decide +kernel
theorem d_M_write_221 : decode cc_M_write 221 = .ok (.iadd, 1) := by decide +kernel
theorem d_M_write_222 : decode cc_M_write 222 = .ok (.iload 4, 2) := by decide +kernel
theorem d_M_write_224 : decode cc_M_write 224 = .ok (.iastore, 1) := by decide +kernel
theorem d_M_write_225 : decode cc_M_write 225 = .ok (.aload_n 0, 1) := by decide +kernel
theorem d_M_write_226 : decode cc_M_write 226 = .ok (.getfield 25, 3) := by decide +kernel
theorem d_M_write_229 : decode cc_M_write 229 = .ok (.bipush 8, 2) := by decide +kernel
theorem d_M_write_231 : decode cc_M_write 231 = .ok (.bipush 8, 2) := by decide +kernel
theorem d_M_write_233 : decode cc_M_write 233 = .ok (.iload 6, 2) := by decide +kernel
theorem d_M_write_235 : decode cc_M_write 235 = .ok (.imul, 1) := by decide +kernel
theorem d_M_write_236 : decode cc_M_write 236 = .ok (.iadd, 1) := by decide +kernel
theorem d_M_write_237 : decode cc_M_write 237 = .ok (.iconst 3, 1) := by decide +kernel
theorem d_M_write_238 : decode cc_M_write 238 = .ok (.iadd, 1) := by decide +kernel
theorem d_M_write_239 : decode cc_M_write 239 = .ok (.iaload, 1) := by decide +kernel
theorem d_M_write_240 : decode cc_M_write 240 = .ok (.istore 10, 2) := by decide +kernel
theorem d_M_write_242 : decode cc_M_write 242 = .ok (.aload_n 0, 1) := by decide +kernel
theorem d_M_write_243 : decode cc_M_write 243 = .ok (.getfield 25, 3) := by decide +kernel
theorem d_M_write_246 : decode cc_M_write 246 = .ok (.bipush 8, 2) := by decide +kernel
theorem d_M_write_248 : decode cc_M_write 248 = .ok (.bipush 8, 2) := by decide +kernel
theorem d_M_write_250 : decode cc_M_write 250 = .ok (.iload 6, 2) := by decide +kernel
theorem d_M_write_252 : decode cc_M_write 252 = .ok (.imul, 1) := by decide +kernel
theorem d_M_write_253 : decode cc_M_write 253 = .ok (.iadd, 1) := by decide +kernel
theorem d_M_write_254 : decode cc_M_write 254 = .ok (.iconst 3, 1) := by decide +kernel
theorem d_M_write_255 : decode cc_M_write 255 = .ok (.iadd, 1) := by decide +kernel
theorem d_M_write_256 : decode cc_M_write 256 = .ok (.iload 10, 2) := by decide +kernel
theorem d_M_write_258 : decode cc_M_write 258 = .ok (.iload_n 3, 1) := by decide +kernel
theorem d_M_write_259 : decode cc_M_write 259 = .ok (.iconst 1, 1) := by decide +kernel
theorem d_M_write_260 : decode cc_M_write 260 = .ok (.iadd, 1) := by decide +kernel
theorem d_M_write_261 : decode cc_M_write 261 = .ok (.if_icmp .ge 9, 3) := by decide +kernel
theorem d_M_write_270 : decode cc_M_write 270 = .ok (.iload 10, 2) := by decide +kernel
theorem d_M_write_264 : decode cc_M_write 264 = .ok (.iload_n 3, 1) := by decide +kernel
theorem d_M_write_265 : decode cc_M_write 265 = .ok (.iconst 1, 1) := by decide +kernel
theorem d_M_write_266 : decode cc_M_write 266 = .ok (.iadd, 1) := by decide +kernel
theorem d_M_write_267 : decode cc_M_write 267 = .ok (.goto 5, 3) := by decide +kernel
theorem d_M_write_272 : decode cc_M_write 272 = .ok (.iastore, 1) := by decide +kernel
theorem d_M_write_273 : decode cc_M_write 273 = .ok (.aload_n 0, 1) := by decide +kernel
theorem d_M_write_274 : decode cc_M_write 274 = .ok (.iload 5, 2) := by decide +kernel
theorem d_M_write_276 : decode cc_M_write 276 = .ok (.aload_n 0, 1) := by decide +kernel
theorem d_M_write_277 : decode cc_M_write 277 = .ok (.getfield 25, 3) := by decide +kernel
theorem d_M_write_280 : decode cc_M_write 280 = .ok (.bipush 8, 2) := by decide +kernel
theorem d_M_write_282 : decode cc_M_write 282 = .ok (.bipush 8, 2) := by decide +kernel
theorem d_M_write_284 : decode cc_M_write 284 = .ok (.iload 6, 2) := by decide +kernel
theorem d_M_write_286 : decode cc_M_write 286 = .ok (.imul, 1) := by decide +kernel
theorem d_M_write_287 : decode cc_M_write 287 = .ok (.iadd, 1) := by decide +kernel
theorem d_M_write_288 : decode cc_M_write 288 = .ok (.iconst 3, 1) := by decide +kernel
theorem d_M_write_289 : decode cc_M_write 289 = .ok (.iadd, 1) := by decide +kernel
theorem d_M_write_290 : decode cc_M_write 290 = .ok (.iaload, 1) := by decide +kernel
theorem d_M_write_291 : decode cc_M_write 291 = .ok (.invokevirtual 95, 3) := by decide +kernel
theorem d_M_write_294 : decode cc_M_write 294 = .ok (.ireturn, 1) := by decide +kernel
def f_M_write_272 (mar : Int32) (mLb : Nat → Int32) (y0 : Int32) (y1 : Int32) (y2 : Int32) (y3 : Int32) (y4 : Int32) (y5 : Int32) (y6 : Nat → Int32) (y7 : Nat → Int32) (y8 : Nat → Int32) (y9 : Nat → Int32) : Option (Int32 × Int32 × Int32 × (Nat → Int32) × (Nat → Int32) × (Nat → Int32) × (Nat → Int32)) :=
  (jv_sa y9 232 y3 y2).bind fun F33 => (jv_ga F33 232 (((8 : Int32) + ((8 : Int32) * y1)) + (3 : Int32))).bind fun x35 => (f_M_finish F33 y0 x35 y5 y6 y7 y8).bind fun x37 => some (x37.1, y4, x37.2.1, x37.2.2.1, x37.2.2.2.1, x37.2.2.2.2, F33)
set_option maxHeartbeats 4000000 in
set_option maxRecDepth 100000 in
theorem b_M_write_272 {l : Launch} {dC : Nat → ClassId} {dI : Nat → Nat → Nat} {cI cA cL : ClassId} {q_mo q_mlb_ q_mcl_ q_mus_ q_mwr_ q_mdk_ q_mcp_ : Nat} {mar : Int32} {mLb : Nat → Int32} {mCl : Nat → Int32} {p : Program} {e : Env} {s : State} {m : MethodId} {args : Array Value} {below : List Frame} {meth : Method} {c : Code} (cx : jv_cx p s m args meth c cc_M_write 11 R_Model (some .int) ws_M_write) (hK : va_K (dC, dI) vwCl (jv_ty cI cA cL) s) {A : Nat → Prop} (hA : ∀ q : Nat, s.heap.size ≤ q → A q) {r : Int32 × Int32 × Int32 × (Nat → Int32) × (Nat → Int32) × (Nat → Int32) × (Nat → Int32)} {y0 : Int32} {y1 : Int32} {y2 : Int32} {y3 : Int32} {y4 : Int32} {y5 : Int32} {y6 : Nat → Int32} {y7 : Nat → Int32} {y8 : Nat → Int32} {y9 : Nat → Int32} {ls : Array Slot} (hl : lv_has ls 11 [(0, .ref q_mo), (5, .int y0), (6, .int y1)]) {H : Heap} {locs : List Loc} (hP : va_P (dC, dI) vwCl (w_model cI q_mo q_mlb_ q_mcl_ q_mus_ q_mwr_ q_mdk_ q_mcp_ y4 mar y5 mLb mCl y6 y7 y8 y9) H) (hD : va_D A (w_model cI q_mo q_mlb_ q_mcl_ q_mus_ q_mwr_ q_mdk_ q_mcp_ y4 mar y5 mLb mCl y6 y7 y8 y9)) (hS : va_S A s.heap H locs) (hf : f_M_write_272 mar mLb y0 y1 y2 y3 y4 y5 y6 y7 y8 y9 = some r) : W p l e rm_M_write s m args below meth c H locs 0 0 (MQ below (jv_Qi r.1 (dC, dI) (w_model cI q_mo q_mlb_ q_mcl_ q_mus_ q_mwr_ q_mdk_ q_mcp_ r.2.1 mar r.2.2.1 mLb mCl r.2.2.2.1 r.2.2.2.2.1 r.2.2.2.2.2.1 r.2.2.2.2.2.2) A) args s 0 0 A) (F0 m 272 ls [.int y2, .int y3, .ref q_mcp_]) := by
  unfold f_M_write_272 at hf
  obtain ⟨hx, hb, hml, hown, hts, hr, hlocks⟩ := id cx
  obtain ⟨F33, g34, hf⟩ := jv_ob hf
  refine jv_iast hx hb hK hP hD hS 6 0 rfl rfl g34 d_M_write_272 (fun H locs hP hD hS => ?_)
  have hP : va_P (dC, dI) vwCl (w_model cI q_mo q_mlb_ q_mcl_ q_mus_ q_mwr_ q_mdk_ q_mcp_ y4 mar y5 mLb mCl y6 y7 y8 F33) H := hP
  have hD : va_D A (w_model cI q_mo q_mlb_ q_mcl_ q_mus_ q_mwr_ q_mdk_ q_mcp_ y4 mar y5 mLb mCl y6 y7 y8 F33) := hD
  refine lv_aload_n hx hb d_M_write_273 rfl (lv_at hl 0 rfl) ?_
  refine lv_iload hx hb d_M_write_274 (lv_at hl 1 rfl) ?_
  refine lv_aload_n hx hb d_M_write_276 rfl (lv_at hl 0 rfl) ?_
  refine va_get (D := (dC, dI)) (ci := kModel) (v := .ref q_mcp_) (C := R_Model) (T := T_Model) (N := 9) hx hb hts (fun w h => List.mem_cons_of_mem _ (in_Model w h)) hown hK hP 0 rfl rfl 7 (by decide) (jv_w hts wa_238) (fun _ h9 => h9) rfl d_M_write_277 ?_
  refine lv_bipush (v := (8 : Int32)) hx hb d_M_write_280 (by decide) ?_
  refine lv_bipush (v := (8 : Int32)) hx hb d_M_write_282 (by decide) ?_
  refine lv_iload hx hb d_M_write_284 (lv_at hl 2 rfl) ?_
  refine lv_imul hx hb d_M_write_286 ?_
  refine lv_iadd hx hb d_M_write_287 ?_
  refine lv_iconst (v := (3 : Int32)) hx hb d_M_write_288 (by decide) ?_
  refine lv_iadd hx hb d_M_write_289 ?_
  obtain ⟨x35, g36, hf⟩ := jv_ob hf
  refine jv_iald hx hb hK hP 6 0 rfl rfl g36 d_M_write_290 ?_
  obtain ⟨x37, g38, hf⟩ := jv_ob hf
  have hPc := hP.sub (ws' := (w_model cI q_mo q_mlb_ q_mcl_ q_mus_ q_mwr_ q_mdk_ q_mcp_ y4 mar y5 mLb mCl y6 y7 y8 F33)) [0, 1, 2, 3, 4, 5, 6] rfl
  have hDc := hD.sub (ws' := (w_model cI q_mo q_mlb_ q_mcl_ q_mus_ q_mwr_ q_mdk_ q_mcp_ y4 mar y5 mLb mCl y6 y7 y8 F33)) [0, 1, 2, 3, 4, 5, 6] (by decide) rfl
  have hFc := va_free (wc := (w_model cI q_mo q_mlb_ q_mcl_ q_mus_ q_mwr_ q_mdk_ q_mcp_ y4 mar y5 mLb mCl y6 y7 y8 F33)) hD hS hA [0, 1, 2, 3, 4, 5, 6] rfl
  refine jv_cwi (va_runV (As := [.int y0, .int x35]) (rest := []) (b := q_mo) ⟨hx, hb, hml, hown, hts⟩ (c_M_finish l dC dI cI cA cL q_mo q_mlb_ q_mcl_ q_mus_ q_mwr_ q_mdk_ q_mcp_ y4 mar y5 mLb mCl y6 y7 y8 F33 y0 x35 H.size x37 g38) (jv_cwV hts wa_261 wa_194 wa_262 wa_263 wa_264 rfl rfl yd_M_finish ⟨Nat.le_of_ble_eq_true rfl, Nat.le_of_ble_eq_true rfl⟩) (jv_preVW hK hPc hDc 0 rfl rfl) rfl rfl hl.1 rfl (lv_room (Nat.le_of_ble_eq_true rfl)) d_M_write_291 ⟨Nat.zero_le _, Nat.zero_le _⟩) hS hFc (fun H1 locs hP1 hD1 hk1 hS => ?_)
  have hP : va_P (dC, dI) vwCl (w_model cI q_mo q_mlb_ q_mcl_ q_mus_ q_mwr_ q_mdk_ q_mcp_ y4 mar x37.2.1 mLb mCl x37.2.2.1 x37.2.2.2.1 x37.2.2.2.2 F33) H1 := hP1.sub [0, 1, 2, 3, 4, 5, 6] rfl
  have hD : va_D A (w_model cI q_mo q_mlb_ q_mcl_ q_mus_ q_mwr_ q_mdk_ q_mcp_ y4 mar x37.2.1 mLb mCl x37.2.2.1 x37.2.2.2.1 x37.2.2.2.2 F33) := (hD1.weaken (fun _ q _ h => hFc q.1 h)).sub [0, 1, 2, 3, 4, 5, 6] (by decide) rfl
  generalize H1 = H at hP hS ⊢
  obtain rfl := Option.some.inj hf
  exact W.iret hx hb hr (fun t ht hW => ⟨rfl, by rw [ht]; exact hP, hD, hS.F ht⟩) hS.2.2 d_M_write_294
def f_M_write_200 (mar : Int32) (mLb : Nat → Int32) (y0 : Int32) (y1 : Int32) (y2 : Int32) (y3 : Int32) (y4 : Int32) (y5 : Int32) (y6 : Int32) (y7 : Nat → Int32) (y8 : Nat → Int32) (y9 : Nat → Int32) (y10 : Nat → Int32) : Option (Int32 × Int32 × Int32 × (Nat → Int32) × (Nat → Int32) × (Nat → Int32) × (Nat → Int32)) :=
  (jv_ga y10 232 y4).bind fun x27 => (jv_sa y10 232 (((64 : Int32) + ((8 : Int32) * x27)) + (y0 - y0 / (8 : Int32) * (8 : Int32))) y1).bind fun F29 => (jv_ga F29 232 (((8 : Int32) + ((8 : Int32) * y3)) + (3 : Int32))).bind fun x31 => if (y0 + (1 : Int32)) ≤ x31 then (f_M_write_272 mar mLb y2 y3 x31 (((8 : Int32) + ((8 : Int32) * y3)) + (3 : Int32)) y5 y6 y7 y8 y9 F29) else (f_M_write_272 mar mLb y2 y3 (y0 + (1 : Int32)) (((8 : Int32) + ((8 : Int32) * y3)) + (3 : Int32)) y5 y6 y7 y8 y9 F29)
set_option maxHeartbeats 4000000 in
set_option maxRecDepth 100000 in
theorem b_M_write_200 {l : Launch} {dC : Nat → ClassId} {dI : Nat → Nat → Nat} {cI cA cL : ClassId} {q_mo q_mlb_ q_mcl_ q_mus_ q_mwr_ q_mdk_ q_mcp_ : Nat} {mar : Int32} {mLb : Nat → Int32} {mCl : Nat → Int32} {p : Program} {e : Env} {s : State} {m : MethodId} {args : Array Value} {below : List Frame} {meth : Method} {c : Code} (cx : jv_cx p s m args meth c cc_M_write 11 R_Model (some .int) ws_M_write) (hK : va_K (dC, dI) vwCl (jv_ty cI cA cL) s) {A : Nat → Prop} (hA : ∀ q : Nat, s.heap.size ≤ q → A q) {r : Int32 × Int32 × Int32 × (Nat → Int32) × (Nat → Int32) × (Nat → Int32) × (Nat → Int32)} {y0 : Int32} {y1 : Int32} {y2 : Int32} {y3 : Int32} {y4 : Int32} {y5 : Int32} {y6 : Int32} {y7 : Nat → Int32} {y8 : Nat → Int32} {y9 : Nat → Int32} {y10 : Nat → Int32} {ls : Array Slot} (hl : lv_has ls 11 [(0, .ref q_mo), (3, .int y0), (4, .int y1), (5, .int y2), (6, .int y3), (8, .int y4)]) {H : Heap} {locs : List Loc} (hP : va_P (dC, dI) vwCl (w_model cI q_mo q_mlb_ q_mcl_ q_mus_ q_mwr_ q_mdk_ q_mcp_ y5 mar y6 mLb mCl y7 y8 y9 y10) H) (hD : va_D A (w_model cI q_mo q_mlb_ q_mcl_ q_mus_ q_mwr_ q_mdk_ q_mcp_ y5 mar y6 mLb mCl y7 y8 y9 y10)) (hS : va_S A s.heap H locs) (hf : f_M_write_200 mar mLb y0 y1 y2 y3 y4 y5 y6 y7 y8 y9 y10 = some r) : W p l e rm_M_write s m args below meth c H locs 0 0 (MQ below (jv_Qi r.1 (dC, dI) (w_model cI q_mo q_mlb_ q_mcl_ q_mus_ q_mwr_ q_mdk_ q_mcp_ r.2.1 mar r.2.2.1 mLb mCl r.2.2.2.1 r.2.2.2.2.1 r.2.2.2.2.2.1 r.2.2.2.2.2.2) A) args s 0 0 A) (F0 m 200 ls []) := by
  unfold f_M_write_200 at hf
  obtain ⟨hx, hb, hml, hown, hts, hr, hlocks⟩ := id cx
  refine lv_aload_n hx hb d_M_write_200 rfl (lv_at hl 0 rfl) ?_
  refine va_get (D := (dC, dI)) (ci := kModel) (v := .ref q_mcp_) (C := R_Model) (T := T_Model) (N := 9) hx hb hts (fun w h => List.mem_cons_of_mem _ (in_Model w h)) hown hK hP 0 rfl rfl 7 (by decide) (jv_w hts wa_238) (fun _ h9 => h9) rfl d_M_write_201 ?_
  refine lv_bipush (v := (64 : Int32)) hx hb d_M_write_204 (by decide) ?_
  refine lv_bipush (v := (8 : Int32)) hx hb d_M_write_206 (by decide) ?_
  refine lv_aload_n hx hb d_M_write_208 rfl (lv_at hl 0 rfl) ?_
  refine va_get (D := (dC, dI)) (ci := kModel) (v := .ref q_mcp_) (C := R_Model) (T := T_Model) (N := 9) hx hb hts (fun w h => List.mem_cons_of_mem _ (in_Model w h)) hown hK hP 0 rfl rfl 7 (by decide) (jv_w hts wa_238) (fun _ h9 => h9) rfl d_M_write_209 ?_
  refine lv_iload hx hb d_M_write_212 (lv_at hl 5 rfl) ?_
  obtain ⟨x27, g28, hf⟩ := jv_ob hf
  refine jv_iald hx hb hK hP 6 0 rfl rfl g28 d_M_write_214 ?_
  refine lv_imul hx hb d_M_write_215 ?_
  refine lv_iadd hx hb d_M_write_216 ?_
  refine lv_iload_n hx hb d_M_write_217 rfl (lv_at hl 1 rfl) ?_
  refine lv_bipush (v := (8 : Int32)) hx hb d_M_write_218 (by decide) ?_
  refine lv_irem hx hb d_M_write_220 (by decide) ?_
  refine lv_iadd hx hb d_M_write_221 ?_
  refine lv_iload hx hb d_M_write_222 (lv_at hl 2 rfl) ?_
  obtain ⟨F29, g30, hf⟩ := jv_ob hf
  refine jv_iast hx hb hK hP hD hS 6 0 rfl rfl g30 d_M_write_224 (fun H locs hP hD hS => ?_)
  have hP : va_P (dC, dI) vwCl (w_model cI q_mo q_mlb_ q_mcl_ q_mus_ q_mwr_ q_mdk_ q_mcp_ y5 mar y6 mLb mCl y7 y8 y9 F29) H := hP
  have hD : va_D A (w_model cI q_mo q_mlb_ q_mcl_ q_mus_ q_mwr_ q_mdk_ q_mcp_ y5 mar y6 mLb mCl y7 y8 y9 F29) := hD
  refine lv_aload_n hx hb d_M_write_225 rfl (lv_at hl 0 rfl) ?_
  refine va_get (D := (dC, dI)) (ci := kModel) (v := .ref q_mcp_) (C := R_Model) (T := T_Model) (N := 9) hx hb hts (fun w h => List.mem_cons_of_mem _ (in_Model w h)) hown hK hP 0 rfl rfl 7 (by decide) (jv_w hts wa_238) (fun _ h9 => h9) rfl d_M_write_226 ?_
  refine lv_bipush (v := (8 : Int32)) hx hb d_M_write_229 (by decide) ?_
  refine lv_bipush (v := (8 : Int32)) hx hb d_M_write_231 (by decide) ?_
  refine lv_iload hx hb d_M_write_233 (lv_at hl 4 rfl) ?_
  refine lv_imul hx hb d_M_write_235 ?_
  refine lv_iadd hx hb d_M_write_236 ?_
  refine lv_iconst (v := (3 : Int32)) hx hb d_M_write_237 (by decide) ?_
  refine lv_iadd hx hb d_M_write_238 ?_
  obtain ⟨x31, g32, hf⟩ := jv_ob hf
  refine jv_iald hx hb hK hP 6 0 rfl rfl g32 d_M_write_239 ?_
  refine lv_istore (lv' := [(10, .int x31), (0, .ref q_mo), (3, .int y0), (4, .int y1), (5, .int y2), (6, .int y3), (8, .int y4)]) hx hb d_M_write_240 hl (by decide) rfl (fun ls hl => ?_)
  refine lv_aload_n hx hb d_M_write_242 rfl (lv_at hl 1 rfl) ?_
  refine va_get (D := (dC, dI)) (ci := kModel) (v := .ref q_mcp_) (C := R_Model) (T := T_Model) (N := 9) hx hb hts (fun w h => List.mem_cons_of_mem _ (in_Model w h)) hown hK hP 0 rfl rfl 7 (by decide) (jv_w hts wa_238) (fun _ h9 => h9) rfl d_M_write_243 ?_
  refine lv_bipush (v := (8 : Int32)) hx hb d_M_write_246 (by decide) ?_
  refine lv_bipush (v := (8 : Int32)) hx hb d_M_write_248 (by decide) ?_
  refine lv_iload hx hb d_M_write_250 (lv_at hl 5 rfl) ?_
  refine lv_imul hx hb d_M_write_252 ?_
  refine lv_iadd hx hb d_M_write_253 ?_
  refine lv_iconst (v := (3 : Int32)) hx hb d_M_write_254 (by decide) ?_
  refine lv_iadd hx hb d_M_write_255 ?_
  refine lv_iload hx hb d_M_write_256 (lv_at hl 0 rfl) ?_
  refine lv_iload_n hx hb d_M_write_258 rfl (lv_at hl 2 rfl) ?_
  refine lv_iconst (v := (1 : Int32)) hx hb d_M_write_259 (by decide) ?_
  refine lv_iadd hx hb d_M_write_260 ?_
  refine lv_icmp_ge (tgt := 270) hx hb d_M_write_261 (by decide) (fun hc => ?_) (fun hc => ?_)
  · have hf := jv_it hf hc
    refine lv_iload hx hb d_M_write_270 (lv_at hl 0 rfl) ?_
    exact b_M_write_272 (y0 := y2) (y1 := y3) (y2 := x31) (y3 := ((8 : Int32) + ((8 : Int32) * y3)) + (3 : Int32)) (y4 := y5) (y5 := y6) (y6 := y7) (y7 := y8) (y8 := y9) (y9 := F29) cx hK hA (lv_sub hl [1, 4, 5] rfl) hP hD hS hf
  · have hf := jv_if hf hc
    refine lv_iload_n hx hb d_M_write_264 rfl (lv_at hl 2 rfl) ?_
    refine lv_iconst (v := (1 : Int32)) hx hb d_M_write_265 (by decide) ?_
    refine lv_iadd hx hb d_M_write_266 ?_
    refine lv_goto (tgt := 272) hx hb d_M_write_267 (by decide) ?_
    exact b_M_write_272 (y0 := y2) (y1 := y3) (y2 := y0 + (1 : Int32)) (y3 := ((8 : Int32) + ((8 : Int32) * y3)) + (3 : Int32)) (y4 := y5) (y5 := y6) (y6 := y7) (y7 := y8) (y8 := y9) (y9 := F29) cx hK hA (lv_sub hl [1, 4, 5] rfl) hP hD hS hf
def f_M_write_175 (mar : Int32) (mLb : Nat → Int32) (y0 : Int32) (y1 : Int32) (y2 : Int32) (y3 : Int32) (y4 : Int32) (y5 : Int32) (y6 : Int32) (y7 : Nat → Int32) (y8 : Nat → Int32) (y9 : Nat → Int32) (y10 : Nat → Int32) : Option (Int32 × Int32 × Int32 × (Nat → Int32) × (Nat → Int32) × (Nat → Int32) × (Nat → Int32)) :=
  (jv_ga y10 232 y4).bind fun x21 => if x21 = 0 then ((f_M_takeBlock y10).bind fun x23 => (jv_sa x23.2 232 y4 x23.1).bind fun F25 => f_M_write_200 mar mLb y0 y1 y2 y3 y4 y5 y6 y7 y8 y9 F25) else (f_M_write_200 mar mLb y0 y1 y2 y3 y4 y5 y6 y7 y8 y9 y10)
set_option maxHeartbeats 4000000 in
set_option maxRecDepth 100000 in
theorem b_M_write_175 {l : Launch} {dC : Nat → ClassId} {dI : Nat → Nat → Nat} {cI cA cL : ClassId} {q_mo q_mlb_ q_mcl_ q_mus_ q_mwr_ q_mdk_ q_mcp_ : Nat} {mar : Int32} {mLb : Nat → Int32} {mCl : Nat → Int32} {p : Program} {e : Env} {s : State} {m : MethodId} {args : Array Value} {below : List Frame} {meth : Method} {c : Code} (cx : jv_cx p s m args meth c cc_M_write 11 R_Model (some .int) ws_M_write) (hK : va_K (dC, dI) vwCl (jv_ty cI cA cL) s) {A : Nat → Prop} (hA : ∀ q : Nat, s.heap.size ≤ q → A q) {r : Int32 × Int32 × Int32 × (Nat → Int32) × (Nat → Int32) × (Nat → Int32) × (Nat → Int32)} {y0 : Int32} {y1 : Int32} {y2 : Int32} {y3 : Int32} {y4 : Int32} {y5 : Int32} {y6 : Int32} {y7 : Nat → Int32} {y8 : Nat → Int32} {y9 : Nat → Int32} {y10 : Nat → Int32} {ls : Array Slot} (hl : lv_has ls 11 [(0, .ref q_mo), (3, .int y0), (4, .int y1), (5, .int y2), (6, .int y3), (8, .int y4)]) {H : Heap} {locs : List Loc} (hP : va_P (dC, dI) vwCl (w_model cI q_mo q_mlb_ q_mcl_ q_mus_ q_mwr_ q_mdk_ q_mcp_ y5 mar y6 mLb mCl y7 y8 y9 y10) H) (hD : va_D A (w_model cI q_mo q_mlb_ q_mcl_ q_mus_ q_mwr_ q_mdk_ q_mcp_ y5 mar y6 mLb mCl y7 y8 y9 y10)) (hS : va_S A s.heap H locs) (hf : f_M_write_175 mar mLb y0 y1 y2 y3 y4 y5 y6 y7 y8 y9 y10 = some r) : W p l e rm_M_write s m args below meth c H locs 0 0 (MQ below (jv_Qi r.1 (dC, dI) (w_model cI q_mo q_mlb_ q_mcl_ q_mus_ q_mwr_ q_mdk_ q_mcp_ r.2.1 mar r.2.2.1 mLb mCl r.2.2.2.1 r.2.2.2.2.1 r.2.2.2.2.2.1 r.2.2.2.2.2.2) A) args s 0 0 A) (F0 m 175 ls []) := by
  unfold f_M_write_175 at hf
  obtain ⟨hx, hb, hml, hown, hts, hr, hlocks⟩ := id cx
  refine lv_aload_n hx hb d_M_write_175 rfl (lv_at hl 0 rfl) ?_
  refine va_get (D := (dC, dI)) (ci := kModel) (v := .ref q_mcp_) (C := R_Model) (T := T_Model) (N := 9) hx hb hts (fun w h => List.mem_cons_of_mem _ (in_Model w h)) hown hK hP 0 rfl rfl 7 (by decide) (jv_w hts wa_238) (fun _ h9 => h9) rfl d_M_write_176 ?_
  refine lv_iload hx hb d_M_write_179 (lv_at hl 5 rfl) ?_
  obtain ⟨x21, g22, hf⟩ := jv_ob hf
  refine jv_iald hx hb hK hP 6 0 rfl rfl g22 d_M_write_181 ?_
  refine lv_if_ne (tgt := 200) hx hb d_M_write_182 (by decide) (fun hc => ?_) (fun hc => ?_)
  · have hf := jv_if hf hc
    exact b_M_write_200 (y0 := y0) (y1 := y1) (y2 := y2) (y3 := y3) (y4 := y4) (y5 := y5) (y6 := y6) (y7 := y7) (y8 := y8) (y9 := y9) (y10 := y10) cx hK hA (lv_sub hl [0, 1, 2, 3, 4, 5] rfl) hP hD hS hf
  · have hf := jv_it hf hc
    refine lv_aload_n hx hb d_M_write_185 rfl (lv_at hl 0 rfl) ?_
    obtain ⟨x23, g24, hf⟩ := jv_ob hf
    have hPc := hP.sub (ws' := (w_model cI q_mo q_mlb_ q_mcl_ q_mus_ q_mwr_ q_mdk_ q_mcp_ y5 mar y6 mLb mCl y7 y8 y9 y10)) [0, 1, 2, 3, 4, 5, 6] rfl
    have hDc := hD.sub (ws' := (w_model cI q_mo q_mlb_ q_mcl_ q_mus_ q_mwr_ q_mdk_ q_mcp_ y5 mar y6 mLb mCl y7 y8 y9 y10)) [0, 1, 2, 3, 4, 5, 6] (by decide) rfl
    have hFc := va_free (wc := (w_model cI q_mo q_mlb_ q_mcl_ q_mus_ q_mwr_ q_mdk_ q_mcp_ y5 mar y6 mLb mCl y7 y8 y9 y10)) hD hS hA [0, 1, 2, 3, 4, 5, 6] rfl
    refine jv_cwi (va_runV (As := []) (rest := []) (b := q_mo) ⟨hx, hb, hml, hown, hts⟩ (c_M_takeBlock l dC dI cI cA cL q_mo q_mlb_ q_mcl_ q_mus_ q_mwr_ q_mdk_ q_mcp_ y5 mar y6 mLb mCl y7 y8 y9 y10 H.size x23 g24) (jv_cwV hts wa_277 wa_194 wa_278 wa_279 wa_280 rfl rfl yd_M_takeBlock ⟨Nat.le_of_ble_eq_true rfl, Nat.le_of_ble_eq_true rfl⟩) (jv_preVW hK hPc hDc 0 rfl rfl) rfl rfl hl.1 rfl (lv_room (Nat.le_of_ble_eq_true rfl)) d_M_write_186 ⟨Nat.zero_le _, Nat.zero_le _⟩) hS hFc (fun H1 locs hP1 hD1 hk1 hS => ?_)
    have hP : va_P (dC, dI) vwCl (w_model cI q_mo q_mlb_ q_mcl_ q_mus_ q_mwr_ q_mdk_ q_mcp_ y5 mar y6 mLb mCl y7 y8 y9 x23.2) H1 := hP1.sub [0, 1, 2, 3, 4, 5, 6] rfl
    have hD : va_D A (w_model cI q_mo q_mlb_ q_mcl_ q_mus_ q_mwr_ q_mdk_ q_mcp_ y5 mar y6 mLb mCl y7 y8 y9 x23.2) := (hD1.weaken (fun _ q _ h => hFc q.1 h)).sub [0, 1, 2, 3, 4, 5, 6] (by decide) rfl
    generalize H1 = H at hP hS ⊢
    refine lv_istore (lv' := [(10, .int x23.1), (0, .ref q_mo), (3, .int y0), (4, .int y1), (5, .int y2), (6, .int y3), (8, .int y4)]) hx hb d_M_write_189 hl (by decide) rfl (fun ls hl => ?_)
    refine lv_aload_n hx hb d_M_write_191 rfl (lv_at hl 1 rfl) ?_
    refine va_get (D := (dC, dI)) (ci := kModel) (v := .ref q_mcp_) (C := R_Model) (T := T_Model) (N := 9) hx hb hts (fun w h => List.mem_cons_of_mem _ (in_Model w h)) hown hK hP 0 rfl rfl 7 (by decide) (jv_w hts wa_238) (fun _ h9 => h9) rfl d_M_write_192 ?_
    refine lv_iload hx hb d_M_write_195 (lv_at hl 6 rfl) ?_
    refine lv_iload hx hb d_M_write_197 (lv_at hl 0 rfl) ?_
    obtain ⟨F25, g26, hf⟩ := jv_ob hf
    refine jv_iast hx hb hK hP hD hS 6 0 rfl rfl g26 d_M_write_199 (fun H locs hP hD hS => ?_)
    have hP : va_P (dC, dI) vwCl (w_model cI q_mo q_mlb_ q_mcl_ q_mus_ q_mwr_ q_mdk_ q_mcp_ y5 mar y6 mLb mCl y7 y8 y9 F25) H := hP
    have hD : va_D A (w_model cI q_mo q_mlb_ q_mcl_ q_mus_ q_mwr_ q_mdk_ q_mcp_ y5 mar y6 mLb mCl y7 y8 y9 F25) := hD
    exact b_M_write_200 (y0 := y0) (y1 := y1) (y2 := y2) (y3 := y3) (y4 := y4) (y5 := y5) (y6 := y6) (y7 := y7) (y8 := y8) (y9 := y9) (y10 := F25) cx hK hA (lv_sub hl [1, 2, 3, 4, 5, 6] rfl) hP hD hS hf
def f_M_write_124 (mar : Int32) (mLb : Nat → Int32) (y0 : Int32) (y1 : Int32) (y2 : Int32) (y3 : Int32) (y4 : Int32) (y5 : Int32) (y6 : Int32) (y7 : Int32) (y8 : Int32) (y9 : Nat → Int32) (y10 : Nat → Int32) (y11 : Nat → Int32) (y12 : Nat → Int32) : Option (Int32 × Int32 × Int32 × (Nat → Int32) × (Nat → Int32) × (Nat → Int32) × (Nat → Int32)) :=
  (f_M_freeBlocks y11 y2).bind fun x13 => if y6 ≤ x13 then (if 0 ≤ y5 then (f_M_write_175 mar mLb y0 y1 y2 y3 y5 y7 y8 y9 y10 y11 y12) else ((f_M_takeBlock y12).bind fun x15 => (jv_sa x15.2 232 (((8 : Int32) + ((8 : Int32) * y3)) + (6 : Int32)) x15.1).bind fun F17 => (f_M_pointer F17 y3 y4).bind fun x19 => f_M_write_175 mar mLb y0 y1 y2 y3 x19 y7 y8 y9 y10 y11 F17)) else (some ((-2 : Int32), y7, y8, y9, y10, y11, y12))
set_option maxHeartbeats 4000000 in
set_option maxRecDepth 100000 in
theorem b_M_write_124 {l : Launch} {dC : Nat → ClassId} {dI : Nat → Nat → Nat} {cI cA cL : ClassId} {q_mo q_mlb_ q_mcl_ q_mus_ q_mwr_ q_mdk_ q_mcp_ : Nat} {mar : Int32} {mLb : Nat → Int32} {mCl : Nat → Int32} {p : Program} {e : Env} {s : State} {m : MethodId} {args : Array Value} {below : List Frame} {meth : Method} {c : Code} (cx : jv_cx p s m args meth c cc_M_write 11 R_Model (some .int) ws_M_write) (hK : va_K (dC, dI) vwCl (jv_ty cI cA cL) s) {A : Nat → Prop} (hA : ∀ q : Nat, s.heap.size ≤ q → A q) {r : Int32 × Int32 × Int32 × (Nat → Int32) × (Nat → Int32) × (Nat → Int32) × (Nat → Int32)} {y0 : Int32} {y1 : Int32} {y2 : Int32} {y3 : Int32} {y4 : Int32} {y5 : Int32} {y6 : Int32} {y7 : Int32} {y8 : Int32} {y9 : Nat → Int32} {y10 : Nat → Int32} {y11 : Nat → Int32} {y12 : Nat → Int32} {ls : Array Slot} (hl : lv_has ls 11 [(0, .ref q_mo), (3, .int y0), (4, .int y1), (5, .int y2), (6, .int y3), (7, .int y4), (8, .int y5)]) {H : Heap} {locs : List Loc} (hP : va_P (dC, dI) vwCl (w_model cI q_mo q_mlb_ q_mcl_ q_mus_ q_mwr_ q_mdk_ q_mcp_ y7 mar y8 mLb mCl y9 y10 y11 y12) H) (hD : va_D A (w_model cI q_mo q_mlb_ q_mcl_ q_mus_ q_mwr_ q_mdk_ q_mcp_ y7 mar y8 mLb mCl y9 y10 y11 y12)) (hS : va_S A s.heap H locs) (hf : f_M_write_124 mar mLb y0 y1 y2 y3 y4 y5 y6 y7 y8 y9 y10 y11 y12 = some r) : W p l e rm_M_write s m args below meth c H locs 0 0 (MQ below (jv_Qi r.1 (dC, dI) (w_model cI q_mo q_mlb_ q_mcl_ q_mus_ q_mwr_ q_mdk_ q_mcp_ r.2.1 mar r.2.2.1 mLb mCl r.2.2.2.1 r.2.2.2.2.1 r.2.2.2.2.2.1 r.2.2.2.2.2.2) A) args s 0 0 A) (F0 m 124 ls [.int y6]) := by
  unfold f_M_write_124 at hf
  obtain ⟨hx, hb, hml, hown, hts, hr, hlocks⟩ := id cx
  refine lv_istore (lv' := [(9, .int y6), (0, .ref q_mo), (3, .int y0), (4, .int y1), (5, .int y2), (6, .int y3), (7, .int y4), (8, .int y5)]) hx hb d_M_write_124 hl (by decide) rfl (fun ls hl => ?_)
  refine lv_aload_n hx hb d_M_write_126 rfl (lv_at hl 1 rfl) ?_
  refine lv_iload hx hb d_M_write_127 (lv_at hl 4 rfl) ?_
  obtain ⟨x13, g14, hf⟩ := jv_ob hf
  have hPc := hP.sub (ws' := (w_model cI q_mo q_mlb_ q_mcl_ q_mus_ q_mwr_ q_mdk_ q_mcp_ y7 mar y8 mLb mCl y9 y10 y11 y12)) [0, 1, 2, 3, 4, 5, 6] rfl
  refine jv_cs (W.runV (As := [.int y2]) (rest := []) (b := q_mo) ⟨hx, hb, hml, hown, hts⟩ (c_M_freeBlocks l dC dI cI cA cL q_mo q_mlb_ q_mcl_ q_mus_ q_mwr_ q_mdk_ q_mcp_ y7 mar y8 mLb mCl y9 y10 y11 y12 y2 x13 g14) (jv_cwV hts wa_273 wa_194 wa_274 wa_275 wa_276 rfl rfl yd_M_freeBlocks ⟨Nat.le_of_ble_eq_true rfl, Nat.le_of_ble_eq_true rfl⟩) (jv_preV hK hPc 0 rfl rfl) rfl rfl hl.1 rfl (lv_room (Nat.le_of_ble_eq_true rfl)) d_M_write_129 ⟨Nat.zero_le _, Nat.zero_le _⟩) ?_
  refine lv_iload hx hb d_M_write_132 (lv_at hl 0 rfl) ?_
  refine lv_icmp_ge (tgt := 140) hx hb d_M_write_134 (by decide) (fun hc => ?_) (fun hc => ?_)
  · have hf := jv_it hf hc
    refine lv_iload hx hb d_M_write_140 (lv_at hl 7 rfl) ?_
    refine lv_if_ge (tgt := 175) hx hb d_M_write_142 (by decide) (fun hc => ?_) (fun hc => ?_)
    · have hf := jv_it hf hc
      exact b_M_write_175 (y0 := y0) (y1 := y1) (y2 := y2) (y3 := y3) (y4 := y5) (y5 := y7) (y6 := y8) (y7 := y9) (y8 := y10) (y9 := y11) (y10 := y12) cx hK hA (lv_sub hl [1, 2, 3, 4, 5, 7] rfl) hP hD hS hf
    · have hf := jv_if hf hc
      refine lv_aload_n hx hb d_M_write_145 rfl (lv_at hl 1 rfl) ?_
      refine va_get (D := (dC, dI)) (ci := kModel) (v := .ref q_mcp_) (C := R_Model) (T := T_Model) (N := 9) hx hb hts (fun w h => List.mem_cons_of_mem _ (in_Model w h)) hown hK hP 0 rfl rfl 7 (by decide) (jv_w hts wa_238) (fun _ h9 => h9) rfl d_M_write_146 ?_
      refine lv_bipush (v := (8 : Int32)) hx hb d_M_write_149 (by decide) ?_
      refine lv_bipush (v := (8 : Int32)) hx hb d_M_write_151 (by decide) ?_
      refine lv_iload hx hb d_M_write_153 (lv_at hl 5 rfl) ?_
      refine lv_imul hx hb d_M_write_155 ?_
      refine lv_iadd hx hb d_M_write_156 ?_
      refine lv_bipush (v := (6 : Int32)) hx hb d_M_write_157 (by decide) ?_
      refine lv_iadd hx hb d_M_write_159 ?_
      refine lv_aload_n hx hb d_M_write_160 rfl (lv_at hl 1 rfl) ?_
      obtain ⟨x15, g16, hf⟩ := jv_ob hf
      have hPc := hP.sub (ws' := (w_model cI q_mo q_mlb_ q_mcl_ q_mus_ q_mwr_ q_mdk_ q_mcp_ y7 mar y8 mLb mCl y9 y10 y11 y12)) [0, 1, 2, 3, 4, 5, 6] rfl
      have hDc := hD.sub (ws' := (w_model cI q_mo q_mlb_ q_mcl_ q_mus_ q_mwr_ q_mdk_ q_mcp_ y7 mar y8 mLb mCl y9 y10 y11 y12)) [0, 1, 2, 3, 4, 5, 6] (by decide) rfl
      have hFc := va_free (wc := (w_model cI q_mo q_mlb_ q_mcl_ q_mus_ q_mwr_ q_mdk_ q_mcp_ y7 mar y8 mLb mCl y9 y10 y11 y12)) hD hS hA [0, 1, 2, 3, 4, 5, 6] rfl
      refine jv_cwi (va_runV (As := []) (rest := [.int (((8 : Int32) + ((8 : Int32) * y3)) + (6 : Int32)), .ref q_mcp_]) (b := q_mo) ⟨hx, hb, hml, hown, hts⟩ (c_M_takeBlock l dC dI cI cA cL q_mo q_mlb_ q_mcl_ q_mus_ q_mwr_ q_mdk_ q_mcp_ y7 mar y8 mLb mCl y9 y10 y11 y12 H.size x15 g16) (jv_cwV hts wa_277 wa_194 wa_278 wa_279 wa_280 rfl rfl yd_M_takeBlock ⟨Nat.le_of_ble_eq_true rfl, Nat.le_of_ble_eq_true rfl⟩) (jv_preVW hK hPc hDc 0 rfl rfl) rfl rfl hl.1 rfl (lv_room (Nat.le_of_ble_eq_true rfl)) d_M_write_161 ⟨Nat.zero_le _, Nat.zero_le _⟩) hS hFc (fun H1 locs hP1 hD1 hk1 hS => ?_)
      have hP : va_P (dC, dI) vwCl (w_model cI q_mo q_mlb_ q_mcl_ q_mus_ q_mwr_ q_mdk_ q_mcp_ y7 mar y8 mLb mCl y9 y10 y11 x15.2) H1 := hP1.sub [0, 1, 2, 3, 4, 5, 6] rfl
      have hD : va_D A (w_model cI q_mo q_mlb_ q_mcl_ q_mus_ q_mwr_ q_mdk_ q_mcp_ y7 mar y8 mLb mCl y9 y10 y11 x15.2) := (hD1.weaken (fun _ q _ h => hFc q.1 h)).sub [0, 1, 2, 3, 4, 5, 6] (by decide) rfl
      generalize H1 = H at hP hS ⊢
      obtain ⟨F17, g18, hf⟩ := jv_ob hf
      refine jv_iast hx hb hK hP hD hS 6 0 rfl rfl g18 d_M_write_164 (fun H locs hP hD hS => ?_)
      have hP : va_P (dC, dI) vwCl (w_model cI q_mo q_mlb_ q_mcl_ q_mus_ q_mwr_ q_mdk_ q_mcp_ y7 mar y8 mLb mCl y9 y10 y11 F17) H := hP
      have hD : va_D A (w_model cI q_mo q_mlb_ q_mcl_ q_mus_ q_mwr_ q_mdk_ q_mcp_ y7 mar y8 mLb mCl y9 y10 y11 F17) := hD
      refine lv_aload_n hx hb d_M_write_165 rfl (lv_at hl 1 rfl) ?_
      refine lv_iload hx hb d_M_write_166 (lv_at hl 5 rfl) ?_
      refine lv_iload hx hb d_M_write_168 (lv_at hl 6 rfl) ?_
      obtain ⟨x19, g20, hf⟩ := jv_ob hf
      have hPc := hP.sub (ws' := (w_model cI q_mo q_mlb_ q_mcl_ q_mus_ q_mwr_ q_mdk_ q_mcp_ y7 mar y8 mLb mCl y9 y10 y11 F17)) [0, 1, 2, 3, 4, 5, 6] rfl
      refine jv_cs (W.runV (As := [.int y3, .int y4]) (rest := []) (b := q_mo) ⟨hx, hb, hml, hown, hts⟩ (c_M_pointer l dC dI cI cA cL q_mo q_mlb_ q_mcl_ q_mus_ q_mwr_ q_mdk_ q_mcp_ y7 mar y8 mLb mCl y9 y10 y11 F17 y3 y4 x19 g20) (jv_cwV hts wa_269 wa_194 wa_270 wa_271 wa_272 rfl rfl yd_M_pointer ⟨Nat.le_of_ble_eq_true rfl, Nat.le_of_ble_eq_true rfl⟩) (jv_preV hK hPc 0 rfl rfl) rfl rfl hl.1 rfl (lv_room (Nat.le_of_ble_eq_true rfl)) d_M_write_170 ⟨Nat.zero_le _, Nat.zero_le _⟩) ?_
      refine lv_istore (lv' := [(8, .int x19), (9, .int y6), (0, .ref q_mo), (3, .int y0), (4, .int y1), (5, .int y2), (6, .int y3), (7, .int y4)]) hx hb d_M_write_173 hl (by decide) rfl (fun ls hl => ?_)
      exact b_M_write_175 (y0 := y0) (y1 := y1) (y2 := y2) (y3 := y3) (y4 := x19) (y5 := y7) (y6 := y8) (y7 := y9) (y8 := y10) (y9 := y11) (y10 := F17) cx hK hA (lv_sub hl [2, 3, 4, 5, 6, 0] rfl) hP hD hS hf
  · have hf := jv_if hf hc
    refine lv_bipush (v := (-2 : Int32)) hx hb d_M_write_137 (by decide) ?_
    obtain rfl := Option.some.inj hf
    exact W.iret hx hb hr (fun t ht hW => ⟨rfl, by rw [ht]; exact hP, hD, hS.F ht⟩) hS.2.2 d_M_write_139
def f_M_write_52 (mar : Int32) (mLb : Nat → Int32) (y0 : Int32) (y1 : Int32) (y2 : Int32) (y3 : Int32) (y4 : Int32) (y5 : Int32) (y6 : Int32) (y7 : Nat → Int32) (y8 : Nat → Int32) (y9 : Nat → Int32) (y10 : Nat → Int32) : Option (Int32 × Int32 × Int32 × (Nat → Int32) × (Nat → Int32) × (Nat → Int32) × (Nat → Int32)) :=
  if y4 ≤ 0 then ((f_M_find y9 (y0 / (4 : Int32)) y1).bind fun x5 => (f_M_start y9 (y0 / (4 : Int32)) y10).bind fun x7 => (f_M_pointer x7 x5 (y2 / (8 : Int32))).bind fun x9 => if 0 ≤ x9 then ((jv_ga x7 232 x9).bind fun x11 => if x11 = 0 then (f_M_write_124 mar mLb y2 y3 (y0 / (4 : Int32)) x5 (y2 / (8 : Int32)) x9 (1 : Int32) y4 y6 y7 y8 y9 x7) else (f_M_write_124 mar mLb y2 y3 (y0 / (4 : Int32)) x5 (y2 / (8 : Int32)) x9 (0 : Int32) y4 y6 y7 y8 y9 x7)) else (f_M_write_124 mar mLb y2 y3 (y0 / (4 : Int32)) x5 (y2 / (8 : Int32)) x9 (2 : Int32) y4 y6 y7 y8 y9 x7)) else (some ((0 : Int32), y4, y6, y7, y8, y9, y10))
set_option maxHeartbeats 4000000 in
set_option maxRecDepth 100000 in
theorem b_M_write_52 {l : Launch} {dC : Nat → ClassId} {dI : Nat → Nat → Nat} {cI cA cL : ClassId} {q_mo q_mlb_ q_mcl_ q_mus_ q_mwr_ q_mdk_ q_mcp_ : Nat} {mar : Int32} {mLb : Nat → Int32} {mCl : Nat → Int32} {p : Program} {e : Env} {s : State} {m : MethodId} {args : Array Value} {below : List Frame} {meth : Method} {c : Code} (cx : jv_cx p s m args meth c cc_M_write 11 R_Model (some .int) ws_M_write) (hK : va_K (dC, dI) vwCl (jv_ty cI cA cL) s) {A : Nat → Prop} (hA : ∀ q : Nat, s.heap.size ≤ q → A q) {r : Int32 × Int32 × Int32 × (Nat → Int32) × (Nat → Int32) × (Nat → Int32) × (Nat → Int32)} {y0 : Int32} {y1 : Int32} {y2 : Int32} {y3 : Int32} {y4 : Int32} {y5 : Int32} {y6 : Int32} {y7 : Nat → Int32} {y8 : Nat → Int32} {y9 : Nat → Int32} {y10 : Nat → Int32} {ls : Array Slot} (hl : lv_has ls 11 [(0, .ref q_mo), (1, .int y0), (2, .int y1), (3, .int y2), (4, .int y3)]) {H : Heap} {locs : List Loc} (hP : va_P (dC, dI) vwCl (w_model cI q_mo q_mlb_ q_mcl_ q_mus_ q_mwr_ q_mdk_ q_mcp_ y5 mar y6 mLb mCl y7 y8 y9 y10) H) (hD : va_D A (w_model cI q_mo q_mlb_ q_mcl_ q_mus_ q_mwr_ q_mdk_ q_mcp_ y5 mar y6 mLb mCl y7 y8 y9 y10)) (hS : va_S A s.heap H locs) (hf : f_M_write_52 mar mLb y0 y1 y2 y3 y4 y5 y6 y7 y8 y9 y10 = some r) : W p l e rm_M_write s m args below meth c H locs 0 0 (MQ below (jv_Qi r.1 (dC, dI) (w_model cI q_mo q_mlb_ q_mcl_ q_mus_ q_mwr_ q_mdk_ q_mcp_ r.2.1 mar r.2.2.1 mLb mCl r.2.2.2.1 r.2.2.2.2.1 r.2.2.2.2.2.1 r.2.2.2.2.2.2) A) args s 0 0 A) (F0 m 52 ls [.int y4, .ref q_mo]) := by
  unfold f_M_write_52 at hf
  obtain ⟨hx, hb, hml, hown, hts, hr, hlocks⟩ := id cx
  refine va_put (D := (dC, dI)) (ci := kModel) (v := .int y4) (ty := .int) (C := R_Model) (T := T_Model) (N := 9) hx hb hts (fun w h => List.mem_cons_of_mem _ (in_Model w h)) ty_Model tyok_Model nm_Model hown hK hP hD hS 0 rfl rfl 0 (by decide) (jv_w hts wa_200) (fun _ h9 => h9) rfl (by decide +kernel) rfl rfl (Nat.le_of_ble_eq_true rfl) d_M_write_52 (fun H locs hP hD hS => ?_)
  have hP : va_P (dC, dI) vwCl (w_model cI q_mo q_mlb_ q_mcl_ q_mus_ q_mwr_ q_mdk_ q_mcp_ y4 mar y6 mLb mCl y7 y8 y9 y10) H := hP
  have hD : va_D A (w_model cI q_mo q_mlb_ q_mcl_ q_mus_ q_mwr_ q_mdk_ q_mcp_ y4 mar y6 mLb mCl y7 y8 y9 y10) := hD
  refine lv_aload_n hx hb d_M_write_55 rfl (lv_at hl 0 rfl) ?_
  refine va_get (D := (dC, dI)) (ci := kModel) (v := .int y4) (C := R_Model) (T := T_Model) (N := 9) hx hb hts (fun w h => List.mem_cons_of_mem _ (in_Model w h)) hown hK hP 0 rfl rfl 0 (by decide) (jv_w hts wa_200) (fun _ h9 => h9) rfl d_M_write_56 ?_
  refine lv_if_le (tgt := 64) hx hb d_M_write_59 (by decide) (fun hc => ?_) (fun hc => ?_)
  · have hf := jv_it hf hc
    refine lv_iload_n hx hb d_M_write_64 rfl (lv_at hl 1 rfl) ?_
    refine lv_iconst (v := (4 : Int32)) hx hb d_M_write_65 (by decide) ?_
    refine lv_idiv hx hb d_M_write_66 (by decide) ?_
    refine lv_istore (lv' := [(5, .int (y0 / (4 : Int32))), (0, .ref q_mo), (1, .int y0), (2, .int y1), (3, .int y2), (4, .int y3)]) hx hb d_M_write_67 hl (by decide) rfl (fun ls hl => ?_)
    refine lv_aload_n hx hb d_M_write_69 rfl (lv_at hl 1 rfl) ?_
    refine lv_iload hx hb d_M_write_70 (lv_at hl 0 rfl) ?_
    refine lv_iload_n hx hb d_M_write_72 rfl (lv_at hl 3 rfl) ?_
    obtain ⟨x5, g6, hf⟩ := jv_ob hf
    have hPc := hP.sub (ws' := (w_model cI q_mo q_mlb_ q_mcl_ q_mus_ q_mwr_ q_mdk_ q_mcp_ y4 mar y6 mLb mCl y7 y8 y9 y10)) [0, 1, 2, 3, 4, 5, 6] rfl
    refine jv_cs (W.runV (As := [.int (y0 / (4 : Int32)), .int y1]) (rest := []) (b := q_mo) ⟨hx, hb, hml, hown, hts⟩ (c_M_find l dC dI cI cA cL q_mo q_mlb_ q_mcl_ q_mus_ q_mwr_ q_mdk_ q_mcp_ y4 mar y6 mLb mCl y7 y8 y9 y10 (y0 / (4 : Int32)) y1 x5 g6) (jv_cwV hts wa_211 wa_194 wa_212 wa_213 wa_214 rfl rfl yd_M_find ⟨Nat.le_of_ble_eq_true rfl, Nat.le_of_ble_eq_true rfl⟩) (jv_preV hK hPc 0 rfl rfl) rfl rfl hl.1 rfl (lv_room (Nat.le_of_ble_eq_true rfl)) d_M_write_73 ⟨Nat.zero_le _, Nat.zero_le _⟩) ?_
    refine lv_istore (lv' := [(6, .int x5), (5, .int (y0 / (4 : Int32))), (0, .ref q_mo), (1, .int y0), (2, .int y1), (3, .int y2), (4, .int y3)]) hx hb d_M_write_76 hl (by decide) rfl (fun ls hl => ?_)
    refine lv_aload_n hx hb d_M_write_78 rfl (lv_at hl 2 rfl) ?_
    refine lv_iload hx hb d_M_write_79 (lv_at hl 1 rfl) ?_
    obtain ⟨x7, g8, hf⟩ := jv_ob hf
    have hPc := hP.sub (ws' := (w_model cI q_mo q_mlb_ q_mcl_ q_mus_ q_mwr_ q_mdk_ q_mcp_ y4 mar y6 mLb mCl y7 y8 y9 y10)) [0, 1, 2, 3, 4, 5, 6] rfl
    have hDc := hD.sub (ws' := (w_model cI q_mo q_mlb_ q_mcl_ q_mus_ q_mwr_ q_mdk_ q_mcp_ y4 mar y6 mLb mCl y7 y8 y9 y10)) [0, 1, 2, 3, 4, 5, 6] (by decide) rfl
    have hFc := va_free (wc := (w_model cI q_mo q_mlb_ q_mcl_ q_mus_ q_mwr_ q_mdk_ q_mcp_ y4 mar y6 mLb mCl y7 y8 y9 y10)) hD hS hA [0, 1, 2, 3, 4, 5, 6] rfl
    refine jv_cwv (va_runV (As := [.int (y0 / (4 : Int32))]) (rest := []) (b := q_mo) ⟨hx, hb, hml, hown, hts⟩ (c_M_start l dC dI cI cA cL q_mo q_mlb_ q_mcl_ q_mus_ q_mwr_ q_mdk_ q_mcp_ y4 mar y6 mLb mCl y7 y8 y9 y10 (y0 / (4 : Int32)) H.size x7 g8) (jv_cwV hts wa_257 wa_194 wa_258 wa_259 wa_260 rfl rfl yd_M_start ⟨Nat.le_of_ble_eq_true rfl, Nat.le_of_ble_eq_true rfl⟩) (jv_preVW hK hPc hDc 0 rfl rfl) rfl rfl hl.1 rfl (lv_room (Nat.le_of_ble_eq_true rfl)) d_M_write_81 ⟨Nat.zero_le _, Nat.zero_le _⟩) hS hFc (fun H1 locs hP1 hD1 hk1 hS => ?_)
    have hP : va_P (dC, dI) vwCl (w_model cI q_mo q_mlb_ q_mcl_ q_mus_ q_mwr_ q_mdk_ q_mcp_ y4 mar y6 mLb mCl y7 y8 y9 x7) H1 := hP1.sub [0, 1, 2, 3, 4, 5, 6] rfl
    have hD : va_D A (w_model cI q_mo q_mlb_ q_mcl_ q_mus_ q_mwr_ q_mdk_ q_mcp_ y4 mar y6 mLb mCl y7 y8 y9 x7) := (hD1.weaken (fun _ q _ h => hFc q.1 h)).sub [0, 1, 2, 3, 4, 5, 6] (by decide) rfl
    generalize H1 = H at hP hS ⊢
    refine lv_iload_n hx hb d_M_write_84 rfl (lv_at hl 5 rfl) ?_
    refine lv_bipush (v := (8 : Int32)) hx hb d_M_write_85 (by decide) ?_
    refine lv_idiv hx hb d_M_write_87 (by decide) ?_
    refine lv_istore (lv' := [(7, .int (y2 / (8 : Int32))), (6, .int x5), (5, .int (y0 / (4 : Int32))), (0, .ref q_mo), (1, .int y0), (2, .int y1), (3, .int y2), (4, .int y3)]) hx hb d_M_write_88 hl (by decide) rfl (fun ls hl => ?_)
    refine lv_aload_n hx hb d_M_write_90 rfl (lv_at hl 3 rfl) ?_
    refine lv_iload hx hb d_M_write_91 (lv_at hl 1 rfl) ?_
    refine lv_iload hx hb d_M_write_93 (lv_at hl 0 rfl) ?_
    obtain ⟨x9, g10, hf⟩ := jv_ob hf
    have hPc := hP.sub (ws' := (w_model cI q_mo q_mlb_ q_mcl_ q_mus_ q_mwr_ q_mdk_ q_mcp_ y4 mar y6 mLb mCl y7 y8 y9 x7)) [0, 1, 2, 3, 4, 5, 6] rfl
    refine jv_cs (W.runV (As := [.int x5, .int (y2 / (8 : Int32))]) (rest := []) (b := q_mo) ⟨hx, hb, hml, hown, hts⟩ (c_M_pointer l dC dI cI cA cL q_mo q_mlb_ q_mcl_ q_mus_ q_mwr_ q_mdk_ q_mcp_ y4 mar y6 mLb mCl y7 y8 y9 x7 x5 (y2 / (8 : Int32)) x9 g10) (jv_cwV hts wa_269 wa_194 wa_270 wa_271 wa_272 rfl rfl yd_M_pointer ⟨Nat.le_of_ble_eq_true rfl, Nat.le_of_ble_eq_true rfl⟩) (jv_preV hK hPc 0 rfl rfl) rfl rfl hl.1 rfl (lv_room (Nat.le_of_ble_eq_true rfl)) d_M_write_95 ⟨Nat.zero_le _, Nat.zero_le _⟩) ?_
    refine lv_istore (lv' := [(8, .int x9), (7, .int (y2 / (8 : Int32))), (6, .int x5), (5, .int (y0 / (4 : Int32))), (0, .ref q_mo), (1, .int y0), (2, .int y1), (3, .int y2), (4, .int y3)]) hx hb d_M_write_98 hl (by decide) rfl (fun ls hl => ?_)
    refine lv_iload hx hb d_M_write_100 (lv_at hl 0 rfl) ?_
    refine lv_if_ge (tgt := 109) hx hb d_M_write_102 (by decide) (fun hc => ?_) (fun hc => ?_)
    · have hf := jv_it hf hc
      refine lv_aload_n hx hb d_M_write_109 rfl (lv_at hl 4 rfl) ?_
      refine va_get (D := (dC, dI)) (ci := kModel) (v := .ref q_mcp_) (C := R_Model) (T := T_Model) (N := 9) hx hb hts (fun w h => List.mem_cons_of_mem _ (in_Model w h)) hown hK hP 0 rfl rfl 7 (by decide) (jv_w hts wa_238) (fun _ h9 => h9) rfl d_M_write_110 ?_
      refine lv_iload hx hb d_M_write_113 (lv_at hl 0 rfl) ?_
      obtain ⟨x11, g12, hf⟩ := jv_ob hf
      refine jv_iald hx hb hK hP 6 0 rfl rfl g12 d_M_write_115 ?_
      refine lv_if_ne (tgt := 123) hx hb d_M_write_116 (by decide) (fun hc => ?_) (fun hc => ?_)
      · have hf := jv_if hf hc
        refine lv_iconst (v := (0 : Int32)) hx hb d_M_write_123 (by decide) ?_
        exact b_M_write_124 (y0 := y2) (y1 := y3) (y2 := y0 / (4 : Int32)) (y3 := x5) (y4 := y2 / (8 : Int32)) (y5 := x9) (y6 := (0 : Int32)) (y7 := y4) (y8 := y6) (y9 := y7) (y10 := y8) (y11 := y9) (y12 := x7) cx hK hA (lv_sub hl [4, 7, 8, 3, 2, 1, 0] rfl) hP hD hS hf
      · have hf := jv_it hf hc
        refine lv_iconst (v := (1 : Int32)) hx hb d_M_write_119 (by decide) ?_
        refine lv_goto (tgt := 124) hx hb d_M_write_120 (by decide) ?_
        exact b_M_write_124 (y0 := y2) (y1 := y3) (y2 := y0 / (4 : Int32)) (y3 := x5) (y4 := y2 / (8 : Int32)) (y5 := x9) (y6 := (1 : Int32)) (y7 := y4) (y8 := y6) (y9 := y7) (y10 := y8) (y11 := y9) (y12 := x7) cx hK hA (lv_sub hl [4, 7, 8, 3, 2, 1, 0] rfl) hP hD hS hf
    · have hf := jv_if hf hc
      refine lv_iconst (v := (2 : Int32)) hx hb d_M_write_105 (by decide) ?_
      refine lv_goto (tgt := 124) hx hb d_M_write_106 (by decide) ?_
      exact b_M_write_124 (y0 := y2) (y1 := y3) (y2 := y0 / (4 : Int32)) (y3 := x5) (y4 := y2 / (8 : Int32)) (y5 := x9) (y6 := (2 : Int32)) (y7 := y4) (y8 := y6) (y9 := y7) (y10 := y8) (y11 := y9) (y12 := x7) cx hK hA (lv_sub hl [4, 7, 8, 3, 2, 1, 0] rfl) hP hD hS hf
  · have hf := jv_if hf hc
    refine lv_iconst (v := (0 : Int32)) hx hb d_M_write_62 (by decide) ?_
    obtain rfl := Option.some.inj hf
    exact W.iret hx hb hr (fun t ht hW => ⟨rfl, by rw [ht]; exact hP, hD, hS.F ht⟩) hS.2.2 d_M_write_63
def f_M_write_21 (mar : Int32) (mLb : Nat → Int32) (y0 : Int32) (y1 : Int32) (y2 : Int32) (y3 : Int32) (y4 : Int32) (y5 : Int32) (y6 : Int32) (y7 : Nat → Int32) (y8 : Nat → Int32) (y9 : Nat → Int32) (y10 : Nat → Int32) : Option (Int32 × Int32 × Int32 × (Nat → Int32) × (Nat → Int32) × (Nat → Int32) × (Nat → Int32)) :=
  if y4 = 0 then ((f_M_kind y9 (y0 / (4 : Int32)) y1).bind fun x3 => if x3 = (1 : Int32) then (f_M_write_52 mar mLb y0 y1 y2 y3 (4 : Int32) y4 y6 y7 y8 y9 y10) else (f_M_write_52 mar mLb y0 y1 y2 y3 y4 y4 y6 y7 y8 y9 y10)) else (f_M_write_52 mar mLb y0 y1 y2 y3 y4 y4 y6 y7 y8 y9 y10)
set_option maxHeartbeats 4000000 in
set_option maxRecDepth 100000 in
theorem b_M_write_21 {l : Launch} {dC : Nat → ClassId} {dI : Nat → Nat → Nat} {cI cA cL : ClassId} {q_mo q_mlb_ q_mcl_ q_mus_ q_mwr_ q_mdk_ q_mcp_ : Nat} {mar : Int32} {mLb : Nat → Int32} {mCl : Nat → Int32} {p : Program} {e : Env} {s : State} {m : MethodId} {args : Array Value} {below : List Frame} {meth : Method} {c : Code} (cx : jv_cx p s m args meth c cc_M_write 11 R_Model (some .int) ws_M_write) (hK : va_K (dC, dI) vwCl (jv_ty cI cA cL) s) {A : Nat → Prop} (hA : ∀ q : Nat, s.heap.size ≤ q → A q) {r : Int32 × Int32 × Int32 × (Nat → Int32) × (Nat → Int32) × (Nat → Int32) × (Nat → Int32)} {y0 : Int32} {y1 : Int32} {y2 : Int32} {y3 : Int32} {y4 : Int32} {y5 : Int32} {y6 : Int32} {y7 : Nat → Int32} {y8 : Nat → Int32} {y9 : Nat → Int32} {y10 : Nat → Int32} {ls : Array Slot} (hl : lv_has ls 11 [(0, .ref q_mo), (1, .int y0), (2, .int y1), (3, .int y2), (4, .int y3)]) {H : Heap} {locs : List Loc} (hP : va_P (dC, dI) vwCl (w_model cI q_mo q_mlb_ q_mcl_ q_mus_ q_mwr_ q_mdk_ q_mcp_ y5 mar y6 mLb mCl y7 y8 y9 y10) H) (hD : va_D A (w_model cI q_mo q_mlb_ q_mcl_ q_mus_ q_mwr_ q_mdk_ q_mcp_ y5 mar y6 mLb mCl y7 y8 y9 y10)) (hS : va_S A s.heap H locs) (hf : f_M_write_21 mar mLb y0 y1 y2 y3 y4 y5 y6 y7 y8 y9 y10 = some r) : W p l e rm_M_write s m args below meth c H locs 0 0 (MQ below (jv_Qi r.1 (dC, dI) (w_model cI q_mo q_mlb_ q_mcl_ q_mus_ q_mwr_ q_mdk_ q_mcp_ r.2.1 mar r.2.2.1 mLb mCl r.2.2.2.1 r.2.2.2.2.1 r.2.2.2.2.2.1 r.2.2.2.2.2.2) A) args s 0 0 A) (F0 m 21 ls [.int y4, .ref q_mo]) := by
  unfold f_M_write_21 at hf
  obtain ⟨hx, hb, hml, hown, hts, hr, hlocks⟩ := id cx
  refine va_put (D := (dC, dI)) (ci := kModel) (v := .int y4) (ty := .int) (C := R_Model) (T := T_Model) (N := 9) hx hb hts (fun w h => List.mem_cons_of_mem _ (in_Model w h)) ty_Model tyok_Model nm_Model hown hK hP hD hS 0 rfl rfl 0 (by decide) (jv_w hts wa_200) (fun _ h9 => h9) rfl (by decide +kernel) rfl rfl (Nat.le_of_ble_eq_true rfl) d_M_write_21 (fun H locs hP hD hS => ?_)
  have hP : va_P (dC, dI) vwCl (w_model cI q_mo q_mlb_ q_mcl_ q_mus_ q_mwr_ q_mdk_ q_mcp_ y4 mar y6 mLb mCl y7 y8 y9 y10) H := hP
  have hD : va_D A (w_model cI q_mo q_mlb_ q_mcl_ q_mus_ q_mwr_ q_mdk_ q_mcp_ y4 mar y6 mLb mCl y7 y8 y9 y10) := hD
  refine lv_aload_n hx hb d_M_write_24 rfl (lv_at hl 0 rfl) ?_
  refine lv_aload_n hx hb d_M_write_25 rfl (lv_at hl 0 rfl) ?_
  refine va_get (D := (dC, dI)) (ci := kModel) (v := .int y4) (C := R_Model) (T := T_Model) (N := 9) hx hb hts (fun w h => List.mem_cons_of_mem _ (in_Model w h)) hown hK hP 0 rfl rfl 0 (by decide) (jv_w hts wa_200) (fun _ h9 => h9) rfl d_M_write_26 ?_
  refine lv_if_ne (tgt := 48) hx hb d_M_write_29 (by decide) (fun hc => ?_) (fun hc => ?_)
  · have hf := jv_if hf hc
    refine lv_aload_n hx hb d_M_write_48 rfl (lv_at hl 0 rfl) ?_
    refine va_get (D := (dC, dI)) (ci := kModel) (v := .int y4) (C := R_Model) (T := T_Model) (N := 9) hx hb hts (fun w h => List.mem_cons_of_mem _ (in_Model w h)) hown hK hP 0 rfl rfl 0 (by decide) (jv_w hts wa_200) (fun _ h9 => h9) rfl d_M_write_49 ?_
    exact b_M_write_52 (y0 := y0) (y1 := y1) (y2 := y2) (y3 := y3) (y4 := y4) (y5 := y4) (y6 := y6) (y7 := y7) (y8 := y8) (y9 := y9) (y10 := y10) cx hK hA (lv_sub hl [0, 1, 2, 3, 4] rfl) hP hD hS hf
  · have hf := jv_it hf hc
    refine lv_aload_n hx hb d_M_write_32 rfl (lv_at hl 0 rfl) ?_
    refine lv_iload_n hx hb d_M_write_33 rfl (lv_at hl 1 rfl) ?_
    refine lv_iconst (v := (4 : Int32)) hx hb d_M_write_34 (by decide) ?_
    refine lv_idiv hx hb d_M_write_35 (by decide) ?_
    refine lv_iload_n hx hb d_M_write_36 rfl (lv_at hl 2 rfl) ?_
    obtain ⟨x3, g4, hf⟩ := jv_ob hf
    have hPc := hP.sub (ws' := (w_model cI q_mo q_mlb_ q_mcl_ q_mus_ q_mwr_ q_mdk_ q_mcp_ y4 mar y6 mLb mCl y7 y8 y9 y10)) [0, 1, 2, 3, 4, 5, 6] rfl
    refine jv_cs (W.runV (As := [.int (y0 / (4 : Int32)), .int y1]) (rest := [.ref q_mo]) (b := q_mo) ⟨hx, hb, hml, hown, hts⟩ (c_M_kind l dC dI cI cA cL q_mo q_mlb_ q_mcl_ q_mus_ q_mwr_ q_mdk_ q_mcp_ y4 mar y6 mLb mCl y7 y8 y9 y10 (y0 / (4 : Int32)) y1 x3 g4) (jv_cwV hts wa_223 wa_194 wa_224 wa_225 wa_226 rfl rfl yd_M_kind ⟨Nat.le_of_ble_eq_true rfl, Nat.le_of_ble_eq_true rfl⟩) (jv_preV hK hPc 0 rfl rfl) rfl rfl hl.1 rfl (lv_room (Nat.le_of_ble_eq_true rfl)) d_M_write_37 ⟨Nat.zero_le _, Nat.zero_le _⟩) ?_
    refine lv_iconst (v := (1 : Int32)) hx hb d_M_write_40 (by decide) ?_
    refine lv_icmp_ne (tgt := 48) hx hb d_M_write_41 (by decide) (fun hc => ?_) (fun hc => ?_)
    · have hf := jv_if hf hc
      refine lv_aload_n hx hb d_M_write_48 rfl (lv_at hl 0 rfl) ?_
      refine va_get (D := (dC, dI)) (ci := kModel) (v := .int y4) (C := R_Model) (T := T_Model) (N := 9) hx hb hts (fun w h => List.mem_cons_of_mem _ (in_Model w h)) hown hK hP 0 rfl rfl 0 (by decide) (jv_w hts wa_200) (fun _ h9 => h9) rfl d_M_write_49 ?_
      exact b_M_write_52 (y0 := y0) (y1 := y1) (y2 := y2) (y3 := y3) (y4 := y4) (y5 := y4) (y6 := y6) (y7 := y7) (y8 := y8) (y9 := y9) (y10 := y10) cx hK hA (lv_sub hl [0, 1, 2, 3, 4] rfl) hP hD hS hf
    · have hf := jv_it hf hc
      refine lv_iconst (v := (4 : Int32)) hx hb d_M_write_44 (by decide) ?_
      refine lv_goto (tgt := 52) hx hb d_M_write_45 (by decide) ?_
      exact b_M_write_52 (y0 := y0) (y1 := y1) (y2 := y2) (y3 := y3) (y4 := (4 : Int32)) (y5 := y4) (y6 := y6) (y7 := y7) (y8 := y8) (y9 := y9) (y10 := y10) cx hK hA (lv_sub hl [0, 1, 2, 3, 4] rfl) hP hD hS hf
def f_M_write_0 (mar : Int32) (mLb : Nat → Int32) (y0 : Int32) (y1 : Int32) (y2 : Int32) (y3 : Int32) (y4 : Int32) (y5 : Int32) (y6 : Nat → Int32) (y7 : Nat → Int32) (y8 : Nat → Int32) (y9 : Nat → Int32) : Option (Int32 × Int32 × Int32 × (Nat → Int32) × (Nat → Int32) × (Nat → Int32) × (Nat → Int32)) :=
  if y2 < 0 then (f_M_write_21 mar mLb y0 y1 y2 y3 (1 : Int32) y4 y5 y6 y7 y8 y9) else (if y2 ≤ (79 : Int32) then ((f_M_refusal mar mLb y6 y8 y0 y1).bind fun x1 => f_M_write_21 mar mLb y0 y1 y2 y3 x1 y4 y5 y6 y7 y8 y9) else (f_M_write_21 mar mLb y0 y1 y2 y3 (1 : Int32) y4 y5 y6 y7 y8 y9))
set_option maxHeartbeats 4000000 in
set_option maxRecDepth 100000 in
theorem b_M_write_0 {l : Launch} {dC : Nat → ClassId} {dI : Nat → Nat → Nat} {cI cA cL : ClassId} {q_mo q_mlb_ q_mcl_ q_mus_ q_mwr_ q_mdk_ q_mcp_ : Nat} {mar : Int32} {mLb : Nat → Int32} {mCl : Nat → Int32} {p : Program} {e : Env} {s : State} {m : MethodId} {args : Array Value} {below : List Frame} {meth : Method} {c : Code} (cx : jv_cx p s m args meth c cc_M_write 11 R_Model (some .int) ws_M_write) (hK : va_K (dC, dI) vwCl (jv_ty cI cA cL) s) {A : Nat → Prop} (hA : ∀ q : Nat, s.heap.size ≤ q → A q) {r : Int32 × Int32 × Int32 × (Nat → Int32) × (Nat → Int32) × (Nat → Int32) × (Nat → Int32)} {y0 : Int32} {y1 : Int32} {y2 : Int32} {y3 : Int32} {y4 : Int32} {y5 : Int32} {y6 : Nat → Int32} {y7 : Nat → Int32} {y8 : Nat → Int32} {y9 : Nat → Int32} {ls : Array Slot} (hl : lv_has ls 11 [(0, .ref q_mo), (1, .int y0), (2, .int y1), (3, .int y2), (4, .int y3)]) {H : Heap} {locs : List Loc} (hP : va_P (dC, dI) vwCl (w_model cI q_mo q_mlb_ q_mcl_ q_mus_ q_mwr_ q_mdk_ q_mcp_ y4 mar y5 mLb mCl y6 y7 y8 y9) H) (hD : va_D A (w_model cI q_mo q_mlb_ q_mcl_ q_mus_ q_mwr_ q_mdk_ q_mcp_ y4 mar y5 mLb mCl y6 y7 y8 y9)) (hS : va_S A s.heap H locs) (hf : f_M_write_0 mar mLb y0 y1 y2 y3 y4 y5 y6 y7 y8 y9 = some r) : W p l e rm_M_write s m args below meth c H locs 0 0 (MQ below (jv_Qi r.1 (dC, dI) (w_model cI q_mo q_mlb_ q_mcl_ q_mus_ q_mwr_ q_mdk_ q_mcp_ r.2.1 mar r.2.2.1 mLb mCl r.2.2.2.1 r.2.2.2.2.1 r.2.2.2.2.2.1 r.2.2.2.2.2.2) A) args s 0 0 A) (F0 m 0 ls []) := by
  unfold f_M_write_0 at hf
  obtain ⟨hx, hb, hml, hown, hts, hr, hlocks⟩ := id cx
  refine lv_aload_n hx hb d_M_write_0 rfl (lv_at hl 0 rfl) ?_
  refine lv_iload_n hx hb d_M_write_1 rfl (lv_at hl 3 rfl) ?_
  refine lv_if_lt (tgt := 11) hx hb d_M_write_2 (by decide) (fun hc => ?_) (fun hc => ?_)
  · have hf := jv_it hf hc
    refine lv_iconst (v := (1 : Int32)) hx hb d_M_write_11 (by decide) ?_
    refine lv_goto (tgt := 21) hx hb d_M_write_12 (by decide) ?_
    exact b_M_write_21 (y0 := y0) (y1 := y1) (y2 := y2) (y3 := y3) (y4 := (1 : Int32)) (y5 := y4) (y6 := y5) (y7 := y6) (y8 := y7) (y9 := y8) (y10 := y9) cx hK hA (lv_sub hl [0, 1, 2, 3, 4] rfl) hP hD hS hf
  · have hf := jv_if hf hc
    refine lv_iload_n hx hb d_M_write_5 rfl (lv_at hl 3 rfl) ?_
    refine lv_bipush (v := (79 : Int32)) hx hb d_M_write_6 (by decide) ?_
    refine lv_icmp_le (tgt := 15) hx hb d_M_write_8 (by decide) (fun hc => ?_) (fun hc => ?_)
    · have hf := jv_it hf hc
      refine lv_aload_n hx hb d_M_write_15 rfl (lv_at hl 0 rfl) ?_
      refine lv_iload_n hx hb d_M_write_16 rfl (lv_at hl 1 rfl) ?_
      refine lv_iload_n hx hb d_M_write_17 rfl (lv_at hl 2 rfl) ?_
      obtain ⟨x1, g2, hf⟩ := jv_ob hf
      have hPc := hP.sub (ws' := (w_model cI q_mo q_mlb_ q_mcl_ q_mus_ q_mwr_ q_mdk_ q_mcp_ y4 mar y5 mLb mCl y6 y7 y8 y9)) [0, 1, 2, 3, 4, 5, 6] rfl
      refine jv_cs (W.runV (As := [.int y0, .int y1]) (rest := [.ref q_mo]) (b := q_mo) ⟨hx, hb, hml, hown, hts⟩ (c_M_refusal l dC dI cI cA cL q_mo q_mlb_ q_mcl_ q_mus_ q_mwr_ q_mdk_ q_mcp_ y4 mar y5 mLb mCl y6 y7 y8 y9 y0 y1 x1 g2) (jv_cwV hts wa_265 wa_194 wa_266 wa_267 wa_268 rfl rfl yd_M_refusal ⟨Nat.le_of_ble_eq_true rfl, Nat.le_of_ble_eq_true rfl⟩) (jv_preV hK hPc 0 rfl rfl) rfl rfl hl.1 rfl (lv_room (Nat.le_of_ble_eq_true rfl)) d_M_write_18 ⟨Nat.zero_le _, Nat.zero_le _⟩) ?_
      exact b_M_write_21 (y0 := y0) (y1 := y1) (y2 := y2) (y3 := y3) (y4 := x1) (y5 := y4) (y6 := y5) (y7 := y6) (y8 := y7) (y9 := y8) (y10 := y9) cx hK hA (lv_sub hl [0, 1, 2, 3, 4] rfl) hP hD hS hf
    · have hf := jv_if hf hc
      refine lv_iconst (v := (1 : Int32)) hx hb d_M_write_11 (by decide) ?_
      refine lv_goto (tgt := 21) hx hb d_M_write_12 (by decide) ?_
      exact b_M_write_21 (y0 := y0) (y1 := y1) (y2 := y2) (y3 := y3) (y4 := (1 : Int32)) (y5 := y4) (y6 := y5) (y7 := y6) (y8 := y7) (y9 := y8) (y10 := y9) cx hK hA (lv_sub hl [0, 1, 2, 3, 4] rfl) hP hD hS hf
def f_M_write (mar : Int32) (mLb : Nat → Int32) (a0 : Int32) (a1 : Int32) (a2 : Int32) (a3 : Int32) (mth : Int32) (mfu : Int32) (mUs : Nat → Int32) (mWr : Nat → Int32) (mDk : Nat → Int32) (mCp : Nat → Int32) : Option (Int32 × Int32 × Int32 × (Nat → Int32) × (Nat → Int32) × (Nat → Int32) × (Nat → Int32)) := f_M_write_0 mar mLb a0 a1 a2 a3 mth mfu mUs mWr mDk mCp
set_option maxHeartbeats 4000000 in
set_option maxRecDepth 100000 in
theorem c_M_write (l : Launch) (dC : Nat → ClassId) (dI : Nat → Nat → Nat) (cI cA cL : ClassId) (q_mo q_mlb_ q_mcl_ q_mus_ q_mwr_ q_mdk_ q_mcp_ : Nat) (mth : Int32) (mar : Int32) (mfu : Int32) (mLb : Nat → Int32) (mCl : Nat → Int32) (mUs : Nat → Int32) (mWr : Nat → Int32) (mDk : Nat → Int32) (mCp : Nat → Int32) (a0 : Int32) (a1 : Int32) (a2 : Int32) (a3 : Int32) (sz : Nat) (r : Int32 × Int32 × Int32 × (Nat → Int32) × (Nat → Int32) × (Nat → Int32) × (Nat → Int32)) (hf : f_M_write mar mLb a0 a1 a2 a3 mth mfu mUs mWr mDk mCp = some r) : Met l y_M_write ws_M_write rm_M_write (jv_Pw [.ref q_mo, .int a0, .int a1, .int a2, .int a3] (dC, dI) (jv_ty cI cA cL) (w_model cI q_mo q_mlb_ q_mcl_ q_mus_ q_mwr_ q_mdk_ q_mcp_ mth mar mfu mLb mCl mUs mWr mDk mCp) sz) (jv_Qi r.1 (dC, dI) (w_model cI q_mo q_mlb_ q_mcl_ q_mus_ q_mwr_ q_mdk_ q_mcp_ r.2.1 mar r.2.2.1 mLb mCl r.2.2.2.1 r.2.2.2.2.1 r.2.2.2.2.2.1 r.2.2.2.2.2.2) (va_A (w_model cI q_mo q_mlb_ q_mcl_ q_mus_ q_mwr_ q_mdk_ q_mcp_ mth mar mfu mLb mCl mUs mWr mDk mCp) sz)) 0 0 (va_A (w_model cI q_mo q_mlb_ q_mcl_ q_mus_ q_mwr_ q_mdk_ q_mcp_ mth mar mfu mLb mCl mUs mWr mDk mCp) sz) := by
  refine Met.ofW (cc := cc_M_write) (maxL := 11) (ret := (some .int)) (by decide) rfl ?_
  intro p e s m args below meth c s₁ B hml hv
  obtain ⟨rfl, hsz, hP, hK, hD0⟩ := hv
  have cx : jv_cx p s m _ meth c cc_M_write 11 R_Model (some .int) ws_M_write := ⟨B.exec, B.bytes, hml, findClass_of_methodNamed B.named, atoms_spec (ws := ws_M_write) B.pre, B.returns, B.notSynchronized⟩
  subst hsz
  have hD := hD0.self (sz := s.heap.size)
  generalize hAe : va_A (w_model cI q_mo q_mlb_ q_mcl_ q_mus_ q_mwr_ q_mdk_ q_mcp_ mth mar mfu mLb mCl mUs mWr mDk mCp) s.heap.size = A at hD ⊢
  have hA : ∀ q : Nat, s.heap.size ≤ q → A q := fun q h => by rw [← hAe]; exact Or.inr h
  have hS : va_S A s.heap s.heap [] := va_S.rf
  have hl := lv_entry ([.ref q_mo, .int a0, .int a1, .int a2, .int a3]) (n := 11) (Nat.le_of_ble_eq_true rfl)
  rw [lg_entry_eq]
  generalize (lg_sl ([.ref q_mo, .int a0, .int a1, .int a2, .int a3]) ++ List.replicate (11 - (lg_sl ([.ref q_mo, .int a0, .int a1, .int a2, .int a3])).length) Slot.unset).toArray = ls at hl ⊢
  have hl : lv_has ls 11 [(0, .ref q_mo), (1, .int a0), (2, .int a1), (3, .int a2), (4, .int a3)] := hl
  exact b_M_write_0 (y0 := a0) (y1 := a1) (y2 := a2) (y3 := a3) (y4 := mth) (y5 := mfu) (y6 := mUs) (y7 := mWr) (y8 := mDk) (y9 := mCp) cx hK hA (lv_sub hl [0, 1, 2, 3, 4] rfl) hP hD hS hf
theorem d_M_release_0 : decode cc_M_release 0 = .ok (.aload_n 0, 1) := by decide +kernel
theorem d_M_release_1 : decode cc_M_release 1 = .ok (.getfield 25, 3) := by decide +kernel
theorem d_M_release_4 : decode cc_M_release 4 = .ok (.iload_n 1, 1) := by decide +kernel
theorem d_M_release_5 : decode cc_M_release 5 = .ok (.iaload, 1) := by decide +kernel
theorem d_M_release_6 : decode cc_M_release 6 = .ok (.istore_n 2, 1) := by decide +kernel
theorem d_M_release_7 : decode cc_M_release 7 = .ok (.iload_n 2, 1) := by decide +kernel
theorem d_M_release_8 : decode cc_M_release 8 = .ok (.ifCond .ne 5, 3) := by decide +kernel
theorem d_M_release_13 : decode cc_M_release 13 = .ok (.aload_n 0, 1) := by decide +kernel
theorem d_M_release_14 : decode cc_M_release 14 = .ok (.getfield 25, 3) := by decide +kernel
theorem d_M_release_17 : decode cc_M_release 17 = .ok (.iconst 0, 1) := by decide +kernel
theorem d_M_release_18 : decode cc_M_release 18 = .ok (.aload_n 0, 1) := by decide +kernel
theorem d_M_release_19 : decode cc_M_release 19 = .ok (.getfield 25, 3) := by decide +kernel
theorem d_M_release_22 : decode cc_M_release 22 = .ok (.iconst 0, 1) := by decide +kernel
theorem d_M_release_23 : decode cc_M_release 23 = .ok (.iaload, 1) := by decide +kernel
theorem d_M_release_24 : decode cc_M_release 24 = .ok (.iconst 1, 1) := by decide +kernel
theorem d_M_release_25 : decode cc_M_release 25 = .ok (.iload_n 2, 1) := by decide +kernel
theorem d_M_release_26 : decode cc_M_release 26 = .ok (.iconst 1, 1) := by decide +kernel
theorem d_M_release_27 : decode cc_M_release 27 = .ok (.isub, 1) := by decide +kernel
theorem d_M_release_28 : decode cc_M_release 28 = .ok (.ishl, 1) := by decide +kernel
theorem d_M_release_29 : decode cc_M_release 29 = .ok (.iconst (-1), 1) := by decide +kernel
theorem d_M_release_30 : decode cc_M_release 30 = .ok (.ixor, 1) := by decide +kernel
theorem d_M_release_31 : decode cc_M_release 31 = .ok (.iand, 1) := by decide +kernel
theorem d_M_release_32 : decode cc_M_release 32 = .ok (.iastore, 1) := by decide +kernel
theorem d_M_release_33 : decode cc_M_release 33 = .ok (.aload_n 0, 1) := by decide +kernel
theorem d_M_release_34 : decode cc_M_release 34 = .ok (.getfield 25, 3) := by decide +kernel
theorem d_M_release_37 : decode cc_M_release 37 = .ok (.iload_n 1, 1) := by decide +kernel
theorem d_M_release_38 : decode cc_M_release 38 = .ok (.iconst 0, 1) := by decide +kernel
theorem d_M_release_39 : decode cc_M_release 39 = .ok (.iastore, 1) := by decide +kernel
theorem d_M_release_40 : decode cc_M_release 40 = .ok (.iconst 1, 1) := by decide +kernel
theorem d_M_release_41 : decode cc_M_release 41 = .ok (.ireturn, 1) := by decide +kernel
theorem d_M_release_11 : decode cc_M_release 11 = .ok (.iconst 0, 1) := by decide +kernel
theorem d_M_release_12 : decode cc_M_release 12 = .ok (.ireturn, 1) := by decide +kernel
def f_M_release_0 (y0 : Int32) (y1 : Nat → Int32) : Option (Int32 × (Nat → Int32)) :=
  (jv_ga y1 232 y0).bind fun x1 => if x1 = 0 then (some ((0 : Int32), y1)) else ((jv_ga y1 232 (0 : Int32)).bind fun x3 => (jv_sa y1 232 (0 : Int32) (x3 &&& (((1 : Int32) <<< ((x1 - (1 : Int32)) &&& 31)) ^^^ (-1 : Int32)))).bind fun F5 => (jv_sa F5 232 y0 (0 : Int32)).bind fun F7 => some ((1 : Int32), F7))
set_option maxHeartbeats 4000000 in
set_option maxRecDepth 100000 in
theorem b_M_release_0 {l : Launch} {dC : Nat → ClassId} {dI : Nat → Nat → Nat} {cI cA cL : ClassId} {q_mo q_mlb_ q_mcl_ q_mus_ q_mwr_ q_mdk_ q_mcp_ : Nat} {mth : Int32} {mar : Int32} {mfu : Int32} {mLb : Nat → Int32} {mCl : Nat → Int32} {mUs : Nat → Int32} {mWr : Nat → Int32} {mDk : Nat → Int32} {p : Program} {e : Env} {s : State} {m : MethodId} {args : Array Value} {below : List Frame} {meth : Method} {c : Code} (cx : jv_cx p s m args meth c cc_M_release 3 R_Model (some .int) ws_M_release) (hK : va_K (dC, dI) vwCl (jv_ty cI cA cL) s) {A : Nat → Prop} (hA : ∀ q : Nat, s.heap.size ≤ q → A q) {r : Int32 × (Nat → Int32)} {y0 : Int32} {y1 : Nat → Int32} {ls : Array Slot} (hl : lv_has ls 3 [(0, .ref q_mo), (1, .int y0)]) {H : Heap} {locs : List Loc} (hP : va_P (dC, dI) vwCl (w_model cI q_mo q_mlb_ q_mcl_ q_mus_ q_mwr_ q_mdk_ q_mcp_ mth mar mfu mLb mCl mUs mWr mDk y1) H) (hD : va_D A (w_model cI q_mo q_mlb_ q_mcl_ q_mus_ q_mwr_ q_mdk_ q_mcp_ mth mar mfu mLb mCl mUs mWr mDk y1)) (hS : va_S A s.heap H locs) (hf : f_M_release_0 y0 y1 = some r) : W p l e rm_M_release s m args below meth c H locs 0 0 (MQ below (jv_Qi r.1 (dC, dI) (w_model cI q_mo q_mlb_ q_mcl_ q_mus_ q_mwr_ q_mdk_ q_mcp_ mth mar mfu mLb mCl mUs mWr mDk r.2) A) args s 0 0 A) (F0 m 0 ls []) := by
  unfold f_M_release_0 at hf
  obtain ⟨hx, hb, hml, hown, hts, hr, hlocks⟩ := id cx
  refine lv_aload_n hx hb d_M_release_0 rfl (lv_at hl 0 rfl) ?_
  refine va_get (D := (dC, dI)) (ci := kModel) (v := .ref q_mcp_) (C := R_Model) (T := T_Model) (N := 9) hx hb hts (fun w h => List.mem_cons_of_mem _ (in_Model w h)) hown hK hP 0 rfl rfl 7 (by decide) (jv_w hts wa_238) (fun _ h9 => h9) rfl d_M_release_1 ?_
  refine lv_iload_n hx hb d_M_release_4 rfl (lv_at hl 1 rfl) ?_
  obtain ⟨x1, g2, hf⟩ := jv_ob hf
  refine jv_iald hx hb hK hP 6 0 rfl rfl g2 d_M_release_5 ?_
  refine lv_istore_n (lv' := [(2, .int x1), (0, .ref q_mo), (1, .int y0)]) hx hb d_M_release_6 rfl hl (by decide) rfl (fun ls hl => ?_)
  refine lv_iload_n hx hb d_M_release_7 rfl (lv_at hl 0 rfl) ?_
  refine lv_if_ne (tgt := 13) hx hb d_M_release_8 (by decide) (fun hc => ?_) (fun hc => ?_)
  · have hf := jv_if hf hc
    refine lv_aload_n hx hb d_M_release_13 rfl (lv_at hl 1 rfl) ?_
    refine va_get (D := (dC, dI)) (ci := kModel) (v := .ref q_mcp_) (C := R_Model) (T := T_Model) (N := 9) hx hb hts (fun w h => List.mem_cons_of_mem _ (in_Model w h)) hown hK hP 0 rfl rfl 7 (by decide) (jv_w hts wa_238) (fun _ h9 => h9) rfl d_M_release_14 ?_
    refine lv_iconst (v := (0 : Int32)) hx hb d_M_release_17 (by decide) ?_
    refine lv_aload_n hx hb d_M_release_18 rfl (lv_at hl 1 rfl) ?_
    refine va_get (D := (dC, dI)) (ci := kModel) (v := .ref q_mcp_) (C := R_Model) (T := T_Model) (N := 9) hx hb hts (fun w h => List.mem_cons_of_mem _ (in_Model w h)) hown hK hP 0 rfl rfl 7 (by decide) (jv_w hts wa_238) (fun _ h9 => h9) rfl d_M_release_19 ?_
    refine lv_iconst (v := (0 : Int32)) hx hb d_M_release_22 (by decide) ?_
    obtain ⟨x3, g4, hf⟩ := jv_ob hf
    refine jv_iald hx hb hK hP 6 0 rfl rfl g4 d_M_release_23 ?_
    refine lv_iconst (v := (1 : Int32)) hx hb d_M_release_24 (by decide) ?_
    refine lv_iload_n hx hb d_M_release_25 rfl (lv_at hl 0 rfl) ?_
    refine lv_iconst (v := (1 : Int32)) hx hb d_M_release_26 (by decide) ?_
    refine lv_isub hx hb d_M_release_27 ?_
    refine lv_ishl hx hb d_M_release_28 ?_
    refine lv_iconst (v := (-1 : Int32)) hx hb d_M_release_29 (by decide) ?_
    refine lv_ixor hx hb d_M_release_30 ?_
    refine lv_iand hx hb d_M_release_31 ?_
    obtain ⟨F5, g6, hf⟩ := jv_ob hf
    refine jv_iast hx hb hK hP hD hS 6 0 rfl rfl g6 d_M_release_32 (fun H locs hP hD hS => ?_)
    have hP : va_P (dC, dI) vwCl (w_model cI q_mo q_mlb_ q_mcl_ q_mus_ q_mwr_ q_mdk_ q_mcp_ mth mar mfu mLb mCl mUs mWr mDk F5) H := hP
    have hD : va_D A (w_model cI q_mo q_mlb_ q_mcl_ q_mus_ q_mwr_ q_mdk_ q_mcp_ mth mar mfu mLb mCl mUs mWr mDk F5) := hD
    refine lv_aload_n hx hb d_M_release_33 rfl (lv_at hl 1 rfl) ?_
    refine va_get (D := (dC, dI)) (ci := kModel) (v := .ref q_mcp_) (C := R_Model) (T := T_Model) (N := 9) hx hb hts (fun w h => List.mem_cons_of_mem _ (in_Model w h)) hown hK hP 0 rfl rfl 7 (by decide) (jv_w hts wa_238) (fun _ h9 => h9) rfl d_M_release_34 ?_
    refine lv_iload_n hx hb d_M_release_37 rfl (lv_at hl 2 rfl) ?_
    refine lv_iconst (v := (0 : Int32)) hx hb d_M_release_38 (by decide) ?_
    obtain ⟨F7, g8, hf⟩ := jv_ob hf
    refine jv_iast hx hb hK hP hD hS 6 0 rfl rfl g8 d_M_release_39 (fun H locs hP hD hS => ?_)
    have hP : va_P (dC, dI) vwCl (w_model cI q_mo q_mlb_ q_mcl_ q_mus_ q_mwr_ q_mdk_ q_mcp_ mth mar mfu mLb mCl mUs mWr mDk F7) H := hP
    have hD : va_D A (w_model cI q_mo q_mlb_ q_mcl_ q_mus_ q_mwr_ q_mdk_ q_mcp_ mth mar mfu mLb mCl mUs mWr mDk F7) := hD
    refine lv_iconst (v := (1 : Int32)) hx hb d_M_release_40 (by decide) ?_
    obtain rfl := Option.some.inj hf
    exact W.iret hx hb hr (fun t ht hW => ⟨rfl, by rw [ht]; exact hP, hD, hS.F ht⟩) hS.2.2 d_M_release_41
  · have hf := jv_it hf hc
    refine lv_iconst (v := (0 : Int32)) hx hb d_M_release_11 (by decide) ?_
    obtain rfl := Option.some.inj hf
    exact W.iret hx hb hr (fun t ht hW => ⟨rfl, by rw [ht]; exact hP, hD, hS.F ht⟩) hS.2.2 d_M_release_12
def f_M_release (a0 : Int32) (mCp : Nat → Int32) : Option (Int32 × (Nat → Int32)) := f_M_release_0 a0 mCp
set_option maxHeartbeats 4000000 in
set_option maxRecDepth 100000 in
theorem c_M_release (l : Launch) (dC : Nat → ClassId) (dI : Nat → Nat → Nat) (cI cA cL : ClassId) (q_mo q_mlb_ q_mcl_ q_mus_ q_mwr_ q_mdk_ q_mcp_ : Nat) (mth : Int32) (mar : Int32) (mfu : Int32) (mLb : Nat → Int32) (mCl : Nat → Int32) (mUs : Nat → Int32) (mWr : Nat → Int32) (mDk : Nat → Int32) (mCp : Nat → Int32) (a0 : Int32) (sz : Nat) (r : Int32 × (Nat → Int32)) (hf : f_M_release a0 mCp = some r) : Met l y_M_release ws_M_release rm_M_release (jv_Pw [.ref q_mo, .int a0] (dC, dI) (jv_ty cI cA cL) (w_model cI q_mo q_mlb_ q_mcl_ q_mus_ q_mwr_ q_mdk_ q_mcp_ mth mar mfu mLb mCl mUs mWr mDk mCp) sz) (jv_Qi r.1 (dC, dI) (w_model cI q_mo q_mlb_ q_mcl_ q_mus_ q_mwr_ q_mdk_ q_mcp_ mth mar mfu mLb mCl mUs mWr mDk r.2) (va_A (w_model cI q_mo q_mlb_ q_mcl_ q_mus_ q_mwr_ q_mdk_ q_mcp_ mth mar mfu mLb mCl mUs mWr mDk mCp) sz)) 0 0 (va_A (w_model cI q_mo q_mlb_ q_mcl_ q_mus_ q_mwr_ q_mdk_ q_mcp_ mth mar mfu mLb mCl mUs mWr mDk mCp) sz) := by
  refine Met.ofW (cc := cc_M_release) (maxL := 3) (ret := (some .int)) (by decide) rfl ?_
  intro p e s m args below meth c s₁ B hml hv
  obtain ⟨rfl, hsz, hP, hK, hD0⟩ := hv
  have cx : jv_cx p s m _ meth c cc_M_release 3 R_Model (some .int) ws_M_release := ⟨B.exec, B.bytes, hml, findClass_of_methodNamed B.named, atoms_spec (ws := ws_M_release) B.pre, B.returns, B.notSynchronized⟩
  subst hsz
  have hD := hD0.self (sz := s.heap.size)
  generalize hAe : va_A (w_model cI q_mo q_mlb_ q_mcl_ q_mus_ q_mwr_ q_mdk_ q_mcp_ mth mar mfu mLb mCl mUs mWr mDk mCp) s.heap.size = A at hD ⊢
  have hA : ∀ q : Nat, s.heap.size ≤ q → A q := fun q h => by rw [← hAe]; exact Or.inr h
  have hS : va_S A s.heap s.heap [] := va_S.rf
  have hl := lv_entry ([.ref q_mo, .int a0]) (n := 3) (Nat.le_of_ble_eq_true rfl)
  rw [lg_entry_eq]
  generalize (lg_sl ([.ref q_mo, .int a0]) ++ List.replicate (3 - (lg_sl ([.ref q_mo, .int a0])).length) Slot.unset).toArray = ls at hl ⊢
  have hl : lv_has ls 3 [(0, .ref q_mo), (1, .int a0)] := hl
  exact b_M_release_0 (y0 := a0) (y1 := mCp) cx hK hA (lv_sub hl [0, 1] rfl) hP hD hS hf
