theorem d_law_132 : decode cc_law 132 = .ok (.aload_n 1, 1) := by decide +kernel
theorem d_law_133 : decode cc_law 133 = .ok (.aload_n 0, 1) := by decide +kernel
theorem d_law_134 : decode cc_law 134 = .ok (.iload 4, 2) := by decide +kernel
theorem d_law_136 : decode cc_law 136 = .ok (.iconst 1, 1) := by decide +kernel
theorem d_law_137 : decode cc_law 137 = .ok (.iadd, 1) := by decide +kernel
theorem d_law_138 : decode cc_law 138 = .ok (.iaload, 1) := by decide +kernel
theorem d_law_139 : decode cc_law 139 = .ok (.aload_n 3, 1) := by decide +kernel
theorem d_law_140 : decode cc_law 140 = .ok (.invokestatic 77, 3) := by decide +kernel
theorem d_law_143 : decode cc_law 143 = .ok (.istore 5, 2) := by decide +kernel
theorem d_law_145 : decode cc_law 145 = .ok (.aload_n 2, 1) := by decide +kernel
theorem d_law_146 : decode cc_law 146 = .ok (.aload_n 0, 1) := by decide +kernel
theorem d_law_147 : decode cc_law 147 = .ok (.iload 4, 2) := by decide +kernel
theorem d_law_149 : decode cc_law 149 = .ok (.iconst 1, 1) := by decide +kernel
theorem d_law_150 : decode cc_law 150 = .ok (.iadd, 1) := by decide +kernel
theorem d_law_151 : decode cc_law 151 = .ok (.iaload, 1) := by decide +kernel
theorem d_law_152 : decode cc_law 152 = .ok (.invokevirtual 82, 3) := by decide +kernel
theorem d_law_155 : decode cc_law 155 = .ok (.istore 6, 2) := by decide +kernel
theorem d_law_157 : decode cc_law 157 = .ok (.aload_n 2, 1) := by decide +kernel
theorem d_law_158 : decode cc_law 158 = .ok (.invokevirtual 83, 3) := by decide +kernel
theorem d_law_161 : decode cc_law 161 = .ok (.iload 5, 2) := by decide +kernel
theorem d_law_163 : decode cc_law 163 = .ok (.if_icmp .eq 5, 3) := by decide +kernel
theorem d_law_168 : decode cc_law 168 = .ok (.iload 5, 2) := by decide +kernel
theorem d_law_170 : decode cc_law 170 = .ok (.ifCond .ne 15, 3) := by decide +kernel
theorem d_law_173 : decode cc_law 173 = .ok (.aload_n 3, 1) := by decide +kernel
theorem d_law_174 : decode cc_law 174 = .ok (.iconst 0, 1) := by decide +kernel
theorem d_law_175 : decode cc_law 175 = .ok (.laload, 1) := by decide +kernel
theorem d_law_176 : decode cc_law 176 = .ok (.iload 6, 2) := by decide +kernel
theorem d_law_178 : decode cc_law 178 = .ok (.i2l, 1) := by decide +kernel
theorem d_law_179 : decode cc_law 179 = .ok (.lcmp, 1) := by decide +kernel
theorem d_law_180 : decode cc_law 180 = .ok (.ifCond .eq 5, 3) := by decide +kernel
theorem d_law_185 : decode cc_law 185 = .ok (.goto 1216, 3) := by decide +kernel
def s_0 (S : jv_vs) (vO : Nat → Int64) (M : jv_ms) (p1 : Int32) : Option jv_st :=
  (l_area S p1 vO).bind fun x => (f_M_area p1 M.1 M.2.1 M.2.2.2.1 M.2.2.2.2.2.2.2.1).bind fun y1 => (f_M_thrown y1.2.1).bind fun y2 => if y2 = x.1 then (if x.1 = 0 then (if x.2.2 (0 : Int32).toNatClampNeg = (y1.1).toInt64 then (some (x.2.1, x.2.2, y1.2.1, y1.2.2.1, M.2.2.1, y1.2.2.2.1, M.2.2.2.2.1, M.2.2.2.2.2.1, M.2.2.2.2.2.2.1, y1.2.2.2.2, M.2.2.2.2.2.2.2.2)) else none) else (some (x.2.1, x.2.2, y1.2.1, y1.2.2.1, M.2.2.1, y1.2.2.2.1, M.2.2.2.2.1, M.2.2.2.2.2.1, M.2.2.2.2.2.2.1, y1.2.2.2.2, M.2.2.2.2.2.2.2.2))) else none
set_option maxHeartbeats 4000000 in
set_option maxRecDepth 100000 in
theorem b_law_0 {l : Launch} {dC : Nat → ClassId} {dI : Nat → Nat → Nat} {cI cA cL : ClassId} {q_mo q_mlb_ q_mcl_ q_mus_ q_mwr_ q_mdk_ q_mcp_ q_out q_va q_aa q_cl q_fu : Nat} {p : Program} {e : Env} {s : State} {m : MethodId} {below : List Frame} {meth : Method} {c : Code} {b L : Nat} {xs : Nat → Int32} (hl9 : l.stackTraces = false) (hx : p.tables.exec = Jvm.exec) (hb : c.code = code) (hml : c.maxLocals = 7) (hown : s.vm.findClass R_Law = some m.cls) (hts : ∀ w ∈ Cond.tt :: jv_LT, w.before #[Value.ref b] s = true) (hX : va_X b L xs s s.heap) (hbl : b < s.heap.size) (hK : va_K (dC, dI) vwCl (jv_ty cI cA cL) s) (hTc : jv_tc s) {A : Nat → Prop} (hA : ∀ q : Nat, s.heap.size ≤ q → A q) (hAn : ∀ q : Nat, A q → s.heap.size ≤ q) {Z : State → Prop} {Q : Nat → Nat → Nat} {i : Int32} (hi1 : vp_in (i + (1 : Int32)) L) {S : jv_vs} {vO : Nat → Int64} {M : jv_ms} {r : jv_st} {H : Heap} {locs : List Loc} {cells slots : Nat} (hc : cells + 8 ≤ room_1.cells) (hsl : slots + 713 ≤ room_1.slots) {ls : Array Slot} (hl : lv_has ls 7 [(0, .ref b), (1, .ref q_va), (2, .ref q_mo), (3, .ref q_out), (4, .int i)]) (hP : va_P (dC, dI) vwCl ((w_model cI q_mo q_mlb_ q_mcl_ q_mus_ q_mwr_ q_mdk_ q_mcp_ M.1 M.2.1 M.2.2.1 M.2.2.2.1 M.2.2.2.2.1 M.2.2.2.2.2.1 M.2.2.2.2.2.2.1 M.2.2.2.2.2.2.2.1 M.2.2.2.2.2.2.2.2) ++ (w_lo cI cA cL q_out q_va q_aa q_cl q_fu Q S vO)) H) (hD : va_D A ((w_model cI q_mo q_mlb_ q_mcl_ q_mus_ q_mwr_ q_mdk_ q_mcp_ M.1 M.2.1 M.2.2.1 M.2.2.2.1 M.2.2.2.2.1 M.2.2.2.2.2.1 M.2.2.2.2.2.2.1 M.2.2.2.2.2.2.2.1 M.2.2.2.2.2.2.2.2) ++ (w_lo cI cA cL q_out q_va q_aa q_cl q_fu Q S vO))) (hS : va_S A s.heap H locs) (hf : s_0 S vO M (xs (i + (1 : Int32)).toNatClampNeg) = some r) (KK : ∀ (Q : Nat → Nat → Nat) (H : Heap) (locs : List Loc) (ls : Array Slot), lv_has ls 7 [(0, .ref b), (1, .ref q_va), (2, .ref q_mo), (3, .ref q_out), (4, .int i)] → va_P (dC, dI) vwCl ((w_model cI q_mo q_mlb_ q_mcl_ q_mus_ q_mwr_ q_mdk_ q_mcp_ r.2.2.1 r.2.2.2.1 r.2.2.2.2.1 r.2.2.2.2.2.1 r.2.2.2.2.2.2.1 r.2.2.2.2.2.2.2.1 r.2.2.2.2.2.2.2.2.1 r.2.2.2.2.2.2.2.2.2.1 r.2.2.2.2.2.2.2.2.2.2) ++ (w_lo cI cA cL q_out q_va q_aa q_cl q_fu Q r.1 r.2.1)) H → va_D A ((w_model cI q_mo q_mlb_ q_mcl_ q_mus_ q_mwr_ q_mdk_ q_mcp_ r.2.2.1 r.2.2.2.1 r.2.2.2.2.1 r.2.2.2.2.2.1 r.2.2.2.2.2.2.1 r.2.2.2.2.2.2.2.1 r.2.2.2.2.2.2.2.2.1 r.2.2.2.2.2.2.2.2.2.1 r.2.2.2.2.2.2.2.2.2.2) ++ (w_lo cI cA cL q_out q_va q_aa q_cl q_fu Q r.1 r.2.1)) → va_S A s.heap H locs → W p l e room_1 s m #[Value.ref b] below meth c H locs (cells + 8) (slots + 713) Z (F0 m 1401 ls [])) : W p l e room_1 s m #[Value.ref b] below meth c H locs cells slots Z (F0 m 132 ls []) := by
  have hbA : ¬ A b := fun h => absurd (hAn b h) (by omega)
  unfold s_0 at hf
  refine lv_aload_n hx hb d_law_132 rfl (lv_at hl 1 rfl) ?_
  refine lv_aload_n hx hb d_law_133 rfl (lv_at hl 0 rfl) ?_
  refine lv_iload hx hb d_law_134 (lv_at hl 4 rfl) ?_
  refine lv_iconst (v := (1 : Int32)) hx hb d_law_136 (by decide) ?_
  refine lv_iadd hx hb d_law_137 ?_
  refine va_sld hx hb hX hbl hbA hS hi1 d_law_138 ?_
  refine lv_aload_n hx hb d_law_139 rfl (lv_at hl 3 rfl) ?_
  obtain ⟨x, gx, hf⟩ := jv_ob hf
  have hPr : va_P (dC, dI) vwCl (w_lo cI cA cL q_out q_va q_aa q_cl q_fu Q S vO) H := jv_PR (X := (w_model cI q_mo q_mlb_ q_mcl_ q_mus_ q_mwr_ q_mdk_ q_mcp_ M.1 M.2.1 M.2.2.1 M.2.2.2.1 M.2.2.2.2.1 M.2.2.2.2.2.1 M.2.2.2.2.2.2.1 M.2.2.2.2.2.2.2.1 M.2.2.2.2.2.2.2.2)) hP
  have hDr : va_D A (w_lo cI cA cL q_out q_va q_aa q_cl q_fu Q S vO) := jv_DR (X := (w_model cI q_mo q_mlb_ q_mcl_ q_mus_ q_mwr_ q_mdk_ q_mcp_ M.1 M.2.1 M.2.2.1 M.2.2.2.1 M.2.2.2.2.1 M.2.2.2.2.2.1 M.2.2.2.2.2.2.1 M.2.2.2.2.2.2.2.1 M.2.2.2.2.2.2.2.2)) hD
  have hFc := jv_fr hDr hS hA
  refine jv_cwl (vx_runSW (As := [.ref q_va, .int (xs (i + (1 : Int32)).toNatClampNeg), .ref q_out]) (rest := []) ⟨hx, hb, hml, hown, hts⟩ (c_L_area l hl9 dC dI cI cA cL q_out q_va q_aa q_cl q_fu Q S vO (xs (i + (1 : Int32)).toNatClampNeg) H.size x gx) (jv_cwSW hts wa_589 wa_590 wa_591 wa_592 rfl rfl yd_L_area ⟨Nat.le_of_ble_eq_true rfl, Nat.le_of_ble_eq_true rfl⟩) (jv_preSlw hTc hK hPr hDr (fun q hq => hS.2.1 q hq (fun h => absurd (hAn q h) (by omega)))) rfl rfl hl.1 rfl (lv_room (Nat.le_of_ble_eq_true rfl)) d_law_140 ⟨hc, hsl⟩) hS hFc (fun Q H1 locs hP1 hD1 hk1 hS0 => ?_)
  obtain ⟨hP, hD⟩ := jv_joinR (V1 := (w_lo cI cA cL q_out q_va q_aa q_cl q_fu Q x.2.1 x.2.2)) hk1 hP1 hD1 (w_model cI q_mo q_mlb_ q_mcl_ q_mus_ q_mwr_ q_mdk_ q_mcp_ M.1 M.2.1 M.2.2.1 M.2.2.2.1 M.2.2.2.2.1 M.2.2.2.2.2.1 M.2.2.2.2.2.2.1 M.2.2.2.2.2.2.2.1 M.2.2.2.2.2.2.2.2) A (fun q h => hA q (Nat.le_trans hS.1 h)) hP hD
  have hS := hS0
  generalize H1 = H at hP hS ⊢
  have hP : va_P (dC, dI) vwCl ((w_model cI q_mo q_mlb_ q_mcl_ q_mus_ q_mwr_ q_mdk_ q_mcp_ M.1 M.2.1 M.2.2.1 M.2.2.2.1 M.2.2.2.2.1 M.2.2.2.2.2.1 M.2.2.2.2.2.2.1 M.2.2.2.2.2.2.2.1 M.2.2.2.2.2.2.2.2) ++ (w_lo cI cA cL q_out q_va q_aa q_cl q_fu Q x.2.1 x.2.2)) H := hP
  have hD : va_D A ((w_model cI q_mo q_mlb_ q_mcl_ q_mus_ q_mwr_ q_mdk_ q_mcp_ M.1 M.2.1 M.2.2.1 M.2.2.2.1 M.2.2.2.2.1 M.2.2.2.2.2.1 M.2.2.2.2.2.2.1 M.2.2.2.2.2.2.2.1 M.2.2.2.2.2.2.2.2) ++ (w_lo cI cA cL q_out q_va q_aa q_cl q_fu Q x.2.1 x.2.2)) := hD
  refine lv_istore (lv' := [(5, .int x.1), (0, .ref b), (1, .ref q_va), (2, .ref q_mo), (3, .ref q_out), (4, .int i)]) hx hb d_law_143 hl (by decide) rfl (fun ls hl => ?_)
  refine lv_aload_n hx hb d_law_145 rfl (lv_at hl 3 rfl) ?_
  refine lv_aload_n hx hb d_law_146 rfl (lv_at hl 1 rfl) ?_
  refine lv_iload hx hb d_law_147 (lv_at hl 5 rfl) ?_
  refine lv_iconst (v := (1 : Int32)) hx hb d_law_149 (by decide) ?_
  refine lv_iadd hx hb d_law_150 ?_
  refine va_sld hx hb hX hbl hbA hS hi1 d_law_151 ?_
  obtain ⟨y1, gy1, hf⟩ := jv_ob hf
  have hPl : va_P (dC, dI) vwCl (w_model cI q_mo q_mlb_ q_mcl_ q_mus_ q_mwr_ q_mdk_ q_mcp_ M.1 M.2.1 M.2.2.1 M.2.2.2.1 M.2.2.2.2.1 M.2.2.2.2.2.1 M.2.2.2.2.2.2.1 M.2.2.2.2.2.2.2.1 M.2.2.2.2.2.2.2.2) H := jv_PL (Y := (w_lo cI cA cL q_out q_va q_aa q_cl q_fu Q x.2.1 x.2.2)) hP
  have hDl : va_D A (w_model cI q_mo q_mlb_ q_mcl_ q_mus_ q_mwr_ q_mdk_ q_mcp_ M.1 M.2.1 M.2.2.1 M.2.2.2.1 M.2.2.2.2.1 M.2.2.2.2.2.1 M.2.2.2.2.2.2.1 M.2.2.2.2.2.2.2.1 M.2.2.2.2.2.2.2.2) := jv_DL (Y := (w_lo cI cA cL q_out q_va q_aa q_cl q_fu Q x.2.1 x.2.2)) hD
  have hFc := jv_fr hDl hS hA
  refine jv_cwi (va_runV (As := [.int (xs (i + (1 : Int32)).toNatClampNeg)]) (rest := []) (b := q_mo) ⟨hx, hb, hml, hown, hts⟩ (c_M_area l dC dI cI cA cL q_mo q_mlb_ q_mcl_ q_mus_ q_mwr_ q_mdk_ q_mcp_ M.1 M.2.1 M.2.2.1 M.2.2.2.1 M.2.2.2.2.1 M.2.2.2.2.2.1 M.2.2.2.2.2.2.1 M.2.2.2.2.2.2.2.1 M.2.2.2.2.2.2.2.2 (xs (i + (1 : Int32)).toNatClampNeg) H.size y1 gy1) (jv_cwV hts wa_593 wa_194 wa_594 wa_595 wa_596 rfl rfl yd_M_area ⟨Nat.le_of_ble_eq_true rfl, Nat.le_of_ble_eq_true rfl⟩) (jv_preVW hK hPl hDl 0 rfl rfl) rfl rfl hl.1 rfl (lv_room (Nat.le_of_ble_eq_true rfl)) d_law_152 ⟨hc, hsl⟩) hS hFc (fun H1 locs hP1 hD1 hk1 hS0 => ?_)
  obtain ⟨hP, hD⟩ := jv_joinL (X := (w_model cI q_mo q_mlb_ q_mcl_ q_mus_ q_mwr_ q_mdk_ q_mcp_ M.1 M.2.1 M.2.2.1 M.2.2.2.1 M.2.2.2.2.1 M.2.2.2.2.2.1 M.2.2.2.2.2.2.1 M.2.2.2.2.2.2.2.1 M.2.2.2.2.2.2.2.2)) (X1 := (w_model cI q_mo q_mlb_ q_mcl_ q_mus_ q_mwr_ q_mdk_ q_mcp_ y1.2.1 y1.2.2.1 M.2.2.1 y1.2.2.2.1 M.2.2.2.2.1 M.2.2.2.2.2.1 M.2.2.2.2.2.2.1 y1.2.2.2.2 M.2.2.2.2.2.2.2.2)) (V := (w_lo cI cA cL q_out q_va q_aa q_cl q_fu Q x.2.1 x.2.2)) hP hD (fun q h => hA q (Nat.le_trans hS.1 h)) hk1 hP1 hD1
  have hS := hS0
  generalize H1 = H at hP hS ⊢
  have hP : va_P (dC, dI) vwCl ((w_model cI q_mo q_mlb_ q_mcl_ q_mus_ q_mwr_ q_mdk_ q_mcp_ y1.2.1 y1.2.2.1 M.2.2.1 y1.2.2.2.1 M.2.2.2.2.1 M.2.2.2.2.2.1 M.2.2.2.2.2.2.1 y1.2.2.2.2 M.2.2.2.2.2.2.2.2) ++ (w_lo cI cA cL q_out q_va q_aa q_cl q_fu Q x.2.1 x.2.2)) H := hP
  have hD : va_D A ((w_model cI q_mo q_mlb_ q_mcl_ q_mus_ q_mwr_ q_mdk_ q_mcp_ y1.2.1 y1.2.2.1 M.2.2.1 y1.2.2.2.1 M.2.2.2.2.1 M.2.2.2.2.2.1 M.2.2.2.2.2.2.1 y1.2.2.2.2 M.2.2.2.2.2.2.2.2) ++ (w_lo cI cA cL q_out q_va q_aa q_cl q_fu Q x.2.1 x.2.2)) := hD
  refine lv_istore (lv' := [(6, .int y1.1), (5, .int x.1), (0, .ref b), (1, .ref q_va), (2, .ref q_mo), (3, .ref q_out), (4, .int i)]) hx hb d_law_155 hl (by decide) rfl (fun ls hl => ?_)
  refine lv_aload_n hx hb d_law_157 rfl (lv_at hl 4 rfl) ?_
  obtain ⟨y2, gy2, hf⟩ := jv_ob hf
  have hPl : va_P (dC, dI) vwCl (w_model cI q_mo q_mlb_ q_mcl_ q_mus_ q_mwr_ q_mdk_ q_mcp_ y1.2.1 y1.2.2.1 M.2.2.1 y1.2.2.2.1 M.2.2.2.2.1 M.2.2.2.2.2.1 M.2.2.2.2.2.2.1 y1.2.2.2.2 M.2.2.2.2.2.2.2.2) H := jv_PL (Y := (w_lo cI cA cL q_out q_va q_aa q_cl q_fu Q x.2.1 x.2.2)) hP
  have hDl : va_D A (w_model cI q_mo q_mlb_ q_mcl_ q_mus_ q_mwr_ q_mdk_ q_mcp_ y1.2.1 y1.2.2.1 M.2.2.1 y1.2.2.2.1 M.2.2.2.2.1 M.2.2.2.2.2.1 M.2.2.2.2.2.2.1 y1.2.2.2.2 M.2.2.2.2.2.2.2.2) := jv_DL (Y := (w_lo cI cA cL q_out q_va q_aa q_cl q_fu Q x.2.1 x.2.2)) hD
  refine jv_cs (W.runV (As := []) (rest := []) (b := q_mo) ⟨hx, hb, hml, hown, hts⟩ (c_M_thrown l dC dI cI cA cL q_mo q_mlb_ q_mcl_ q_mus_ q_mwr_ q_mdk_ q_mcp_ y1.2.1 y1.2.2.1 M.2.2.1 y1.2.2.2.1 M.2.2.2.2.1 M.2.2.2.2.2.1 M.2.2.2.2.2.2.1 y1.2.2.2.2 M.2.2.2.2.2.2.2.2 y2 gy2) (jv_cwV hts wa_597 wa_194 wa_598 wa_599 wa_600 rfl rfl yd_M_thrown ⟨Nat.le_of_ble_eq_true rfl, Nat.le_of_ble_eq_true rfl⟩) (jv_preV hK hPl 0 rfl rfl) rfl rfl hl.1 rfl (lv_room (Nat.le_of_ble_eq_true rfl)) d_law_158 ⟨hc, hsl⟩) ?_
  refine lv_iload hx hb d_law_161 (lv_at hl 1 rfl) ?_
  obtain ⟨he, hf⟩ := jv_gd hf
  refine lv_icmp_eq (tgt := 168) hx hb d_law_163 (by decide) (fun _ => ?_) (fun h9 => absurd he h9)
  refine lv_iload hx hb d_law_168 (lv_at hl 1 rfl) ?_
  by_cases hz : x.1 = 0
  · have hf := jv_it hf hz
    refine lv_if_ne (tgt := 185) hx hb d_law_170 (by decide) (fun h9 => absurd hz h9) (fun _ => ?_)
    refine lv_aload_n hx hb d_law_173 rfl (lv_at hl 5 rfl) ?_
    refine lv_iconst (v := (0 : Int32)) hx hb d_law_174 (by decide) ?_
    refine va_lald hx hb hK hP 7 2 rfl rfl (by unfold vp_in; decide) d_law_175 ?_
    refine lv_iload hx hb d_law_176 (lv_at hl 0 rfl) ?_
    obtain ⟨ho, hf⟩ := jv_gd hf
    refine lv_i2l hx hb d_law_178 rfl ?_
    refine jv_lcmp0 hx hb ho d_law_179 ?_
    refine lv_if_eq (tgt := 185) hx hb d_law_180 (by decide) (fun _ => ?_) (fun h9 => absurd rfl h9)
    obtain rfl := Option.some.inj hf
    refine lv_goto (tgt := 1401) hx hb d_law_185 (by decide) ?_
    exact KK Q H locs ls (lv_sub hl [2, 3, 4, 5, 6] rfl) hP hD hS
  · have hf := jv_if hf hz
    refine lv_if_ne (tgt := 185) hx hb d_law_170 (by decide) (fun _ => ?_) (fun h9 => absurd h9 hz)
    obtain rfl := Option.some.inj hf
    refine lv_goto (tgt := 1401) hx hb d_law_185 (by decide) ?_
    exact KK Q H locs ls (lv_sub hl [2, 3, 4, 5, 6] rfl) hP hD hS
theorem d_law_188 : decode cc_law 188 = .ok (.aload_n 1, 1) := by decide +kernel
theorem d_law_189 : decode cc_law 189 = .ok (.aload_n 0, 1) := by decide +kernel
theorem d_law_190 : decode cc_law 190 = .ok (.iload 4, 2) := by decide +kernel
theorem d_law_192 : decode cc_law 192 = .ok (.iconst 1, 1) := by decide +kernel
theorem d_law_193 : decode cc_law 193 = .ok (.iadd, 1) := by decide +kernel
theorem d_law_194 : decode cc_law 194 = .ok (.iaload, 1) := by decide +kernel
theorem d_law_195 : decode cc_law 195 = .ok (.aload_n 0, 1) := by decide +kernel
theorem d_law_196 : decode cc_law 196 = .ok (.iload 4, 2) := by decide +kernel
theorem d_law_198 : decode cc_law 198 = .ok (.iconst 2, 1) := by decide +kernel
theorem d_law_199 : decode cc_law 199 = .ok (.iadd, 1) := by decide +kernel
theorem d_law_200 : decode cc_law 200 = .ok (.iaload, 1) := by decide +kernel
theorem d_law_201 : decode cc_law 201 = .ok (.aload_n 3, 1) := by decide +kernel
theorem d_law_202 : decode cc_law 202 = .ok (.invokestatic 87, 3) := by decide +kernel
theorem d_law_205 : decode cc_law 205 = .ok (.istore 5, 2) := by decide +kernel
theorem d_law_207 : decode cc_law 207 = .ok (.aload_n 2, 1) := by decide +kernel
theorem d_law_208 : decode cc_law 208 = .ok (.aload_n 0, 1) := by decide +kernel
theorem d_law_209 : decode cc_law 209 = .ok (.iload 4, 2) := by decide +kernel
theorem d_law_211 : decode cc_law 211 = .ok (.iconst 1, 1) := by decide +kernel
theorem d_law_212 : decode cc_law 212 = .ok (.iadd, 1) := by decide +kernel
theorem d_law_213 : decode cc_law 213 = .ok (.iaload, 1) := by decide +kernel
theorem d_law_214 : decode cc_law 214 = .ok (.aload_n 0, 1) := by decide +kernel
theorem d_law_215 : decode cc_law 215 = .ok (.iload 4, 2) := by decide +kernel
theorem d_law_217 : decode cc_law 217 = .ok (.iconst 2, 1) := by decide +kernel
theorem d_law_218 : decode cc_law 218 = .ok (.iadd, 1) := by decide +kernel
theorem d_law_219 : decode cc_law 219 = .ok (.iaload, 1) := by decide +kernel
theorem d_law_220 : decode cc_law 220 = .ok (.invokevirtual 90, 3) := by decide +kernel
theorem d_law_223 : decode cc_law 223 = .ok (.istore 6, 2) := by decide +kernel
theorem d_law_225 : decode cc_law 225 = .ok (.aload_n 2, 1) := by decide +kernel
theorem d_law_226 : decode cc_law 226 = .ok (.invokevirtual 83, 3) := by decide +kernel
theorem d_law_229 : decode cc_law 229 = .ok (.iload 5, 2) := by decide +kernel
theorem d_law_231 : decode cc_law 231 = .ok (.if_icmp .eq 5, 3) := by decide +kernel
theorem d_law_236 : decode cc_law 236 = .ok (.iload 5, 2) := by decide +kernel
theorem d_law_238 : decode cc_law 238 = .ok (.ifCond .ne 22, 3) := by decide +kernel
theorem d_law_241 : decode cc_law 241 = .ok (.aload_n 3, 1) := by decide +kernel
theorem d_law_242 : decode cc_law 242 = .ok (.iconst 0, 1) := by decide +kernel
theorem d_law_243 : decode cc_law 243 = .ok (.laload, 1) := by decide +kernel
theorem d_law_244 : decode cc_law 244 = .ok (.iload 6, 2) := by decide +kernel
theorem d_law_246 : decode cc_law 246 = .ok (.ifCond .eq 7, 3) := by decide +kernel
theorem d_law_253 : decode cc_law 253 = .ok (.lconst 0, 1) := by decide +kernel
theorem d_law_254 : decode cc_law 254 = .ok (.lcmp, 1) := by decide +kernel
theorem d_law_255 : decode cc_law 255 = .ok (.ifCond .eq 5, 3) := by decide +kernel
theorem d_law_260 : decode cc_law 260 = .ok (.goto 1141, 3) := by decide +kernel
theorem d_law_249 : decode cc_law 249 = .ok (.lconst 1, 1) := by decide +kernel
theorem d_law_250 : decode cc_law 250 = .ok (.goto 4, 3) := by decide +kernel
def s_1 (S : jv_vs) (vO : Nat → Int64) (M : jv_ms) (p1 : Int32) (p2 : Int32) : Option jv_st :=
  (l_flows S p1 p2 vO).bind fun x => (f_M_flows p1 p2 M.1).bind fun y1 => (f_M_thrown y1.2).bind fun y2 => if y2 = x.1 then (if x.1 = 0 then (if x.2.2 (0 : Int32).toNatClampNeg = (if y1.1 = 0 then (0 : Int64) else 1) then (some (x.2.1, x.2.2, y1.2, M.2.1, M.2.2.1, M.2.2.2.1, M.2.2.2.2.1, M.2.2.2.2.2.1, M.2.2.2.2.2.2.1, M.2.2.2.2.2.2.2.1, M.2.2.2.2.2.2.2.2)) else none) else (some (x.2.1, x.2.2, y1.2, M.2.1, M.2.2.1, M.2.2.2.1, M.2.2.2.2.1, M.2.2.2.2.2.1, M.2.2.2.2.2.2.1, M.2.2.2.2.2.2.2.1, M.2.2.2.2.2.2.2.2))) else none
set_option maxHeartbeats 4000000 in
set_option maxRecDepth 100000 in
theorem b_law_1 {l : Launch} {dC : Nat → ClassId} {dI : Nat → Nat → Nat} {cI cA cL : ClassId} {q_mo q_mlb_ q_mcl_ q_mus_ q_mwr_ q_mdk_ q_mcp_ q_out q_va q_aa q_cl q_fu : Nat} {p : Program} {e : Env} {s : State} {m : MethodId} {below : List Frame} {meth : Method} {c : Code} {b L : Nat} {xs : Nat → Int32} (hl9 : l.stackTraces = false) (hx : p.tables.exec = Jvm.exec) (hb : c.code = code) (hml : c.maxLocals = 7) (hown : s.vm.findClass R_Law = some m.cls) (hts : ∀ w ∈ Cond.tt :: jv_LT, w.before #[Value.ref b] s = true) (hX : va_X b L xs s s.heap) (hbl : b < s.heap.size) (hK : va_K (dC, dI) vwCl (jv_ty cI cA cL) s) (hTc : jv_tc s) {A : Nat → Prop} (hA : ∀ q : Nat, s.heap.size ≤ q → A q) (hAn : ∀ q : Nat, A q → s.heap.size ≤ q) {Z : State → Prop} {Q : Nat → Nat → Nat} {i : Int32} (hi1 : vp_in (i + (1 : Int32)) L) (hi2 : vp_in (i + (2 : Int32)) L) {S : jv_vs} {vO : Nat → Int64} {M : jv_ms} {r : jv_st} {H : Heap} {locs : List Loc} {cells slots : Nat} (hc : cells + 8 ≤ room_1.cells) (hsl : slots + 713 ≤ room_1.slots) {ls : Array Slot} (hl : lv_has ls 7 [(0, .ref b), (1, .ref q_va), (2, .ref q_mo), (3, .ref q_out), (4, .int i)]) (hP : va_P (dC, dI) vwCl ((w_model cI q_mo q_mlb_ q_mcl_ q_mus_ q_mwr_ q_mdk_ q_mcp_ M.1 M.2.1 M.2.2.1 M.2.2.2.1 M.2.2.2.2.1 M.2.2.2.2.2.1 M.2.2.2.2.2.2.1 M.2.2.2.2.2.2.2.1 M.2.2.2.2.2.2.2.2) ++ (w_lo cI cA cL q_out q_va q_aa q_cl q_fu Q S vO)) H) (hD : va_D A ((w_model cI q_mo q_mlb_ q_mcl_ q_mus_ q_mwr_ q_mdk_ q_mcp_ M.1 M.2.1 M.2.2.1 M.2.2.2.1 M.2.2.2.2.1 M.2.2.2.2.2.1 M.2.2.2.2.2.2.1 M.2.2.2.2.2.2.2.1 M.2.2.2.2.2.2.2.2) ++ (w_lo cI cA cL q_out q_va q_aa q_cl q_fu Q S vO))) (hS : va_S A s.heap H locs) (hf : s_1 S vO M (xs (i + (1 : Int32)).toNatClampNeg) (xs (i + (2 : Int32)).toNatClampNeg) = some r) (KK : ∀ (Q : Nat → Nat → Nat) (H : Heap) (locs : List Loc) (ls : Array Slot), lv_has ls 7 [(0, .ref b), (1, .ref q_va), (2, .ref q_mo), (3, .ref q_out), (4, .int i)] → va_P (dC, dI) vwCl ((w_model cI q_mo q_mlb_ q_mcl_ q_mus_ q_mwr_ q_mdk_ q_mcp_ r.2.2.1 r.2.2.2.1 r.2.2.2.2.1 r.2.2.2.2.2.1 r.2.2.2.2.2.2.1 r.2.2.2.2.2.2.2.1 r.2.2.2.2.2.2.2.2.1 r.2.2.2.2.2.2.2.2.2.1 r.2.2.2.2.2.2.2.2.2.2) ++ (w_lo cI cA cL q_out q_va q_aa q_cl q_fu Q r.1 r.2.1)) H → va_D A ((w_model cI q_mo q_mlb_ q_mcl_ q_mus_ q_mwr_ q_mdk_ q_mcp_ r.2.2.1 r.2.2.2.1 r.2.2.2.2.1 r.2.2.2.2.2.1 r.2.2.2.2.2.2.1 r.2.2.2.2.2.2.2.1 r.2.2.2.2.2.2.2.2.1 r.2.2.2.2.2.2.2.2.2.1 r.2.2.2.2.2.2.2.2.2.2) ++ (w_lo cI cA cL q_out q_va q_aa q_cl q_fu Q r.1 r.2.1)) → va_S A s.heap H locs → W p l e room_1 s m #[Value.ref b] below meth c H locs (cells + 8) (slots + 713) Z (F0 m 1401 ls [])) : W p l e room_1 s m #[Value.ref b] below meth c H locs cells slots Z (F0 m 188 ls []) := by
  have hbA : ¬ A b := fun h => absurd (hAn b h) (by omega)
  unfold s_1 at hf
  refine lv_aload_n hx hb d_law_188 rfl (lv_at hl 1 rfl) ?_
  refine lv_aload_n hx hb d_law_189 rfl (lv_at hl 0 rfl) ?_
  refine lv_iload hx hb d_law_190 (lv_at hl 4 rfl) ?_
  refine lv_iconst (v := (1 : Int32)) hx hb d_law_192 (by decide) ?_
  refine lv_iadd hx hb d_law_193 ?_
  refine va_sld hx hb hX hbl hbA hS hi1 d_law_194 ?_
  refine lv_aload_n hx hb d_law_195 rfl (lv_at hl 0 rfl) ?_
  refine lv_iload hx hb d_law_196 (lv_at hl 4 rfl) ?_
  refine lv_iconst (v := (2 : Int32)) hx hb d_law_198 (by decide) ?_
  refine lv_iadd hx hb d_law_199 ?_
  refine va_sld hx hb hX hbl hbA hS hi2 d_law_200 ?_
  refine lv_aload_n hx hb d_law_201 rfl (lv_at hl 3 rfl) ?_
  obtain ⟨x, gx, hf⟩ := jv_ob hf
  have hPr : va_P (dC, dI) vwCl (w_lo cI cA cL q_out q_va q_aa q_cl q_fu Q S vO) H := jv_PR (X := (w_model cI q_mo q_mlb_ q_mcl_ q_mus_ q_mwr_ q_mdk_ q_mcp_ M.1 M.2.1 M.2.2.1 M.2.2.2.1 M.2.2.2.2.1 M.2.2.2.2.2.1 M.2.2.2.2.2.2.1 M.2.2.2.2.2.2.2.1 M.2.2.2.2.2.2.2.2)) hP
  have hDr : va_D A (w_lo cI cA cL q_out q_va q_aa q_cl q_fu Q S vO) := jv_DR (X := (w_model cI q_mo q_mlb_ q_mcl_ q_mus_ q_mwr_ q_mdk_ q_mcp_ M.1 M.2.1 M.2.2.1 M.2.2.2.1 M.2.2.2.2.1 M.2.2.2.2.2.1 M.2.2.2.2.2.2.1 M.2.2.2.2.2.2.2.1 M.2.2.2.2.2.2.2.2)) hD
  have hFc := jv_fr hDr hS hA
  refine jv_cwl (vx_runSW (As := [.ref q_va, .int (xs (i + (1 : Int32)).toNatClampNeg), .int (xs (i + (2 : Int32)).toNatClampNeg), .ref q_out]) (rest := []) ⟨hx, hb, hml, hown, hts⟩ (c_L_flows l hl9 dC dI cI cA cL q_out q_va q_aa q_cl q_fu Q S vO (xs (i + (1 : Int32)).toNatClampNeg) (xs (i + (2 : Int32)).toNatClampNeg) H.size x gx) (jv_cwSW hts wa_601 wa_590 wa_602 wa_603 rfl rfl yd_L_flows ⟨Nat.le_of_ble_eq_true rfl, Nat.le_of_ble_eq_true rfl⟩) (jv_preSlw hTc hK hPr hDr (fun q hq => hS.2.1 q hq (fun h => absurd (hAn q h) (by omega)))) rfl rfl hl.1 rfl (lv_room (Nat.le_of_ble_eq_true rfl)) d_law_202 ⟨hc, hsl⟩) hS hFc (fun Q H1 locs hP1 hD1 hk1 hS0 => ?_)
  obtain ⟨hP, hD⟩ := jv_joinR (V1 := (w_lo cI cA cL q_out q_va q_aa q_cl q_fu Q x.2.1 x.2.2)) hk1 hP1 hD1 (w_model cI q_mo q_mlb_ q_mcl_ q_mus_ q_mwr_ q_mdk_ q_mcp_ M.1 M.2.1 M.2.2.1 M.2.2.2.1 M.2.2.2.2.1 M.2.2.2.2.2.1 M.2.2.2.2.2.2.1 M.2.2.2.2.2.2.2.1 M.2.2.2.2.2.2.2.2) A (fun q h => hA q (Nat.le_trans hS.1 h)) hP hD
  have hS := hS0
  generalize H1 = H at hP hS ⊢
  have hP : va_P (dC, dI) vwCl ((w_model cI q_mo q_mlb_ q_mcl_ q_mus_ q_mwr_ q_mdk_ q_mcp_ M.1 M.2.1 M.2.2.1 M.2.2.2.1 M.2.2.2.2.1 M.2.2.2.2.2.1 M.2.2.2.2.2.2.1 M.2.2.2.2.2.2.2.1 M.2.2.2.2.2.2.2.2) ++ (w_lo cI cA cL q_out q_va q_aa q_cl q_fu Q x.2.1 x.2.2)) H := hP
  have hD : va_D A ((w_model cI q_mo q_mlb_ q_mcl_ q_mus_ q_mwr_ q_mdk_ q_mcp_ M.1 M.2.1 M.2.2.1 M.2.2.2.1 M.2.2.2.2.1 M.2.2.2.2.2.1 M.2.2.2.2.2.2.1 M.2.2.2.2.2.2.2.1 M.2.2.2.2.2.2.2.2) ++ (w_lo cI cA cL q_out q_va q_aa q_cl q_fu Q x.2.1 x.2.2)) := hD
  refine lv_istore (lv' := [(5, .int x.1), (0, .ref b), (1, .ref q_va), (2, .ref q_mo), (3, .ref q_out), (4, .int i)]) hx hb d_law_205 hl (by decide) rfl (fun ls hl => ?_)
  refine lv_aload_n hx hb d_law_207 rfl (lv_at hl 3 rfl) ?_
  refine lv_aload_n hx hb d_law_208 rfl (lv_at hl 1 rfl) ?_
  refine lv_iload hx hb d_law_209 (lv_at hl 5 rfl) ?_
  refine lv_iconst (v := (1 : Int32)) hx hb d_law_211 (by decide) ?_
  refine lv_iadd hx hb d_law_212 ?_
  refine va_sld hx hb hX hbl hbA hS hi1 d_law_213 ?_
  refine lv_aload_n hx hb d_law_214 rfl (lv_at hl 1 rfl) ?_
  refine lv_iload hx hb d_law_215 (lv_at hl 5 rfl) ?_
  refine lv_iconst (v := (2 : Int32)) hx hb d_law_217 (by decide) ?_
  refine lv_iadd hx hb d_law_218 ?_
  refine va_sld hx hb hX hbl hbA hS hi2 d_law_219 ?_
  obtain ⟨y1, gy1, hf⟩ := jv_ob hf
  have hPl : va_P (dC, dI) vwCl (w_model cI q_mo q_mlb_ q_mcl_ q_mus_ q_mwr_ q_mdk_ q_mcp_ M.1 M.2.1 M.2.2.1 M.2.2.2.1 M.2.2.2.2.1 M.2.2.2.2.2.1 M.2.2.2.2.2.2.1 M.2.2.2.2.2.2.2.1 M.2.2.2.2.2.2.2.2) H := jv_PL (Y := (w_lo cI cA cL q_out q_va q_aa q_cl q_fu Q x.2.1 x.2.2)) hP
  have hDl : va_D A (w_model cI q_mo q_mlb_ q_mcl_ q_mus_ q_mwr_ q_mdk_ q_mcp_ M.1 M.2.1 M.2.2.1 M.2.2.2.1 M.2.2.2.2.1 M.2.2.2.2.2.1 M.2.2.2.2.2.2.1 M.2.2.2.2.2.2.2.1 M.2.2.2.2.2.2.2.2) := jv_DL (Y := (w_lo cI cA cL q_out q_va q_aa q_cl q_fu Q x.2.1 x.2.2)) hD
  have hFc := jv_fr hDl hS hA
  refine jv_cwi (va_runV (As := [.int (xs (i + (1 : Int32)).toNatClampNeg), .int (xs (i + (2 : Int32)).toNatClampNeg)]) (rest := []) (b := q_mo) ⟨hx, hb, hml, hown, hts⟩ (c_M_flows l dC dI cI cA cL q_mo q_mlb_ q_mcl_ q_mus_ q_mwr_ q_mdk_ q_mcp_ M.1 M.2.1 M.2.2.1 M.2.2.2.1 M.2.2.2.2.1 M.2.2.2.2.2.1 M.2.2.2.2.2.2.1 M.2.2.2.2.2.2.2.1 M.2.2.2.2.2.2.2.2 (xs (i + (1 : Int32)).toNatClampNeg) (xs (i + (2 : Int32)).toNatClampNeg) H.size y1 gy1) (jv_cwV hts wa_604 wa_194 wa_605 wa_606 wa_607 rfl rfl yd_M_flows ⟨Nat.le_of_ble_eq_true rfl, Nat.le_of_ble_eq_true rfl⟩) (jv_preVW hK hPl hDl 0 rfl rfl) rfl rfl hl.1 rfl (lv_room (Nat.le_of_ble_eq_true rfl)) d_law_220 ⟨hc, hsl⟩) hS hFc (fun H1 locs hP1 hD1 hk1 hS0 => ?_)
  obtain ⟨hP, hD⟩ := jv_joinL (X := (w_model cI q_mo q_mlb_ q_mcl_ q_mus_ q_mwr_ q_mdk_ q_mcp_ M.1 M.2.1 M.2.2.1 M.2.2.2.1 M.2.2.2.2.1 M.2.2.2.2.2.1 M.2.2.2.2.2.2.1 M.2.2.2.2.2.2.2.1 M.2.2.2.2.2.2.2.2)) (X1 := (w_model cI q_mo q_mlb_ q_mcl_ q_mus_ q_mwr_ q_mdk_ q_mcp_ y1.2 M.2.1 M.2.2.1 M.2.2.2.1 M.2.2.2.2.1 M.2.2.2.2.2.1 M.2.2.2.2.2.2.1 M.2.2.2.2.2.2.2.1 M.2.2.2.2.2.2.2.2)) (V := (w_lo cI cA cL q_out q_va q_aa q_cl q_fu Q x.2.1 x.2.2)) hP hD (fun q h => hA q (Nat.le_trans hS.1 h)) hk1 hP1 hD1
  have hS := hS0
  generalize H1 = H at hP hS ⊢
  have hP : va_P (dC, dI) vwCl ((w_model cI q_mo q_mlb_ q_mcl_ q_mus_ q_mwr_ q_mdk_ q_mcp_ y1.2 M.2.1 M.2.2.1 M.2.2.2.1 M.2.2.2.2.1 M.2.2.2.2.2.1 M.2.2.2.2.2.2.1 M.2.2.2.2.2.2.2.1 M.2.2.2.2.2.2.2.2) ++ (w_lo cI cA cL q_out q_va q_aa q_cl q_fu Q x.2.1 x.2.2)) H := hP
  have hD : va_D A ((w_model cI q_mo q_mlb_ q_mcl_ q_mus_ q_mwr_ q_mdk_ q_mcp_ y1.2 M.2.1 M.2.2.1 M.2.2.2.1 M.2.2.2.2.1 M.2.2.2.2.2.1 M.2.2.2.2.2.2.1 M.2.2.2.2.2.2.2.1 M.2.2.2.2.2.2.2.2) ++ (w_lo cI cA cL q_out q_va q_aa q_cl q_fu Q x.2.1 x.2.2)) := hD
  refine lv_istore (lv' := [(6, .int y1.1), (5, .int x.1), (0, .ref b), (1, .ref q_va), (2, .ref q_mo), (3, .ref q_out), (4, .int i)]) hx hb d_law_223 hl (by decide) rfl (fun ls hl => ?_)
  refine lv_aload_n hx hb d_law_225 rfl (lv_at hl 4 rfl) ?_
  obtain ⟨y2, gy2, hf⟩ := jv_ob hf
  have hPl : va_P (dC, dI) vwCl (w_model cI q_mo q_mlb_ q_mcl_ q_mus_ q_mwr_ q_mdk_ q_mcp_ y1.2 M.2.1 M.2.2.1 M.2.2.2.1 M.2.2.2.2.1 M.2.2.2.2.2.1 M.2.2.2.2.2.2.1 M.2.2.2.2.2.2.2.1 M.2.2.2.2.2.2.2.2) H := jv_PL (Y := (w_lo cI cA cL q_out q_va q_aa q_cl q_fu Q x.2.1 x.2.2)) hP
  have hDl : va_D A (w_model cI q_mo q_mlb_ q_mcl_ q_mus_ q_mwr_ q_mdk_ q_mcp_ y1.2 M.2.1 M.2.2.1 M.2.2.2.1 M.2.2.2.2.1 M.2.2.2.2.2.1 M.2.2.2.2.2.2.1 M.2.2.2.2.2.2.2.1 M.2.2.2.2.2.2.2.2) := jv_DL (Y := (w_lo cI cA cL q_out q_va q_aa q_cl q_fu Q x.2.1 x.2.2)) hD
  refine jv_cs (W.runV (As := []) (rest := []) (b := q_mo) ⟨hx, hb, hml, hown, hts⟩ (c_M_thrown l dC dI cI cA cL q_mo q_mlb_ q_mcl_ q_mus_ q_mwr_ q_mdk_ q_mcp_ y1.2 M.2.1 M.2.2.1 M.2.2.2.1 M.2.2.2.2.1 M.2.2.2.2.2.1 M.2.2.2.2.2.2.1 M.2.2.2.2.2.2.2.1 M.2.2.2.2.2.2.2.2 y2 gy2) (jv_cwV hts wa_597 wa_194 wa_598 wa_599 wa_600 rfl rfl yd_M_thrown ⟨Nat.le_of_ble_eq_true rfl, Nat.le_of_ble_eq_true rfl⟩) (jv_preV hK hPl 0 rfl rfl) rfl rfl hl.1 rfl (lv_room (Nat.le_of_ble_eq_true rfl)) d_law_226 ⟨hc, hsl⟩) ?_
  refine lv_iload hx hb d_law_229 (lv_at hl 1 rfl) ?_
  obtain ⟨he, hf⟩ := jv_gd hf
  refine lv_icmp_eq (tgt := 236) hx hb d_law_231 (by decide) (fun _ => ?_) (fun h9 => absurd he h9)
  refine lv_iload hx hb d_law_236 (lv_at hl 1 rfl) ?_
  by_cases hz : x.1 = 0
  · have hf := jv_it hf hz
    refine lv_if_ne (tgt := 260) hx hb d_law_238 (by decide) (fun h9 => absurd hz h9) (fun _ => ?_)
    refine lv_aload_n hx hb d_law_241 rfl (lv_at hl 5 rfl) ?_
    refine lv_iconst (v := (0 : Int32)) hx hb d_law_242 (by decide) ?_
    refine va_lald hx hb hK hP 7 2 rfl rfl (by unfold vp_in; decide) d_law_243 ?_
    refine lv_iload hx hb d_law_244 (lv_at hl 0 rfl) ?_
    obtain ⟨ho, hf⟩ := jv_gd hf
    by_cases hy : y1.1 = 0
    · rw [if_pos hy] at ho
      refine lv_if_eq (tgt := 253) hx hb d_law_246 (by decide) (fun _ => ?_) (fun h9 => absurd hy h9)
      refine lv_lconst (v := (0 : Int64)) hx hb d_law_253 (by decide) ?_
      refine jv_lcmp0 hx hb ho d_law_254 ?_
      refine lv_if_eq (tgt := 260) hx hb d_law_255 (by decide) (fun _ => ?_) (fun h9 => absurd rfl h9)
      obtain rfl := Option.some.inj hf
      refine lv_goto (tgt := 1401) hx hb d_law_260 (by decide) ?_
      exact KK Q H locs ls (lv_sub hl [2, 3, 4, 5, 6] rfl) hP hD hS
    · rw [if_neg hy] at ho
      refine lv_if_eq (tgt := 253) hx hb d_law_246 (by decide) (fun h9 => absurd h9 hy) (fun _ => ?_)
      refine lv_lconst (v := (1 : Int64)) hx hb d_law_249 (by decide) ?_
      refine lv_goto (tgt := 254) hx hb d_law_250 (by decide) ?_
      refine jv_lcmp0 hx hb ho d_law_254 ?_
      refine lv_if_eq (tgt := 260) hx hb d_law_255 (by decide) (fun _ => ?_) (fun h9 => absurd rfl h9)
      obtain rfl := Option.some.inj hf
      refine lv_goto (tgt := 1401) hx hb d_law_260 (by decide) ?_
      exact KK Q H locs ls (lv_sub hl [2, 3, 4, 5, 6] rfl) hP hD hS
  · have hf := jv_if hf hz
    refine lv_if_ne (tgt := 260) hx hb d_law_238 (by decide) (fun _ => ?_) (fun h9 => absurd h9 hz)
    obtain rfl := Option.some.inj hf
    refine lv_goto (tgt := 1401) hx hb d_law_260 (by decide) ?_
    exact KK Q H locs ls (lv_sub hl [2, 3, 4, 5, 6] rfl) hP hD hS
theorem d_law_263 : decode cc_law 263 = .ok (.aload_n 1, 1) := by decide +kernel
theorem d_law_264 : decode cc_law 264 = .ok (.aload_n 0, 1) := by decide +kernel
theorem d_law_265 : decode cc_law 265 = .ok (.iload 4, 2) := by decide +kernel
theorem d_law_267 : decode cc_law 267 = .ok (.iconst 1, 1) := by decide +kernel
theorem d_law_268 : decode cc_law 268 = .ok (.iadd, 1) := by decide +kernel
theorem d_law_269 : decode cc_law 269 = .ok (.iaload, 1) := by decide +kernel
theorem d_law_270 : decode cc_law 270 = .ok (.aload_n 0, 1) := by decide +kernel
theorem d_law_271 : decode cc_law 271 = .ok (.iload 4, 2) := by decide +kernel
theorem d_law_273 : decode cc_law 273 = .ok (.iconst 2, 1) := by decide +kernel
theorem d_law_274 : decode cc_law 274 = .ok (.iadd, 1) := by decide +kernel
theorem d_law_275 : decode cc_law 275 = .ok (.iaload, 1) := by decide +kernel
theorem d_law_276 : decode cc_law 276 = .ok (.aload_n 3, 1) := by decide +kernel
theorem d_law_277 : decode cc_law 277 = .ok (.invokestatic 91, 3) := by decide +kernel
theorem d_law_280 : decode cc_law 280 = .ok (.istore 5, 2) := by decide +kernel
theorem d_law_282 : decode cc_law 282 = .ok (.aload_n 2, 1) := by decide +kernel
theorem d_law_283 : decode cc_law 283 = .ok (.aload_n 0, 1) := by decide +kernel
theorem d_law_284 : decode cc_law 284 = .ok (.iload 4, 2) := by decide +kernel
theorem d_law_286 : decode cc_law 286 = .ok (.iconst 1, 1) := by decide +kernel
theorem d_law_287 : decode cc_law 287 = .ok (.iadd, 1) := by decide +kernel
theorem d_law_288 : decode cc_law 288 = .ok (.iaload, 1) := by decide +kernel
theorem d_law_289 : decode cc_law 289 = .ok (.aload_n 0, 1) := by decide +kernel
theorem d_law_290 : decode cc_law 290 = .ok (.iload 4, 2) := by decide +kernel
theorem d_law_292 : decode cc_law 292 = .ok (.iconst 2, 1) := by decide +kernel
theorem d_law_293 : decode cc_law 293 = .ok (.iadd, 1) := by decide +kernel
theorem d_law_294 : decode cc_law 294 = .ok (.iaload, 1) := by decide +kernel
theorem d_law_295 : decode cc_law 295 = .ok (.invokevirtual 93, 3) := by decide +kernel
theorem d_law_298 : decode cc_law 298 = .ok (.istore 6, 2) := by decide +kernel
theorem d_law_300 : decode cc_law 300 = .ok (.aload_n 2, 1) := by decide +kernel
theorem d_law_301 : decode cc_law 301 = .ok (.invokevirtual 83, 3) := by decide +kernel
theorem d_law_304 : decode cc_law 304 = .ok (.iload 5, 2) := by decide +kernel
theorem d_law_306 : decode cc_law 306 = .ok (.if_icmp .eq 5, 3) := by decide +kernel
theorem d_law_311 : decode cc_law 311 = .ok (.iload 5, 2) := by decide +kernel
theorem d_law_313 : decode cc_law 313 = .ok (.ifCond .ne 22, 3) := by decide +kernel
theorem d_law_316 : decode cc_law 316 = .ok (.aload_n 3, 1) := by decide +kernel
theorem d_law_317 : decode cc_law 317 = .ok (.iconst 0, 1) := by decide +kernel
theorem d_law_318 : decode cc_law 318 = .ok (.laload, 1) := by decide +kernel
theorem d_law_319 : decode cc_law 319 = .ok (.iload 6, 2) := by decide +kernel
theorem d_law_321 : decode cc_law 321 = .ok (.ifCond .eq 7, 3) := by decide +kernel
theorem d_law_328 : decode cc_law 328 = .ok (.lconst 0, 1) := by decide +kernel
theorem d_law_329 : decode cc_law 329 = .ok (.lcmp, 1) := by decide +kernel
theorem d_law_330 : decode cc_law 330 = .ok (.ifCond .eq 5, 3) := by decide +kernel
theorem d_law_335 : decode cc_law 335 = .ok (.goto 1066, 3) := by decide +kernel
theorem d_law_324 : decode cc_law 324 = .ok (.lconst 1, 1) := by decide +kernel
theorem d_law_325 : decode cc_law 325 = .ok (.goto 4, 3) := by decide +kernel
def s_2 (S : jv_vs) (vO : Nat → Int64) (M : jv_ms) (p1 : Int32) (p2 : Int32) : Option jv_st :=
  (l_clear S p1 p2 vO).bind fun x => (f_M_clear p1 p2 M.1 M.2.2.2.2.1).bind fun y1 => (f_M_thrown y1.2.1).bind fun y2 => if y2 = x.1 then (if x.1 = 0 then (if x.2.2 (0 : Int32).toNatClampNeg = (if y1.1 = 0 then (0 : Int64) else 1) then (some (x.2.1, x.2.2, y1.2.1, M.2.1, M.2.2.1, M.2.2.2.1, y1.2.2, M.2.2.2.2.2.1, M.2.2.2.2.2.2.1, M.2.2.2.2.2.2.2.1, M.2.2.2.2.2.2.2.2)) else none) else (some (x.2.1, x.2.2, y1.2.1, M.2.1, M.2.2.1, M.2.2.2.1, y1.2.2, M.2.2.2.2.2.1, M.2.2.2.2.2.2.1, M.2.2.2.2.2.2.2.1, M.2.2.2.2.2.2.2.2))) else none
set_option maxHeartbeats 4000000 in
set_option maxRecDepth 100000 in
theorem b_law_2 {l : Launch} {dC : Nat → ClassId} {dI : Nat → Nat → Nat} {cI cA cL : ClassId} {q_mo q_mlb_ q_mcl_ q_mus_ q_mwr_ q_mdk_ q_mcp_ q_out q_va q_aa q_cl q_fu : Nat} {p : Program} {e : Env} {s : State} {m : MethodId} {below : List Frame} {meth : Method} {c : Code} {b L : Nat} {xs : Nat → Int32} (hl9 : l.stackTraces = false) (hx : p.tables.exec = Jvm.exec) (hb : c.code = code) (hml : c.maxLocals = 7) (hown : s.vm.findClass R_Law = some m.cls) (hts : ∀ w ∈ Cond.tt :: jv_LT, w.before #[Value.ref b] s = true) (hX : va_X b L xs s s.heap) (hbl : b < s.heap.size) (hK : va_K (dC, dI) vwCl (jv_ty cI cA cL) s) (hTc : jv_tc s) {A : Nat → Prop} (hA : ∀ q : Nat, s.heap.size ≤ q → A q) (hAn : ∀ q : Nat, A q → s.heap.size ≤ q) {Z : State → Prop} {Q : Nat → Nat → Nat} {i : Int32} (hi1 : vp_in (i + (1 : Int32)) L) (hi2 : vp_in (i + (2 : Int32)) L) {S : jv_vs} {vO : Nat → Int64} {M : jv_ms} {r : jv_st} {H : Heap} {locs : List Loc} {cells slots : Nat} (hc : cells + 8 ≤ room_1.cells) (hsl : slots + 713 ≤ room_1.slots) {ls : Array Slot} (hl : lv_has ls 7 [(0, .ref b), (1, .ref q_va), (2, .ref q_mo), (3, .ref q_out), (4, .int i)]) (hP : va_P (dC, dI) vwCl ((w_model cI q_mo q_mlb_ q_mcl_ q_mus_ q_mwr_ q_mdk_ q_mcp_ M.1 M.2.1 M.2.2.1 M.2.2.2.1 M.2.2.2.2.1 M.2.2.2.2.2.1 M.2.2.2.2.2.2.1 M.2.2.2.2.2.2.2.1 M.2.2.2.2.2.2.2.2) ++ (w_lo cI cA cL q_out q_va q_aa q_cl q_fu Q S vO)) H) (hD : va_D A ((w_model cI q_mo q_mlb_ q_mcl_ q_mus_ q_mwr_ q_mdk_ q_mcp_ M.1 M.2.1 M.2.2.1 M.2.2.2.1 M.2.2.2.2.1 M.2.2.2.2.2.1 M.2.2.2.2.2.2.1 M.2.2.2.2.2.2.2.1 M.2.2.2.2.2.2.2.2) ++ (w_lo cI cA cL q_out q_va q_aa q_cl q_fu Q S vO))) (hS : va_S A s.heap H locs) (hf : s_2 S vO M (xs (i + (1 : Int32)).toNatClampNeg) (xs (i + (2 : Int32)).toNatClampNeg) = some r) (KK : ∀ (Q : Nat → Nat → Nat) (H : Heap) (locs : List Loc) (ls : Array Slot), lv_has ls 7 [(0, .ref b), (1, .ref q_va), (2, .ref q_mo), (3, .ref q_out), (4, .int i)] → va_P (dC, dI) vwCl ((w_model cI q_mo q_mlb_ q_mcl_ q_mus_ q_mwr_ q_mdk_ q_mcp_ r.2.2.1 r.2.2.2.1 r.2.2.2.2.1 r.2.2.2.2.2.1 r.2.2.2.2.2.2.1 r.2.2.2.2.2.2.2.1 r.2.2.2.2.2.2.2.2.1 r.2.2.2.2.2.2.2.2.2.1 r.2.2.2.2.2.2.2.2.2.2) ++ (w_lo cI cA cL q_out q_va q_aa q_cl q_fu Q r.1 r.2.1)) H → va_D A ((w_model cI q_mo q_mlb_ q_mcl_ q_mus_ q_mwr_ q_mdk_ q_mcp_ r.2.2.1 r.2.2.2.1 r.2.2.2.2.1 r.2.2.2.2.2.1 r.2.2.2.2.2.2.1 r.2.2.2.2.2.2.2.1 r.2.2.2.2.2.2.2.2.1 r.2.2.2.2.2.2.2.2.2.1 r.2.2.2.2.2.2.2.2.2.2) ++ (w_lo cI cA cL q_out q_va q_aa q_cl q_fu Q r.1 r.2.1)) → va_S A s.heap H locs → W p l e room_1 s m #[Value.ref b] below meth c H locs (cells + 8) (slots + 713) Z (F0 m 1401 ls [])) : W p l e room_1 s m #[Value.ref b] below meth c H locs cells slots Z (F0 m 263 ls []) := by
  have hbA : ¬ A b := fun h => absurd (hAn b h) (by omega)
  unfold s_2 at hf
  refine lv_aload_n hx hb d_law_263 rfl (lv_at hl 1 rfl) ?_
  refine lv_aload_n hx hb d_law_264 rfl (lv_at hl 0 rfl) ?_
  refine lv_iload hx hb d_law_265 (lv_at hl 4 rfl) ?_
  refine lv_iconst (v := (1 : Int32)) hx hb d_law_267 (by decide) ?_
  refine lv_iadd hx hb d_law_268 ?_
  refine va_sld hx hb hX hbl hbA hS hi1 d_law_269 ?_
  refine lv_aload_n hx hb d_law_270 rfl (lv_at hl 0 rfl) ?_
  refine lv_iload hx hb d_law_271 (lv_at hl 4 rfl) ?_
  refine lv_iconst (v := (2 : Int32)) hx hb d_law_273 (by decide) ?_
  refine lv_iadd hx hb d_law_274 ?_
  refine va_sld hx hb hX hbl hbA hS hi2 d_law_275 ?_
  refine lv_aload_n hx hb d_law_276 rfl (lv_at hl 3 rfl) ?_
  obtain ⟨x, gx, hf⟩ := jv_ob hf
  have hPr : va_P (dC, dI) vwCl (w_lo cI cA cL q_out q_va q_aa q_cl q_fu Q S vO) H := jv_PR (X := (w_model cI q_mo q_mlb_ q_mcl_ q_mus_ q_mwr_ q_mdk_ q_mcp_ M.1 M.2.1 M.2.2.1 M.2.2.2.1 M.2.2.2.2.1 M.2.2.2.2.2.1 M.2.2.2.2.2.2.1 M.2.2.2.2.2.2.2.1 M.2.2.2.2.2.2.2.2)) hP
  have hDr : va_D A (w_lo cI cA cL q_out q_va q_aa q_cl q_fu Q S vO) := jv_DR (X := (w_model cI q_mo q_mlb_ q_mcl_ q_mus_ q_mwr_ q_mdk_ q_mcp_ M.1 M.2.1 M.2.2.1 M.2.2.2.1 M.2.2.2.2.1 M.2.2.2.2.2.1 M.2.2.2.2.2.2.1 M.2.2.2.2.2.2.2.1 M.2.2.2.2.2.2.2.2)) hD
  have hFc := jv_fr hDr hS hA
  refine jv_cwl (vx_runSW (As := [.ref q_va, .int (xs (i + (1 : Int32)).toNatClampNeg), .int (xs (i + (2 : Int32)).toNatClampNeg), .ref q_out]) (rest := []) ⟨hx, hb, hml, hown, hts⟩ (c_L_clear l hl9 dC dI cI cA cL q_out q_va q_aa q_cl q_fu Q S vO (xs (i + (1 : Int32)).toNatClampNeg) (xs (i + (2 : Int32)).toNatClampNeg) H.size x gx) (jv_cwSW hts wa_608 wa_590 wa_609 wa_610 rfl rfl yd_L_clear ⟨Nat.le_of_ble_eq_true rfl, Nat.le_of_ble_eq_true rfl⟩) (jv_preSlw hTc hK hPr hDr (fun q hq => hS.2.1 q hq (fun h => absurd (hAn q h) (by omega)))) rfl rfl hl.1 rfl (lv_room (Nat.le_of_ble_eq_true rfl)) d_law_277 ⟨hc, hsl⟩) hS hFc (fun Q H1 locs hP1 hD1 hk1 hS0 => ?_)
  obtain ⟨hP, hD⟩ := jv_joinR (V1 := (w_lo cI cA cL q_out q_va q_aa q_cl q_fu Q x.2.1 x.2.2)) hk1 hP1 hD1 (w_model cI q_mo q_mlb_ q_mcl_ q_mus_ q_mwr_ q_mdk_ q_mcp_ M.1 M.2.1 M.2.2.1 M.2.2.2.1 M.2.2.2.2.1 M.2.2.2.2.2.1 M.2.2.2.2.2.2.1 M.2.2.2.2.2.2.2.1 M.2.2.2.2.2.2.2.2) A (fun q h => hA q (Nat.le_trans hS.1 h)) hP hD
  have hS := hS0
  generalize H1 = H at hP hS ⊢
  have hP : va_P (dC, dI) vwCl ((w_model cI q_mo q_mlb_ q_mcl_ q_mus_ q_mwr_ q_mdk_ q_mcp_ M.1 M.2.1 M.2.2.1 M.2.2.2.1 M.2.2.2.2.1 M.2.2.2.2.2.1 M.2.2.2.2.2.2.1 M.2.2.2.2.2.2.2.1 M.2.2.2.2.2.2.2.2) ++ (w_lo cI cA cL q_out q_va q_aa q_cl q_fu Q x.2.1 x.2.2)) H := hP
  have hD : va_D A ((w_model cI q_mo q_mlb_ q_mcl_ q_mus_ q_mwr_ q_mdk_ q_mcp_ M.1 M.2.1 M.2.2.1 M.2.2.2.1 M.2.2.2.2.1 M.2.2.2.2.2.1 M.2.2.2.2.2.2.1 M.2.2.2.2.2.2.2.1 M.2.2.2.2.2.2.2.2) ++ (w_lo cI cA cL q_out q_va q_aa q_cl q_fu Q x.2.1 x.2.2)) := hD
  refine lv_istore (lv' := [(5, .int x.1), (0, .ref b), (1, .ref q_va), (2, .ref q_mo), (3, .ref q_out), (4, .int i)]) hx hb d_law_280 hl (by decide) rfl (fun ls hl => ?_)
  refine lv_aload_n hx hb d_law_282 rfl (lv_at hl 3 rfl) ?_
  refine lv_aload_n hx hb d_law_283 rfl (lv_at hl 1 rfl) ?_
  refine lv_iload hx hb d_law_284 (lv_at hl 5 rfl) ?_
  refine lv_iconst (v := (1 : Int32)) hx hb d_law_286 (by decide) ?_
  refine lv_iadd hx hb d_law_287 ?_
  refine va_sld hx hb hX hbl hbA hS hi1 d_law_288 ?_
  refine lv_aload_n hx hb d_law_289 rfl (lv_at hl 1 rfl) ?_
  refine lv_iload hx hb d_law_290 (lv_at hl 5 rfl) ?_
  refine lv_iconst (v := (2 : Int32)) hx hb d_law_292 (by decide) ?_
  refine lv_iadd hx hb d_law_293 ?_
  refine va_sld hx hb hX hbl hbA hS hi2 d_law_294 ?_
  obtain ⟨y1, gy1, hf⟩ := jv_ob hf
  have hPl : va_P (dC, dI) vwCl (w_model cI q_mo q_mlb_ q_mcl_ q_mus_ q_mwr_ q_mdk_ q_mcp_ M.1 M.2.1 M.2.2.1 M.2.2.2.1 M.2.2.2.2.1 M.2.2.2.2.2.1 M.2.2.2.2.2.2.1 M.2.2.2.2.2.2.2.1 M.2.2.2.2.2.2.2.2) H := jv_PL (Y := (w_lo cI cA cL q_out q_va q_aa q_cl q_fu Q x.2.1 x.2.2)) hP
  have hDl : va_D A (w_model cI q_mo q_mlb_ q_mcl_ q_mus_ q_mwr_ q_mdk_ q_mcp_ M.1 M.2.1 M.2.2.1 M.2.2.2.1 M.2.2.2.2.1 M.2.2.2.2.2.1 M.2.2.2.2.2.2.1 M.2.2.2.2.2.2.2.1 M.2.2.2.2.2.2.2.2) := jv_DL (Y := (w_lo cI cA cL q_out q_va q_aa q_cl q_fu Q x.2.1 x.2.2)) hD
  have hFc := jv_fr hDl hS hA
  refine jv_cwi (va_runV (As := [.int (xs (i + (1 : Int32)).toNatClampNeg), .int (xs (i + (2 : Int32)).toNatClampNeg)]) (rest := []) (b := q_mo) ⟨hx, hb, hml, hown, hts⟩ (c_M_clear l dC dI cI cA cL q_mo q_mlb_ q_mcl_ q_mus_ q_mwr_ q_mdk_ q_mcp_ M.1 M.2.1 M.2.2.1 M.2.2.2.1 M.2.2.2.2.1 M.2.2.2.2.2.1 M.2.2.2.2.2.2.1 M.2.2.2.2.2.2.2.1 M.2.2.2.2.2.2.2.2 (xs (i + (1 : Int32)).toNatClampNeg) (xs (i + (2 : Int32)).toNatClampNeg) H.size y1 gy1) (jv_cwV hts wa_611 wa_194 wa_612 wa_613 wa_614 rfl rfl yd_M_clear ⟨Nat.le_of_ble_eq_true rfl, Nat.le_of_ble_eq_true rfl⟩) (jv_preVW hK hPl hDl 0 rfl rfl) rfl rfl hl.1 rfl (lv_room (Nat.le_of_ble_eq_true rfl)) d_law_295 ⟨hc, hsl⟩) hS hFc (fun H1 locs hP1 hD1 hk1 hS0 => ?_)
  obtain ⟨hP, hD⟩ := jv_joinL (X := (w_model cI q_mo q_mlb_ q_mcl_ q_mus_ q_mwr_ q_mdk_ q_mcp_ M.1 M.2.1 M.2.2.1 M.2.2.2.1 M.2.2.2.2.1 M.2.2.2.2.2.1 M.2.2.2.2.2.2.1 M.2.2.2.2.2.2.2.1 M.2.2.2.2.2.2.2.2)) (X1 := (w_model cI q_mo q_mlb_ q_mcl_ q_mus_ q_mwr_ q_mdk_ q_mcp_ y1.2.1 M.2.1 M.2.2.1 M.2.2.2.1 y1.2.2 M.2.2.2.2.2.1 M.2.2.2.2.2.2.1 M.2.2.2.2.2.2.2.1 M.2.2.2.2.2.2.2.2)) (V := (w_lo cI cA cL q_out q_va q_aa q_cl q_fu Q x.2.1 x.2.2)) hP hD (fun q h => hA q (Nat.le_trans hS.1 h)) hk1 hP1 hD1
  have hS := hS0
  generalize H1 = H at hP hS ⊢
  have hP : va_P (dC, dI) vwCl ((w_model cI q_mo q_mlb_ q_mcl_ q_mus_ q_mwr_ q_mdk_ q_mcp_ y1.2.1 M.2.1 M.2.2.1 M.2.2.2.1 y1.2.2 M.2.2.2.2.2.1 M.2.2.2.2.2.2.1 M.2.2.2.2.2.2.2.1 M.2.2.2.2.2.2.2.2) ++ (w_lo cI cA cL q_out q_va q_aa q_cl q_fu Q x.2.1 x.2.2)) H := hP
  have hD : va_D A ((w_model cI q_mo q_mlb_ q_mcl_ q_mus_ q_mwr_ q_mdk_ q_mcp_ y1.2.1 M.2.1 M.2.2.1 M.2.2.2.1 y1.2.2 M.2.2.2.2.2.1 M.2.2.2.2.2.2.1 M.2.2.2.2.2.2.2.1 M.2.2.2.2.2.2.2.2) ++ (w_lo cI cA cL q_out q_va q_aa q_cl q_fu Q x.2.1 x.2.2)) := hD
  refine lv_istore (lv' := [(6, .int y1.1), (5, .int x.1), (0, .ref b), (1, .ref q_va), (2, .ref q_mo), (3, .ref q_out), (4, .int i)]) hx hb d_law_298 hl (by decide) rfl (fun ls hl => ?_)
  refine lv_aload_n hx hb d_law_300 rfl (lv_at hl 4 rfl) ?_
  obtain ⟨y2, gy2, hf⟩ := jv_ob hf
  have hPl : va_P (dC, dI) vwCl (w_model cI q_mo q_mlb_ q_mcl_ q_mus_ q_mwr_ q_mdk_ q_mcp_ y1.2.1 M.2.1 M.2.2.1 M.2.2.2.1 y1.2.2 M.2.2.2.2.2.1 M.2.2.2.2.2.2.1 M.2.2.2.2.2.2.2.1 M.2.2.2.2.2.2.2.2) H := jv_PL (Y := (w_lo cI cA cL q_out q_va q_aa q_cl q_fu Q x.2.1 x.2.2)) hP
  have hDl : va_D A (w_model cI q_mo q_mlb_ q_mcl_ q_mus_ q_mwr_ q_mdk_ q_mcp_ y1.2.1 M.2.1 M.2.2.1 M.2.2.2.1 y1.2.2 M.2.2.2.2.2.1 M.2.2.2.2.2.2.1 M.2.2.2.2.2.2.2.1 M.2.2.2.2.2.2.2.2) := jv_DL (Y := (w_lo cI cA cL q_out q_va q_aa q_cl q_fu Q x.2.1 x.2.2)) hD
  refine jv_cs (W.runV (As := []) (rest := []) (b := q_mo) ⟨hx, hb, hml, hown, hts⟩ (c_M_thrown l dC dI cI cA cL q_mo q_mlb_ q_mcl_ q_mus_ q_mwr_ q_mdk_ q_mcp_ y1.2.1 M.2.1 M.2.2.1 M.2.2.2.1 y1.2.2 M.2.2.2.2.2.1 M.2.2.2.2.2.2.1 M.2.2.2.2.2.2.2.1 M.2.2.2.2.2.2.2.2 y2 gy2) (jv_cwV hts wa_597 wa_194 wa_598 wa_599 wa_600 rfl rfl yd_M_thrown ⟨Nat.le_of_ble_eq_true rfl, Nat.le_of_ble_eq_true rfl⟩) (jv_preV hK hPl 0 rfl rfl) rfl rfl hl.1 rfl (lv_room (Nat.le_of_ble_eq_true rfl)) d_law_301 ⟨hc, hsl⟩) ?_
  refine lv_iload hx hb d_law_304 (lv_at hl 1 rfl) ?_
  obtain ⟨he, hf⟩ := jv_gd hf
  refine lv_icmp_eq (tgt := 311) hx hb d_law_306 (by decide) (fun _ => ?_) (fun h9 => absurd he h9)
  refine lv_iload hx hb d_law_311 (lv_at hl 1 rfl) ?_
  by_cases hz : x.1 = 0
  · have hf := jv_it hf hz
    refine lv_if_ne (tgt := 335) hx hb d_law_313 (by decide) (fun h9 => absurd hz h9) (fun _ => ?_)
    refine lv_aload_n hx hb d_law_316 rfl (lv_at hl 5 rfl) ?_
    refine lv_iconst (v := (0 : Int32)) hx hb d_law_317 (by decide) ?_
    refine va_lald hx hb hK hP 7 2 rfl rfl (by unfold vp_in; decide) d_law_318 ?_
    refine lv_iload hx hb d_law_319 (lv_at hl 0 rfl) ?_
    obtain ⟨ho, hf⟩ := jv_gd hf
    by_cases hy : y1.1 = 0
    · rw [if_pos hy] at ho
      refine lv_if_eq (tgt := 328) hx hb d_law_321 (by decide) (fun _ => ?_) (fun h9 => absurd hy h9)
      refine lv_lconst (v := (0 : Int64)) hx hb d_law_328 (by decide) ?_
      refine jv_lcmp0 hx hb ho d_law_329 ?_
      refine lv_if_eq (tgt := 335) hx hb d_law_330 (by decide) (fun _ => ?_) (fun h9 => absurd rfl h9)
      obtain rfl := Option.some.inj hf
      refine lv_goto (tgt := 1401) hx hb d_law_335 (by decide) ?_
      exact KK Q H locs ls (lv_sub hl [2, 3, 4, 5, 6] rfl) hP hD hS
    · rw [if_neg hy] at ho
      refine lv_if_eq (tgt := 328) hx hb d_law_321 (by decide) (fun h9 => absurd h9 hy) (fun _ => ?_)
      refine lv_lconst (v := (1 : Int64)) hx hb d_law_324 (by decide) ?_
      refine lv_goto (tgt := 329) hx hb d_law_325 (by decide) ?_
      refine jv_lcmp0 hx hb ho d_law_329 ?_
      refine lv_if_eq (tgt := 335) hx hb d_law_330 (by decide) (fun _ => ?_) (fun h9 => absurd rfl h9)
      obtain rfl := Option.some.inj hf
      refine lv_goto (tgt := 1401) hx hb d_law_335 (by decide) ?_
      exact KK Q H locs ls (lv_sub hl [2, 3, 4, 5, 6] rfl) hP hD hS
  · have hf := jv_if hf hz
    refine lv_if_ne (tgt := 335) hx hb d_law_313 (by decide) (fun _ => ?_) (fun h9 => absurd h9 hz)
    obtain rfl := Option.some.inj hf
    refine lv_goto (tgt := 1401) hx hb d_law_335 (by decide) ?_
    exact KK Q H locs ls (lv_sub hl [2, 3, 4, 5, 6] rfl) hP hD hS
theorem d_law_338 : decode cc_law 338 = .ok (.aload_n 1, 1) := by decide +kernel
theorem d_law_339 : decode cc_law 339 = .ok (.aload_n 0, 1) := by decide +kernel
theorem d_law_340 : decode cc_law 340 = .ok (.iload 4, 2) := by decide +kernel
theorem d_law_342 : decode cc_law 342 = .ok (.iconst 1, 1) := by decide +kernel
theorem d_law_343 : decode cc_law 343 = .ok (.iadd, 1) := by decide +kernel
theorem d_law_344 : decode cc_law 344 = .ok (.iaload, 1) := by decide +kernel
theorem d_law_345 : decode cc_law 345 = .ok (.aload_n 0, 1) := by decide +kernel
theorem d_law_346 : decode cc_law 346 = .ok (.iload 4, 2) := by decide +kernel
theorem d_law_348 : decode cc_law 348 = .ok (.iconst 2, 1) := by decide +kernel
theorem d_law_349 : decode cc_law 349 = .ok (.iadd, 1) := by decide +kernel
theorem d_law_350 : decode cc_law 350 = .ok (.iaload, 1) := by decide +kernel
theorem d_law_351 : decode cc_law 351 = .ok (.aload_n 3, 1) := by decide +kernel
theorem d_law_352 : decode cc_law 352 = .ok (.invokestatic 94, 3) := by decide +kernel
theorem d_law_355 : decode cc_law 355 = .ok (.istore 5, 2) := by decide +kernel
theorem d_law_357 : decode cc_law 357 = .ok (.aload_n 2, 1) := by decide +kernel
theorem d_law_358 : decode cc_law 358 = .ok (.aload_n 0, 1) := by decide +kernel
theorem d_law_359 : decode cc_law 359 = .ok (.iload 4, 2) := by decide +kernel
theorem d_law_361 : decode cc_law 361 = .ok (.iconst 1, 1) := by decide +kernel
theorem d_law_362 : decode cc_law 362 = .ok (.iadd, 1) := by decide +kernel
theorem d_law_363 : decode cc_law 363 = .ok (.iaload, 1) := by decide +kernel
theorem d_law_364 : decode cc_law 364 = .ok (.aload_n 0, 1) := by decide +kernel
theorem d_law_365 : decode cc_law 365 = .ok (.iload 4, 2) := by decide +kernel
theorem d_law_367 : decode cc_law 367 = .ok (.iconst 2, 1) := by decide +kernel
theorem d_law_368 : decode cc_law 368 = .ok (.iadd, 1) := by decide +kernel
theorem d_law_369 : decode cc_law 369 = .ok (.iaload, 1) := by decide +kernel
theorem d_law_370 : decode cc_law 370 = .ok (.invokevirtual 96, 3) := by decide +kernel
theorem d_law_373 : decode cc_law 373 = .ok (.istore 6, 2) := by decide +kernel
theorem d_law_375 : decode cc_law 375 = .ok (.aload_n 2, 1) := by decide +kernel
theorem d_law_376 : decode cc_law 376 = .ok (.invokevirtual 83, 3) := by decide +kernel
theorem d_law_379 : decode cc_law 379 = .ok (.iload 5, 2) := by decide +kernel
theorem d_law_381 : decode cc_law 381 = .ok (.if_icmp .eq 5, 3) := by decide +kernel
theorem d_law_386 : decode cc_law 386 = .ok (.iload 5, 2) := by decide +kernel
theorem d_law_388 : decode cc_law 388 = .ok (.ifCond .ne 15, 3) := by decide +kernel
theorem d_law_391 : decode cc_law 391 = .ok (.aload_n 3, 1) := by decide +kernel
theorem d_law_392 : decode cc_law 392 = .ok (.iconst 0, 1) := by decide +kernel
theorem d_law_393 : decode cc_law 393 = .ok (.laload, 1) := by decide +kernel
theorem d_law_394 : decode cc_law 394 = .ok (.iload 6, 2) := by decide +kernel
theorem d_law_396 : decode cc_law 396 = .ok (.i2l, 1) := by decide +kernel
theorem d_law_397 : decode cc_law 397 = .ok (.lcmp, 1) := by decide +kernel
theorem d_law_398 : decode cc_law 398 = .ok (.ifCond .eq 5, 3) := by decide +kernel
theorem d_law_403 : decode cc_law 403 = .ok (.goto 998, 3) := by decide +kernel
def s_3 (S : jv_vs) (vO : Nat → Int64) (M : jv_ms) (p1 : Int32) (p2 : Int32) : Option jv_st :=
  (l_login S p1 p2 vO).bind fun x => (f_M_login M.2.1 M.2.2.2.1 M.2.2.2.2.1 p1 p2 M.1 M.2.2.2.2.2.1).bind fun y1 => (f_M_thrown y1.2.1).bind fun y2 => if y2 = x.1 then (if x.1 = 0 then (if x.2.2 (0 : Int32).toNatClampNeg = (y1.1).toInt64 then (some (x.2.1, x.2.2, y1.2.1, M.2.1, M.2.2.1, M.2.2.2.1, M.2.2.2.2.1, y1.2.2, M.2.2.2.2.2.2.1, M.2.2.2.2.2.2.2.1, M.2.2.2.2.2.2.2.2)) else none) else (some (x.2.1, x.2.2, y1.2.1, M.2.1, M.2.2.1, M.2.2.2.1, M.2.2.2.2.1, y1.2.2, M.2.2.2.2.2.2.1, M.2.2.2.2.2.2.2.1, M.2.2.2.2.2.2.2.2))) else none
set_option maxHeartbeats 4000000 in
set_option maxRecDepth 100000 in
theorem b_law_3 {l : Launch} {dC : Nat → ClassId} {dI : Nat → Nat → Nat} {cI cA cL : ClassId} {q_mo q_mlb_ q_mcl_ q_mus_ q_mwr_ q_mdk_ q_mcp_ q_out q_va q_aa q_cl q_fu : Nat} {p : Program} {e : Env} {s : State} {m : MethodId} {below : List Frame} {meth : Method} {c : Code} {b L : Nat} {xs : Nat → Int32} (hl9 : l.stackTraces = false) (hx : p.tables.exec = Jvm.exec) (hb : c.code = code) (hml : c.maxLocals = 7) (hown : s.vm.findClass R_Law = some m.cls) (hts : ∀ w ∈ Cond.tt :: jv_LT, w.before #[Value.ref b] s = true) (hX : va_X b L xs s s.heap) (hbl : b < s.heap.size) (hK : va_K (dC, dI) vwCl (jv_ty cI cA cL) s) (hTc : jv_tc s) {A : Nat → Prop} (hA : ∀ q : Nat, s.heap.size ≤ q → A q) (hAn : ∀ q : Nat, A q → s.heap.size ≤ q) {Z : State → Prop} {Q : Nat → Nat → Nat} {i : Int32} (hi1 : vp_in (i + (1 : Int32)) L) (hi2 : vp_in (i + (2 : Int32)) L) {S : jv_vs} {vO : Nat → Int64} {M : jv_ms} {r : jv_st} {H : Heap} {locs : List Loc} {cells slots : Nat} (hc : cells + 8 ≤ room_1.cells) (hsl : slots + 713 ≤ room_1.slots) {ls : Array Slot} (hl : lv_has ls 7 [(0, .ref b), (1, .ref q_va), (2, .ref q_mo), (3, .ref q_out), (4, .int i)]) (hP : va_P (dC, dI) vwCl ((w_model cI q_mo q_mlb_ q_mcl_ q_mus_ q_mwr_ q_mdk_ q_mcp_ M.1 M.2.1 M.2.2.1 M.2.2.2.1 M.2.2.2.2.1 M.2.2.2.2.2.1 M.2.2.2.2.2.2.1 M.2.2.2.2.2.2.2.1 M.2.2.2.2.2.2.2.2) ++ (w_lo cI cA cL q_out q_va q_aa q_cl q_fu Q S vO)) H) (hD : va_D A ((w_model cI q_mo q_mlb_ q_mcl_ q_mus_ q_mwr_ q_mdk_ q_mcp_ M.1 M.2.1 M.2.2.1 M.2.2.2.1 M.2.2.2.2.1 M.2.2.2.2.2.1 M.2.2.2.2.2.2.1 M.2.2.2.2.2.2.2.1 M.2.2.2.2.2.2.2.2) ++ (w_lo cI cA cL q_out q_va q_aa q_cl q_fu Q S vO))) (hS : va_S A s.heap H locs) (hf : s_3 S vO M (xs (i + (1 : Int32)).toNatClampNeg) (xs (i + (2 : Int32)).toNatClampNeg) = some r) (KK : ∀ (Q : Nat → Nat → Nat) (H : Heap) (locs : List Loc) (ls : Array Slot), lv_has ls 7 [(0, .ref b), (1, .ref q_va), (2, .ref q_mo), (3, .ref q_out), (4, .int i)] → va_P (dC, dI) vwCl ((w_model cI q_mo q_mlb_ q_mcl_ q_mus_ q_mwr_ q_mdk_ q_mcp_ r.2.2.1 r.2.2.2.1 r.2.2.2.2.1 r.2.2.2.2.2.1 r.2.2.2.2.2.2.1 r.2.2.2.2.2.2.2.1 r.2.2.2.2.2.2.2.2.1 r.2.2.2.2.2.2.2.2.2.1 r.2.2.2.2.2.2.2.2.2.2) ++ (w_lo cI cA cL q_out q_va q_aa q_cl q_fu Q r.1 r.2.1)) H → va_D A ((w_model cI q_mo q_mlb_ q_mcl_ q_mus_ q_mwr_ q_mdk_ q_mcp_ r.2.2.1 r.2.2.2.1 r.2.2.2.2.1 r.2.2.2.2.2.1 r.2.2.2.2.2.2.1 r.2.2.2.2.2.2.2.1 r.2.2.2.2.2.2.2.2.1 r.2.2.2.2.2.2.2.2.2.1 r.2.2.2.2.2.2.2.2.2.2) ++ (w_lo cI cA cL q_out q_va q_aa q_cl q_fu Q r.1 r.2.1)) → va_S A s.heap H locs → W p l e room_1 s m #[Value.ref b] below meth c H locs (cells + 8) (slots + 713) Z (F0 m 1401 ls [])) : W p l e room_1 s m #[Value.ref b] below meth c H locs cells slots Z (F0 m 338 ls []) := by
  have hbA : ¬ A b := fun h => absurd (hAn b h) (by omega)
  unfold s_3 at hf
  refine lv_aload_n hx hb d_law_338 rfl (lv_at hl 1 rfl) ?_
  refine lv_aload_n hx hb d_law_339 rfl (lv_at hl 0 rfl) ?_
  refine lv_iload hx hb d_law_340 (lv_at hl 4 rfl) ?_
  refine lv_iconst (v := (1 : Int32)) hx hb d_law_342 (by decide) ?_
  refine lv_iadd hx hb d_law_343 ?_
  refine va_sld hx hb hX hbl hbA hS hi1 d_law_344 ?_
  refine lv_aload_n hx hb d_law_345 rfl (lv_at hl 0 rfl) ?_
  refine lv_iload hx hb d_law_346 (lv_at hl 4 rfl) ?_
  refine lv_iconst (v := (2 : Int32)) hx hb d_law_348 (by decide) ?_
  refine lv_iadd hx hb d_law_349 ?_
  refine va_sld hx hb hX hbl hbA hS hi2 d_law_350 ?_
  refine lv_aload_n hx hb d_law_351 rfl (lv_at hl 3 rfl) ?_
  obtain ⟨x, gx, hf⟩ := jv_ob hf
  have hPr : va_P (dC, dI) vwCl (w_lo cI cA cL q_out q_va q_aa q_cl q_fu Q S vO) H := jv_PR (X := (w_model cI q_mo q_mlb_ q_mcl_ q_mus_ q_mwr_ q_mdk_ q_mcp_ M.1 M.2.1 M.2.2.1 M.2.2.2.1 M.2.2.2.2.1 M.2.2.2.2.2.1 M.2.2.2.2.2.2.1 M.2.2.2.2.2.2.2.1 M.2.2.2.2.2.2.2.2)) hP
  have hDr : va_D A (w_lo cI cA cL q_out q_va q_aa q_cl q_fu Q S vO) := jv_DR (X := (w_model cI q_mo q_mlb_ q_mcl_ q_mus_ q_mwr_ q_mdk_ q_mcp_ M.1 M.2.1 M.2.2.1 M.2.2.2.1 M.2.2.2.2.1 M.2.2.2.2.2.1 M.2.2.2.2.2.2.1 M.2.2.2.2.2.2.2.1 M.2.2.2.2.2.2.2.2)) hD
  have hFc := jv_fr hDr hS hA
  refine jv_cwl (vx_runSW (As := [.ref q_va, .int (xs (i + (1 : Int32)).toNatClampNeg), .int (xs (i + (2 : Int32)).toNatClampNeg), .ref q_out]) (rest := []) ⟨hx, hb, hml, hown, hts⟩ (c_L_login l hl9 dC dI cI cA cL q_out q_va q_aa q_cl q_fu Q S vO (xs (i + (1 : Int32)).toNatClampNeg) (xs (i + (2 : Int32)).toNatClampNeg) H.size x gx) (jv_cwSW hts wa_615 wa_590 wa_616 wa_617 rfl rfl yd_L_login ⟨Nat.le_of_ble_eq_true rfl, Nat.le_of_ble_eq_true rfl⟩) (jv_preSlw hTc hK hPr hDr (fun q hq => hS.2.1 q hq (fun h => absurd (hAn q h) (by omega)))) rfl rfl hl.1 rfl (lv_room (Nat.le_of_ble_eq_true rfl)) d_law_352 ⟨hc, hsl⟩) hS hFc (fun Q H1 locs hP1 hD1 hk1 hS0 => ?_)
  obtain ⟨hP, hD⟩ := jv_joinR (V1 := (w_lo cI cA cL q_out q_va q_aa q_cl q_fu Q x.2.1 x.2.2)) hk1 hP1 hD1 (w_model cI q_mo q_mlb_ q_mcl_ q_mus_ q_mwr_ q_mdk_ q_mcp_ M.1 M.2.1 M.2.2.1 M.2.2.2.1 M.2.2.2.2.1 M.2.2.2.2.2.1 M.2.2.2.2.2.2.1 M.2.2.2.2.2.2.2.1 M.2.2.2.2.2.2.2.2) A (fun q h => hA q (Nat.le_trans hS.1 h)) hP hD
  have hS := hS0
  generalize H1 = H at hP hS ⊢
  have hP : va_P (dC, dI) vwCl ((w_model cI q_mo q_mlb_ q_mcl_ q_mus_ q_mwr_ q_mdk_ q_mcp_ M.1 M.2.1 M.2.2.1 M.2.2.2.1 M.2.2.2.2.1 M.2.2.2.2.2.1 M.2.2.2.2.2.2.1 M.2.2.2.2.2.2.2.1 M.2.2.2.2.2.2.2.2) ++ (w_lo cI cA cL q_out q_va q_aa q_cl q_fu Q x.2.1 x.2.2)) H := hP
  have hD : va_D A ((w_model cI q_mo q_mlb_ q_mcl_ q_mus_ q_mwr_ q_mdk_ q_mcp_ M.1 M.2.1 M.2.2.1 M.2.2.2.1 M.2.2.2.2.1 M.2.2.2.2.2.1 M.2.2.2.2.2.2.1 M.2.2.2.2.2.2.2.1 M.2.2.2.2.2.2.2.2) ++ (w_lo cI cA cL q_out q_va q_aa q_cl q_fu Q x.2.1 x.2.2)) := hD
  refine lv_istore (lv' := [(5, .int x.1), (0, .ref b), (1, .ref q_va), (2, .ref q_mo), (3, .ref q_out), (4, .int i)]) hx hb d_law_355 hl (by decide) rfl (fun ls hl => ?_)
  refine lv_aload_n hx hb d_law_357 rfl (lv_at hl 3 rfl) ?_
  refine lv_aload_n hx hb d_law_358 rfl (lv_at hl 1 rfl) ?_
  refine lv_iload hx hb d_law_359 (lv_at hl 5 rfl) ?_
  refine lv_iconst (v := (1 : Int32)) hx hb d_law_361 (by decide) ?_
  refine lv_iadd hx hb d_law_362 ?_
  refine va_sld hx hb hX hbl hbA hS hi1 d_law_363 ?_
  refine lv_aload_n hx hb d_law_364 rfl (lv_at hl 1 rfl) ?_
  refine lv_iload hx hb d_law_365 (lv_at hl 5 rfl) ?_
  refine lv_iconst (v := (2 : Int32)) hx hb d_law_367 (by decide) ?_
  refine lv_iadd hx hb d_law_368 ?_
  refine va_sld hx hb hX hbl hbA hS hi2 d_law_369 ?_
  obtain ⟨y1, gy1, hf⟩ := jv_ob hf
  have hPl : va_P (dC, dI) vwCl (w_model cI q_mo q_mlb_ q_mcl_ q_mus_ q_mwr_ q_mdk_ q_mcp_ M.1 M.2.1 M.2.2.1 M.2.2.2.1 M.2.2.2.2.1 M.2.2.2.2.2.1 M.2.2.2.2.2.2.1 M.2.2.2.2.2.2.2.1 M.2.2.2.2.2.2.2.2) H := jv_PL (Y := (w_lo cI cA cL q_out q_va q_aa q_cl q_fu Q x.2.1 x.2.2)) hP
  have hDl : va_D A (w_model cI q_mo q_mlb_ q_mcl_ q_mus_ q_mwr_ q_mdk_ q_mcp_ M.1 M.2.1 M.2.2.1 M.2.2.2.1 M.2.2.2.2.1 M.2.2.2.2.2.1 M.2.2.2.2.2.2.1 M.2.2.2.2.2.2.2.1 M.2.2.2.2.2.2.2.2) := jv_DL (Y := (w_lo cI cA cL q_out q_va q_aa q_cl q_fu Q x.2.1 x.2.2)) hD
  have hFc := jv_fr hDl hS hA
  refine jv_cwi (va_runV (As := [.int (xs (i + (1 : Int32)).toNatClampNeg), .int (xs (i + (2 : Int32)).toNatClampNeg)]) (rest := []) (b := q_mo) ⟨hx, hb, hml, hown, hts⟩ (c_M_login l dC dI cI cA cL q_mo q_mlb_ q_mcl_ q_mus_ q_mwr_ q_mdk_ q_mcp_ M.1 M.2.1 M.2.2.1 M.2.2.2.1 M.2.2.2.2.1 M.2.2.2.2.2.1 M.2.2.2.2.2.2.1 M.2.2.2.2.2.2.2.1 M.2.2.2.2.2.2.2.2 (xs (i + (1 : Int32)).toNatClampNeg) (xs (i + (2 : Int32)).toNatClampNeg) H.size y1 gy1) (jv_cwV hts wa_618 wa_194 wa_619 wa_620 wa_621 rfl rfl yd_M_login ⟨Nat.le_of_ble_eq_true rfl, Nat.le_of_ble_eq_true rfl⟩) (jv_preVW hK hPl hDl 0 rfl rfl) rfl rfl hl.1 rfl (lv_room (Nat.le_of_ble_eq_true rfl)) d_law_370 ⟨hc, hsl⟩) hS hFc (fun H1 locs hP1 hD1 hk1 hS0 => ?_)
  obtain ⟨hP, hD⟩ := jv_joinL (X := (w_model cI q_mo q_mlb_ q_mcl_ q_mus_ q_mwr_ q_mdk_ q_mcp_ M.1 M.2.1 M.2.2.1 M.2.2.2.1 M.2.2.2.2.1 M.2.2.2.2.2.1 M.2.2.2.2.2.2.1 M.2.2.2.2.2.2.2.1 M.2.2.2.2.2.2.2.2)) (X1 := (w_model cI q_mo q_mlb_ q_mcl_ q_mus_ q_mwr_ q_mdk_ q_mcp_ y1.2.1 M.2.1 M.2.2.1 M.2.2.2.1 M.2.2.2.2.1 y1.2.2 M.2.2.2.2.2.2.1 M.2.2.2.2.2.2.2.1 M.2.2.2.2.2.2.2.2)) (V := (w_lo cI cA cL q_out q_va q_aa q_cl q_fu Q x.2.1 x.2.2)) hP hD (fun q h => hA q (Nat.le_trans hS.1 h)) hk1 hP1 hD1
  have hS := hS0
  generalize H1 = H at hP hS ⊢
  have hP : va_P (dC, dI) vwCl ((w_model cI q_mo q_mlb_ q_mcl_ q_mus_ q_mwr_ q_mdk_ q_mcp_ y1.2.1 M.2.1 M.2.2.1 M.2.2.2.1 M.2.2.2.2.1 y1.2.2 M.2.2.2.2.2.2.1 M.2.2.2.2.2.2.2.1 M.2.2.2.2.2.2.2.2) ++ (w_lo cI cA cL q_out q_va q_aa q_cl q_fu Q x.2.1 x.2.2)) H := hP
  have hD : va_D A ((w_model cI q_mo q_mlb_ q_mcl_ q_mus_ q_mwr_ q_mdk_ q_mcp_ y1.2.1 M.2.1 M.2.2.1 M.2.2.2.1 M.2.2.2.2.1 y1.2.2 M.2.2.2.2.2.2.1 M.2.2.2.2.2.2.2.1 M.2.2.2.2.2.2.2.2) ++ (w_lo cI cA cL q_out q_va q_aa q_cl q_fu Q x.2.1 x.2.2)) := hD
  refine lv_istore (lv' := [(6, .int y1.1), (5, .int x.1), (0, .ref b), (1, .ref q_va), (2, .ref q_mo), (3, .ref q_out), (4, .int i)]) hx hb d_law_373 hl (by decide) rfl (fun ls hl => ?_)
  refine lv_aload_n hx hb d_law_375 rfl (lv_at hl 4 rfl) ?_
  obtain ⟨y2, gy2, hf⟩ := jv_ob hf
  have hPl : va_P (dC, dI) vwCl (w_model cI q_mo q_mlb_ q_mcl_ q_mus_ q_mwr_ q_mdk_ q_mcp_ y1.2.1 M.2.1 M.2.2.1 M.2.2.2.1 M.2.2.2.2.1 y1.2.2 M.2.2.2.2.2.2.1 M.2.2.2.2.2.2.2.1 M.2.2.2.2.2.2.2.2) H := jv_PL (Y := (w_lo cI cA cL q_out q_va q_aa q_cl q_fu Q x.2.1 x.2.2)) hP
  have hDl : va_D A (w_model cI q_mo q_mlb_ q_mcl_ q_mus_ q_mwr_ q_mdk_ q_mcp_ y1.2.1 M.2.1 M.2.2.1 M.2.2.2.1 M.2.2.2.2.1 y1.2.2 M.2.2.2.2.2.2.1 M.2.2.2.2.2.2.2.1 M.2.2.2.2.2.2.2.2) := jv_DL (Y := (w_lo cI cA cL q_out q_va q_aa q_cl q_fu Q x.2.1 x.2.2)) hD
  refine jv_cs (W.runV (As := []) (rest := []) (b := q_mo) ⟨hx, hb, hml, hown, hts⟩ (c_M_thrown l dC dI cI cA cL q_mo q_mlb_ q_mcl_ q_mus_ q_mwr_ q_mdk_ q_mcp_ y1.2.1 M.2.1 M.2.2.1 M.2.2.2.1 M.2.2.2.2.1 y1.2.2 M.2.2.2.2.2.2.1 M.2.2.2.2.2.2.2.1 M.2.2.2.2.2.2.2.2 y2 gy2) (jv_cwV hts wa_597 wa_194 wa_598 wa_599 wa_600 rfl rfl yd_M_thrown ⟨Nat.le_of_ble_eq_true rfl, Nat.le_of_ble_eq_true rfl⟩) (jv_preV hK hPl 0 rfl rfl) rfl rfl hl.1 rfl (lv_room (Nat.le_of_ble_eq_true rfl)) d_law_376 ⟨hc, hsl⟩) ?_
  refine lv_iload hx hb d_law_379 (lv_at hl 1 rfl) ?_
  obtain ⟨he, hf⟩ := jv_gd hf
  refine lv_icmp_eq (tgt := 386) hx hb d_law_381 (by decide) (fun _ => ?_) (fun h9 => absurd he h9)
  refine lv_iload hx hb d_law_386 (lv_at hl 1 rfl) ?_
  by_cases hz : x.1 = 0
  · have hf := jv_it hf hz
    refine lv_if_ne (tgt := 403) hx hb d_law_388 (by decide) (fun h9 => absurd hz h9) (fun _ => ?_)
    refine lv_aload_n hx hb d_law_391 rfl (lv_at hl 5 rfl) ?_
    refine lv_iconst (v := (0 : Int32)) hx hb d_law_392 (by decide) ?_
    refine va_lald hx hb hK hP 7 2 rfl rfl (by unfold vp_in; decide) d_law_393 ?_
    refine lv_iload hx hb d_law_394 (lv_at hl 0 rfl) ?_
    obtain ⟨ho, hf⟩ := jv_gd hf
    refine lv_i2l hx hb d_law_396 rfl ?_
    refine jv_lcmp0 hx hb ho d_law_397 ?_
    refine lv_if_eq (tgt := 403) hx hb d_law_398 (by decide) (fun _ => ?_) (fun h9 => absurd rfl h9)
    obtain rfl := Option.some.inj hf
    refine lv_goto (tgt := 1401) hx hb d_law_403 (by decide) ?_
    exact KK Q H locs ls (lv_sub hl [2, 3, 4, 5, 6] rfl) hP hD hS
  · have hf := jv_if hf hz
    refine lv_if_ne (tgt := 403) hx hb d_law_388 (by decide) (fun _ => ?_) (fun h9 => absurd h9 hz)
    obtain rfl := Option.some.inj hf
    refine lv_goto (tgt := 1401) hx hb d_law_403 (by decide) ?_
    exact KK Q H locs ls (lv_sub hl [2, 3, 4, 5, 6] rfl) hP hD hS
theorem d_law_406 : decode cc_law 406 = .ok (.aload_n 1, 1) := by decide +kernel
theorem d_law_407 : decode cc_law 407 = .ok (.aload_n 0, 1) := by decide +kernel
theorem d_law_408 : decode cc_law 408 = .ok (.iload 4, 2) := by decide +kernel
theorem d_law_410 : decode cc_law 410 = .ok (.iconst 1, 1) := by decide +kernel
theorem d_law_411 : decode cc_law 411 = .ok (.iadd, 1) := by decide +kernel
theorem d_law_412 : decode cc_law 412 = .ok (.iaload, 1) := by decide +kernel
theorem d_law_413 : decode cc_law 413 = .ok (.aload_n 3, 1) := by decide +kernel
theorem d_law_414 : decode cc_law 414 = .ok (.invokestatic 97, 3) := by decide +kernel
theorem d_law_417 : decode cc_law 417 = .ok (.istore 5, 2) := by decide +kernel
theorem d_law_419 : decode cc_law 419 = .ok (.aload_n 2, 1) := by decide +kernel
theorem d_law_420 : decode cc_law 420 = .ok (.aload_n 0, 1) := by decide +kernel
theorem d_law_421 : decode cc_law 421 = .ok (.iload 4, 2) := by decide +kernel
theorem d_law_423 : decode cc_law 423 = .ok (.iconst 1, 1) := by decide +kernel
theorem d_law_424 : decode cc_law 424 = .ok (.iadd, 1) := by decide +kernel
theorem d_law_425 : decode cc_law 425 = .ok (.iaload, 1) := by decide +kernel
theorem d_law_426 : decode cc_law 426 = .ok (.invokevirtual 99, 3) := by decide +kernel
theorem d_law_429 : decode cc_law 429 = .ok (.istore 6, 2) := by decide +kernel
theorem d_law_431 : decode cc_law 431 = .ok (.aload_n 2, 1) := by decide +kernel
theorem d_law_432 : decode cc_law 432 = .ok (.invokevirtual 83, 3) := by decide +kernel
theorem d_law_435 : decode cc_law 435 = .ok (.iload 5, 2) := by decide +kernel
theorem d_law_437 : decode cc_law 437 = .ok (.if_icmp .eq 5, 3) := by decide +kernel
theorem d_law_442 : decode cc_law 442 = .ok (.iload 5, 2) := by decide +kernel
theorem d_law_444 : decode cc_law 444 = .ok (.ifCond .ne 15, 3) := by decide +kernel
theorem d_law_447 : decode cc_law 447 = .ok (.aload_n 3, 1) := by decide +kernel
theorem d_law_448 : decode cc_law 448 = .ok (.iconst 0, 1) := by decide +kernel
theorem d_law_449 : decode cc_law 449 = .ok (.laload, 1) := by decide +kernel
theorem d_law_450 : decode cc_law 450 = .ok (.iload 6, 2) := by decide +kernel
theorem d_law_452 : decode cc_law 452 = .ok (.i2l, 1) := by decide +kernel
theorem d_law_453 : decode cc_law 453 = .ok (.lcmp, 1) := by decide +kernel
theorem d_law_454 : decode cc_law 454 = .ok (.ifCond .eq 5, 3) := by decide +kernel
theorem d_law_459 : decode cc_law 459 = .ok (.goto 942, 3) := by decide +kernel
def s_4 (S : jv_vs) (vO : Nat → Int64) (M : jv_ms) (p1 : Int32) : Option jv_st :=
  (l_logout S p1 vO).bind fun x => (f_M_logout p1 M.1 M.2.2.2.2.2.1).bind fun y1 => (f_M_thrown y1.2.1).bind fun y2 => if y2 = x.1 then (if x.1 = 0 then (if x.2.2 (0 : Int32).toNatClampNeg = (y1.1).toInt64 then (some (x.2.1, x.2.2, y1.2.1, M.2.1, M.2.2.1, M.2.2.2.1, M.2.2.2.2.1, y1.2.2, M.2.2.2.2.2.2.1, M.2.2.2.2.2.2.2.1, M.2.2.2.2.2.2.2.2)) else none) else (some (x.2.1, x.2.2, y1.2.1, M.2.1, M.2.2.1, M.2.2.2.1, M.2.2.2.2.1, y1.2.2, M.2.2.2.2.2.2.1, M.2.2.2.2.2.2.2.1, M.2.2.2.2.2.2.2.2))) else none
set_option maxHeartbeats 4000000 in
set_option maxRecDepth 100000 in
theorem b_law_4 {l : Launch} {dC : Nat → ClassId} {dI : Nat → Nat → Nat} {cI cA cL : ClassId} {q_mo q_mlb_ q_mcl_ q_mus_ q_mwr_ q_mdk_ q_mcp_ q_out q_va q_aa q_cl q_fu : Nat} {p : Program} {e : Env} {s : State} {m : MethodId} {below : List Frame} {meth : Method} {c : Code} {b L : Nat} {xs : Nat → Int32} (hl9 : l.stackTraces = false) (hx : p.tables.exec = Jvm.exec) (hb : c.code = code) (hml : c.maxLocals = 7) (hown : s.vm.findClass R_Law = some m.cls) (hts : ∀ w ∈ Cond.tt :: jv_LT, w.before #[Value.ref b] s = true) (hX : va_X b L xs s s.heap) (hbl : b < s.heap.size) (hK : va_K (dC, dI) vwCl (jv_ty cI cA cL) s) (hTc : jv_tc s) {A : Nat → Prop} (hA : ∀ q : Nat, s.heap.size ≤ q → A q) (hAn : ∀ q : Nat, A q → s.heap.size ≤ q) {Z : State → Prop} {Q : Nat → Nat → Nat} {i : Int32} (hi1 : vp_in (i + (1 : Int32)) L) {S : jv_vs} {vO : Nat → Int64} {M : jv_ms} {r : jv_st} {H : Heap} {locs : List Loc} {cells slots : Nat} (hc : cells + 8 ≤ room_1.cells) (hsl : slots + 713 ≤ room_1.slots) {ls : Array Slot} (hl : lv_has ls 7 [(0, .ref b), (1, .ref q_va), (2, .ref q_mo), (3, .ref q_out), (4, .int i)]) (hP : va_P (dC, dI) vwCl ((w_model cI q_mo q_mlb_ q_mcl_ q_mus_ q_mwr_ q_mdk_ q_mcp_ M.1 M.2.1 M.2.2.1 M.2.2.2.1 M.2.2.2.2.1 M.2.2.2.2.2.1 M.2.2.2.2.2.2.1 M.2.2.2.2.2.2.2.1 M.2.2.2.2.2.2.2.2) ++ (w_lo cI cA cL q_out q_va q_aa q_cl q_fu Q S vO)) H) (hD : va_D A ((w_model cI q_mo q_mlb_ q_mcl_ q_mus_ q_mwr_ q_mdk_ q_mcp_ M.1 M.2.1 M.2.2.1 M.2.2.2.1 M.2.2.2.2.1 M.2.2.2.2.2.1 M.2.2.2.2.2.2.1 M.2.2.2.2.2.2.2.1 M.2.2.2.2.2.2.2.2) ++ (w_lo cI cA cL q_out q_va q_aa q_cl q_fu Q S vO))) (hS : va_S A s.heap H locs) (hf : s_4 S vO M (xs (i + (1 : Int32)).toNatClampNeg) = some r) (KK : ∀ (Q : Nat → Nat → Nat) (H : Heap) (locs : List Loc) (ls : Array Slot), lv_has ls 7 [(0, .ref b), (1, .ref q_va), (2, .ref q_mo), (3, .ref q_out), (4, .int i)] → va_P (dC, dI) vwCl ((w_model cI q_mo q_mlb_ q_mcl_ q_mus_ q_mwr_ q_mdk_ q_mcp_ r.2.2.1 r.2.2.2.1 r.2.2.2.2.1 r.2.2.2.2.2.1 r.2.2.2.2.2.2.1 r.2.2.2.2.2.2.2.1 r.2.2.2.2.2.2.2.2.1 r.2.2.2.2.2.2.2.2.2.1 r.2.2.2.2.2.2.2.2.2.2) ++ (w_lo cI cA cL q_out q_va q_aa q_cl q_fu Q r.1 r.2.1)) H → va_D A ((w_model cI q_mo q_mlb_ q_mcl_ q_mus_ q_mwr_ q_mdk_ q_mcp_ r.2.2.1 r.2.2.2.1 r.2.2.2.2.1 r.2.2.2.2.2.1 r.2.2.2.2.2.2.1 r.2.2.2.2.2.2.2.1 r.2.2.2.2.2.2.2.2.1 r.2.2.2.2.2.2.2.2.2.1 r.2.2.2.2.2.2.2.2.2.2) ++ (w_lo cI cA cL q_out q_va q_aa q_cl q_fu Q r.1 r.2.1)) → va_S A s.heap H locs → W p l e room_1 s m #[Value.ref b] below meth c H locs (cells + 8) (slots + 713) Z (F0 m 1401 ls [])) : W p l e room_1 s m #[Value.ref b] below meth c H locs cells slots Z (F0 m 406 ls []) := by
  have hbA : ¬ A b := fun h => absurd (hAn b h) (by omega)
  unfold s_4 at hf
  refine lv_aload_n hx hb d_law_406 rfl (lv_at hl 1 rfl) ?_
  refine lv_aload_n hx hb d_law_407 rfl (lv_at hl 0 rfl) ?_
  refine lv_iload hx hb d_law_408 (lv_at hl 4 rfl) ?_
  refine lv_iconst (v := (1 : Int32)) hx hb d_law_410 (by decide) ?_
  refine lv_iadd hx hb d_law_411 ?_
  refine va_sld hx hb hX hbl hbA hS hi1 d_law_412 ?_
  refine lv_aload_n hx hb d_law_413 rfl (lv_at hl 3 rfl) ?_
  obtain ⟨x, gx, hf⟩ := jv_ob hf
  have hPr : va_P (dC, dI) vwCl (w_lo cI cA cL q_out q_va q_aa q_cl q_fu Q S vO) H := jv_PR (X := (w_model cI q_mo q_mlb_ q_mcl_ q_mus_ q_mwr_ q_mdk_ q_mcp_ M.1 M.2.1 M.2.2.1 M.2.2.2.1 M.2.2.2.2.1 M.2.2.2.2.2.1 M.2.2.2.2.2.2.1 M.2.2.2.2.2.2.2.1 M.2.2.2.2.2.2.2.2)) hP
  have hDr : va_D A (w_lo cI cA cL q_out q_va q_aa q_cl q_fu Q S vO) := jv_DR (X := (w_model cI q_mo q_mlb_ q_mcl_ q_mus_ q_mwr_ q_mdk_ q_mcp_ M.1 M.2.1 M.2.2.1 M.2.2.2.1 M.2.2.2.2.1 M.2.2.2.2.2.1 M.2.2.2.2.2.2.1 M.2.2.2.2.2.2.2.1 M.2.2.2.2.2.2.2.2)) hD
  have hFc := jv_fr hDr hS hA
  refine jv_cwl (vx_runSW (As := [.ref q_va, .int (xs (i + (1 : Int32)).toNatClampNeg), .ref q_out]) (rest := []) ⟨hx, hb, hml, hown, hts⟩ (c_L_logout l hl9 dC dI cI cA cL q_out q_va q_aa q_cl q_fu Q S vO (xs (i + (1 : Int32)).toNatClampNeg) H.size x gx) (jv_cwSW hts wa_622 wa_590 wa_623 wa_624 rfl rfl yd_L_logout ⟨Nat.le_of_ble_eq_true rfl, Nat.le_of_ble_eq_true rfl⟩) (jv_preSlw hTc hK hPr hDr (fun q hq => hS.2.1 q hq (fun h => absurd (hAn q h) (by omega)))) rfl rfl hl.1 rfl (lv_room (Nat.le_of_ble_eq_true rfl)) d_law_414 ⟨hc, hsl⟩) hS hFc (fun Q H1 locs hP1 hD1 hk1 hS0 => ?_)
  obtain ⟨hP, hD⟩ := jv_joinR (V1 := (w_lo cI cA cL q_out q_va q_aa q_cl q_fu Q x.2.1 x.2.2)) hk1 hP1 hD1 (w_model cI q_mo q_mlb_ q_mcl_ q_mus_ q_mwr_ q_mdk_ q_mcp_ M.1 M.2.1 M.2.2.1 M.2.2.2.1 M.2.2.2.2.1 M.2.2.2.2.2.1 M.2.2.2.2.2.2.1 M.2.2.2.2.2.2.2.1 M.2.2.2.2.2.2.2.2) A (fun q h => hA q (Nat.le_trans hS.1 h)) hP hD
  have hS := hS0
  generalize H1 = H at hP hS ⊢
  have hP : va_P (dC, dI) vwCl ((w_model cI q_mo q_mlb_ q_mcl_ q_mus_ q_mwr_ q_mdk_ q_mcp_ M.1 M.2.1 M.2.2.1 M.2.2.2.1 M.2.2.2.2.1 M.2.2.2.2.2.1 M.2.2.2.2.2.2.1 M.2.2.2.2.2.2.2.1 M.2.2.2.2.2.2.2.2) ++ (w_lo cI cA cL q_out q_va q_aa q_cl q_fu Q x.2.1 x.2.2)) H := hP
  have hD : va_D A ((w_model cI q_mo q_mlb_ q_mcl_ q_mus_ q_mwr_ q_mdk_ q_mcp_ M.1 M.2.1 M.2.2.1 M.2.2.2.1 M.2.2.2.2.1 M.2.2.2.2.2.1 M.2.2.2.2.2.2.1 M.2.2.2.2.2.2.2.1 M.2.2.2.2.2.2.2.2) ++ (w_lo cI cA cL q_out q_va q_aa q_cl q_fu Q x.2.1 x.2.2)) := hD
  refine lv_istore (lv' := [(5, .int x.1), (0, .ref b), (1, .ref q_va), (2, .ref q_mo), (3, .ref q_out), (4, .int i)]) hx hb d_law_417 hl (by decide) rfl (fun ls hl => ?_)
  refine lv_aload_n hx hb d_law_419 rfl (lv_at hl 3 rfl) ?_
  refine lv_aload_n hx hb d_law_420 rfl (lv_at hl 1 rfl) ?_
  refine lv_iload hx hb d_law_421 (lv_at hl 5 rfl) ?_
  refine lv_iconst (v := (1 : Int32)) hx hb d_law_423 (by decide) ?_
  refine lv_iadd hx hb d_law_424 ?_
  refine va_sld hx hb hX hbl hbA hS hi1 d_law_425 ?_
  obtain ⟨y1, gy1, hf⟩ := jv_ob hf
  have hPl : va_P (dC, dI) vwCl (w_model cI q_mo q_mlb_ q_mcl_ q_mus_ q_mwr_ q_mdk_ q_mcp_ M.1 M.2.1 M.2.2.1 M.2.2.2.1 M.2.2.2.2.1 M.2.2.2.2.2.1 M.2.2.2.2.2.2.1 M.2.2.2.2.2.2.2.1 M.2.2.2.2.2.2.2.2) H := jv_PL (Y := (w_lo cI cA cL q_out q_va q_aa q_cl q_fu Q x.2.1 x.2.2)) hP
  have hDl : va_D A (w_model cI q_mo q_mlb_ q_mcl_ q_mus_ q_mwr_ q_mdk_ q_mcp_ M.1 M.2.1 M.2.2.1 M.2.2.2.1 M.2.2.2.2.1 M.2.2.2.2.2.1 M.2.2.2.2.2.2.1 M.2.2.2.2.2.2.2.1 M.2.2.2.2.2.2.2.2) := jv_DL (Y := (w_lo cI cA cL q_out q_va q_aa q_cl q_fu Q x.2.1 x.2.2)) hD
  have hFc := jv_fr hDl hS hA
  refine jv_cwi (va_runV (As := [.int (xs (i + (1 : Int32)).toNatClampNeg)]) (rest := []) (b := q_mo) ⟨hx, hb, hml, hown, hts⟩ (c_M_logout l dC dI cI cA cL q_mo q_mlb_ q_mcl_ q_mus_ q_mwr_ q_mdk_ q_mcp_ M.1 M.2.1 M.2.2.1 M.2.2.2.1 M.2.2.2.2.1 M.2.2.2.2.2.1 M.2.2.2.2.2.2.1 M.2.2.2.2.2.2.2.1 M.2.2.2.2.2.2.2.2 (xs (i + (1 : Int32)).toNatClampNeg) H.size y1 gy1) (jv_cwV hts wa_625 wa_194 wa_626 wa_627 wa_628 rfl rfl yd_M_logout ⟨Nat.le_of_ble_eq_true rfl, Nat.le_of_ble_eq_true rfl⟩) (jv_preVW hK hPl hDl 0 rfl rfl) rfl rfl hl.1 rfl (lv_room (Nat.le_of_ble_eq_true rfl)) d_law_426 ⟨hc, hsl⟩) hS hFc (fun H1 locs hP1 hD1 hk1 hS0 => ?_)
  obtain ⟨hP, hD⟩ := jv_joinL (X := (w_model cI q_mo q_mlb_ q_mcl_ q_mus_ q_mwr_ q_mdk_ q_mcp_ M.1 M.2.1 M.2.2.1 M.2.2.2.1 M.2.2.2.2.1 M.2.2.2.2.2.1 M.2.2.2.2.2.2.1 M.2.2.2.2.2.2.2.1 M.2.2.2.2.2.2.2.2)) (X1 := (w_model cI q_mo q_mlb_ q_mcl_ q_mus_ q_mwr_ q_mdk_ q_mcp_ y1.2.1 M.2.1 M.2.2.1 M.2.2.2.1 M.2.2.2.2.1 y1.2.2 M.2.2.2.2.2.2.1 M.2.2.2.2.2.2.2.1 M.2.2.2.2.2.2.2.2)) (V := (w_lo cI cA cL q_out q_va q_aa q_cl q_fu Q x.2.1 x.2.2)) hP hD (fun q h => hA q (Nat.le_trans hS.1 h)) hk1 hP1 hD1
  have hS := hS0
  generalize H1 = H at hP hS ⊢
  have hP : va_P (dC, dI) vwCl ((w_model cI q_mo q_mlb_ q_mcl_ q_mus_ q_mwr_ q_mdk_ q_mcp_ y1.2.1 M.2.1 M.2.2.1 M.2.2.2.1 M.2.2.2.2.1 y1.2.2 M.2.2.2.2.2.2.1 M.2.2.2.2.2.2.2.1 M.2.2.2.2.2.2.2.2) ++ (w_lo cI cA cL q_out q_va q_aa q_cl q_fu Q x.2.1 x.2.2)) H := hP
  have hD : va_D A ((w_model cI q_mo q_mlb_ q_mcl_ q_mus_ q_mwr_ q_mdk_ q_mcp_ y1.2.1 M.2.1 M.2.2.1 M.2.2.2.1 M.2.2.2.2.1 y1.2.2 M.2.2.2.2.2.2.1 M.2.2.2.2.2.2.2.1 M.2.2.2.2.2.2.2.2) ++ (w_lo cI cA cL q_out q_va q_aa q_cl q_fu Q x.2.1 x.2.2)) := hD
  refine lv_istore (lv' := [(6, .int y1.1), (5, .int x.1), (0, .ref b), (1, .ref q_va), (2, .ref q_mo), (3, .ref q_out), (4, .int i)]) hx hb d_law_429 hl (by decide) rfl (fun ls hl => ?_)
  refine lv_aload_n hx hb d_law_431 rfl (lv_at hl 4 rfl) ?_
  obtain ⟨y2, gy2, hf⟩ := jv_ob hf
  have hPl : va_P (dC, dI) vwCl (w_model cI q_mo q_mlb_ q_mcl_ q_mus_ q_mwr_ q_mdk_ q_mcp_ y1.2.1 M.2.1 M.2.2.1 M.2.2.2.1 M.2.2.2.2.1 y1.2.2 M.2.2.2.2.2.2.1 M.2.2.2.2.2.2.2.1 M.2.2.2.2.2.2.2.2) H := jv_PL (Y := (w_lo cI cA cL q_out q_va q_aa q_cl q_fu Q x.2.1 x.2.2)) hP
  have hDl : va_D A (w_model cI q_mo q_mlb_ q_mcl_ q_mus_ q_mwr_ q_mdk_ q_mcp_ y1.2.1 M.2.1 M.2.2.1 M.2.2.2.1 M.2.2.2.2.1 y1.2.2 M.2.2.2.2.2.2.1 M.2.2.2.2.2.2.2.1 M.2.2.2.2.2.2.2.2) := jv_DL (Y := (w_lo cI cA cL q_out q_va q_aa q_cl q_fu Q x.2.1 x.2.2)) hD
  refine jv_cs (W.runV (As := []) (rest := []) (b := q_mo) ⟨hx, hb, hml, hown, hts⟩ (c_M_thrown l dC dI cI cA cL q_mo q_mlb_ q_mcl_ q_mus_ q_mwr_ q_mdk_ q_mcp_ y1.2.1 M.2.1 M.2.2.1 M.2.2.2.1 M.2.2.2.2.1 y1.2.2 M.2.2.2.2.2.2.1 M.2.2.2.2.2.2.2.1 M.2.2.2.2.2.2.2.2 y2 gy2) (jv_cwV hts wa_597 wa_194 wa_598 wa_599 wa_600 rfl rfl yd_M_thrown ⟨Nat.le_of_ble_eq_true rfl, Nat.le_of_ble_eq_true rfl⟩) (jv_preV hK hPl 0 rfl rfl) rfl rfl hl.1 rfl (lv_room (Nat.le_of_ble_eq_true rfl)) d_law_432 ⟨hc, hsl⟩) ?_
  refine lv_iload hx hb d_law_435 (lv_at hl 1 rfl) ?_
  obtain ⟨he, hf⟩ := jv_gd hf
  refine lv_icmp_eq (tgt := 442) hx hb d_law_437 (by decide) (fun _ => ?_) (fun h9 => absurd he h9)
  refine lv_iload hx hb d_law_442 (lv_at hl 1 rfl) ?_
  by_cases hz : x.1 = 0
  · have hf := jv_it hf hz
    refine lv_if_ne (tgt := 459) hx hb d_law_444 (by decide) (fun h9 => absurd hz h9) (fun _ => ?_)
    refine lv_aload_n hx hb d_law_447 rfl (lv_at hl 5 rfl) ?_
    refine lv_iconst (v := (0 : Int32)) hx hb d_law_448 (by decide) ?_
    refine va_lald hx hb hK hP 7 2 rfl rfl (by unfold vp_in; decide) d_law_449 ?_
    refine lv_iload hx hb d_law_450 (lv_at hl 0 rfl) ?_
    obtain ⟨ho, hf⟩ := jv_gd hf
    refine lv_i2l hx hb d_law_452 rfl ?_
    refine jv_lcmp0 hx hb ho d_law_453 ?_
    refine lv_if_eq (tgt := 459) hx hb d_law_454 (by decide) (fun _ => ?_) (fun h9 => absurd rfl h9)
    obtain rfl := Option.some.inj hf
    refine lv_goto (tgt := 1401) hx hb d_law_459 (by decide) ?_
    exact KK Q H locs ls (lv_sub hl [2, 3, 4, 5, 6] rfl) hP hD hS
  · have hf := jv_if hf hz
    refine lv_if_ne (tgt := 459) hx hb d_law_444 (by decide) (fun _ => ?_) (fun h9 => absurd h9 hz)
    obtain rfl := Option.some.inj hf
    refine lv_goto (tgt := 1401) hx hb d_law_459 (by decide) ?_
    exact KK Q H locs ls (lv_sub hl [2, 3, 4, 5, 6] rfl) hP hD hS
theorem d_law_462 : decode cc_law 462 = .ok (.aload_n 1, 1) := by decide +kernel
theorem d_law_463 : decode cc_law 463 = .ok (.aload_n 0, 1) := by decide +kernel
theorem d_law_464 : decode cc_law 464 = .ok (.iload 4, 2) := by decide +kernel
theorem d_law_466 : decode cc_law 466 = .ok (.iconst 1, 1) := by decide +kernel
theorem d_law_467 : decode cc_law 467 = .ok (.iadd, 1) := by decide +kernel
theorem d_law_468 : decode cc_law 468 = .ok (.iaload, 1) := by decide +kernel
theorem d_law_469 : decode cc_law 469 = .ok (.aload_n 0, 1) := by decide +kernel
theorem d_law_470 : decode cc_law 470 = .ok (.iload 4, 2) := by decide +kernel
theorem d_law_472 : decode cc_law 472 = .ok (.iconst 2, 1) := by decide +kernel
theorem d_law_473 : decode cc_law 473 = .ok (.iadd, 1) := by decide +kernel
theorem d_law_474 : decode cc_law 474 = .ok (.iaload, 1) := by decide +kernel
theorem d_law_475 : decode cc_law 475 = .ok (.aload_n 0, 1) := by decide +kernel
theorem d_law_476 : decode cc_law 476 = .ok (.iload 4, 2) := by decide +kernel
theorem d_law_478 : decode cc_law 478 = .ok (.iconst 3, 1) := by decide +kernel
theorem d_law_479 : decode cc_law 479 = .ok (.iadd, 1) := by decide +kernel
theorem d_law_480 : decode cc_law 480 = .ok (.iaload, 1) := by decide +kernel
theorem d_law_481 : decode cc_law 481 = .ok (.aload_n 3, 1) := by decide +kernel
theorem d_law_482 : decode cc_law 482 = .ok (.invokestatic 100, 3) := by decide +kernel
theorem d_law_485 : decode cc_law 485 = .ok (.istore 5, 2) := by decide +kernel
theorem d_law_487 : decode cc_law 487 = .ok (.aload_n 2, 1) := by decide +kernel
theorem d_law_488 : decode cc_law 488 = .ok (.aload_n 0, 1) := by decide +kernel
theorem d_law_489 : decode cc_law 489 = .ok (.iload 4, 2) := by decide +kernel
theorem d_law_491 : decode cc_law 491 = .ok (.iconst 1, 1) := by decide +kernel
theorem d_law_492 : decode cc_law 492 = .ok (.iadd, 1) := by decide +kernel
theorem d_law_493 : decode cc_law 493 = .ok (.iaload, 1) := by decide +kernel
theorem d_law_494 : decode cc_law 494 = .ok (.aload_n 0, 1) := by decide +kernel
theorem d_law_495 : decode cc_law 495 = .ok (.iload 4, 2) := by decide +kernel
theorem d_law_497 : decode cc_law 497 = .ok (.iconst 2, 1) := by decide +kernel
theorem d_law_498 : decode cc_law 498 = .ok (.iadd, 1) := by decide +kernel
theorem d_law_499 : decode cc_law 499 = .ok (.iaload, 1) := by decide +kernel
theorem d_law_500 : decode cc_law 500 = .ok (.aload_n 0, 1) := by decide +kernel
theorem d_law_501 : decode cc_law 501 = .ok (.iload 4, 2) := by decide +kernel
theorem d_law_503 : decode cc_law 503 = .ok (.iconst 3, 1) := by decide +kernel
theorem d_law_504 : decode cc_law 504 = .ok (.iadd, 1) := by decide +kernel
theorem d_law_505 : decode cc_law 505 = .ok (.iaload, 1) := by decide +kernel
theorem d_law_506 : decode cc_law 506 = .ok (.invokevirtual 103, 3) := by decide +kernel
theorem d_law_509 : decode cc_law 509 = .ok (.istore 6, 2) := by decide +kernel
theorem d_law_511 : decode cc_law 511 = .ok (.aload_n 2, 1) := by decide +kernel
theorem d_law_512 : decode cc_law 512 = .ok (.invokevirtual 83, 3) := by decide +kernel
theorem d_law_515 : decode cc_law 515 = .ok (.iload 5, 2) := by decide +kernel
theorem d_law_517 : decode cc_law 517 = .ok (.if_icmp .eq 5, 3) := by decide +kernel
theorem d_law_522 : decode cc_law 522 = .ok (.iload 5, 2) := by decide +kernel
theorem d_law_524 : decode cc_law 524 = .ok (.ifCond .ne 15, 3) := by decide +kernel
theorem d_law_527 : decode cc_law 527 = .ok (.aload_n 3, 1) := by decide +kernel
theorem d_law_528 : decode cc_law 528 = .ok (.iconst 0, 1) := by decide +kernel
theorem d_law_529 : decode cc_law 529 = .ok (.laload, 1) := by decide +kernel
theorem d_law_530 : decode cc_law 530 = .ok (.iload 6, 2) := by decide +kernel
theorem d_law_532 : decode cc_law 532 = .ok (.i2l, 1) := by decide +kernel
theorem d_law_533 : decode cc_law 533 = .ok (.lcmp, 1) := by decide +kernel
theorem d_law_534 : decode cc_law 534 = .ok (.ifCond .eq 5, 3) := by decide +kernel
theorem d_law_539 : decode cc_law 539 = .ok (.goto 862, 3) := by decide +kernel
def s_5 (S : jv_vs) (vO : Nat → Int64) (M : jv_ms) (p1 : Int32) (p2 : Int32) (p3 : Int32) : Option jv_st :=
  (l_make S p1 p2 p3 vO).bind fun x => (f_M_make M.2.1 M.2.2.2.1 p1 p2 p3 M.1 M.2.2.1 M.2.2.2.2.2.1 M.2.2.2.2.2.2.1 M.2.2.2.2.2.2.2.1 M.2.2.2.2.2.2.2.2).bind fun y1 => (f_M_thrown y1.2.1).bind fun y2 => if y2 = x.1 then (if x.1 = 0 then (if x.2.2 (0 : Int32).toNatClampNeg = (y1.1).toInt64 then (some (x.2.1, x.2.2, y1.2.1, M.2.1, y1.2.2.1, M.2.2.2.1, M.2.2.2.2.1, y1.2.2.2.1, y1.2.2.2.2.1, y1.2.2.2.2.2.1, y1.2.2.2.2.2.2)) else none) else (some (x.2.1, x.2.2, y1.2.1, M.2.1, y1.2.2.1, M.2.2.2.1, M.2.2.2.2.1, y1.2.2.2.1, y1.2.2.2.2.1, y1.2.2.2.2.2.1, y1.2.2.2.2.2.2))) else none
set_option maxHeartbeats 4000000 in
set_option maxRecDepth 100000 in
theorem b_law_5 {l : Launch} {dC : Nat → ClassId} {dI : Nat → Nat → Nat} {cI cA cL : ClassId} {q_mo q_mlb_ q_mcl_ q_mus_ q_mwr_ q_mdk_ q_mcp_ q_out q_va q_aa q_cl q_fu : Nat} {p : Program} {e : Env} {s : State} {m : MethodId} {below : List Frame} {meth : Method} {c : Code} {b L : Nat} {xs : Nat → Int32} (hl9 : l.stackTraces = false) (hx : p.tables.exec = Jvm.exec) (hb : c.code = code) (hml : c.maxLocals = 7) (hown : s.vm.findClass R_Law = some m.cls) (hts : ∀ w ∈ Cond.tt :: jv_LT, w.before #[Value.ref b] s = true) (hX : va_X b L xs s s.heap) (hbl : b < s.heap.size) (hK : va_K (dC, dI) vwCl (jv_ty cI cA cL) s) (hTc : jv_tc s) {A : Nat → Prop} (hA : ∀ q : Nat, s.heap.size ≤ q → A q) (hAn : ∀ q : Nat, A q → s.heap.size ≤ q) {Z : State → Prop} {Q : Nat → Nat → Nat} {i : Int32} (hi1 : vp_in (i + (1 : Int32)) L) (hi2 : vp_in (i + (2 : Int32)) L) (hi3 : vp_in (i + (3 : Int32)) L) {S : jv_vs} {vO : Nat → Int64} {M : jv_ms} {r : jv_st} {H : Heap} {locs : List Loc} {cells slots : Nat} (hc : cells + 8 ≤ room_1.cells) (hsl : slots + 713 ≤ room_1.slots) {ls : Array Slot} (hl : lv_has ls 7 [(0, .ref b), (1, .ref q_va), (2, .ref q_mo), (3, .ref q_out), (4, .int i)]) (hP : va_P (dC, dI) vwCl ((w_model cI q_mo q_mlb_ q_mcl_ q_mus_ q_mwr_ q_mdk_ q_mcp_ M.1 M.2.1 M.2.2.1 M.2.2.2.1 M.2.2.2.2.1 M.2.2.2.2.2.1 M.2.2.2.2.2.2.1 M.2.2.2.2.2.2.2.1 M.2.2.2.2.2.2.2.2) ++ (w_lo cI cA cL q_out q_va q_aa q_cl q_fu Q S vO)) H) (hD : va_D A ((w_model cI q_mo q_mlb_ q_mcl_ q_mus_ q_mwr_ q_mdk_ q_mcp_ M.1 M.2.1 M.2.2.1 M.2.2.2.1 M.2.2.2.2.1 M.2.2.2.2.2.1 M.2.2.2.2.2.2.1 M.2.2.2.2.2.2.2.1 M.2.2.2.2.2.2.2.2) ++ (w_lo cI cA cL q_out q_va q_aa q_cl q_fu Q S vO))) (hS : va_S A s.heap H locs) (hf : s_5 S vO M (xs (i + (1 : Int32)).toNatClampNeg) (xs (i + (2 : Int32)).toNatClampNeg) (xs (i + (3 : Int32)).toNatClampNeg) = some r) (KK : ∀ (Q : Nat → Nat → Nat) (H : Heap) (locs : List Loc) (ls : Array Slot), lv_has ls 7 [(0, .ref b), (1, .ref q_va), (2, .ref q_mo), (3, .ref q_out), (4, .int i)] → va_P (dC, dI) vwCl ((w_model cI q_mo q_mlb_ q_mcl_ q_mus_ q_mwr_ q_mdk_ q_mcp_ r.2.2.1 r.2.2.2.1 r.2.2.2.2.1 r.2.2.2.2.2.1 r.2.2.2.2.2.2.1 r.2.2.2.2.2.2.2.1 r.2.2.2.2.2.2.2.2.1 r.2.2.2.2.2.2.2.2.2.1 r.2.2.2.2.2.2.2.2.2.2) ++ (w_lo cI cA cL q_out q_va q_aa q_cl q_fu Q r.1 r.2.1)) H → va_D A ((w_model cI q_mo q_mlb_ q_mcl_ q_mus_ q_mwr_ q_mdk_ q_mcp_ r.2.2.1 r.2.2.2.1 r.2.2.2.2.1 r.2.2.2.2.2.1 r.2.2.2.2.2.2.1 r.2.2.2.2.2.2.2.1 r.2.2.2.2.2.2.2.2.1 r.2.2.2.2.2.2.2.2.2.1 r.2.2.2.2.2.2.2.2.2.2) ++ (w_lo cI cA cL q_out q_va q_aa q_cl q_fu Q r.1 r.2.1)) → va_S A s.heap H locs → W p l e room_1 s m #[Value.ref b] below meth c H locs (cells + 8) (slots + 713) Z (F0 m 1401 ls [])) : W p l e room_1 s m #[Value.ref b] below meth c H locs cells slots Z (F0 m 462 ls []) := by
  have hbA : ¬ A b := fun h => absurd (hAn b h) (by omega)
  unfold s_5 at hf
  refine lv_aload_n hx hb d_law_462 rfl (lv_at hl 1 rfl) ?_
  refine lv_aload_n hx hb d_law_463 rfl (lv_at hl 0 rfl) ?_
  refine lv_iload hx hb d_law_464 (lv_at hl 4 rfl) ?_
  refine lv_iconst (v := (1 : Int32)) hx hb d_law_466 (by decide) ?_
  refine lv_iadd hx hb d_law_467 ?_
  refine va_sld hx hb hX hbl hbA hS hi1 d_law_468 ?_
  refine lv_aload_n hx hb d_law_469 rfl (lv_at hl 0 rfl) ?_
  refine lv_iload hx hb d_law_470 (lv_at hl 4 rfl) ?_
  refine lv_iconst (v := (2 : Int32)) hx hb d_law_472 (by decide) ?_
  refine lv_iadd hx hb d_law_473 ?_
  refine va_sld hx hb hX hbl hbA hS hi2 d_law_474 ?_
  refine lv_aload_n hx hb d_law_475 rfl (lv_at hl 0 rfl) ?_
  refine lv_iload hx hb d_law_476 (lv_at hl 4 rfl) ?_
  refine lv_iconst (v := (3 : Int32)) hx hb d_law_478 (by decide) ?_
  refine lv_iadd hx hb d_law_479 ?_
  refine va_sld hx hb hX hbl hbA hS hi3 d_law_480 ?_
  refine lv_aload_n hx hb d_law_481 rfl (lv_at hl 3 rfl) ?_
  obtain ⟨x, gx, hf⟩ := jv_ob hf
  have hPr : va_P (dC, dI) vwCl (w_lo cI cA cL q_out q_va q_aa q_cl q_fu Q S vO) H := jv_PR (X := (w_model cI q_mo q_mlb_ q_mcl_ q_mus_ q_mwr_ q_mdk_ q_mcp_ M.1 M.2.1 M.2.2.1 M.2.2.2.1 M.2.2.2.2.1 M.2.2.2.2.2.1 M.2.2.2.2.2.2.1 M.2.2.2.2.2.2.2.1 M.2.2.2.2.2.2.2.2)) hP
  have hDr : va_D A (w_lo cI cA cL q_out q_va q_aa q_cl q_fu Q S vO) := jv_DR (X := (w_model cI q_mo q_mlb_ q_mcl_ q_mus_ q_mwr_ q_mdk_ q_mcp_ M.1 M.2.1 M.2.2.1 M.2.2.2.1 M.2.2.2.2.1 M.2.2.2.2.2.1 M.2.2.2.2.2.2.1 M.2.2.2.2.2.2.2.1 M.2.2.2.2.2.2.2.2)) hD
  have hFc := jv_fr hDr hS hA
  refine jv_cwl (vx_runSW (As := [.ref q_va, .int (xs (i + (1 : Int32)).toNatClampNeg), .int (xs (i + (2 : Int32)).toNatClampNeg), .int (xs (i + (3 : Int32)).toNatClampNeg), .ref q_out]) (rest := []) ⟨hx, hb, hml, hown, hts⟩ (c_L_make l hl9 dC dI cI cA cL q_out q_va q_aa q_cl q_fu Q S vO (xs (i + (1 : Int32)).toNatClampNeg) (xs (i + (2 : Int32)).toNatClampNeg) (xs (i + (3 : Int32)).toNatClampNeg) H.size x gx) (jv_cwSW hts wa_629 wa_590 wa_630 wa_631 rfl rfl yd_L_make ⟨Nat.le_of_ble_eq_true rfl, Nat.le_of_ble_eq_true rfl⟩) (jv_preSlw hTc hK hPr hDr (fun q hq => hS.2.1 q hq (fun h => absurd (hAn q h) (by omega)))) rfl rfl hl.1 rfl (lv_room (Nat.le_of_ble_eq_true rfl)) d_law_482 ⟨hc, hsl⟩) hS hFc (fun Q H1 locs hP1 hD1 hk1 hS0 => ?_)
  obtain ⟨hP, hD⟩ := jv_joinR (V1 := (w_lo cI cA cL q_out q_va q_aa q_cl q_fu Q x.2.1 x.2.2)) hk1 hP1 hD1 (w_model cI q_mo q_mlb_ q_mcl_ q_mus_ q_mwr_ q_mdk_ q_mcp_ M.1 M.2.1 M.2.2.1 M.2.2.2.1 M.2.2.2.2.1 M.2.2.2.2.2.1 M.2.2.2.2.2.2.1 M.2.2.2.2.2.2.2.1 M.2.2.2.2.2.2.2.2) A (fun q h => hA q (Nat.le_trans hS.1 h)) hP hD
  have hS := hS0
  generalize H1 = H at hP hS ⊢
  have hP : va_P (dC, dI) vwCl ((w_model cI q_mo q_mlb_ q_mcl_ q_mus_ q_mwr_ q_mdk_ q_mcp_ M.1 M.2.1 M.2.2.1 M.2.2.2.1 M.2.2.2.2.1 M.2.2.2.2.2.1 M.2.2.2.2.2.2.1 M.2.2.2.2.2.2.2.1 M.2.2.2.2.2.2.2.2) ++ (w_lo cI cA cL q_out q_va q_aa q_cl q_fu Q x.2.1 x.2.2)) H := hP
  have hD : va_D A ((w_model cI q_mo q_mlb_ q_mcl_ q_mus_ q_mwr_ q_mdk_ q_mcp_ M.1 M.2.1 M.2.2.1 M.2.2.2.1 M.2.2.2.2.1 M.2.2.2.2.2.1 M.2.2.2.2.2.2.1 M.2.2.2.2.2.2.2.1 M.2.2.2.2.2.2.2.2) ++ (w_lo cI cA cL q_out q_va q_aa q_cl q_fu Q x.2.1 x.2.2)) := hD
  refine lv_istore (lv' := [(5, .int x.1), (0, .ref b), (1, .ref q_va), (2, .ref q_mo), (3, .ref q_out), (4, .int i)]) hx hb d_law_485 hl (by decide) rfl (fun ls hl => ?_)
  refine lv_aload_n hx hb d_law_487 rfl (lv_at hl 3 rfl) ?_
  refine lv_aload_n hx hb d_law_488 rfl (lv_at hl 1 rfl) ?_
  refine lv_iload hx hb d_law_489 (lv_at hl 5 rfl) ?_
  refine lv_iconst (v := (1 : Int32)) hx hb d_law_491 (by decide) ?_
  refine lv_iadd hx hb d_law_492 ?_
  refine va_sld hx hb hX hbl hbA hS hi1 d_law_493 ?_
  refine lv_aload_n hx hb d_law_494 rfl (lv_at hl 1 rfl) ?_
  refine lv_iload hx hb d_law_495 (lv_at hl 5 rfl) ?_
  refine lv_iconst (v := (2 : Int32)) hx hb d_law_497 (by decide) ?_
  refine lv_iadd hx hb d_law_498 ?_
  refine va_sld hx hb hX hbl hbA hS hi2 d_law_499 ?_
  refine lv_aload_n hx hb d_law_500 rfl (lv_at hl 1 rfl) ?_
  refine lv_iload hx hb d_law_501 (lv_at hl 5 rfl) ?_
  refine lv_iconst (v := (3 : Int32)) hx hb d_law_503 (by decide) ?_
  refine lv_iadd hx hb d_law_504 ?_
  refine va_sld hx hb hX hbl hbA hS hi3 d_law_505 ?_
  obtain ⟨y1, gy1, hf⟩ := jv_ob hf
  have hPl : va_P (dC, dI) vwCl (w_model cI q_mo q_mlb_ q_mcl_ q_mus_ q_mwr_ q_mdk_ q_mcp_ M.1 M.2.1 M.2.2.1 M.2.2.2.1 M.2.2.2.2.1 M.2.2.2.2.2.1 M.2.2.2.2.2.2.1 M.2.2.2.2.2.2.2.1 M.2.2.2.2.2.2.2.2) H := jv_PL (Y := (w_lo cI cA cL q_out q_va q_aa q_cl q_fu Q x.2.1 x.2.2)) hP
  have hDl : va_D A (w_model cI q_mo q_mlb_ q_mcl_ q_mus_ q_mwr_ q_mdk_ q_mcp_ M.1 M.2.1 M.2.2.1 M.2.2.2.1 M.2.2.2.2.1 M.2.2.2.2.2.1 M.2.2.2.2.2.2.1 M.2.2.2.2.2.2.2.1 M.2.2.2.2.2.2.2.2) := jv_DL (Y := (w_lo cI cA cL q_out q_va q_aa q_cl q_fu Q x.2.1 x.2.2)) hD
  have hFc := jv_fr hDl hS hA
  refine jv_cwi (va_runV (As := [.int (xs (i + (1 : Int32)).toNatClampNeg), .int (xs (i + (2 : Int32)).toNatClampNeg), .int (xs (i + (3 : Int32)).toNatClampNeg)]) (rest := []) (b := q_mo) ⟨hx, hb, hml, hown, hts⟩ (c_M_make l dC dI cI cA cL q_mo q_mlb_ q_mcl_ q_mus_ q_mwr_ q_mdk_ q_mcp_ M.1 M.2.1 M.2.2.1 M.2.2.2.1 M.2.2.2.2.1 M.2.2.2.2.2.1 M.2.2.2.2.2.2.1 M.2.2.2.2.2.2.2.1 M.2.2.2.2.2.2.2.2 (xs (i + (1 : Int32)).toNatClampNeg) (xs (i + (2 : Int32)).toNatClampNeg) (xs (i + (3 : Int32)).toNatClampNeg) H.size y1 gy1) (jv_cwV hts wa_632 wa_194 wa_633 wa_634 wa_635 rfl rfl yd_M_make ⟨Nat.le_of_ble_eq_true rfl, Nat.le_of_ble_eq_true rfl⟩) (jv_preVW hK hPl hDl 0 rfl rfl) rfl rfl hl.1 rfl (lv_room (Nat.le_of_ble_eq_true rfl)) d_law_506 ⟨hc, hsl⟩) hS hFc (fun H1 locs hP1 hD1 hk1 hS0 => ?_)
  obtain ⟨hP, hD⟩ := jv_joinL (X := (w_model cI q_mo q_mlb_ q_mcl_ q_mus_ q_mwr_ q_mdk_ q_mcp_ M.1 M.2.1 M.2.2.1 M.2.2.2.1 M.2.2.2.2.1 M.2.2.2.2.2.1 M.2.2.2.2.2.2.1 M.2.2.2.2.2.2.2.1 M.2.2.2.2.2.2.2.2)) (X1 := (w_model cI q_mo q_mlb_ q_mcl_ q_mus_ q_mwr_ q_mdk_ q_mcp_ y1.2.1 M.2.1 y1.2.2.1 M.2.2.2.1 M.2.2.2.2.1 y1.2.2.2.1 y1.2.2.2.2.1 y1.2.2.2.2.2.1 y1.2.2.2.2.2.2)) (V := (w_lo cI cA cL q_out q_va q_aa q_cl q_fu Q x.2.1 x.2.2)) hP hD (fun q h => hA q (Nat.le_trans hS.1 h)) hk1 hP1 hD1
  have hS := hS0
  generalize H1 = H at hP hS ⊢
  have hP : va_P (dC, dI) vwCl ((w_model cI q_mo q_mlb_ q_mcl_ q_mus_ q_mwr_ q_mdk_ q_mcp_ y1.2.1 M.2.1 y1.2.2.1 M.2.2.2.1 M.2.2.2.2.1 y1.2.2.2.1 y1.2.2.2.2.1 y1.2.2.2.2.2.1 y1.2.2.2.2.2.2) ++ (w_lo cI cA cL q_out q_va q_aa q_cl q_fu Q x.2.1 x.2.2)) H := hP
  have hD : va_D A ((w_model cI q_mo q_mlb_ q_mcl_ q_mus_ q_mwr_ q_mdk_ q_mcp_ y1.2.1 M.2.1 y1.2.2.1 M.2.2.2.1 M.2.2.2.2.1 y1.2.2.2.1 y1.2.2.2.2.1 y1.2.2.2.2.2.1 y1.2.2.2.2.2.2) ++ (w_lo cI cA cL q_out q_va q_aa q_cl q_fu Q x.2.1 x.2.2)) := hD
  refine lv_istore (lv' := [(6, .int y1.1), (5, .int x.1), (0, .ref b), (1, .ref q_va), (2, .ref q_mo), (3, .ref q_out), (4, .int i)]) hx hb d_law_509 hl (by decide) rfl (fun ls hl => ?_)
  refine lv_aload_n hx hb d_law_511 rfl (lv_at hl 4 rfl) ?_
  obtain ⟨y2, gy2, hf⟩ := jv_ob hf
  have hPl : va_P (dC, dI) vwCl (w_model cI q_mo q_mlb_ q_mcl_ q_mus_ q_mwr_ q_mdk_ q_mcp_ y1.2.1 M.2.1 y1.2.2.1 M.2.2.2.1 M.2.2.2.2.1 y1.2.2.2.1 y1.2.2.2.2.1 y1.2.2.2.2.2.1 y1.2.2.2.2.2.2) H := jv_PL (Y := (w_lo cI cA cL q_out q_va q_aa q_cl q_fu Q x.2.1 x.2.2)) hP
  have hDl : va_D A (w_model cI q_mo q_mlb_ q_mcl_ q_mus_ q_mwr_ q_mdk_ q_mcp_ y1.2.1 M.2.1 y1.2.2.1 M.2.2.2.1 M.2.2.2.2.1 y1.2.2.2.1 y1.2.2.2.2.1 y1.2.2.2.2.2.1 y1.2.2.2.2.2.2) := jv_DL (Y := (w_lo cI cA cL q_out q_va q_aa q_cl q_fu Q x.2.1 x.2.2)) hD
  refine jv_cs (W.runV (As := []) (rest := []) (b := q_mo) ⟨hx, hb, hml, hown, hts⟩ (c_M_thrown l dC dI cI cA cL q_mo q_mlb_ q_mcl_ q_mus_ q_mwr_ q_mdk_ q_mcp_ y1.2.1 M.2.1 y1.2.2.1 M.2.2.2.1 M.2.2.2.2.1 y1.2.2.2.1 y1.2.2.2.2.1 y1.2.2.2.2.2.1 y1.2.2.2.2.2.2 y2 gy2) (jv_cwV hts wa_597 wa_194 wa_598 wa_599 wa_600 rfl rfl yd_M_thrown ⟨Nat.le_of_ble_eq_true rfl, Nat.le_of_ble_eq_true rfl⟩) (jv_preV hK hPl 0 rfl rfl) rfl rfl hl.1 rfl (lv_room (Nat.le_of_ble_eq_true rfl)) d_law_512 ⟨hc, hsl⟩) ?_
  refine lv_iload hx hb d_law_515 (lv_at hl 1 rfl) ?_
  obtain ⟨he, hf⟩ := jv_gd hf
  refine lv_icmp_eq (tgt := 522) hx hb d_law_517 (by decide) (fun _ => ?_) (fun h9 => absurd he h9)
  refine lv_iload hx hb d_law_522 (lv_at hl 1 rfl) ?_
  by_cases hz : x.1 = 0
  · have hf := jv_it hf hz
    refine lv_if_ne (tgt := 539) hx hb d_law_524 (by decide) (fun h9 => absurd hz h9) (fun _ => ?_)
    refine lv_aload_n hx hb d_law_527 rfl (lv_at hl 5 rfl) ?_
    refine lv_iconst (v := (0 : Int32)) hx hb d_law_528 (by decide) ?_
    refine va_lald hx hb hK hP 7 2 rfl rfl (by unfold vp_in; decide) d_law_529 ?_
    refine lv_iload hx hb d_law_530 (lv_at hl 0 rfl) ?_
    obtain ⟨ho, hf⟩ := jv_gd hf
    refine lv_i2l hx hb d_law_532 rfl ?_
    refine jv_lcmp0 hx hb ho d_law_533 ?_
    refine lv_if_eq (tgt := 539) hx hb d_law_534 (by decide) (fun _ => ?_) (fun h9 => absurd rfl h9)
    obtain rfl := Option.some.inj hf
    refine lv_goto (tgt := 1401) hx hb d_law_539 (by decide) ?_
    exact KK Q H locs ls (lv_sub hl [2, 3, 4, 5, 6] rfl) hP hD hS
  · have hf := jv_if hf hz
    refine lv_if_ne (tgt := 539) hx hb d_law_524 (by decide) (fun _ => ?_) (fun h9 => absurd h9 hz)
    obtain rfl := Option.some.inj hf
    refine lv_goto (tgt := 1401) hx hb d_law_539 (by decide) ?_
    exact KK Q H locs ls (lv_sub hl [2, 3, 4, 5, 6] rfl) hP hD hS
theorem d_law_542 : decode cc_law 542 = .ok (.aload_n 1, 1) := by decide +kernel
theorem d_law_543 : decode cc_law 543 = .ok (.aload_n 0, 1) := by decide +kernel
theorem d_law_544 : decode cc_law 544 = .ok (.iload 4, 2) := by decide +kernel
theorem d_law_546 : decode cc_law 546 = .ok (.iconst 1, 1) := by decide +kernel
theorem d_law_547 : decode cc_law 547 = .ok (.iadd, 1) := by decide +kernel
theorem d_law_548 : decode cc_law 548 = .ok (.iaload, 1) := by decide +kernel
theorem d_law_549 : decode cc_law 549 = .ok (.aload_n 0, 1) := by decide +kernel
theorem d_law_550 : decode cc_law 550 = .ok (.iload 4, 2) := by decide +kernel
theorem d_law_552 : decode cc_law 552 = .ok (.iconst 2, 1) := by decide +kernel
theorem d_law_553 : decode cc_law 553 = .ok (.iadd, 1) := by decide +kernel
theorem d_law_554 : decode cc_law 554 = .ok (.iaload, 1) := by decide +kernel
theorem d_law_555 : decode cc_law 555 = .ok (.aload_n 0, 1) := by decide +kernel
theorem d_law_556 : decode cc_law 556 = .ok (.iload 4, 2) := by decide +kernel
theorem d_law_558 : decode cc_law 558 = .ok (.iconst 3, 1) := by decide +kernel
theorem d_law_559 : decode cc_law 559 = .ok (.iadd, 1) := by decide +kernel
theorem d_law_560 : decode cc_law 560 = .ok (.iaload, 1) := by decide +kernel
theorem d_law_561 : decode cc_law 561 = .ok (.aload_n 0, 1) := by decide +kernel
theorem d_law_562 : decode cc_law 562 = .ok (.iload 4, 2) := by decide +kernel
theorem d_law_564 : decode cc_law 564 = .ok (.iconst 4, 1) := by decide +kernel
theorem d_law_565 : decode cc_law 565 = .ok (.iadd, 1) := by decide +kernel
theorem d_law_566 : decode cc_law 566 = .ok (.iaload, 1) := by decide +kernel
theorem d_law_567 : decode cc_law 567 = .ok (.aload_n 3, 1) := by decide +kernel
theorem d_law_568 : decode cc_law 568 = .ok (.invokestatic 104, 3) := by decide +kernel
theorem d_law_571 : decode cc_law 571 = .ok (.istore 5, 2) := by decide +kernel
theorem d_law_573 : decode cc_law 573 = .ok (.aload_n 2, 1) := by decide +kernel
theorem d_law_574 : decode cc_law 574 = .ok (.aload_n 0, 1) := by decide +kernel
theorem d_law_575 : decode cc_law 575 = .ok (.iload 4, 2) := by decide +kernel
theorem d_law_577 : decode cc_law 577 = .ok (.iconst 1, 1) := by decide +kernel
theorem d_law_578 : decode cc_law 578 = .ok (.iadd, 1) := by decide +kernel
theorem d_law_579 : decode cc_law 579 = .ok (.iaload, 1) := by decide +kernel
theorem d_law_580 : decode cc_law 580 = .ok (.aload_n 0, 1) := by decide +kernel
theorem d_law_581 : decode cc_law 581 = .ok (.iload 4, 2) := by decide +kernel
theorem d_law_583 : decode cc_law 583 = .ok (.iconst 2, 1) := by decide +kernel
theorem d_law_584 : decode cc_law 584 = .ok (.iadd, 1) := by decide +kernel
theorem d_law_585 : decode cc_law 585 = .ok (.iaload, 1) := by decide +kernel
theorem d_law_586 : decode cc_law 586 = .ok (.aload_n 0, 1) := by decide +kernel
theorem d_law_587 : decode cc_law 587 = .ok (.iload 4, 2) := by decide +kernel
theorem d_law_589 : decode cc_law 589 = .ok (.iconst 3, 1) := by decide +kernel
theorem d_law_590 : decode cc_law 590 = .ok (.iadd, 1) := by decide +kernel
theorem d_law_591 : decode cc_law 591 = .ok (.iaload, 1) := by decide +kernel
theorem d_law_592 : decode cc_law 592 = .ok (.aload_n 0, 1) := by decide +kernel
theorem d_law_593 : decode cc_law 593 = .ok (.iload 4, 2) := by decide +kernel
theorem d_law_595 : decode cc_law 595 = .ok (.iconst 4, 1) := by decide +kernel
theorem d_law_596 : decode cc_law 596 = .ok (.iadd, 1) := by decide +kernel
theorem d_law_597 : decode cc_law 597 = .ok (.iaload, 1) := by decide +kernel
theorem d_law_598 : decode cc_law 598 = .ok (.invokevirtual 107, 3) := by decide +kernel
theorem d_law_601 : decode cc_law 601 = .ok (.istore 6, 2) := by decide +kernel
theorem d_law_603 : decode cc_law 603 = .ok (.aload_n 2, 1) := by decide +kernel
theorem d_law_604 : decode cc_law 604 = .ok (.invokevirtual 83, 3) := by decide +kernel
theorem d_law_607 : decode cc_law 607 = .ok (.iload 5, 2) := by decide +kernel
theorem d_law_609 : decode cc_law 609 = .ok (.if_icmp .eq 5, 3) := by decide +kernel
theorem d_law_614 : decode cc_law 614 = .ok (.iload 5, 2) := by decide +kernel
theorem d_law_616 : decode cc_law 616 = .ok (.ifCond .ne 15, 3) := by decide +kernel
theorem d_law_619 : decode cc_law 619 = .ok (.aload_n 3, 1) := by decide +kernel
theorem d_law_620 : decode cc_law 620 = .ok (.iconst 0, 1) := by decide +kernel
theorem d_law_621 : decode cc_law 621 = .ok (.laload, 1) := by decide +kernel
theorem d_law_622 : decode cc_law 622 = .ok (.iload 6, 2) := by decide +kernel
theorem d_law_624 : decode cc_law 624 = .ok (.i2l, 1) := by decide +kernel
theorem d_law_625 : decode cc_law 625 = .ok (.lcmp, 1) := by decide +kernel
theorem d_law_626 : decode cc_law 626 = .ok (.ifCond .eq 5, 3) := by decide +kernel
theorem d_law_631 : decode cc_law 631 = .ok (.goto 770, 3) := by decide +kernel
def s_6 (S : jv_vs) (vO : Nat → Int64) (M : jv_ms) (p1 : Int32) (p2 : Int32) (p3 : Int32) (p4 : Int32) : Option jv_st :=
  (l_write S p1 p2 p3 p4 vO).bind fun x => (f_M_write M.2.1 M.2.2.2.1 p1 p2 p3 p4 M.1 M.2.2.1 M.2.2.2.2.2.1 M.2.2.2.2.2.2.1 M.2.2.2.2.2.2.2.1 M.2.2.2.2.2.2.2.2).bind fun y1 => (f_M_thrown y1.2.1).bind fun y2 => if y2 = x.1 then (if x.1 = 0 then (if x.2.2 (0 : Int32).toNatClampNeg = (y1.1).toInt64 then (some (x.2.1, x.2.2, y1.2.1, M.2.1, y1.2.2.1, M.2.2.2.1, M.2.2.2.2.1, y1.2.2.2.1, y1.2.2.2.2.1, y1.2.2.2.2.2.1, y1.2.2.2.2.2.2)) else none) else (some (x.2.1, x.2.2, y1.2.1, M.2.1, y1.2.2.1, M.2.2.2.1, M.2.2.2.2.1, y1.2.2.2.1, y1.2.2.2.2.1, y1.2.2.2.2.2.1, y1.2.2.2.2.2.2))) else none
set_option maxHeartbeats 4000000 in
set_option maxRecDepth 100000 in
theorem b_law_6 {l : Launch} {dC : Nat → ClassId} {dI : Nat → Nat → Nat} {cI cA cL : ClassId} {q_mo q_mlb_ q_mcl_ q_mus_ q_mwr_ q_mdk_ q_mcp_ q_out q_va q_aa q_cl q_fu : Nat} {p : Program} {e : Env} {s : State} {m : MethodId} {below : List Frame} {meth : Method} {c : Code} {b L : Nat} {xs : Nat → Int32} (hl9 : l.stackTraces = false) (hx : p.tables.exec = Jvm.exec) (hb : c.code = code) (hml : c.maxLocals = 7) (hown : s.vm.findClass R_Law = some m.cls) (hts : ∀ w ∈ Cond.tt :: jv_LT, w.before #[Value.ref b] s = true) (hX : va_X b L xs s s.heap) (hbl : b < s.heap.size) (hK : va_K (dC, dI) vwCl (jv_ty cI cA cL) s) (hTc : jv_tc s) {A : Nat → Prop} (hA : ∀ q : Nat, s.heap.size ≤ q → A q) (hAn : ∀ q : Nat, A q → s.heap.size ≤ q) {Z : State → Prop} {Q : Nat → Nat → Nat} {i : Int32} (hi1 : vp_in (i + (1 : Int32)) L) (hi2 : vp_in (i + (2 : Int32)) L) (hi3 : vp_in (i + (3 : Int32)) L) (hi4 : vp_in (i + (4 : Int32)) L) {S : jv_vs} {vO : Nat → Int64} {M : jv_ms} {r : jv_st} {H : Heap} {locs : List Loc} {cells slots : Nat} (hc : cells + 8 ≤ room_1.cells) (hsl : slots + 713 ≤ room_1.slots) {ls : Array Slot} (hl : lv_has ls 7 [(0, .ref b), (1, .ref q_va), (2, .ref q_mo), (3, .ref q_out), (4, .int i)]) (hP : va_P (dC, dI) vwCl ((w_model cI q_mo q_mlb_ q_mcl_ q_mus_ q_mwr_ q_mdk_ q_mcp_ M.1 M.2.1 M.2.2.1 M.2.2.2.1 M.2.2.2.2.1 M.2.2.2.2.2.1 M.2.2.2.2.2.2.1 M.2.2.2.2.2.2.2.1 M.2.2.2.2.2.2.2.2) ++ (w_lo cI cA cL q_out q_va q_aa q_cl q_fu Q S vO)) H) (hD : va_D A ((w_model cI q_mo q_mlb_ q_mcl_ q_mus_ q_mwr_ q_mdk_ q_mcp_ M.1 M.2.1 M.2.2.1 M.2.2.2.1 M.2.2.2.2.1 M.2.2.2.2.2.1 M.2.2.2.2.2.2.1 M.2.2.2.2.2.2.2.1 M.2.2.2.2.2.2.2.2) ++ (w_lo cI cA cL q_out q_va q_aa q_cl q_fu Q S vO))) (hS : va_S A s.heap H locs) (hf : s_6 S vO M (xs (i + (1 : Int32)).toNatClampNeg) (xs (i + (2 : Int32)).toNatClampNeg) (xs (i + (3 : Int32)).toNatClampNeg) (xs (i + (4 : Int32)).toNatClampNeg) = some r) (KK : ∀ (Q : Nat → Nat → Nat) (H : Heap) (locs : List Loc) (ls : Array Slot), lv_has ls 7 [(0, .ref b), (1, .ref q_va), (2, .ref q_mo), (3, .ref q_out), (4, .int i)] → va_P (dC, dI) vwCl ((w_model cI q_mo q_mlb_ q_mcl_ q_mus_ q_mwr_ q_mdk_ q_mcp_ r.2.2.1 r.2.2.2.1 r.2.2.2.2.1 r.2.2.2.2.2.1 r.2.2.2.2.2.2.1 r.2.2.2.2.2.2.2.1 r.2.2.2.2.2.2.2.2.1 r.2.2.2.2.2.2.2.2.2.1 r.2.2.2.2.2.2.2.2.2.2) ++ (w_lo cI cA cL q_out q_va q_aa q_cl q_fu Q r.1 r.2.1)) H → va_D A ((w_model cI q_mo q_mlb_ q_mcl_ q_mus_ q_mwr_ q_mdk_ q_mcp_ r.2.2.1 r.2.2.2.1 r.2.2.2.2.1 r.2.2.2.2.2.1 r.2.2.2.2.2.2.1 r.2.2.2.2.2.2.2.1 r.2.2.2.2.2.2.2.2.1 r.2.2.2.2.2.2.2.2.2.1 r.2.2.2.2.2.2.2.2.2.2) ++ (w_lo cI cA cL q_out q_va q_aa q_cl q_fu Q r.1 r.2.1)) → va_S A s.heap H locs → W p l e room_1 s m #[Value.ref b] below meth c H locs (cells + 8) (slots + 713) Z (F0 m 1401 ls [])) : W p l e room_1 s m #[Value.ref b] below meth c H locs cells slots Z (F0 m 542 ls []) := by
  have hbA : ¬ A b := fun h => absurd (hAn b h) (by omega)
  unfold s_6 at hf
  refine lv_aload_n hx hb d_law_542 rfl (lv_at hl 1 rfl) ?_
  refine lv_aload_n hx hb d_law_543 rfl (lv_at hl 0 rfl) ?_
  refine lv_iload hx hb d_law_544 (lv_at hl 4 rfl) ?_
  refine lv_iconst (v := (1 : Int32)) hx hb d_law_546 (by decide) ?_
  refine lv_iadd hx hb d_law_547 ?_
  refine va_sld hx hb hX hbl hbA hS hi1 d_law_548 ?_
  refine lv_aload_n hx hb d_law_549 rfl (lv_at hl 0 rfl) ?_
  refine lv_iload hx hb d_law_550 (lv_at hl 4 rfl) ?_
  refine lv_iconst (v := (2 : Int32)) hx hb d_law_552 (by decide) ?_
  refine lv_iadd hx hb d_law_553 ?_
  refine va_sld hx hb hX hbl hbA hS hi2 d_law_554 ?_
  refine lv_aload_n hx hb d_law_555 rfl (lv_at hl 0 rfl) ?_
  refine lv_iload hx hb d_law_556 (lv_at hl 4 rfl) ?_
  refine lv_iconst (v := (3 : Int32)) hx hb d_law_558 (by decide) ?_
  refine lv_iadd hx hb d_law_559 ?_
  refine va_sld hx hb hX hbl hbA hS hi3 d_law_560 ?_
  refine lv_aload_n hx hb d_law_561 rfl (lv_at hl 0 rfl) ?_
  refine lv_iload hx hb d_law_562 (lv_at hl 4 rfl) ?_
  refine lv_iconst (v := (4 : Int32)) hx hb d_law_564 (by decide) ?_
  refine lv_iadd hx hb d_law_565 ?_
  refine va_sld hx hb hX hbl hbA hS hi4 d_law_566 ?_
  refine lv_aload_n hx hb d_law_567 rfl (lv_at hl 3 rfl) ?_
  obtain ⟨x, gx, hf⟩ := jv_ob hf
  have hPr : va_P (dC, dI) vwCl (w_lo cI cA cL q_out q_va q_aa q_cl q_fu Q S vO) H := jv_PR (X := (w_model cI q_mo q_mlb_ q_mcl_ q_mus_ q_mwr_ q_mdk_ q_mcp_ M.1 M.2.1 M.2.2.1 M.2.2.2.1 M.2.2.2.2.1 M.2.2.2.2.2.1 M.2.2.2.2.2.2.1 M.2.2.2.2.2.2.2.1 M.2.2.2.2.2.2.2.2)) hP
  have hDr : va_D A (w_lo cI cA cL q_out q_va q_aa q_cl q_fu Q S vO) := jv_DR (X := (w_model cI q_mo q_mlb_ q_mcl_ q_mus_ q_mwr_ q_mdk_ q_mcp_ M.1 M.2.1 M.2.2.1 M.2.2.2.1 M.2.2.2.2.1 M.2.2.2.2.2.1 M.2.2.2.2.2.2.1 M.2.2.2.2.2.2.2.1 M.2.2.2.2.2.2.2.2)) hD
  have hFc := jv_fr hDr hS hA
  refine jv_cwl (vx_runSW (As := [.ref q_va, .int (xs (i + (1 : Int32)).toNatClampNeg), .int (xs (i + (2 : Int32)).toNatClampNeg), .int (xs (i + (3 : Int32)).toNatClampNeg), .int (xs (i + (4 : Int32)).toNatClampNeg), .ref q_out]) (rest := []) ⟨hx, hb, hml, hown, hts⟩ (c_L_write l hl9 dC dI cI cA cL q_out q_va q_aa q_cl q_fu Q S vO (xs (i + (1 : Int32)).toNatClampNeg) (xs (i + (2 : Int32)).toNatClampNeg) (xs (i + (3 : Int32)).toNatClampNeg) (xs (i + (4 : Int32)).toNatClampNeg) H.size x gx) (jv_cwSW hts wa_636 wa_590 wa_637 wa_638 rfl rfl yd_L_write ⟨Nat.le_of_ble_eq_true rfl, Nat.le_of_ble_eq_true rfl⟩) (jv_preSlw hTc hK hPr hDr (fun q hq => hS.2.1 q hq (fun h => absurd (hAn q h) (by omega)))) rfl rfl hl.1 rfl (lv_room (Nat.le_of_ble_eq_true rfl)) d_law_568 ⟨hc, hsl⟩) hS hFc (fun Q H1 locs hP1 hD1 hk1 hS0 => ?_)
  obtain ⟨hP, hD⟩ := jv_joinR (V1 := (w_lo cI cA cL q_out q_va q_aa q_cl q_fu Q x.2.1 x.2.2)) hk1 hP1 hD1 (w_model cI q_mo q_mlb_ q_mcl_ q_mus_ q_mwr_ q_mdk_ q_mcp_ M.1 M.2.1 M.2.2.1 M.2.2.2.1 M.2.2.2.2.1 M.2.2.2.2.2.1 M.2.2.2.2.2.2.1 M.2.2.2.2.2.2.2.1 M.2.2.2.2.2.2.2.2) A (fun q h => hA q (Nat.le_trans hS.1 h)) hP hD
  have hS := hS0
  generalize H1 = H at hP hS ⊢
  have hP : va_P (dC, dI) vwCl ((w_model cI q_mo q_mlb_ q_mcl_ q_mus_ q_mwr_ q_mdk_ q_mcp_ M.1 M.2.1 M.2.2.1 M.2.2.2.1 M.2.2.2.2.1 M.2.2.2.2.2.1 M.2.2.2.2.2.2.1 M.2.2.2.2.2.2.2.1 M.2.2.2.2.2.2.2.2) ++ (w_lo cI cA cL q_out q_va q_aa q_cl q_fu Q x.2.1 x.2.2)) H := hP
  have hD : va_D A ((w_model cI q_mo q_mlb_ q_mcl_ q_mus_ q_mwr_ q_mdk_ q_mcp_ M.1 M.2.1 M.2.2.1 M.2.2.2.1 M.2.2.2.2.1 M.2.2.2.2.2.1 M.2.2.2.2.2.2.1 M.2.2.2.2.2.2.2.1 M.2.2.2.2.2.2.2.2) ++ (w_lo cI cA cL q_out q_va q_aa q_cl q_fu Q x.2.1 x.2.2)) := hD
  refine lv_istore (lv' := [(5, .int x.1), (0, .ref b), (1, .ref q_va), (2, .ref q_mo), (3, .ref q_out), (4, .int i)]) hx hb d_law_571 hl (by decide) rfl (fun ls hl => ?_)
  refine lv_aload_n hx hb d_law_573 rfl (lv_at hl 3 rfl) ?_
  refine lv_aload_n hx hb d_law_574 rfl (lv_at hl 1 rfl) ?_
  refine lv_iload hx hb d_law_575 (lv_at hl 5 rfl) ?_
  refine lv_iconst (v := (1 : Int32)) hx hb d_law_577 (by decide) ?_
  refine lv_iadd hx hb d_law_578 ?_
  refine va_sld hx hb hX hbl hbA hS hi1 d_law_579 ?_
  refine lv_aload_n hx hb d_law_580 rfl (lv_at hl 1 rfl) ?_
  refine lv_iload hx hb d_law_581 (lv_at hl 5 rfl) ?_
  refine lv_iconst (v := (2 : Int32)) hx hb d_law_583 (by decide) ?_
  refine lv_iadd hx hb d_law_584 ?_
  refine va_sld hx hb hX hbl hbA hS hi2 d_law_585 ?_
  refine lv_aload_n hx hb d_law_586 rfl (lv_at hl 1 rfl) ?_
  refine lv_iload hx hb d_law_587 (lv_at hl 5 rfl) ?_
  refine lv_iconst (v := (3 : Int32)) hx hb d_law_589 (by decide) ?_
  refine lv_iadd hx hb d_law_590 ?_
  refine va_sld hx hb hX hbl hbA hS hi3 d_law_591 ?_
  refine lv_aload_n hx hb d_law_592 rfl (lv_at hl 1 rfl) ?_
  refine lv_iload hx hb d_law_593 (lv_at hl 5 rfl) ?_
  refine lv_iconst (v := (4 : Int32)) hx hb d_law_595 (by decide) ?_
  refine lv_iadd hx hb d_law_596 ?_
  refine va_sld hx hb hX hbl hbA hS hi4 d_law_597 ?_
  obtain ⟨y1, gy1, hf⟩ := jv_ob hf
  have hPl : va_P (dC, dI) vwCl (w_model cI q_mo q_mlb_ q_mcl_ q_mus_ q_mwr_ q_mdk_ q_mcp_ M.1 M.2.1 M.2.2.1 M.2.2.2.1 M.2.2.2.2.1 M.2.2.2.2.2.1 M.2.2.2.2.2.2.1 M.2.2.2.2.2.2.2.1 M.2.2.2.2.2.2.2.2) H := jv_PL (Y := (w_lo cI cA cL q_out q_va q_aa q_cl q_fu Q x.2.1 x.2.2)) hP
  have hDl : va_D A (w_model cI q_mo q_mlb_ q_mcl_ q_mus_ q_mwr_ q_mdk_ q_mcp_ M.1 M.2.1 M.2.2.1 M.2.2.2.1 M.2.2.2.2.1 M.2.2.2.2.2.1 M.2.2.2.2.2.2.1 M.2.2.2.2.2.2.2.1 M.2.2.2.2.2.2.2.2) := jv_DL (Y := (w_lo cI cA cL q_out q_va q_aa q_cl q_fu Q x.2.1 x.2.2)) hD
  have hFc := jv_fr hDl hS hA
  refine jv_cwi (va_runV (As := [.int (xs (i + (1 : Int32)).toNatClampNeg), .int (xs (i + (2 : Int32)).toNatClampNeg), .int (xs (i + (3 : Int32)).toNatClampNeg), .int (xs (i + (4 : Int32)).toNatClampNeg)]) (rest := []) (b := q_mo) ⟨hx, hb, hml, hown, hts⟩ (c_M_write l dC dI cI cA cL q_mo q_mlb_ q_mcl_ q_mus_ q_mwr_ q_mdk_ q_mcp_ M.1 M.2.1 M.2.2.1 M.2.2.2.1 M.2.2.2.2.1 M.2.2.2.2.2.1 M.2.2.2.2.2.2.1 M.2.2.2.2.2.2.2.1 M.2.2.2.2.2.2.2.2 (xs (i + (1 : Int32)).toNatClampNeg) (xs (i + (2 : Int32)).toNatClampNeg) (xs (i + (3 : Int32)).toNatClampNeg) (xs (i + (4 : Int32)).toNatClampNeg) H.size y1 gy1) (jv_cwV hts wa_639 wa_194 wa_640 wa_641 wa_642 rfl rfl yd_M_write ⟨Nat.le_of_ble_eq_true rfl, Nat.le_of_ble_eq_true rfl⟩) (jv_preVW hK hPl hDl 0 rfl rfl) rfl rfl hl.1 rfl (lv_room (Nat.le_of_ble_eq_true rfl)) d_law_598 ⟨hc, hsl⟩) hS hFc (fun H1 locs hP1 hD1 hk1 hS0 => ?_)
  obtain ⟨hP, hD⟩ := jv_joinL (X := (w_model cI q_mo q_mlb_ q_mcl_ q_mus_ q_mwr_ q_mdk_ q_mcp_ M.1 M.2.1 M.2.2.1 M.2.2.2.1 M.2.2.2.2.1 M.2.2.2.2.2.1 M.2.2.2.2.2.2.1 M.2.2.2.2.2.2.2.1 M.2.2.2.2.2.2.2.2)) (X1 := (w_model cI q_mo q_mlb_ q_mcl_ q_mus_ q_mwr_ q_mdk_ q_mcp_ y1.2.1 M.2.1 y1.2.2.1 M.2.2.2.1 M.2.2.2.2.1 y1.2.2.2.1 y1.2.2.2.2.1 y1.2.2.2.2.2.1 y1.2.2.2.2.2.2)) (V := (w_lo cI cA cL q_out q_va q_aa q_cl q_fu Q x.2.1 x.2.2)) hP hD (fun q h => hA q (Nat.le_trans hS.1 h)) hk1 hP1 hD1
  have hS := hS0
  generalize H1 = H at hP hS ⊢
  have hP : va_P (dC, dI) vwCl ((w_model cI q_mo q_mlb_ q_mcl_ q_mus_ q_mwr_ q_mdk_ q_mcp_ y1.2.1 M.2.1 y1.2.2.1 M.2.2.2.1 M.2.2.2.2.1 y1.2.2.2.1 y1.2.2.2.2.1 y1.2.2.2.2.2.1 y1.2.2.2.2.2.2) ++ (w_lo cI cA cL q_out q_va q_aa q_cl q_fu Q x.2.1 x.2.2)) H := hP
  have hD : va_D A ((w_model cI q_mo q_mlb_ q_mcl_ q_mus_ q_mwr_ q_mdk_ q_mcp_ y1.2.1 M.2.1 y1.2.2.1 M.2.2.2.1 M.2.2.2.2.1 y1.2.2.2.1 y1.2.2.2.2.1 y1.2.2.2.2.2.1 y1.2.2.2.2.2.2) ++ (w_lo cI cA cL q_out q_va q_aa q_cl q_fu Q x.2.1 x.2.2)) := hD
  refine lv_istore (lv' := [(6, .int y1.1), (5, .int x.1), (0, .ref b), (1, .ref q_va), (2, .ref q_mo), (3, .ref q_out), (4, .int i)]) hx hb d_law_601 hl (by decide) rfl (fun ls hl => ?_)
  refine lv_aload_n hx hb d_law_603 rfl (lv_at hl 4 rfl) ?_
  obtain ⟨y2, gy2, hf⟩ := jv_ob hf
  have hPl : va_P (dC, dI) vwCl (w_model cI q_mo q_mlb_ q_mcl_ q_mus_ q_mwr_ q_mdk_ q_mcp_ y1.2.1 M.2.1 y1.2.2.1 M.2.2.2.1 M.2.2.2.2.1 y1.2.2.2.1 y1.2.2.2.2.1 y1.2.2.2.2.2.1 y1.2.2.2.2.2.2) H := jv_PL (Y := (w_lo cI cA cL q_out q_va q_aa q_cl q_fu Q x.2.1 x.2.2)) hP
  have hDl : va_D A (w_model cI q_mo q_mlb_ q_mcl_ q_mus_ q_mwr_ q_mdk_ q_mcp_ y1.2.1 M.2.1 y1.2.2.1 M.2.2.2.1 M.2.2.2.2.1 y1.2.2.2.1 y1.2.2.2.2.1 y1.2.2.2.2.2.1 y1.2.2.2.2.2.2) := jv_DL (Y := (w_lo cI cA cL q_out q_va q_aa q_cl q_fu Q x.2.1 x.2.2)) hD
  refine jv_cs (W.runV (As := []) (rest := []) (b := q_mo) ⟨hx, hb, hml, hown, hts⟩ (c_M_thrown l dC dI cI cA cL q_mo q_mlb_ q_mcl_ q_mus_ q_mwr_ q_mdk_ q_mcp_ y1.2.1 M.2.1 y1.2.2.1 M.2.2.2.1 M.2.2.2.2.1 y1.2.2.2.1 y1.2.2.2.2.1 y1.2.2.2.2.2.1 y1.2.2.2.2.2.2 y2 gy2) (jv_cwV hts wa_597 wa_194 wa_598 wa_599 wa_600 rfl rfl yd_M_thrown ⟨Nat.le_of_ble_eq_true rfl, Nat.le_of_ble_eq_true rfl⟩) (jv_preV hK hPl 0 rfl rfl) rfl rfl hl.1 rfl (lv_room (Nat.le_of_ble_eq_true rfl)) d_law_604 ⟨hc, hsl⟩) ?_
  refine lv_iload hx hb d_law_607 (lv_at hl 1 rfl) ?_
  obtain ⟨he, hf⟩ := jv_gd hf
  refine lv_icmp_eq (tgt := 614) hx hb d_law_609 (by decide) (fun _ => ?_) (fun h9 => absurd he h9)
  refine lv_iload hx hb d_law_614 (lv_at hl 1 rfl) ?_
  by_cases hz : x.1 = 0
  · have hf := jv_it hf hz
    refine lv_if_ne (tgt := 631) hx hb d_law_616 (by decide) (fun h9 => absurd hz h9) (fun _ => ?_)
    refine lv_aload_n hx hb d_law_619 rfl (lv_at hl 5 rfl) ?_
    refine lv_iconst (v := (0 : Int32)) hx hb d_law_620 (by decide) ?_
    refine va_lald hx hb hK hP 7 2 rfl rfl (by unfold vp_in; decide) d_law_621 ?_
    refine lv_iload hx hb d_law_622 (lv_at hl 0 rfl) ?_
    obtain ⟨ho, hf⟩ := jv_gd hf
    refine lv_i2l hx hb d_law_624 rfl ?_
    refine jv_lcmp0 hx hb ho d_law_625 ?_
    refine lv_if_eq (tgt := 631) hx hb d_law_626 (by decide) (fun _ => ?_) (fun h9 => absurd rfl h9)
    obtain rfl := Option.some.inj hf
    refine lv_goto (tgt := 1401) hx hb d_law_631 (by decide) ?_
    exact KK Q H locs ls (lv_sub hl [2, 3, 4, 5, 6] rfl) hP hD hS
  · have hf := jv_if hf hz
    refine lv_if_ne (tgt := 631) hx hb d_law_616 (by decide) (fun _ => ?_) (fun h9 => absurd h9 hz)
    obtain rfl := Option.some.inj hf
    refine lv_goto (tgt := 1401) hx hb d_law_631 (by decide) ?_
    exact KK Q H locs ls (lv_sub hl [2, 3, 4, 5, 6] rfl) hP hD hS
