theorem d_law_1090 : decode cc_law 1090 = .ok (.aload_n 1, 1) := by decide +kernel
theorem d_law_1091 : decode cc_law 1091 = .ok (.aload_n 0, 1) := by decide +kernel
theorem d_law_1092 : decode cc_law 1092 = .ok (.iload 4, 2) := by decide +kernel
theorem d_law_1094 : decode cc_law 1094 = .ok (.iconst 1, 1) := by decide +kernel
theorem d_law_1095 : decode cc_law 1095 = .ok (.iadd, 1) := by decide +kernel
theorem d_law_1096 : decode cc_law 1096 = .ok (.iaload, 1) := by decide +kernel
theorem d_law_1097 : decode cc_law 1097 = .ok (.aload_n 0, 1) := by decide +kernel
theorem d_law_1098 : decode cc_law 1098 = .ok (.iload 4, 2) := by decide +kernel
theorem d_law_1100 : decode cc_law 1100 = .ok (.iconst 2, 1) := by decide +kernel
theorem d_law_1101 : decode cc_law 1101 = .ok (.iadd, 1) := by decide +kernel
theorem d_law_1102 : decode cc_law 1102 = .ok (.iaload, 1) := by decide +kernel
theorem d_law_1103 : decode cc_law 1103 = .ok (.aload_n 0, 1) := by decide +kernel
theorem d_law_1104 : decode cc_law 1104 = .ok (.iload 4, 2) := by decide +kernel
theorem d_law_1106 : decode cc_law 1106 = .ok (.iconst 3, 1) := by decide +kernel
theorem d_law_1107 : decode cc_law 1107 = .ok (.iadd, 1) := by decide +kernel
theorem d_law_1108 : decode cc_law 1108 = .ok (.iaload, 1) := by decide +kernel
theorem d_law_1109 : decode cc_law 1109 = .ok (.aload_n 3, 1) := by decide +kernel
theorem d_law_1110 : decode cc_law 1110 = .ok (.invokestatic 126, 3) := by decide +kernel
theorem d_law_1113 : decode cc_law 1113 = .ok (.istore 5, 2) := by decide +kernel
theorem d_law_1115 : decode cc_law 1115 = .ok (.aload_n 2, 1) := by decide +kernel
theorem d_law_1116 : decode cc_law 1116 = .ok (.aload_n 0, 1) := by decide +kernel
theorem d_law_1117 : decode cc_law 1117 = .ok (.iload 4, 2) := by decide +kernel
theorem d_law_1119 : decode cc_law 1119 = .ok (.iconst 1, 1) := by decide +kernel
theorem d_law_1120 : decode cc_law 1120 = .ok (.iadd, 1) := by decide +kernel
theorem d_law_1121 : decode cc_law 1121 = .ok (.iaload, 1) := by decide +kernel
theorem d_law_1122 : decode cc_law 1122 = .ok (.aload_n 0, 1) := by decide +kernel
theorem d_law_1123 : decode cc_law 1123 = .ok (.iload 4, 2) := by decide +kernel
theorem d_law_1125 : decode cc_law 1125 = .ok (.iconst 2, 1) := by decide +kernel
theorem d_law_1126 : decode cc_law 1126 = .ok (.iadd, 1) := by decide +kernel
theorem d_law_1127 : decode cc_law 1127 = .ok (.iaload, 1) := by decide +kernel
theorem d_law_1128 : decode cc_law 1128 = .ok (.aload_n 0, 1) := by decide +kernel
theorem d_law_1129 : decode cc_law 1129 = .ok (.iload 4, 2) := by decide +kernel
theorem d_law_1131 : decode cc_law 1131 = .ok (.iconst 3, 1) := by decide +kernel
theorem d_law_1132 : decode cc_law 1132 = .ok (.iadd, 1) := by decide +kernel
theorem d_law_1133 : decode cc_law 1133 = .ok (.iaload, 1) := by decide +kernel
theorem d_law_1134 : decode cc_law 1134 = .ok (.invokevirtual 128, 3) := by decide +kernel
theorem d_law_1137 : decode cc_law 1137 = .ok (.istore 6, 2) := by decide +kernel
theorem d_law_1139 : decode cc_law 1139 = .ok (.aload_n 2, 1) := by decide +kernel
theorem d_law_1140 : decode cc_law 1140 = .ok (.invokevirtual 83, 3) := by decide +kernel
theorem d_law_1143 : decode cc_law 1143 = .ok (.iload 5, 2) := by decide +kernel
theorem d_law_1145 : decode cc_law 1145 = .ok (.if_icmp .eq 5, 3) := by decide +kernel
theorem d_law_1150 : decode cc_law 1150 = .ok (.iload 5, 2) := by decide +kernel
theorem d_law_1152 : decode cc_law 1152 = .ok (.ifCond .ne 15, 3) := by decide +kernel
theorem d_law_1155 : decode cc_law 1155 = .ok (.aload_n 3, 1) := by decide +kernel
theorem d_law_1156 : decode cc_law 1156 = .ok (.iconst 0, 1) := by decide +kernel
theorem d_law_1157 : decode cc_law 1157 = .ok (.laload, 1) := by decide +kernel
theorem d_law_1158 : decode cc_law 1158 = .ok (.iload 6, 2) := by decide +kernel
theorem d_law_1160 : decode cc_law 1160 = .ok (.i2l, 1) := by decide +kernel
theorem d_law_1161 : decode cc_law 1161 = .ok (.lcmp, 1) := by decide +kernel
theorem d_law_1162 : decode cc_law 1162 = .ok (.ifCond .eq 5, 3) := by decide +kernel
theorem d_law_1167 : decode cc_law 1167 = .ok (.goto 234, 3) := by decide +kernel
def s_13 (S : jv_vs) (vO : Nat → Int64) (M : jv_ms) (p1 : Int32) (p2 : Int32) (p3 : Int32) : Option jv_st :=
  (l_size S p1 p2 p3 vO).bind fun x => (f_M_size M.2.1 M.2.2.2.1 M.2.2.2.2.2.1 M.2.2.2.2.2.2.2.1 p1 p2 p3 M.1).bind fun y1 => (f_M_thrown y1.2).bind fun y2 => if y2 = x.1 then (if x.1 = 0 then (if x.2.2 (0 : Int32).toNatClampNeg = (y1.1).toInt64 then (some (x.2.1, x.2.2, y1.2, M.2.1, M.2.2.1, M.2.2.2.1, M.2.2.2.2.1, M.2.2.2.2.2.1, M.2.2.2.2.2.2.1, M.2.2.2.2.2.2.2.1, M.2.2.2.2.2.2.2.2)) else none) else (some (x.2.1, x.2.2, y1.2, M.2.1, M.2.2.1, M.2.2.2.1, M.2.2.2.2.1, M.2.2.2.2.2.1, M.2.2.2.2.2.2.1, M.2.2.2.2.2.2.2.1, M.2.2.2.2.2.2.2.2))) else none
set_option maxHeartbeats 4000000 in
set_option maxRecDepth 100000 in
theorem b_law_13 {l : Launch} {dC : Nat → ClassId} {dI : Nat → Nat → Nat} {cI cA cL : ClassId} {q_mo q_mlb_ q_mcl_ q_mus_ q_mwr_ q_mdk_ q_mcp_ q_out q_va q_aa q_cl q_fu : Nat} {p : Program} {e : Env} {s : State} {m : MethodId} {below : List Frame} {meth : Method} {c : Code} {b L : Nat} {xs : Nat → Int32} (hl9 : l.stackTraces = false) (hx : p.tables.exec = Jvm.exec) (hb : c.code = code) (hml : c.maxLocals = 7) (hown : s.vm.findClass R_Law = some m.cls) (hts : ∀ w ∈ Cond.tt :: jv_LT, w.before #[Value.ref b] s = true) (hX : va_X b L xs s s.heap) (hbl : b < s.heap.size) (hK : va_K (dC, dI) vwCl (jv_ty cI cA cL) s) (hTc : jv_tc s) {A : Nat → Prop} (hA : ∀ q : Nat, s.heap.size ≤ q → A q) (hAn : ∀ q : Nat, A q → s.heap.size ≤ q) {Z : State → Prop} {Q : Nat → Nat → Nat} {i : Int32} (hi1 : vp_in (i + (1 : Int32)) L) (hi2 : vp_in (i + (2 : Int32)) L) (hi3 : vp_in (i + (3 : Int32)) L) {S : jv_vs} {vO : Nat → Int64} {M : jv_ms} {r : jv_st} {H : Heap} {locs : List Loc} {cells slots : Nat} (hc : cells + 8 ≤ room_1.cells) (hsl : slots + 713 ≤ room_1.slots) {ls : Array Slot} (hl : lv_has ls 7 [(0, .ref b), (1, .ref q_va), (2, .ref q_mo), (3, .ref q_out), (4, .int i)]) (hP : va_P (dC, dI) vwCl ((w_model cI q_mo q_mlb_ q_mcl_ q_mus_ q_mwr_ q_mdk_ q_mcp_ M.1 M.2.1 M.2.2.1 M.2.2.2.1 M.2.2.2.2.1 M.2.2.2.2.2.1 M.2.2.2.2.2.2.1 M.2.2.2.2.2.2.2.1 M.2.2.2.2.2.2.2.2) ++ (w_lo cI cA cL q_out q_va q_aa q_cl q_fu Q S vO)) H) (hD : va_D A ((w_model cI q_mo q_mlb_ q_mcl_ q_mus_ q_mwr_ q_mdk_ q_mcp_ M.1 M.2.1 M.2.2.1 M.2.2.2.1 M.2.2.2.2.1 M.2.2.2.2.2.1 M.2.2.2.2.2.2.1 M.2.2.2.2.2.2.2.1 M.2.2.2.2.2.2.2.2) ++ (w_lo cI cA cL q_out q_va q_aa q_cl q_fu Q S vO))) (hS : va_S A s.heap H locs) (hf : s_13 S vO M (xs (i + (1 : Int32)).toNatClampNeg) (xs (i + (2 : Int32)).toNatClampNeg) (xs (i + (3 : Int32)).toNatClampNeg) = some r) (KK : ∀ (Q : Nat → Nat → Nat) (H : Heap) (locs : List Loc) (ls : Array Slot), lv_has ls 7 [(0, .ref b), (1, .ref q_va), (2, .ref q_mo), (3, .ref q_out), (4, .int i)] → va_P (dC, dI) vwCl ((w_model cI q_mo q_mlb_ q_mcl_ q_mus_ q_mwr_ q_mdk_ q_mcp_ r.2.2.1 r.2.2.2.1 r.2.2.2.2.1 r.2.2.2.2.2.1 r.2.2.2.2.2.2.1 r.2.2.2.2.2.2.2.1 r.2.2.2.2.2.2.2.2.1 r.2.2.2.2.2.2.2.2.2.1 r.2.2.2.2.2.2.2.2.2.2) ++ (w_lo cI cA cL q_out q_va q_aa q_cl q_fu Q r.1 r.2.1)) H → va_D A ((w_model cI q_mo q_mlb_ q_mcl_ q_mus_ q_mwr_ q_mdk_ q_mcp_ r.2.2.1 r.2.2.2.1 r.2.2.2.2.1 r.2.2.2.2.2.1 r.2.2.2.2.2.2.1 r.2.2.2.2.2.2.2.1 r.2.2.2.2.2.2.2.2.1 r.2.2.2.2.2.2.2.2.2.1 r.2.2.2.2.2.2.2.2.2.2) ++ (w_lo cI cA cL q_out q_va q_aa q_cl q_fu Q r.1 r.2.1)) → va_S A s.heap H locs → W p l e room_1 s m #[Value.ref b] below meth c H locs (cells + 8) (slots + 713) Z (F0 m 1401 ls [])) : W p l e room_1 s m #[Value.ref b] below meth c H locs cells slots Z (F0 m 1090 ls []) := by
  have hbA : ¬ A b := fun h => absurd (hAn b h) (by omega)
  unfold s_13 at hf
  refine lv_aload_n hx hb d_law_1090 rfl (lv_at hl 1 rfl) ?_
  refine lv_aload_n hx hb d_law_1091 rfl (lv_at hl 0 rfl) ?_
  refine lv_iload hx hb d_law_1092 (lv_at hl 4 rfl) ?_
  refine lv_iconst (v := (1 : Int32)) hx hb d_law_1094 (by decide) ?_
  refine lv_iadd hx hb d_law_1095 ?_
  refine va_sld hx hb hX hbl hbA hS hi1 d_law_1096 ?_
  refine lv_aload_n hx hb d_law_1097 rfl (lv_at hl 0 rfl) ?_
  refine lv_iload hx hb d_law_1098 (lv_at hl 4 rfl) ?_
  refine lv_iconst (v := (2 : Int32)) hx hb d_law_1100 (by decide) ?_
  refine lv_iadd hx hb d_law_1101 ?_
  refine va_sld hx hb hX hbl hbA hS hi2 d_law_1102 ?_
  refine lv_aload_n hx hb d_law_1103 rfl (lv_at hl 0 rfl) ?_
  refine lv_iload hx hb d_law_1104 (lv_at hl 4 rfl) ?_
  refine lv_iconst (v := (3 : Int32)) hx hb d_law_1106 (by decide) ?_
  refine lv_iadd hx hb d_law_1107 ?_
  refine va_sld hx hb hX hbl hbA hS hi3 d_law_1108 ?_
  refine lv_aload_n hx hb d_law_1109 rfl (lv_at hl 3 rfl) ?_
  obtain ⟨x, gx, hf⟩ := jv_ob hf
  have hPr : va_P (dC, dI) vwCl (w_lo cI cA cL q_out q_va q_aa q_cl q_fu Q S vO) H := jv_PR (X := (w_model cI q_mo q_mlb_ q_mcl_ q_mus_ q_mwr_ q_mdk_ q_mcp_ M.1 M.2.1 M.2.2.1 M.2.2.2.1 M.2.2.2.2.1 M.2.2.2.2.2.1 M.2.2.2.2.2.2.1 M.2.2.2.2.2.2.2.1 M.2.2.2.2.2.2.2.2)) hP
  have hDr : va_D A (w_lo cI cA cL q_out q_va q_aa q_cl q_fu Q S vO) := jv_DR (X := (w_model cI q_mo q_mlb_ q_mcl_ q_mus_ q_mwr_ q_mdk_ q_mcp_ M.1 M.2.1 M.2.2.1 M.2.2.2.1 M.2.2.2.2.1 M.2.2.2.2.2.1 M.2.2.2.2.2.2.1 M.2.2.2.2.2.2.2.1 M.2.2.2.2.2.2.2.2)) hD
  have hFc := jv_fr hDr hS hA
  refine jv_cwl (vx_runSW (As := [.ref q_va, .int (xs (i + (1 : Int32)).toNatClampNeg), .int (xs (i + (2 : Int32)).toNatClampNeg), .int (xs (i + (3 : Int32)).toNatClampNeg), .ref q_out]) (rest := []) ⟨hx, hb, hml, hown, hts⟩ (c_L_size l hl9 dC dI cI cA cL q_out q_va q_aa q_cl q_fu Q S vO (xs (i + (1 : Int32)).toNatClampNeg) (xs (i + (2 : Int32)).toNatClampNeg) (xs (i + (3 : Int32)).toNatClampNeg) H.size x gx) (jv_cwSW hts wa_685 wa_590 wa_686 wa_687 rfl rfl yd_L_size ⟨Nat.le_of_ble_eq_true rfl, Nat.le_of_ble_eq_true rfl⟩) (jv_preSlw hTc hK hPr hDr (fun q hq => hS.2.1 q hq (fun h => absurd (hAn q h) (by omega)))) rfl rfl hl.1 rfl (lv_room (Nat.le_of_ble_eq_true rfl)) d_law_1110 ⟨hc, hsl⟩) hS hFc (fun Q H1 locs hP1 hD1 hk1 hS0 => ?_)
  obtain ⟨hP, hD⟩ := jv_joinR (V1 := (w_lo cI cA cL q_out q_va q_aa q_cl q_fu Q x.2.1 x.2.2)) hk1 hP1 hD1 (w_model cI q_mo q_mlb_ q_mcl_ q_mus_ q_mwr_ q_mdk_ q_mcp_ M.1 M.2.1 M.2.2.1 M.2.2.2.1 M.2.2.2.2.1 M.2.2.2.2.2.1 M.2.2.2.2.2.2.1 M.2.2.2.2.2.2.2.1 M.2.2.2.2.2.2.2.2) A (fun q h => hA q (Nat.le_trans hS.1 h)) hP hD
  have hS := hS0
  generalize H1 = H at hP hS ⊢
  have hP : va_P (dC, dI) vwCl ((w_model cI q_mo q_mlb_ q_mcl_ q_mus_ q_mwr_ q_mdk_ q_mcp_ M.1 M.2.1 M.2.2.1 M.2.2.2.1 M.2.2.2.2.1 M.2.2.2.2.2.1 M.2.2.2.2.2.2.1 M.2.2.2.2.2.2.2.1 M.2.2.2.2.2.2.2.2) ++ (w_lo cI cA cL q_out q_va q_aa q_cl q_fu Q x.2.1 x.2.2)) H := hP
  have hD : va_D A ((w_model cI q_mo q_mlb_ q_mcl_ q_mus_ q_mwr_ q_mdk_ q_mcp_ M.1 M.2.1 M.2.2.1 M.2.2.2.1 M.2.2.2.2.1 M.2.2.2.2.2.1 M.2.2.2.2.2.2.1 M.2.2.2.2.2.2.2.1 M.2.2.2.2.2.2.2.2) ++ (w_lo cI cA cL q_out q_va q_aa q_cl q_fu Q x.2.1 x.2.2)) := hD
  refine lv_istore (lv' := [(5, .int x.1), (0, .ref b), (1, .ref q_va), (2, .ref q_mo), (3, .ref q_out), (4, .int i)]) hx hb d_law_1113 hl (by decide) rfl (fun ls hl => ?_)
  refine lv_aload_n hx hb d_law_1115 rfl (lv_at hl 3 rfl) ?_
  refine lv_aload_n hx hb d_law_1116 rfl (lv_at hl 1 rfl) ?_
  refine lv_iload hx hb d_law_1117 (lv_at hl 5 rfl) ?_
  refine lv_iconst (v := (1 : Int32)) hx hb d_law_1119 (by decide) ?_
  refine lv_iadd hx hb d_law_1120 ?_
  refine va_sld hx hb hX hbl hbA hS hi1 d_law_1121 ?_
  refine lv_aload_n hx hb d_law_1122 rfl (lv_at hl 1 rfl) ?_
  refine lv_iload hx hb d_law_1123 (lv_at hl 5 rfl) ?_
  refine lv_iconst (v := (2 : Int32)) hx hb d_law_1125 (by decide) ?_
  refine lv_iadd hx hb d_law_1126 ?_
  refine va_sld hx hb hX hbl hbA hS hi2 d_law_1127 ?_
  refine lv_aload_n hx hb d_law_1128 rfl (lv_at hl 1 rfl) ?_
  refine lv_iload hx hb d_law_1129 (lv_at hl 5 rfl) ?_
  refine lv_iconst (v := (3 : Int32)) hx hb d_law_1131 (by decide) ?_
  refine lv_iadd hx hb d_law_1132 ?_
  refine va_sld hx hb hX hbl hbA hS hi3 d_law_1133 ?_
  obtain ⟨y1, gy1, hf⟩ := jv_ob hf
  have hPl : va_P (dC, dI) vwCl (w_model cI q_mo q_mlb_ q_mcl_ q_mus_ q_mwr_ q_mdk_ q_mcp_ M.1 M.2.1 M.2.2.1 M.2.2.2.1 M.2.2.2.2.1 M.2.2.2.2.2.1 M.2.2.2.2.2.2.1 M.2.2.2.2.2.2.2.1 M.2.2.2.2.2.2.2.2) H := jv_PL (Y := (w_lo cI cA cL q_out q_va q_aa q_cl q_fu Q x.2.1 x.2.2)) hP
  have hDl : va_D A (w_model cI q_mo q_mlb_ q_mcl_ q_mus_ q_mwr_ q_mdk_ q_mcp_ M.1 M.2.1 M.2.2.1 M.2.2.2.1 M.2.2.2.2.1 M.2.2.2.2.2.1 M.2.2.2.2.2.2.1 M.2.2.2.2.2.2.2.1 M.2.2.2.2.2.2.2.2) := jv_DL (Y := (w_lo cI cA cL q_out q_va q_aa q_cl q_fu Q x.2.1 x.2.2)) hD
  have hFc := jv_fr hDl hS hA
  refine jv_cwi (va_runV (As := [.int (xs (i + (1 : Int32)).toNatClampNeg), .int (xs (i + (2 : Int32)).toNatClampNeg), .int (xs (i + (3 : Int32)).toNatClampNeg)]) (rest := []) (b := q_mo) ⟨hx, hb, hml, hown, hts⟩ (c_M_size l dC dI cI cA cL q_mo q_mlb_ q_mcl_ q_mus_ q_mwr_ q_mdk_ q_mcp_ M.1 M.2.1 M.2.2.1 M.2.2.2.1 M.2.2.2.2.1 M.2.2.2.2.2.1 M.2.2.2.2.2.2.1 M.2.2.2.2.2.2.2.1 M.2.2.2.2.2.2.2.2 (xs (i + (1 : Int32)).toNatClampNeg) (xs (i + (2 : Int32)).toNatClampNeg) (xs (i + (3 : Int32)).toNatClampNeg) H.size y1 gy1) (jv_cwV hts wa_688 wa_194 wa_689 wa_690 wa_691 rfl rfl yd_M_size ⟨Nat.le_of_ble_eq_true rfl, Nat.le_of_ble_eq_true rfl⟩) (jv_preVW hK hPl hDl 0 rfl rfl) rfl rfl hl.1 rfl (lv_room (Nat.le_of_ble_eq_true rfl)) d_law_1134 ⟨hc, hsl⟩) hS hFc (fun H1 locs hP1 hD1 hk1 hS0 => ?_)
  obtain ⟨hP, hD⟩ := jv_joinL (X := (w_model cI q_mo q_mlb_ q_mcl_ q_mus_ q_mwr_ q_mdk_ q_mcp_ M.1 M.2.1 M.2.2.1 M.2.2.2.1 M.2.2.2.2.1 M.2.2.2.2.2.1 M.2.2.2.2.2.2.1 M.2.2.2.2.2.2.2.1 M.2.2.2.2.2.2.2.2)) (X1 := (w_model cI q_mo q_mlb_ q_mcl_ q_mus_ q_mwr_ q_mdk_ q_mcp_ y1.2 M.2.1 M.2.2.1 M.2.2.2.1 M.2.2.2.2.1 M.2.2.2.2.2.1 M.2.2.2.2.2.2.1 M.2.2.2.2.2.2.2.1 M.2.2.2.2.2.2.2.2)) (V := (w_lo cI cA cL q_out q_va q_aa q_cl q_fu Q x.2.1 x.2.2)) hP hD (fun q h => hA q (Nat.le_trans hS.1 h)) hk1 hP1 hD1
  have hS := hS0
  generalize H1 = H at hP hS ⊢
  have hP : va_P (dC, dI) vwCl ((w_model cI q_mo q_mlb_ q_mcl_ q_mus_ q_mwr_ q_mdk_ q_mcp_ y1.2 M.2.1 M.2.2.1 M.2.2.2.1 M.2.2.2.2.1 M.2.2.2.2.2.1 M.2.2.2.2.2.2.1 M.2.2.2.2.2.2.2.1 M.2.2.2.2.2.2.2.2) ++ (w_lo cI cA cL q_out q_va q_aa q_cl q_fu Q x.2.1 x.2.2)) H := hP
  have hD : va_D A ((w_model cI q_mo q_mlb_ q_mcl_ q_mus_ q_mwr_ q_mdk_ q_mcp_ y1.2 M.2.1 M.2.2.1 M.2.2.2.1 M.2.2.2.2.1 M.2.2.2.2.2.1 M.2.2.2.2.2.2.1 M.2.2.2.2.2.2.2.1 M.2.2.2.2.2.2.2.2) ++ (w_lo cI cA cL q_out q_va q_aa q_cl q_fu Q x.2.1 x.2.2)) := hD
  refine lv_istore (lv' := [(6, .int y1.1), (5, .int x.1), (0, .ref b), (1, .ref q_va), (2, .ref q_mo), (3, .ref q_out), (4, .int i)]) hx hb d_law_1137 hl (by decide) rfl (fun ls hl => ?_)
  refine lv_aload_n hx hb d_law_1139 rfl (lv_at hl 4 rfl) ?_
  obtain ⟨y2, gy2, hf⟩ := jv_ob hf
  have hPl : va_P (dC, dI) vwCl (w_model cI q_mo q_mlb_ q_mcl_ q_mus_ q_mwr_ q_mdk_ q_mcp_ y1.2 M.2.1 M.2.2.1 M.2.2.2.1 M.2.2.2.2.1 M.2.2.2.2.2.1 M.2.2.2.2.2.2.1 M.2.2.2.2.2.2.2.1 M.2.2.2.2.2.2.2.2) H := jv_PL (Y := (w_lo cI cA cL q_out q_va q_aa q_cl q_fu Q x.2.1 x.2.2)) hP
  have hDl : va_D A (w_model cI q_mo q_mlb_ q_mcl_ q_mus_ q_mwr_ q_mdk_ q_mcp_ y1.2 M.2.1 M.2.2.1 M.2.2.2.1 M.2.2.2.2.1 M.2.2.2.2.2.1 M.2.2.2.2.2.2.1 M.2.2.2.2.2.2.2.1 M.2.2.2.2.2.2.2.2) := jv_DL (Y := (w_lo cI cA cL q_out q_va q_aa q_cl q_fu Q x.2.1 x.2.2)) hD
  refine jv_cs (W.runV (As := []) (rest := []) (b := q_mo) ⟨hx, hb, hml, hown, hts⟩ (c_M_thrown l dC dI cI cA cL q_mo q_mlb_ q_mcl_ q_mus_ q_mwr_ q_mdk_ q_mcp_ y1.2 M.2.1 M.2.2.1 M.2.2.2.1 M.2.2.2.2.1 M.2.2.2.2.2.1 M.2.2.2.2.2.2.1 M.2.2.2.2.2.2.2.1 M.2.2.2.2.2.2.2.2 y2 gy2) (jv_cwV hts wa_597 wa_194 wa_598 wa_599 wa_600 rfl rfl yd_M_thrown ⟨Nat.le_of_ble_eq_true rfl, Nat.le_of_ble_eq_true rfl⟩) (jv_preV hK hPl 0 rfl rfl) rfl rfl hl.1 rfl (lv_room (Nat.le_of_ble_eq_true rfl)) d_law_1140 ⟨hc, hsl⟩) ?_
  refine lv_iload hx hb d_law_1143 (lv_at hl 1 rfl) ?_
  obtain ⟨he, hf⟩ := jv_gd hf
  refine lv_icmp_eq (tgt := 1150) hx hb d_law_1145 (by decide) (fun _ => ?_) (fun h9 => absurd he h9)
  refine lv_iload hx hb d_law_1150 (lv_at hl 1 rfl) ?_
  by_cases hz : x.1 = 0
  · have hf := jv_it hf hz
    refine lv_if_ne (tgt := 1167) hx hb d_law_1152 (by decide) (fun h9 => absurd hz h9) (fun _ => ?_)
    refine lv_aload_n hx hb d_law_1155 rfl (lv_at hl 5 rfl) ?_
    refine lv_iconst (v := (0 : Int32)) hx hb d_law_1156 (by decide) ?_
    refine va_lald hx hb hK hP 7 2 rfl rfl (by unfold vp_in; decide) d_law_1157 ?_
    refine lv_iload hx hb d_law_1158 (lv_at hl 0 rfl) ?_
    obtain ⟨ho, hf⟩ := jv_gd hf
    refine lv_i2l hx hb d_law_1160 rfl ?_
    refine jv_lcmp0 hx hb ho d_law_1161 ?_
    refine lv_if_eq (tgt := 1167) hx hb d_law_1162 (by decide) (fun _ => ?_) (fun h9 => absurd rfl h9)
    obtain rfl := Option.some.inj hf
    refine lv_goto (tgt := 1401) hx hb d_law_1167 (by decide) ?_
    exact KK Q H locs ls (lv_sub hl [2, 3, 4, 5, 6] rfl) hP hD hS
  · have hf := jv_if hf hz
    refine lv_if_ne (tgt := 1167) hx hb d_law_1152 (by decide) (fun _ => ?_) (fun h9 => absurd h9 hz)
    obtain rfl := Option.some.inj hf
    refine lv_goto (tgt := 1401) hx hb d_law_1167 (by decide) ?_
    exact KK Q H locs ls (lv_sub hl [2, 3, 4, 5, 6] rfl) hP hD hS
theorem d_law_1170 : decode cc_law 1170 = .ok (.aload_n 1, 1) := by decide +kernel
theorem d_law_1171 : decode cc_law 1171 = .ok (.invokevirtual 129, 3) := by decide +kernel
theorem d_law_1174 : decode cc_law 1174 = .ok (.aload_n 2, 1) := by decide +kernel
theorem d_law_1175 : decode cc_law 1175 = .ok (.invokevirtual 132, 3) := by decide +kernel
theorem d_law_1178 : decode cc_law 1178 = .ok (.if_icmp .eq 223, 3) := by decide +kernel
def s_14 (S : jv_vs) (vO : Nat → Int64) (M : jv_ms) : Option jv_st :=
  (f_V_crash S.1 S.2.2.1 S.2.2.2).bind fun y1 => (f_M_crash M.1 M.2.2.1 M.2.2.2.2.2.1).bind fun y2 => if y1.1 = y2.1 then (some ((S.1, S.2.1, y1.2.1, y1.2.2), vO, y2.2.1, M.2.1, y2.2.2.1, M.2.2.2.1, M.2.2.2.2.1, y2.2.2.2, M.2.2.2.2.2.2.1, M.2.2.2.2.2.2.2.1, M.2.2.2.2.2.2.2.2)) else none
set_option maxHeartbeats 4000000 in
set_option maxRecDepth 100000 in
theorem b_law_14 {l : Launch} {dC : Nat → ClassId} {dI : Nat → Nat → Nat} {cI cA cL : ClassId} {q_mo q_mlb_ q_mcl_ q_mus_ q_mwr_ q_mdk_ q_mcp_ q_out q_va q_aa q_cl q_fu : Nat} {p : Program} {e : Env} {s : State} {m : MethodId} {below : List Frame} {meth : Method} {c : Code} {b L : Nat} {xs : Nat → Int32} (hl9 : l.stackTraces = false) (hx : p.tables.exec = Jvm.exec) (hb : c.code = code) (hml : c.maxLocals = 7) (hown : s.vm.findClass R_Law = some m.cls) (hts : ∀ w ∈ Cond.tt :: jv_LT, w.before #[Value.ref b] s = true) (hX : va_X b L xs s s.heap) (hbl : b < s.heap.size) (hK : va_K (dC, dI) vwCl (jv_ty cI cA cL) s) (hTc : jv_tc s) {A : Nat → Prop} (hA : ∀ q : Nat, s.heap.size ≤ q → A q) (hAn : ∀ q : Nat, A q → s.heap.size ≤ q) {Z : State → Prop} {Q : Nat → Nat → Nat} {i : Int32} {S : jv_vs} {vO : Nat → Int64} {M : jv_ms} {r : jv_st} {H : Heap} {locs : List Loc} {cells slots : Nat} (hc : cells + 8 ≤ room_1.cells) (hsl : slots + 713 ≤ room_1.slots) {ls : Array Slot} (hl : lv_has ls 7 [(0, .ref b), (1, .ref q_va), (2, .ref q_mo), (3, .ref q_out), (4, .int i)]) (hP : va_P (dC, dI) vwCl ((w_model cI q_mo q_mlb_ q_mcl_ q_mus_ q_mwr_ q_mdk_ q_mcp_ M.1 M.2.1 M.2.2.1 M.2.2.2.1 M.2.2.2.2.1 M.2.2.2.2.2.1 M.2.2.2.2.2.2.1 M.2.2.2.2.2.2.2.1 M.2.2.2.2.2.2.2.2) ++ (w_lo cI cA cL q_out q_va q_aa q_cl q_fu Q S vO)) H) (hD : va_D A ((w_model cI q_mo q_mlb_ q_mcl_ q_mus_ q_mwr_ q_mdk_ q_mcp_ M.1 M.2.1 M.2.2.1 M.2.2.2.1 M.2.2.2.2.1 M.2.2.2.2.2.1 M.2.2.2.2.2.2.1 M.2.2.2.2.2.2.2.1 M.2.2.2.2.2.2.2.2) ++ (w_lo cI cA cL q_out q_va q_aa q_cl q_fu Q S vO))) (hS : va_S A s.heap H locs) (hf : s_14 S vO M = some r) (KK : ∀ (Q : Nat → Nat → Nat) (H : Heap) (locs : List Loc) (ls : Array Slot), lv_has ls 7 [(0, .ref b), (1, .ref q_va), (2, .ref q_mo), (3, .ref q_out), (4, .int i)] → va_P (dC, dI) vwCl ((w_model cI q_mo q_mlb_ q_mcl_ q_mus_ q_mwr_ q_mdk_ q_mcp_ r.2.2.1 r.2.2.2.1 r.2.2.2.2.1 r.2.2.2.2.2.1 r.2.2.2.2.2.2.1 r.2.2.2.2.2.2.2.1 r.2.2.2.2.2.2.2.2.1 r.2.2.2.2.2.2.2.2.2.1 r.2.2.2.2.2.2.2.2.2.2) ++ (w_lo cI cA cL q_out q_va q_aa q_cl q_fu Q r.1 r.2.1)) H → va_D A ((w_model cI q_mo q_mlb_ q_mcl_ q_mus_ q_mwr_ q_mdk_ q_mcp_ r.2.2.1 r.2.2.2.1 r.2.2.2.2.1 r.2.2.2.2.2.1 r.2.2.2.2.2.2.1 r.2.2.2.2.2.2.2.1 r.2.2.2.2.2.2.2.2.1 r.2.2.2.2.2.2.2.2.2.1 r.2.2.2.2.2.2.2.2.2.2) ++ (w_lo cI cA cL q_out q_va q_aa q_cl q_fu Q r.1 r.2.1)) → va_S A s.heap H locs → W p l e room_1 s m #[Value.ref b] below meth c H locs (cells + 8) (slots + 713) Z (F0 m 1401 ls [])) : W p l e room_1 s m #[Value.ref b] below meth c H locs cells slots Z (F0 m 1170 ls []) := by
  have hbA : ¬ A b := fun h => absurd (hAn b h) (by omega)
  unfold s_14 at hf
  refine lv_aload_n hx hb d_law_1170 rfl (lv_at hl 1 rfl) ?_
  obtain ⟨y1, gy1, hf⟩ := jv_ob hf
  have hPr : va_P (dC, dI) vwCl (w_lo cI cA cL q_out q_va q_aa q_cl q_fu Q S vO) H := jv_PR (X := (w_model cI q_mo q_mlb_ q_mcl_ q_mus_ q_mwr_ q_mdk_ q_mcp_ M.1 M.2.1 M.2.2.1 M.2.2.2.1 M.2.2.2.2.1 M.2.2.2.2.2.1 M.2.2.2.2.2.2.1 M.2.2.2.2.2.2.2.1 M.2.2.2.2.2.2.2.2)) hP
  have hPv := jv_PT hPr
  have hDr : va_D A (w_lo cI cA cL q_out q_va q_aa q_cl q_fu Q S vO) := jv_DR (X := (w_model cI q_mo q_mlb_ q_mcl_ q_mus_ q_mwr_ q_mdk_ q_mcp_ M.1 M.2.1 M.2.2.1 M.2.2.2.1 M.2.2.2.2.1 M.2.2.2.2.2.1 M.2.2.2.2.2.2.1 M.2.2.2.2.2.2.2.1 M.2.2.2.2.2.2.2.2)) hD
  have hDv := jv_DT hDr
  have hFc := jv_fr hDv hS hA
  refine jv_cwi (va_runV (As := []) (rest := []) (b := q_va) ⟨hx, hb, hml, hown, hts⟩ (c_V_crash l dC dI cI cA cL q_va q_aa q_cl q_fu Q S.1 S.2.1 S.2.2.1 S.2.2.2 H.size y1 gy1) (jv_cwV hts wa_692 wa_303 wa_693 wa_694 wa_695 rfl rfl yd_V_crash ⟨Nat.le_of_ble_eq_true rfl, Nat.le_of_ble_eq_true rfl⟩) (jv_preVW hK hPv hDv 0 rfl rfl) rfl rfl hl.1 rfl (lv_room (Nat.le_of_ble_eq_true rfl)) d_law_1171 ⟨Nat.le_trans (Nat.le_add_right _ _) hc, Nat.le_trans (Nat.le_add_right _ _) hsl⟩) hS hFc (fun H1 locs hP1 hD1 hk1 hS0 => ?_)
  obtain ⟨hP, hD⟩ := jv_joinR (V := (w_vault cI cA q_va q_aa q_cl q_fu Q S.1 S.2.1 S.2.2.1 S.2.2.2)) (V1 := (w_vault cI cA q_va q_aa q_cl q_fu Q S.1 S.2.1 y1.2.1 y1.2.2)) hk1 hP1 hD1 ((w_model cI q_mo q_mlb_ q_mcl_ q_mus_ q_mwr_ q_mdk_ q_mcp_ M.1 M.2.1 M.2.2.1 M.2.2.2.1 M.2.2.2.2.1 M.2.2.2.2.2.1 M.2.2.2.2.2.2.1 M.2.2.2.2.2.2.2.1 M.2.2.2.2.2.2.2.2) ++ [(q_out, .inl (cL, 1, .inr (.inl vO)))]) A (fun q h => hA q (Nat.le_trans hS.1 h)) hP hD
  have hS := hS0
  generalize H1 = H at hP hS ⊢
  have hP : va_P (dC, dI) vwCl ((w_model cI q_mo q_mlb_ q_mcl_ q_mus_ q_mwr_ q_mdk_ q_mcp_ M.1 M.2.1 M.2.2.1 M.2.2.2.1 M.2.2.2.2.1 M.2.2.2.2.2.1 M.2.2.2.2.2.2.1 M.2.2.2.2.2.2.2.1 M.2.2.2.2.2.2.2.2) ++ (w_lo cI cA cL q_out q_va q_aa q_cl q_fu Q (S.1, S.2.1, y1.2.1, y1.2.2) vO)) H := hP
  have hD : va_D A ((w_model cI q_mo q_mlb_ q_mcl_ q_mus_ q_mwr_ q_mdk_ q_mcp_ M.1 M.2.1 M.2.2.1 M.2.2.2.1 M.2.2.2.2.1 M.2.2.2.2.2.1 M.2.2.2.2.2.2.1 M.2.2.2.2.2.2.2.1 M.2.2.2.2.2.2.2.2) ++ (w_lo cI cA cL q_out q_va q_aa q_cl q_fu Q (S.1, S.2.1, y1.2.1, y1.2.2) vO)) := hD
  refine lv_aload_n hx hb d_law_1174 rfl (lv_at hl 2 rfl) ?_
  obtain ⟨y2, gy2, hf⟩ := jv_ob hf
  have hPl : va_P (dC, dI) vwCl (w_model cI q_mo q_mlb_ q_mcl_ q_mus_ q_mwr_ q_mdk_ q_mcp_ M.1 M.2.1 M.2.2.1 M.2.2.2.1 M.2.2.2.2.1 M.2.2.2.2.2.1 M.2.2.2.2.2.2.1 M.2.2.2.2.2.2.2.1 M.2.2.2.2.2.2.2.2) H := jv_PL (Y := (w_lo cI cA cL q_out q_va q_aa q_cl q_fu Q (S.1, S.2.1, y1.2.1, y1.2.2) vO)) hP
  have hDl : va_D A (w_model cI q_mo q_mlb_ q_mcl_ q_mus_ q_mwr_ q_mdk_ q_mcp_ M.1 M.2.1 M.2.2.1 M.2.2.2.1 M.2.2.2.2.1 M.2.2.2.2.2.1 M.2.2.2.2.2.2.1 M.2.2.2.2.2.2.2.1 M.2.2.2.2.2.2.2.2) := jv_DL (Y := (w_lo cI cA cL q_out q_va q_aa q_cl q_fu Q (S.1, S.2.1, y1.2.1, y1.2.2) vO)) hD
  have hFc := jv_fr hDl hS hA
  refine jv_cwi (va_runV (As := []) (rest := [.int y1.1]) (b := q_mo) ⟨hx, hb, hml, hown, hts⟩ (c_M_crash l dC dI cI cA cL q_mo q_mlb_ q_mcl_ q_mus_ q_mwr_ q_mdk_ q_mcp_ M.1 M.2.1 M.2.2.1 M.2.2.2.1 M.2.2.2.2.1 M.2.2.2.2.2.1 M.2.2.2.2.2.2.1 M.2.2.2.2.2.2.2.1 M.2.2.2.2.2.2.2.2 H.size y2 gy2) (jv_cwV hts wa_696 wa_194 wa_697 wa_698 wa_699 rfl rfl yd_M_crash ⟨Nat.le_of_ble_eq_true rfl, Nat.le_of_ble_eq_true rfl⟩) (jv_preVW hK hPl hDl 0 rfl rfl) rfl rfl hl.1 rfl (lv_room (Nat.le_of_ble_eq_true rfl)) d_law_1175 ⟨Nat.le_trans (Nat.le_add_right _ _) hc, Nat.le_trans (Nat.le_add_right _ _) hsl⟩) hS hFc (fun H1 locs hP1 hD1 hk1 hS0 => ?_)
  obtain ⟨hP, hD⟩ := jv_joinL (X := (w_model cI q_mo q_mlb_ q_mcl_ q_mus_ q_mwr_ q_mdk_ q_mcp_ M.1 M.2.1 M.2.2.1 M.2.2.2.1 M.2.2.2.2.1 M.2.2.2.2.2.1 M.2.2.2.2.2.2.1 M.2.2.2.2.2.2.2.1 M.2.2.2.2.2.2.2.2)) (X1 := (w_model cI q_mo q_mlb_ q_mcl_ q_mus_ q_mwr_ q_mdk_ q_mcp_ y2.2.1 M.2.1 y2.2.2.1 M.2.2.2.1 M.2.2.2.2.1 y2.2.2.2 M.2.2.2.2.2.2.1 M.2.2.2.2.2.2.2.1 M.2.2.2.2.2.2.2.2)) (V := (w_lo cI cA cL q_out q_va q_aa q_cl q_fu Q (S.1, S.2.1, y1.2.1, y1.2.2) vO)) hP hD (fun q h => hA q (Nat.le_trans hS.1 h)) hk1 hP1 hD1
  have hS := hS0
  generalize H1 = H at hP hS ⊢
  have hP : va_P (dC, dI) vwCl ((w_model cI q_mo q_mlb_ q_mcl_ q_mus_ q_mwr_ q_mdk_ q_mcp_ y2.2.1 M.2.1 y2.2.2.1 M.2.2.2.1 M.2.2.2.2.1 y2.2.2.2 M.2.2.2.2.2.2.1 M.2.2.2.2.2.2.2.1 M.2.2.2.2.2.2.2.2) ++ (w_lo cI cA cL q_out q_va q_aa q_cl q_fu Q (S.1, S.2.1, y1.2.1, y1.2.2) vO)) H := hP
  have hD : va_D A ((w_model cI q_mo q_mlb_ q_mcl_ q_mus_ q_mwr_ q_mdk_ q_mcp_ y2.2.1 M.2.1 y2.2.2.1 M.2.2.2.1 M.2.2.2.2.1 y2.2.2.2 M.2.2.2.2.2.2.1 M.2.2.2.2.2.2.2.1 M.2.2.2.2.2.2.2.2) ++ (w_lo cI cA cL q_out q_va q_aa q_cl q_fu Q (S.1, S.2.1, y1.2.1, y1.2.2) vO)) := hD
  obtain ⟨he, hf⟩ := jv_gd hf
  refine lv_icmp_eq (tgt := 1401) hx hb d_law_1178 (by decide) (fun _ => ?_) (fun h9 => absurd he h9)
  obtain rfl := Option.some.inj hf
  refine W.widen (k := cells + 8) (n := slots + 713) (Nat.le_add_right _ _) (Nat.le_add_right _ _) ?_
  exact KK Q H locs ls hl hP hD hS
theorem d_law_1183 : decode cc_law 1183 = .ok (.aload_n 1, 1) := by decide +kernel
theorem d_law_1184 : decode cc_law 1184 = .ok (.aload_n 0, 1) := by decide +kernel
theorem d_law_1185 : decode cc_law 1185 = .ok (.iload 4, 2) := by decide +kernel
theorem d_law_1187 : decode cc_law 1187 = .ok (.iconst 1, 1) := by decide +kernel
theorem d_law_1188 : decode cc_law 1188 = .ok (.iadd, 1) := by decide +kernel
theorem d_law_1189 : decode cc_law 1189 = .ok (.iaload, 1) := by decide +kernel
theorem d_law_1190 : decode cc_law 1190 = .ok (.aload_n 3, 1) := by decide +kernel
theorem d_law_1191 : decode cc_law 1191 = .ok (.invokestatic 133, 3) := by decide +kernel
theorem d_law_1194 : decode cc_law 1194 = .ok (.istore 5, 2) := by decide +kernel
theorem d_law_1196 : decode cc_law 1196 = .ok (.aload_n 2, 1) := by decide +kernel
theorem d_law_1197 : decode cc_law 1197 = .ok (.aload_n 0, 1) := by decide +kernel
theorem d_law_1198 : decode cc_law 1198 = .ok (.iload 4, 2) := by decide +kernel
theorem d_law_1200 : decode cc_law 1200 = .ok (.iconst 1, 1) := by decide +kernel
theorem d_law_1201 : decode cc_law 1201 = .ok (.iadd, 1) := by decide +kernel
theorem d_law_1202 : decode cc_law 1202 = .ok (.iaload, 1) := by decide +kernel
theorem d_law_1203 : decode cc_law 1203 = .ok (.invokevirtual 135, 3) := by decide +kernel
theorem d_law_1206 : decode cc_law 1206 = .ok (.istore 6, 2) := by decide +kernel
theorem d_law_1208 : decode cc_law 1208 = .ok (.aload_n 2, 1) := by decide +kernel
theorem d_law_1209 : decode cc_law 1209 = .ok (.invokevirtual 83, 3) := by decide +kernel
theorem d_law_1212 : decode cc_law 1212 = .ok (.iload 5, 2) := by decide +kernel
theorem d_law_1214 : decode cc_law 1214 = .ok (.if_icmp .eq 5, 3) := by decide +kernel
theorem d_law_1219 : decode cc_law 1219 = .ok (.iload 5, 2) := by decide +kernel
theorem d_law_1221 : decode cc_law 1221 = .ok (.ifCond .ne 22, 3) := by decide +kernel
theorem d_law_1224 : decode cc_law 1224 = .ok (.aload_n 3, 1) := by decide +kernel
theorem d_law_1225 : decode cc_law 1225 = .ok (.iconst 0, 1) := by decide +kernel
theorem d_law_1226 : decode cc_law 1226 = .ok (.laload, 1) := by decide +kernel
theorem d_law_1227 : decode cc_law 1227 = .ok (.iload 6, 2) := by decide +kernel
theorem d_law_1229 : decode cc_law 1229 = .ok (.ifCond .eq 7, 3) := by decide +kernel
theorem d_law_1236 : decode cc_law 1236 = .ok (.lconst 0, 1) := by decide +kernel
theorem d_law_1237 : decode cc_law 1237 = .ok (.lcmp, 1) := by decide +kernel
theorem d_law_1238 : decode cc_law 1238 = .ok (.ifCond .eq 5, 3) := by decide +kernel
theorem d_law_1243 : decode cc_law 1243 = .ok (.goto 158, 3) := by decide +kernel
theorem d_law_1232 : decode cc_law 1232 = .ok (.lconst 1, 1) := by decide +kernel
theorem d_law_1233 : decode cc_law 1233 = .ok (.goto 4, 3) := by decide +kernel
def s_15 (S : jv_vs) (vO : Nat → Int64) (M : jv_ms) (p1 : Int32) : Option jv_st :=
  (l_tear S p1 vO).bind fun x => (f_M_tear p1 M.1 M.2.2.1).bind fun y1 => (f_M_thrown y1.2.1).bind fun y2 => if y2 = x.1 then (if x.1 = 0 then (if x.2.2 (0 : Int32).toNatClampNeg = (if y1.1 = 0 then (0 : Int64) else 1) then (some (x.2.1, x.2.2, y1.2.1, M.2.1, y1.2.2, M.2.2.2.1, M.2.2.2.2.1, M.2.2.2.2.2.1, M.2.2.2.2.2.2.1, M.2.2.2.2.2.2.2.1, M.2.2.2.2.2.2.2.2)) else none) else (some (x.2.1, x.2.2, y1.2.1, M.2.1, y1.2.2, M.2.2.2.1, M.2.2.2.2.1, M.2.2.2.2.2.1, M.2.2.2.2.2.2.1, M.2.2.2.2.2.2.2.1, M.2.2.2.2.2.2.2.2))) else none
set_option maxHeartbeats 4000000 in
set_option maxRecDepth 100000 in
theorem b_law_15 {l : Launch} {dC : Nat → ClassId} {dI : Nat → Nat → Nat} {cI cA cL : ClassId} {q_mo q_mlb_ q_mcl_ q_mus_ q_mwr_ q_mdk_ q_mcp_ q_out q_va q_aa q_cl q_fu : Nat} {p : Program} {e : Env} {s : State} {m : MethodId} {below : List Frame} {meth : Method} {c : Code} {b L : Nat} {xs : Nat → Int32} (hl9 : l.stackTraces = false) (hx : p.tables.exec = Jvm.exec) (hb : c.code = code) (hml : c.maxLocals = 7) (hown : s.vm.findClass R_Law = some m.cls) (hts : ∀ w ∈ Cond.tt :: jv_LT, w.before #[Value.ref b] s = true) (hX : va_X b L xs s s.heap) (hbl : b < s.heap.size) (hK : va_K (dC, dI) vwCl (jv_ty cI cA cL) s) (hTc : jv_tc s) {A : Nat → Prop} (hA : ∀ q : Nat, s.heap.size ≤ q → A q) (hAn : ∀ q : Nat, A q → s.heap.size ≤ q) {Z : State → Prop} {Q : Nat → Nat → Nat} {i : Int32} (hi1 : vp_in (i + (1 : Int32)) L) {S : jv_vs} {vO : Nat → Int64} {M : jv_ms} {r : jv_st} {H : Heap} {locs : List Loc} {cells slots : Nat} (hc : cells + 8 ≤ room_1.cells) (hsl : slots + 713 ≤ room_1.slots) {ls : Array Slot} (hl : lv_has ls 7 [(0, .ref b), (1, .ref q_va), (2, .ref q_mo), (3, .ref q_out), (4, .int i)]) (hP : va_P (dC, dI) vwCl ((w_model cI q_mo q_mlb_ q_mcl_ q_mus_ q_mwr_ q_mdk_ q_mcp_ M.1 M.2.1 M.2.2.1 M.2.2.2.1 M.2.2.2.2.1 M.2.2.2.2.2.1 M.2.2.2.2.2.2.1 M.2.2.2.2.2.2.2.1 M.2.2.2.2.2.2.2.2) ++ (w_lo cI cA cL q_out q_va q_aa q_cl q_fu Q S vO)) H) (hD : va_D A ((w_model cI q_mo q_mlb_ q_mcl_ q_mus_ q_mwr_ q_mdk_ q_mcp_ M.1 M.2.1 M.2.2.1 M.2.2.2.1 M.2.2.2.2.1 M.2.2.2.2.2.1 M.2.2.2.2.2.2.1 M.2.2.2.2.2.2.2.1 M.2.2.2.2.2.2.2.2) ++ (w_lo cI cA cL q_out q_va q_aa q_cl q_fu Q S vO))) (hS : va_S A s.heap H locs) (hf : s_15 S vO M (xs (i + (1 : Int32)).toNatClampNeg) = some r) (KK : ∀ (Q : Nat → Nat → Nat) (H : Heap) (locs : List Loc) (ls : Array Slot), lv_has ls 7 [(0, .ref b), (1, .ref q_va), (2, .ref q_mo), (3, .ref q_out), (4, .int i)] → va_P (dC, dI) vwCl ((w_model cI q_mo q_mlb_ q_mcl_ q_mus_ q_mwr_ q_mdk_ q_mcp_ r.2.2.1 r.2.2.2.1 r.2.2.2.2.1 r.2.2.2.2.2.1 r.2.2.2.2.2.2.1 r.2.2.2.2.2.2.2.1 r.2.2.2.2.2.2.2.2.1 r.2.2.2.2.2.2.2.2.2.1 r.2.2.2.2.2.2.2.2.2.2) ++ (w_lo cI cA cL q_out q_va q_aa q_cl q_fu Q r.1 r.2.1)) H → va_D A ((w_model cI q_mo q_mlb_ q_mcl_ q_mus_ q_mwr_ q_mdk_ q_mcp_ r.2.2.1 r.2.2.2.1 r.2.2.2.2.1 r.2.2.2.2.2.1 r.2.2.2.2.2.2.1 r.2.2.2.2.2.2.2.1 r.2.2.2.2.2.2.2.2.1 r.2.2.2.2.2.2.2.2.2.1 r.2.2.2.2.2.2.2.2.2.2) ++ (w_lo cI cA cL q_out q_va q_aa q_cl q_fu Q r.1 r.2.1)) → va_S A s.heap H locs → W p l e room_1 s m #[Value.ref b] below meth c H locs (cells + 8) (slots + 713) Z (F0 m 1401 ls [])) : W p l e room_1 s m #[Value.ref b] below meth c H locs cells slots Z (F0 m 1183 ls []) := by
  have hbA : ¬ A b := fun h => absurd (hAn b h) (by omega)
  unfold s_15 at hf
  refine lv_aload_n hx hb d_law_1183 rfl (lv_at hl 1 rfl) ?_
  refine lv_aload_n hx hb d_law_1184 rfl (lv_at hl 0 rfl) ?_
  refine lv_iload hx hb d_law_1185 (lv_at hl 4 rfl) ?_
  refine lv_iconst (v := (1 : Int32)) hx hb d_law_1187 (by decide) ?_
  refine lv_iadd hx hb d_law_1188 ?_
  refine va_sld hx hb hX hbl hbA hS hi1 d_law_1189 ?_
  refine lv_aload_n hx hb d_law_1190 rfl (lv_at hl 3 rfl) ?_
  obtain ⟨x, gx, hf⟩ := jv_ob hf
  have hPr : va_P (dC, dI) vwCl (w_lo cI cA cL q_out q_va q_aa q_cl q_fu Q S vO) H := jv_PR (X := (w_model cI q_mo q_mlb_ q_mcl_ q_mus_ q_mwr_ q_mdk_ q_mcp_ M.1 M.2.1 M.2.2.1 M.2.2.2.1 M.2.2.2.2.1 M.2.2.2.2.2.1 M.2.2.2.2.2.2.1 M.2.2.2.2.2.2.2.1 M.2.2.2.2.2.2.2.2)) hP
  have hDr : va_D A (w_lo cI cA cL q_out q_va q_aa q_cl q_fu Q S vO) := jv_DR (X := (w_model cI q_mo q_mlb_ q_mcl_ q_mus_ q_mwr_ q_mdk_ q_mcp_ M.1 M.2.1 M.2.2.1 M.2.2.2.1 M.2.2.2.2.1 M.2.2.2.2.2.1 M.2.2.2.2.2.2.1 M.2.2.2.2.2.2.2.1 M.2.2.2.2.2.2.2.2)) hD
  have hFc := jv_fr hDr hS hA
  refine jv_cwl (vx_runSW (As := [.ref q_va, .int (xs (i + (1 : Int32)).toNatClampNeg), .ref q_out]) (rest := []) ⟨hx, hb, hml, hown, hts⟩ (c_L_tear l hl9 dC dI cI cA cL q_out q_va q_aa q_cl q_fu Q S vO (xs (i + (1 : Int32)).toNatClampNeg) H.size x gx) (jv_cwSW hts wa_700 wa_590 wa_701 wa_702 rfl rfl yd_L_tear ⟨Nat.le_of_ble_eq_true rfl, Nat.le_of_ble_eq_true rfl⟩) (jv_preSlw hTc hK hPr hDr (fun q hq => hS.2.1 q hq (fun h => absurd (hAn q h) (by omega)))) rfl rfl hl.1 rfl (lv_room (Nat.le_of_ble_eq_true rfl)) d_law_1191 ⟨hc, hsl⟩) hS hFc (fun Q H1 locs hP1 hD1 hk1 hS0 => ?_)
  obtain ⟨hP, hD⟩ := jv_joinR (V1 := (w_lo cI cA cL q_out q_va q_aa q_cl q_fu Q x.2.1 x.2.2)) hk1 hP1 hD1 (w_model cI q_mo q_mlb_ q_mcl_ q_mus_ q_mwr_ q_mdk_ q_mcp_ M.1 M.2.1 M.2.2.1 M.2.2.2.1 M.2.2.2.2.1 M.2.2.2.2.2.1 M.2.2.2.2.2.2.1 M.2.2.2.2.2.2.2.1 M.2.2.2.2.2.2.2.2) A (fun q h => hA q (Nat.le_trans hS.1 h)) hP hD
  have hS := hS0
  generalize H1 = H at hP hS ⊢
  have hP : va_P (dC, dI) vwCl ((w_model cI q_mo q_mlb_ q_mcl_ q_mus_ q_mwr_ q_mdk_ q_mcp_ M.1 M.2.1 M.2.2.1 M.2.2.2.1 M.2.2.2.2.1 M.2.2.2.2.2.1 M.2.2.2.2.2.2.1 M.2.2.2.2.2.2.2.1 M.2.2.2.2.2.2.2.2) ++ (w_lo cI cA cL q_out q_va q_aa q_cl q_fu Q x.2.1 x.2.2)) H := hP
  have hD : va_D A ((w_model cI q_mo q_mlb_ q_mcl_ q_mus_ q_mwr_ q_mdk_ q_mcp_ M.1 M.2.1 M.2.2.1 M.2.2.2.1 M.2.2.2.2.1 M.2.2.2.2.2.1 M.2.2.2.2.2.2.1 M.2.2.2.2.2.2.2.1 M.2.2.2.2.2.2.2.2) ++ (w_lo cI cA cL q_out q_va q_aa q_cl q_fu Q x.2.1 x.2.2)) := hD
  refine lv_istore (lv' := [(5, .int x.1), (0, .ref b), (1, .ref q_va), (2, .ref q_mo), (3, .ref q_out), (4, .int i)]) hx hb d_law_1194 hl (by decide) rfl (fun ls hl => ?_)
  refine lv_aload_n hx hb d_law_1196 rfl (lv_at hl 3 rfl) ?_
  refine lv_aload_n hx hb d_law_1197 rfl (lv_at hl 1 rfl) ?_
  refine lv_iload hx hb d_law_1198 (lv_at hl 5 rfl) ?_
  refine lv_iconst (v := (1 : Int32)) hx hb d_law_1200 (by decide) ?_
  refine lv_iadd hx hb d_law_1201 ?_
  refine va_sld hx hb hX hbl hbA hS hi1 d_law_1202 ?_
  obtain ⟨y1, gy1, hf⟩ := jv_ob hf
  have hPl : va_P (dC, dI) vwCl (w_model cI q_mo q_mlb_ q_mcl_ q_mus_ q_mwr_ q_mdk_ q_mcp_ M.1 M.2.1 M.2.2.1 M.2.2.2.1 M.2.2.2.2.1 M.2.2.2.2.2.1 M.2.2.2.2.2.2.1 M.2.2.2.2.2.2.2.1 M.2.2.2.2.2.2.2.2) H := jv_PL (Y := (w_lo cI cA cL q_out q_va q_aa q_cl q_fu Q x.2.1 x.2.2)) hP
  have hDl : va_D A (w_model cI q_mo q_mlb_ q_mcl_ q_mus_ q_mwr_ q_mdk_ q_mcp_ M.1 M.2.1 M.2.2.1 M.2.2.2.1 M.2.2.2.2.1 M.2.2.2.2.2.1 M.2.2.2.2.2.2.1 M.2.2.2.2.2.2.2.1 M.2.2.2.2.2.2.2.2) := jv_DL (Y := (w_lo cI cA cL q_out q_va q_aa q_cl q_fu Q x.2.1 x.2.2)) hD
  have hFc := jv_fr hDl hS hA
  refine jv_cwi (va_runV (As := [.int (xs (i + (1 : Int32)).toNatClampNeg)]) (rest := []) (b := q_mo) ⟨hx, hb, hml, hown, hts⟩ (c_M_tear l dC dI cI cA cL q_mo q_mlb_ q_mcl_ q_mus_ q_mwr_ q_mdk_ q_mcp_ M.1 M.2.1 M.2.2.1 M.2.2.2.1 M.2.2.2.2.1 M.2.2.2.2.2.1 M.2.2.2.2.2.2.1 M.2.2.2.2.2.2.2.1 M.2.2.2.2.2.2.2.2 (xs (i + (1 : Int32)).toNatClampNeg) H.size y1 gy1) (jv_cwV hts wa_703 wa_194 wa_704 wa_705 wa_706 rfl rfl yd_M_tear ⟨Nat.le_of_ble_eq_true rfl, Nat.le_of_ble_eq_true rfl⟩) (jv_preVW hK hPl hDl 0 rfl rfl) rfl rfl hl.1 rfl (lv_room (Nat.le_of_ble_eq_true rfl)) d_law_1203 ⟨hc, hsl⟩) hS hFc (fun H1 locs hP1 hD1 hk1 hS0 => ?_)
  obtain ⟨hP, hD⟩ := jv_joinL (X := (w_model cI q_mo q_mlb_ q_mcl_ q_mus_ q_mwr_ q_mdk_ q_mcp_ M.1 M.2.1 M.2.2.1 M.2.2.2.1 M.2.2.2.2.1 M.2.2.2.2.2.1 M.2.2.2.2.2.2.1 M.2.2.2.2.2.2.2.1 M.2.2.2.2.2.2.2.2)) (X1 := (w_model cI q_mo q_mlb_ q_mcl_ q_mus_ q_mwr_ q_mdk_ q_mcp_ y1.2.1 M.2.1 y1.2.2 M.2.2.2.1 M.2.2.2.2.1 M.2.2.2.2.2.1 M.2.2.2.2.2.2.1 M.2.2.2.2.2.2.2.1 M.2.2.2.2.2.2.2.2)) (V := (w_lo cI cA cL q_out q_va q_aa q_cl q_fu Q x.2.1 x.2.2)) hP hD (fun q h => hA q (Nat.le_trans hS.1 h)) hk1 hP1 hD1
  have hS := hS0
  generalize H1 = H at hP hS ⊢
  have hP : va_P (dC, dI) vwCl ((w_model cI q_mo q_mlb_ q_mcl_ q_mus_ q_mwr_ q_mdk_ q_mcp_ y1.2.1 M.2.1 y1.2.2 M.2.2.2.1 M.2.2.2.2.1 M.2.2.2.2.2.1 M.2.2.2.2.2.2.1 M.2.2.2.2.2.2.2.1 M.2.2.2.2.2.2.2.2) ++ (w_lo cI cA cL q_out q_va q_aa q_cl q_fu Q x.2.1 x.2.2)) H := hP
  have hD : va_D A ((w_model cI q_mo q_mlb_ q_mcl_ q_mus_ q_mwr_ q_mdk_ q_mcp_ y1.2.1 M.2.1 y1.2.2 M.2.2.2.1 M.2.2.2.2.1 M.2.2.2.2.2.1 M.2.2.2.2.2.2.1 M.2.2.2.2.2.2.2.1 M.2.2.2.2.2.2.2.2) ++ (w_lo cI cA cL q_out q_va q_aa q_cl q_fu Q x.2.1 x.2.2)) := hD
  refine lv_istore (lv' := [(6, .int y1.1), (5, .int x.1), (0, .ref b), (1, .ref q_va), (2, .ref q_mo), (3, .ref q_out), (4, .int i)]) hx hb d_law_1206 hl (by decide) rfl (fun ls hl => ?_)
  refine lv_aload_n hx hb d_law_1208 rfl (lv_at hl 4 rfl) ?_
  obtain ⟨y2, gy2, hf⟩ := jv_ob hf
  have hPl : va_P (dC, dI) vwCl (w_model cI q_mo q_mlb_ q_mcl_ q_mus_ q_mwr_ q_mdk_ q_mcp_ y1.2.1 M.2.1 y1.2.2 M.2.2.2.1 M.2.2.2.2.1 M.2.2.2.2.2.1 M.2.2.2.2.2.2.1 M.2.2.2.2.2.2.2.1 M.2.2.2.2.2.2.2.2) H := jv_PL (Y := (w_lo cI cA cL q_out q_va q_aa q_cl q_fu Q x.2.1 x.2.2)) hP
  have hDl : va_D A (w_model cI q_mo q_mlb_ q_mcl_ q_mus_ q_mwr_ q_mdk_ q_mcp_ y1.2.1 M.2.1 y1.2.2 M.2.2.2.1 M.2.2.2.2.1 M.2.2.2.2.2.1 M.2.2.2.2.2.2.1 M.2.2.2.2.2.2.2.1 M.2.2.2.2.2.2.2.2) := jv_DL (Y := (w_lo cI cA cL q_out q_va q_aa q_cl q_fu Q x.2.1 x.2.2)) hD
  refine jv_cs (W.runV (As := []) (rest := []) (b := q_mo) ⟨hx, hb, hml, hown, hts⟩ (c_M_thrown l dC dI cI cA cL q_mo q_mlb_ q_mcl_ q_mus_ q_mwr_ q_mdk_ q_mcp_ y1.2.1 M.2.1 y1.2.2 M.2.2.2.1 M.2.2.2.2.1 M.2.2.2.2.2.1 M.2.2.2.2.2.2.1 M.2.2.2.2.2.2.2.1 M.2.2.2.2.2.2.2.2 y2 gy2) (jv_cwV hts wa_597 wa_194 wa_598 wa_599 wa_600 rfl rfl yd_M_thrown ⟨Nat.le_of_ble_eq_true rfl, Nat.le_of_ble_eq_true rfl⟩) (jv_preV hK hPl 0 rfl rfl) rfl rfl hl.1 rfl (lv_room (Nat.le_of_ble_eq_true rfl)) d_law_1209 ⟨hc, hsl⟩) ?_
  refine lv_iload hx hb d_law_1212 (lv_at hl 1 rfl) ?_
  obtain ⟨he, hf⟩ := jv_gd hf
  refine lv_icmp_eq (tgt := 1219) hx hb d_law_1214 (by decide) (fun _ => ?_) (fun h9 => absurd he h9)
  refine lv_iload hx hb d_law_1219 (lv_at hl 1 rfl) ?_
  by_cases hz : x.1 = 0
  · have hf := jv_it hf hz
    refine lv_if_ne (tgt := 1243) hx hb d_law_1221 (by decide) (fun h9 => absurd hz h9) (fun _ => ?_)
    refine lv_aload_n hx hb d_law_1224 rfl (lv_at hl 5 rfl) ?_
    refine lv_iconst (v := (0 : Int32)) hx hb d_law_1225 (by decide) ?_
    refine va_lald hx hb hK hP 7 2 rfl rfl (by unfold vp_in; decide) d_law_1226 ?_
    refine lv_iload hx hb d_law_1227 (lv_at hl 0 rfl) ?_
    obtain ⟨ho, hf⟩ := jv_gd hf
    by_cases hy : y1.1 = 0
    · rw [if_pos hy] at ho
      refine lv_if_eq (tgt := 1236) hx hb d_law_1229 (by decide) (fun _ => ?_) (fun h9 => absurd hy h9)
      refine lv_lconst (v := (0 : Int64)) hx hb d_law_1236 (by decide) ?_
      refine jv_lcmp0 hx hb ho d_law_1237 ?_
      refine lv_if_eq (tgt := 1243) hx hb d_law_1238 (by decide) (fun _ => ?_) (fun h9 => absurd rfl h9)
      obtain rfl := Option.some.inj hf
      refine lv_goto (tgt := 1401) hx hb d_law_1243 (by decide) ?_
      exact KK Q H locs ls (lv_sub hl [2, 3, 4, 5, 6] rfl) hP hD hS
    · rw [if_neg hy] at ho
      refine lv_if_eq (tgt := 1236) hx hb d_law_1229 (by decide) (fun h9 => absurd h9 hy) (fun _ => ?_)
      refine lv_lconst (v := (1 : Int64)) hx hb d_law_1232 (by decide) ?_
      refine lv_goto (tgt := 1237) hx hb d_law_1233 (by decide) ?_
      refine jv_lcmp0 hx hb ho d_law_1237 ?_
      refine lv_if_eq (tgt := 1243) hx hb d_law_1238 (by decide) (fun _ => ?_) (fun h9 => absurd rfl h9)
      obtain rfl := Option.some.inj hf
      refine lv_goto (tgt := 1401) hx hb d_law_1243 (by decide) ?_
      exact KK Q H locs ls (lv_sub hl [2, 3, 4, 5, 6] rfl) hP hD hS
  · have hf := jv_if hf hz
    refine lv_if_ne (tgt := 1243) hx hb d_law_1221 (by decide) (fun _ => ?_) (fun h9 => absurd h9 hz)
    obtain rfl := Option.some.inj hf
    refine lv_goto (tgt := 1401) hx hb d_law_1243 (by decide) ?_
    exact KK Q H locs ls (lv_sub hl [2, 3, 4, 5, 6] rfl) hP hD hS
theorem d_law_1246 : decode cc_law 1246 = .ok (.aload_n 1, 1) := by decide +kernel
theorem d_law_1247 : decode cc_law 1247 = .ok (.aload_n 0, 1) := by decide +kernel
theorem d_law_1248 : decode cc_law 1248 = .ok (.iload 4, 2) := by decide +kernel
theorem d_law_1250 : decode cc_law 1250 = .ok (.iconst 1, 1) := by decide +kernel
theorem d_law_1251 : decode cc_law 1251 = .ok (.iadd, 1) := by decide +kernel
theorem d_law_1252 : decode cc_law 1252 = .ok (.iaload, 1) := by decide +kernel
theorem d_law_1253 : decode cc_law 1253 = .ok (.aload_n 0, 1) := by decide +kernel
theorem d_law_1254 : decode cc_law 1254 = .ok (.iload 4, 2) := by decide +kernel
theorem d_law_1256 : decode cc_law 1256 = .ok (.iconst 2, 1) := by decide +kernel
theorem d_law_1257 : decode cc_law 1257 = .ok (.iadd, 1) := by decide +kernel
theorem d_law_1258 : decode cc_law 1258 = .ok (.iaload, 1) := by decide +kernel
theorem d_law_1259 : decode cc_law 1259 = .ok (.aload_n 0, 1) := by decide +kernel
theorem d_law_1260 : decode cc_law 1260 = .ok (.iload 4, 2) := by decide +kernel
theorem d_law_1262 : decode cc_law 1262 = .ok (.iconst 3, 1) := by decide +kernel
theorem d_law_1263 : decode cc_law 1263 = .ok (.iadd, 1) := by decide +kernel
theorem d_law_1264 : decode cc_law 1264 = .ok (.iaload, 1) := by decide +kernel
theorem d_law_1265 : decode cc_law 1265 = .ok (.aload_n 3, 1) := by decide +kernel
theorem d_law_1266 : decode cc_law 1266 = .ok (.invokestatic 136, 3) := by decide +kernel
theorem d_law_1269 : decode cc_law 1269 = .ok (.istore 5, 2) := by decide +kernel
theorem d_law_1271 : decode cc_law 1271 = .ok (.aload_n 2, 1) := by decide +kernel
theorem d_law_1272 : decode cc_law 1272 = .ok (.aload_n 0, 1) := by decide +kernel
theorem d_law_1273 : decode cc_law 1273 = .ok (.iload 4, 2) := by decide +kernel
theorem d_law_1275 : decode cc_law 1275 = .ok (.iconst 1, 1) := by decide +kernel
theorem d_law_1276 : decode cc_law 1276 = .ok (.iadd, 1) := by decide +kernel
theorem d_law_1277 : decode cc_law 1277 = .ok (.iaload, 1) := by decide +kernel
theorem d_law_1278 : decode cc_law 1278 = .ok (.aload_n 0, 1) := by decide +kernel
theorem d_law_1279 : decode cc_law 1279 = .ok (.iload 4, 2) := by decide +kernel
theorem d_law_1281 : decode cc_law 1281 = .ok (.iconst 2, 1) := by decide +kernel
theorem d_law_1282 : decode cc_law 1282 = .ok (.iadd, 1) := by decide +kernel
theorem d_law_1283 : decode cc_law 1283 = .ok (.iaload, 1) := by decide +kernel
theorem d_law_1284 : decode cc_law 1284 = .ok (.aload_n 0, 1) := by decide +kernel
theorem d_law_1285 : decode cc_law 1285 = .ok (.iload 4, 2) := by decide +kernel
theorem d_law_1287 : decode cc_law 1287 = .ok (.iconst 3, 1) := by decide +kernel
theorem d_law_1288 : decode cc_law 1288 = .ok (.iadd, 1) := by decide +kernel
theorem d_law_1289 : decode cc_law 1289 = .ok (.iaload, 1) := by decide +kernel
theorem d_law_1290 : decode cc_law 1290 = .ok (.invokevirtual 138, 3) := by decide +kernel
theorem d_law_1293 : decode cc_law 1293 = .ok (.istore 6, 2) := by decide +kernel
theorem d_law_1295 : decode cc_law 1295 = .ok (.aload_n 2, 1) := by decide +kernel
theorem d_law_1296 : decode cc_law 1296 = .ok (.invokevirtual 83, 3) := by decide +kernel
theorem d_law_1299 : decode cc_law 1299 = .ok (.iload 5, 2) := by decide +kernel
theorem d_law_1301 : decode cc_law 1301 = .ok (.if_icmp .eq 5, 3) := by decide +kernel
theorem d_law_1306 : decode cc_law 1306 = .ok (.iload 5, 2) := by decide +kernel
theorem d_law_1308 : decode cc_law 1308 = .ok (.ifCond .ne 15, 3) := by decide +kernel
theorem d_law_1311 : decode cc_law 1311 = .ok (.aload_n 3, 1) := by decide +kernel
theorem d_law_1312 : decode cc_law 1312 = .ok (.iconst 0, 1) := by decide +kernel
theorem d_law_1313 : decode cc_law 1313 = .ok (.laload, 1) := by decide +kernel
theorem d_law_1314 : decode cc_law 1314 = .ok (.iload 6, 2) := by decide +kernel
theorem d_law_1316 : decode cc_law 1316 = .ok (.i2l, 1) := by decide +kernel
theorem d_law_1317 : decode cc_law 1317 = .ok (.lcmp, 1) := by decide +kernel
theorem d_law_1318 : decode cc_law 1318 = .ok (.ifCond .eq 5, 3) := by decide +kernel
theorem d_law_1323 : decode cc_law 1323 = .ok (.goto 78, 3) := by decide +kernel
def s_16 (S : jv_vs) (vO : Nat → Int64) (M : jv_ms) (p1 : Int32) (p2 : Int32) (p3 : Int32) : Option jv_st :=
  (l_disk S p1 p2 p3 vO).bind fun x => (f_M_disk M.2.1 M.2.2.2.2.2.2.2.1 p1 p2 p3 M.1).bind fun y1 => (f_M_thrown y1.2).bind fun y2 => if y2 = x.1 then (if x.1 = 0 then (if x.2.2 (0 : Int32).toNatClampNeg = (y1.1).toInt64 then (some (x.2.1, x.2.2, y1.2, M.2.1, M.2.2.1, M.2.2.2.1, M.2.2.2.2.1, M.2.2.2.2.2.1, M.2.2.2.2.2.2.1, M.2.2.2.2.2.2.2.1, M.2.2.2.2.2.2.2.2)) else none) else (some (x.2.1, x.2.2, y1.2, M.2.1, M.2.2.1, M.2.2.2.1, M.2.2.2.2.1, M.2.2.2.2.2.1, M.2.2.2.2.2.2.1, M.2.2.2.2.2.2.2.1, M.2.2.2.2.2.2.2.2))) else none
set_option maxHeartbeats 4000000 in
set_option maxRecDepth 100000 in
theorem b_law_16 {l : Launch} {dC : Nat → ClassId} {dI : Nat → Nat → Nat} {cI cA cL : ClassId} {q_mo q_mlb_ q_mcl_ q_mus_ q_mwr_ q_mdk_ q_mcp_ q_out q_va q_aa q_cl q_fu : Nat} {p : Program} {e : Env} {s : State} {m : MethodId} {below : List Frame} {meth : Method} {c : Code} {b L : Nat} {xs : Nat → Int32} (hl9 : l.stackTraces = false) (hx : p.tables.exec = Jvm.exec) (hb : c.code = code) (hml : c.maxLocals = 7) (hown : s.vm.findClass R_Law = some m.cls) (hts : ∀ w ∈ Cond.tt :: jv_LT, w.before #[Value.ref b] s = true) (hX : va_X b L xs s s.heap) (hbl : b < s.heap.size) (hK : va_K (dC, dI) vwCl (jv_ty cI cA cL) s) (hTc : jv_tc s) {A : Nat → Prop} (hA : ∀ q : Nat, s.heap.size ≤ q → A q) (hAn : ∀ q : Nat, A q → s.heap.size ≤ q) {Z : State → Prop} {Q : Nat → Nat → Nat} {i : Int32} (hi1 : vp_in (i + (1 : Int32)) L) (hi2 : vp_in (i + (2 : Int32)) L) (hi3 : vp_in (i + (3 : Int32)) L) {S : jv_vs} {vO : Nat → Int64} {M : jv_ms} {r : jv_st} {H : Heap} {locs : List Loc} {cells slots : Nat} (hc : cells + 8 ≤ room_1.cells) (hsl : slots + 713 ≤ room_1.slots) {ls : Array Slot} (hl : lv_has ls 7 [(0, .ref b), (1, .ref q_va), (2, .ref q_mo), (3, .ref q_out), (4, .int i)]) (hP : va_P (dC, dI) vwCl ((w_model cI q_mo q_mlb_ q_mcl_ q_mus_ q_mwr_ q_mdk_ q_mcp_ M.1 M.2.1 M.2.2.1 M.2.2.2.1 M.2.2.2.2.1 M.2.2.2.2.2.1 M.2.2.2.2.2.2.1 M.2.2.2.2.2.2.2.1 M.2.2.2.2.2.2.2.2) ++ (w_lo cI cA cL q_out q_va q_aa q_cl q_fu Q S vO)) H) (hD : va_D A ((w_model cI q_mo q_mlb_ q_mcl_ q_mus_ q_mwr_ q_mdk_ q_mcp_ M.1 M.2.1 M.2.2.1 M.2.2.2.1 M.2.2.2.2.1 M.2.2.2.2.2.1 M.2.2.2.2.2.2.1 M.2.2.2.2.2.2.2.1 M.2.2.2.2.2.2.2.2) ++ (w_lo cI cA cL q_out q_va q_aa q_cl q_fu Q S vO))) (hS : va_S A s.heap H locs) (hf : s_16 S vO M (xs (i + (1 : Int32)).toNatClampNeg) (xs (i + (2 : Int32)).toNatClampNeg) (xs (i + (3 : Int32)).toNatClampNeg) = some r) (KK : ∀ (Q : Nat → Nat → Nat) (H : Heap) (locs : List Loc) (ls : Array Slot), lv_has ls 7 [(0, .ref b), (1, .ref q_va), (2, .ref q_mo), (3, .ref q_out), (4, .int i)] → va_P (dC, dI) vwCl ((w_model cI q_mo q_mlb_ q_mcl_ q_mus_ q_mwr_ q_mdk_ q_mcp_ r.2.2.1 r.2.2.2.1 r.2.2.2.2.1 r.2.2.2.2.2.1 r.2.2.2.2.2.2.1 r.2.2.2.2.2.2.2.1 r.2.2.2.2.2.2.2.2.1 r.2.2.2.2.2.2.2.2.2.1 r.2.2.2.2.2.2.2.2.2.2) ++ (w_lo cI cA cL q_out q_va q_aa q_cl q_fu Q r.1 r.2.1)) H → va_D A ((w_model cI q_mo q_mlb_ q_mcl_ q_mus_ q_mwr_ q_mdk_ q_mcp_ r.2.2.1 r.2.2.2.1 r.2.2.2.2.1 r.2.2.2.2.2.1 r.2.2.2.2.2.2.1 r.2.2.2.2.2.2.2.1 r.2.2.2.2.2.2.2.2.1 r.2.2.2.2.2.2.2.2.2.1 r.2.2.2.2.2.2.2.2.2.2) ++ (w_lo cI cA cL q_out q_va q_aa q_cl q_fu Q r.1 r.2.1)) → va_S A s.heap H locs → W p l e room_1 s m #[Value.ref b] below meth c H locs (cells + 8) (slots + 713) Z (F0 m 1401 ls [])) : W p l e room_1 s m #[Value.ref b] below meth c H locs cells slots Z (F0 m 1246 ls []) := by
  have hbA : ¬ A b := fun h => absurd (hAn b h) (by omega)
  unfold s_16 at hf
  refine lv_aload_n hx hb d_law_1246 rfl (lv_at hl 1 rfl) ?_
  refine lv_aload_n hx hb d_law_1247 rfl (lv_at hl 0 rfl) ?_
  refine lv_iload hx hb d_law_1248 (lv_at hl 4 rfl) ?_
  refine lv_iconst (v := (1 : Int32)) hx hb d_law_1250 (by decide) ?_
  refine lv_iadd hx hb d_law_1251 ?_
  refine va_sld hx hb hX hbl hbA hS hi1 d_law_1252 ?_
  refine lv_aload_n hx hb d_law_1253 rfl (lv_at hl 0 rfl) ?_
  refine lv_iload hx hb d_law_1254 (lv_at hl 4 rfl) ?_
  refine lv_iconst (v := (2 : Int32)) hx hb d_law_1256 (by decide) ?_
  refine lv_iadd hx hb d_law_1257 ?_
  refine va_sld hx hb hX hbl hbA hS hi2 d_law_1258 ?_
  refine lv_aload_n hx hb d_law_1259 rfl (lv_at hl 0 rfl) ?_
  refine lv_iload hx hb d_law_1260 (lv_at hl 4 rfl) ?_
  refine lv_iconst (v := (3 : Int32)) hx hb d_law_1262 (by decide) ?_
  refine lv_iadd hx hb d_law_1263 ?_
  refine va_sld hx hb hX hbl hbA hS hi3 d_law_1264 ?_
  refine lv_aload_n hx hb d_law_1265 rfl (lv_at hl 3 rfl) ?_
  obtain ⟨x, gx, hf⟩ := jv_ob hf
  have hPr : va_P (dC, dI) vwCl (w_lo cI cA cL q_out q_va q_aa q_cl q_fu Q S vO) H := jv_PR (X := (w_model cI q_mo q_mlb_ q_mcl_ q_mus_ q_mwr_ q_mdk_ q_mcp_ M.1 M.2.1 M.2.2.1 M.2.2.2.1 M.2.2.2.2.1 M.2.2.2.2.2.1 M.2.2.2.2.2.2.1 M.2.2.2.2.2.2.2.1 M.2.2.2.2.2.2.2.2)) hP
  have hDr : va_D A (w_lo cI cA cL q_out q_va q_aa q_cl q_fu Q S vO) := jv_DR (X := (w_model cI q_mo q_mlb_ q_mcl_ q_mus_ q_mwr_ q_mdk_ q_mcp_ M.1 M.2.1 M.2.2.1 M.2.2.2.1 M.2.2.2.2.1 M.2.2.2.2.2.1 M.2.2.2.2.2.2.1 M.2.2.2.2.2.2.2.1 M.2.2.2.2.2.2.2.2)) hD
  have hFc := jv_fr hDr hS hA
  refine jv_cwl (vx_runSW (As := [.ref q_va, .int (xs (i + (1 : Int32)).toNatClampNeg), .int (xs (i + (2 : Int32)).toNatClampNeg), .int (xs (i + (3 : Int32)).toNatClampNeg), .ref q_out]) (rest := []) ⟨hx, hb, hml, hown, hts⟩ (c_L_disk l hl9 dC dI cI cA cL q_out q_va q_aa q_cl q_fu Q S vO (xs (i + (1 : Int32)).toNatClampNeg) (xs (i + (2 : Int32)).toNatClampNeg) (xs (i + (3 : Int32)).toNatClampNeg) H.size x gx) (jv_cwSW hts wa_707 wa_590 wa_708 wa_709 rfl rfl yd_L_disk ⟨Nat.le_of_ble_eq_true rfl, Nat.le_of_ble_eq_true rfl⟩) (jv_preSlw hTc hK hPr hDr (fun q hq => hS.2.1 q hq (fun h => absurd (hAn q h) (by omega)))) rfl rfl hl.1 rfl (lv_room (Nat.le_of_ble_eq_true rfl)) d_law_1266 ⟨hc, hsl⟩) hS hFc (fun Q H1 locs hP1 hD1 hk1 hS0 => ?_)
  obtain ⟨hP, hD⟩ := jv_joinR (V1 := (w_lo cI cA cL q_out q_va q_aa q_cl q_fu Q x.2.1 x.2.2)) hk1 hP1 hD1 (w_model cI q_mo q_mlb_ q_mcl_ q_mus_ q_mwr_ q_mdk_ q_mcp_ M.1 M.2.1 M.2.2.1 M.2.2.2.1 M.2.2.2.2.1 M.2.2.2.2.2.1 M.2.2.2.2.2.2.1 M.2.2.2.2.2.2.2.1 M.2.2.2.2.2.2.2.2) A (fun q h => hA q (Nat.le_trans hS.1 h)) hP hD
  have hS := hS0
  generalize H1 = H at hP hS ⊢
  have hP : va_P (dC, dI) vwCl ((w_model cI q_mo q_mlb_ q_mcl_ q_mus_ q_mwr_ q_mdk_ q_mcp_ M.1 M.2.1 M.2.2.1 M.2.2.2.1 M.2.2.2.2.1 M.2.2.2.2.2.1 M.2.2.2.2.2.2.1 M.2.2.2.2.2.2.2.1 M.2.2.2.2.2.2.2.2) ++ (w_lo cI cA cL q_out q_va q_aa q_cl q_fu Q x.2.1 x.2.2)) H := hP
  have hD : va_D A ((w_model cI q_mo q_mlb_ q_mcl_ q_mus_ q_mwr_ q_mdk_ q_mcp_ M.1 M.2.1 M.2.2.1 M.2.2.2.1 M.2.2.2.2.1 M.2.2.2.2.2.1 M.2.2.2.2.2.2.1 M.2.2.2.2.2.2.2.1 M.2.2.2.2.2.2.2.2) ++ (w_lo cI cA cL q_out q_va q_aa q_cl q_fu Q x.2.1 x.2.2)) := hD
  refine lv_istore (lv' := [(5, .int x.1), (0, .ref b), (1, .ref q_va), (2, .ref q_mo), (3, .ref q_out), (4, .int i)]) hx hb d_law_1269 hl (by decide) rfl (fun ls hl => ?_)
  refine lv_aload_n hx hb d_law_1271 rfl (lv_at hl 3 rfl) ?_
  refine lv_aload_n hx hb d_law_1272 rfl (lv_at hl 1 rfl) ?_
  refine lv_iload hx hb d_law_1273 (lv_at hl 5 rfl) ?_
  refine lv_iconst (v := (1 : Int32)) hx hb d_law_1275 (by decide) ?_
  refine lv_iadd hx hb d_law_1276 ?_
  refine va_sld hx hb hX hbl hbA hS hi1 d_law_1277 ?_
  refine lv_aload_n hx hb d_law_1278 rfl (lv_at hl 1 rfl) ?_
  refine lv_iload hx hb d_law_1279 (lv_at hl 5 rfl) ?_
  refine lv_iconst (v := (2 : Int32)) hx hb d_law_1281 (by decide) ?_
  refine lv_iadd hx hb d_law_1282 ?_
  refine va_sld hx hb hX hbl hbA hS hi2 d_law_1283 ?_
  refine lv_aload_n hx hb d_law_1284 rfl (lv_at hl 1 rfl) ?_
  refine lv_iload hx hb d_law_1285 (lv_at hl 5 rfl) ?_
  refine lv_iconst (v := (3 : Int32)) hx hb d_law_1287 (by decide) ?_
  refine lv_iadd hx hb d_law_1288 ?_
  refine va_sld hx hb hX hbl hbA hS hi3 d_law_1289 ?_
  obtain ⟨y1, gy1, hf⟩ := jv_ob hf
  have hPl : va_P (dC, dI) vwCl (w_model cI q_mo q_mlb_ q_mcl_ q_mus_ q_mwr_ q_mdk_ q_mcp_ M.1 M.2.1 M.2.2.1 M.2.2.2.1 M.2.2.2.2.1 M.2.2.2.2.2.1 M.2.2.2.2.2.2.1 M.2.2.2.2.2.2.2.1 M.2.2.2.2.2.2.2.2) H := jv_PL (Y := (w_lo cI cA cL q_out q_va q_aa q_cl q_fu Q x.2.1 x.2.2)) hP
  have hDl : va_D A (w_model cI q_mo q_mlb_ q_mcl_ q_mus_ q_mwr_ q_mdk_ q_mcp_ M.1 M.2.1 M.2.2.1 M.2.2.2.1 M.2.2.2.2.1 M.2.2.2.2.2.1 M.2.2.2.2.2.2.1 M.2.2.2.2.2.2.2.1 M.2.2.2.2.2.2.2.2) := jv_DL (Y := (w_lo cI cA cL q_out q_va q_aa q_cl q_fu Q x.2.1 x.2.2)) hD
  have hFc := jv_fr hDl hS hA
  refine jv_cwi (va_runV (As := [.int (xs (i + (1 : Int32)).toNatClampNeg), .int (xs (i + (2 : Int32)).toNatClampNeg), .int (xs (i + (3 : Int32)).toNatClampNeg)]) (rest := []) (b := q_mo) ⟨hx, hb, hml, hown, hts⟩ (c_M_disk l dC dI cI cA cL q_mo q_mlb_ q_mcl_ q_mus_ q_mwr_ q_mdk_ q_mcp_ M.1 M.2.1 M.2.2.1 M.2.2.2.1 M.2.2.2.2.1 M.2.2.2.2.2.1 M.2.2.2.2.2.2.1 M.2.2.2.2.2.2.2.1 M.2.2.2.2.2.2.2.2 (xs (i + (1 : Int32)).toNatClampNeg) (xs (i + (2 : Int32)).toNatClampNeg) (xs (i + (3 : Int32)).toNatClampNeg) H.size y1 gy1) (jv_cwV hts wa_710 wa_194 wa_711 wa_712 wa_713 rfl rfl yd_M_disk ⟨Nat.le_of_ble_eq_true rfl, Nat.le_of_ble_eq_true rfl⟩) (jv_preVW hK hPl hDl 0 rfl rfl) rfl rfl hl.1 rfl (lv_room (Nat.le_of_ble_eq_true rfl)) d_law_1290 ⟨hc, hsl⟩) hS hFc (fun H1 locs hP1 hD1 hk1 hS0 => ?_)
  obtain ⟨hP, hD⟩ := jv_joinL (X := (w_model cI q_mo q_mlb_ q_mcl_ q_mus_ q_mwr_ q_mdk_ q_mcp_ M.1 M.2.1 M.2.2.1 M.2.2.2.1 M.2.2.2.2.1 M.2.2.2.2.2.1 M.2.2.2.2.2.2.1 M.2.2.2.2.2.2.2.1 M.2.2.2.2.2.2.2.2)) (X1 := (w_model cI q_mo q_mlb_ q_mcl_ q_mus_ q_mwr_ q_mdk_ q_mcp_ y1.2 M.2.1 M.2.2.1 M.2.2.2.1 M.2.2.2.2.1 M.2.2.2.2.2.1 M.2.2.2.2.2.2.1 M.2.2.2.2.2.2.2.1 M.2.2.2.2.2.2.2.2)) (V := (w_lo cI cA cL q_out q_va q_aa q_cl q_fu Q x.2.1 x.2.2)) hP hD (fun q h => hA q (Nat.le_trans hS.1 h)) hk1 hP1 hD1
  have hS := hS0
  generalize H1 = H at hP hS ⊢
  have hP : va_P (dC, dI) vwCl ((w_model cI q_mo q_mlb_ q_mcl_ q_mus_ q_mwr_ q_mdk_ q_mcp_ y1.2 M.2.1 M.2.2.1 M.2.2.2.1 M.2.2.2.2.1 M.2.2.2.2.2.1 M.2.2.2.2.2.2.1 M.2.2.2.2.2.2.2.1 M.2.2.2.2.2.2.2.2) ++ (w_lo cI cA cL q_out q_va q_aa q_cl q_fu Q x.2.1 x.2.2)) H := hP
  have hD : va_D A ((w_model cI q_mo q_mlb_ q_mcl_ q_mus_ q_mwr_ q_mdk_ q_mcp_ y1.2 M.2.1 M.2.2.1 M.2.2.2.1 M.2.2.2.2.1 M.2.2.2.2.2.1 M.2.2.2.2.2.2.1 M.2.2.2.2.2.2.2.1 M.2.2.2.2.2.2.2.2) ++ (w_lo cI cA cL q_out q_va q_aa q_cl q_fu Q x.2.1 x.2.2)) := hD
  refine lv_istore (lv' := [(6, .int y1.1), (5, .int x.1), (0, .ref b), (1, .ref q_va), (2, .ref q_mo), (3, .ref q_out), (4, .int i)]) hx hb d_law_1293 hl (by decide) rfl (fun ls hl => ?_)
  refine lv_aload_n hx hb d_law_1295 rfl (lv_at hl 4 rfl) ?_
  obtain ⟨y2, gy2, hf⟩ := jv_ob hf
  have hPl : va_P (dC, dI) vwCl (w_model cI q_mo q_mlb_ q_mcl_ q_mus_ q_mwr_ q_mdk_ q_mcp_ y1.2 M.2.1 M.2.2.1 M.2.2.2.1 M.2.2.2.2.1 M.2.2.2.2.2.1 M.2.2.2.2.2.2.1 M.2.2.2.2.2.2.2.1 M.2.2.2.2.2.2.2.2) H := jv_PL (Y := (w_lo cI cA cL q_out q_va q_aa q_cl q_fu Q x.2.1 x.2.2)) hP
  have hDl : va_D A (w_model cI q_mo q_mlb_ q_mcl_ q_mus_ q_mwr_ q_mdk_ q_mcp_ y1.2 M.2.1 M.2.2.1 M.2.2.2.1 M.2.2.2.2.1 M.2.2.2.2.2.1 M.2.2.2.2.2.2.1 M.2.2.2.2.2.2.2.1 M.2.2.2.2.2.2.2.2) := jv_DL (Y := (w_lo cI cA cL q_out q_va q_aa q_cl q_fu Q x.2.1 x.2.2)) hD
  refine jv_cs (W.runV (As := []) (rest := []) (b := q_mo) ⟨hx, hb, hml, hown, hts⟩ (c_M_thrown l dC dI cI cA cL q_mo q_mlb_ q_mcl_ q_mus_ q_mwr_ q_mdk_ q_mcp_ y1.2 M.2.1 M.2.2.1 M.2.2.2.1 M.2.2.2.2.1 M.2.2.2.2.2.1 M.2.2.2.2.2.2.1 M.2.2.2.2.2.2.2.1 M.2.2.2.2.2.2.2.2 y2 gy2) (jv_cwV hts wa_597 wa_194 wa_598 wa_599 wa_600 rfl rfl yd_M_thrown ⟨Nat.le_of_ble_eq_true rfl, Nat.le_of_ble_eq_true rfl⟩) (jv_preV hK hPl 0 rfl rfl) rfl rfl hl.1 rfl (lv_room (Nat.le_of_ble_eq_true rfl)) d_law_1296 ⟨hc, hsl⟩) ?_
  refine lv_iload hx hb d_law_1299 (lv_at hl 1 rfl) ?_
  obtain ⟨he, hf⟩ := jv_gd hf
  refine lv_icmp_eq (tgt := 1306) hx hb d_law_1301 (by decide) (fun _ => ?_) (fun h9 => absurd he h9)
  refine lv_iload hx hb d_law_1306 (lv_at hl 1 rfl) ?_
  by_cases hz : x.1 = 0
  · have hf := jv_it hf hz
    refine lv_if_ne (tgt := 1323) hx hb d_law_1308 (by decide) (fun h9 => absurd hz h9) (fun _ => ?_)
    refine lv_aload_n hx hb d_law_1311 rfl (lv_at hl 5 rfl) ?_
    refine lv_iconst (v := (0 : Int32)) hx hb d_law_1312 (by decide) ?_
    refine va_lald hx hb hK hP 7 2 rfl rfl (by unfold vp_in; decide) d_law_1313 ?_
    refine lv_iload hx hb d_law_1314 (lv_at hl 0 rfl) ?_
    obtain ⟨ho, hf⟩ := jv_gd hf
    refine lv_i2l hx hb d_law_1316 rfl ?_
    refine jv_lcmp0 hx hb ho d_law_1317 ?_
    refine lv_if_eq (tgt := 1323) hx hb d_law_1318 (by decide) (fun _ => ?_) (fun h9 => absurd rfl h9)
    obtain rfl := Option.some.inj hf
    refine lv_goto (tgt := 1401) hx hb d_law_1323 (by decide) ?_
    exact KK Q H locs ls (lv_sub hl [2, 3, 4, 5, 6] rfl) hP hD hS
  · have hf := jv_if hf hz
    refine lv_if_ne (tgt := 1323) hx hb d_law_1308 (by decide) (fun _ => ?_) (fun h9 => absurd h9 hz)
    obtain rfl := Option.some.inj hf
    refine lv_goto (tgt := 1401) hx hb d_law_1323 (by decide) ?_
    exact KK Q H locs ls (lv_sub hl [2, 3, 4, 5, 6] rfl) hP hD hS
theorem d_law_1326 : decode cc_law 1326 = .ok (.aload_n 1, 1) := by decide +kernel
theorem d_law_1327 : decode cc_law 1327 = .ok (.aload_n 0, 1) := by decide +kernel
theorem d_law_1328 : decode cc_law 1328 = .ok (.iload 4, 2) := by decide +kernel
theorem d_law_1330 : decode cc_law 1330 = .ok (.iconst 1, 1) := by decide +kernel
theorem d_law_1331 : decode cc_law 1331 = .ok (.iadd, 1) := by decide +kernel
theorem d_law_1332 : decode cc_law 1332 = .ok (.iaload, 1) := by decide +kernel
theorem d_law_1333 : decode cc_law 1333 = .ok (.aload_n 0, 1) := by decide +kernel
theorem d_law_1334 : decode cc_law 1334 = .ok (.iload 4, 2) := by decide +kernel
theorem d_law_1336 : decode cc_law 1336 = .ok (.iconst 2, 1) := by decide +kernel
theorem d_law_1337 : decode cc_law 1337 = .ok (.iadd, 1) := by decide +kernel
theorem d_law_1338 : decode cc_law 1338 = .ok (.iaload, 1) := by decide +kernel
theorem d_law_1339 : decode cc_law 1339 = .ok (.invokevirtual 139, 3) := by decide +kernel
theorem d_law_1342 : decode cc_law 1342 = .ok (.aload_n 2, 1) := by decide +kernel
theorem d_law_1343 : decode cc_law 1343 = .ok (.aload_n 0, 1) := by decide +kernel
theorem d_law_1344 : decode cc_law 1344 = .ok (.iload 4, 2) := by decide +kernel
theorem d_law_1346 : decode cc_law 1346 = .ok (.iconst 1, 1) := by decide +kernel
theorem d_law_1347 : decode cc_law 1347 = .ok (.iadd, 1) := by decide +kernel
theorem d_law_1348 : decode cc_law 1348 = .ok (.iaload, 1) := by decide +kernel
theorem d_law_1349 : decode cc_law 1349 = .ok (.aload_n 0, 1) := by decide +kernel
theorem d_law_1350 : decode cc_law 1350 = .ok (.iload 4, 2) := by decide +kernel
theorem d_law_1352 : decode cc_law 1352 = .ok (.iconst 2, 1) := by decide +kernel
theorem d_law_1353 : decode cc_law 1353 = .ok (.iadd, 1) := by decide +kernel
theorem d_law_1354 : decode cc_law 1354 = .ok (.iaload, 1) := by decide +kernel
theorem d_law_1355 : decode cc_law 1355 = .ok (.invokevirtual 142, 3) := by decide +kernel
theorem d_law_1358 : decode cc_law 1358 = .ok (.if_icmp .eq 43, 3) := by decide +kernel
def s_17 (S : jv_vs) (vO : Nat → Int64) (M : jv_ms) (p1 : Int32) (p2 : Int32) : Option jv_st :=
  (f_V_about S.1 S.2.2.2 p1 p2).bind fun y1 => (f_M_about M.2.1 M.2.2.2.1 M.2.2.2.2.2.1 M.2.2.2.2.2.2.1 M.2.2.2.2.2.2.2.1 p1 p2 M.1).bind fun y2 => if y1 = y2.1 then (some (S, vO, y2.2, M.2.1, M.2.2.1, M.2.2.2.1, M.2.2.2.2.1, M.2.2.2.2.2.1, M.2.2.2.2.2.2.1, M.2.2.2.2.2.2.2.1, M.2.2.2.2.2.2.2.2)) else none
set_option maxHeartbeats 4000000 in
set_option maxRecDepth 100000 in
theorem b_law_17 {l : Launch} {dC : Nat → ClassId} {dI : Nat → Nat → Nat} {cI cA cL : ClassId} {q_mo q_mlb_ q_mcl_ q_mus_ q_mwr_ q_mdk_ q_mcp_ q_out q_va q_aa q_cl q_fu : Nat} {p : Program} {e : Env} {s : State} {m : MethodId} {below : List Frame} {meth : Method} {c : Code} {b L : Nat} {xs : Nat → Int32} (hl9 : l.stackTraces = false) (hx : p.tables.exec = Jvm.exec) (hb : c.code = code) (hml : c.maxLocals = 7) (hown : s.vm.findClass R_Law = some m.cls) (hts : ∀ w ∈ Cond.tt :: jv_LT, w.before #[Value.ref b] s = true) (hX : va_X b L xs s s.heap) (hbl : b < s.heap.size) (hK : va_K (dC, dI) vwCl (jv_ty cI cA cL) s) (hTc : jv_tc s) {A : Nat → Prop} (hA : ∀ q : Nat, s.heap.size ≤ q → A q) (hAn : ∀ q : Nat, A q → s.heap.size ≤ q) {Z : State → Prop} {Q : Nat → Nat → Nat} {i : Int32} (hi1 : vp_in (i + (1 : Int32)) L) (hi2 : vp_in (i + (2 : Int32)) L) {S : jv_vs} {vO : Nat → Int64} {M : jv_ms} {r : jv_st} {H : Heap} {locs : List Loc} {cells slots : Nat} (hc : cells + 8 ≤ room_1.cells) (hsl : slots + 713 ≤ room_1.slots) {ls : Array Slot} (hl : lv_has ls 7 [(0, .ref b), (1, .ref q_va), (2, .ref q_mo), (3, .ref q_out), (4, .int i)]) (hP : va_P (dC, dI) vwCl ((w_model cI q_mo q_mlb_ q_mcl_ q_mus_ q_mwr_ q_mdk_ q_mcp_ M.1 M.2.1 M.2.2.1 M.2.2.2.1 M.2.2.2.2.1 M.2.2.2.2.2.1 M.2.2.2.2.2.2.1 M.2.2.2.2.2.2.2.1 M.2.2.2.2.2.2.2.2) ++ (w_lo cI cA cL q_out q_va q_aa q_cl q_fu Q S vO)) H) (hD : va_D A ((w_model cI q_mo q_mlb_ q_mcl_ q_mus_ q_mwr_ q_mdk_ q_mcp_ M.1 M.2.1 M.2.2.1 M.2.2.2.1 M.2.2.2.2.1 M.2.2.2.2.2.1 M.2.2.2.2.2.2.1 M.2.2.2.2.2.2.2.1 M.2.2.2.2.2.2.2.2) ++ (w_lo cI cA cL q_out q_va q_aa q_cl q_fu Q S vO))) (hS : va_S A s.heap H locs) (hf : s_17 S vO M (xs (i + (1 : Int32)).toNatClampNeg) (xs (i + (2 : Int32)).toNatClampNeg) = some r) (KK : ∀ (Q : Nat → Nat → Nat) (H : Heap) (locs : List Loc) (ls : Array Slot), lv_has ls 7 [(0, .ref b), (1, .ref q_va), (2, .ref q_mo), (3, .ref q_out), (4, .int i)] → va_P (dC, dI) vwCl ((w_model cI q_mo q_mlb_ q_mcl_ q_mus_ q_mwr_ q_mdk_ q_mcp_ r.2.2.1 r.2.2.2.1 r.2.2.2.2.1 r.2.2.2.2.2.1 r.2.2.2.2.2.2.1 r.2.2.2.2.2.2.2.1 r.2.2.2.2.2.2.2.2.1 r.2.2.2.2.2.2.2.2.2.1 r.2.2.2.2.2.2.2.2.2.2) ++ (w_lo cI cA cL q_out q_va q_aa q_cl q_fu Q r.1 r.2.1)) H → va_D A ((w_model cI q_mo q_mlb_ q_mcl_ q_mus_ q_mwr_ q_mdk_ q_mcp_ r.2.2.1 r.2.2.2.1 r.2.2.2.2.1 r.2.2.2.2.2.1 r.2.2.2.2.2.2.1 r.2.2.2.2.2.2.2.1 r.2.2.2.2.2.2.2.2.1 r.2.2.2.2.2.2.2.2.2.1 r.2.2.2.2.2.2.2.2.2.2) ++ (w_lo cI cA cL q_out q_va q_aa q_cl q_fu Q r.1 r.2.1)) → va_S A s.heap H locs → W p l e room_1 s m #[Value.ref b] below meth c H locs (cells + 8) (slots + 713) Z (F0 m 1401 ls [])) : W p l e room_1 s m #[Value.ref b] below meth c H locs cells slots Z (F0 m 1326 ls []) := by
  have hbA : ¬ A b := fun h => absurd (hAn b h) (by omega)
  unfold s_17 at hf
  refine lv_aload_n hx hb d_law_1326 rfl (lv_at hl 1 rfl) ?_
  refine lv_aload_n hx hb d_law_1327 rfl (lv_at hl 0 rfl) ?_
  refine lv_iload hx hb d_law_1328 (lv_at hl 4 rfl) ?_
  refine lv_iconst (v := (1 : Int32)) hx hb d_law_1330 (by decide) ?_
  refine lv_iadd hx hb d_law_1331 ?_
  refine va_sld hx hb hX hbl hbA hS hi1 d_law_1332 ?_
  refine lv_aload_n hx hb d_law_1333 rfl (lv_at hl 0 rfl) ?_
  refine lv_iload hx hb d_law_1334 (lv_at hl 4 rfl) ?_
  refine lv_iconst (v := (2 : Int32)) hx hb d_law_1336 (by decide) ?_
  refine lv_iadd hx hb d_law_1337 ?_
  refine va_sld hx hb hX hbl hbA hS hi2 d_law_1338 ?_
  obtain ⟨y1, gy1, hf⟩ := jv_ob hf
  have hPr : va_P (dC, dI) vwCl (w_lo cI cA cL q_out q_va q_aa q_cl q_fu Q S vO) H := jv_PR (X := (w_model cI q_mo q_mlb_ q_mcl_ q_mus_ q_mwr_ q_mdk_ q_mcp_ M.1 M.2.1 M.2.2.1 M.2.2.2.1 M.2.2.2.2.1 M.2.2.2.2.2.1 M.2.2.2.2.2.2.1 M.2.2.2.2.2.2.2.1 M.2.2.2.2.2.2.2.2)) hP
  have hPv := jv_PT hPr
  refine jv_cs (W.runV (As := [.int (xs (i + (1 : Int32)).toNatClampNeg), .int (xs (i + (2 : Int32)).toNatClampNeg)]) (rest := []) (b := q_va) ⟨hx, hb, hml, hown, hts⟩ (c_V_about l dC dI cI cA cL q_va q_aa q_cl q_fu Q S.1 S.2.1 S.2.2.1 S.2.2.2 (xs (i + (1 : Int32)).toNatClampNeg) (xs (i + (2 : Int32)).toNatClampNeg) y1 gy1) (jv_cwV hts wa_714 wa_303 wa_715 wa_716 wa_717 rfl rfl yd_V_about ⟨Nat.le_of_ble_eq_true rfl, Nat.le_of_ble_eq_true rfl⟩) (jv_preV hK hPv 0 rfl rfl) rfl rfl hl.1 rfl (lv_room (Nat.le_of_ble_eq_true rfl)) d_law_1339 ⟨Nat.le_trans (Nat.le_add_right _ _) hc, Nat.le_trans (Nat.le_add_right _ _) hsl⟩) ?_
  refine lv_aload_n hx hb d_law_1342 rfl (lv_at hl 2 rfl) ?_
  refine lv_aload_n hx hb d_law_1343 rfl (lv_at hl 0 rfl) ?_
  refine lv_iload hx hb d_law_1344 (lv_at hl 4 rfl) ?_
  refine lv_iconst (v := (1 : Int32)) hx hb d_law_1346 (by decide) ?_
  refine lv_iadd hx hb d_law_1347 ?_
  refine va_sld hx hb hX hbl hbA hS hi1 d_law_1348 ?_
  refine lv_aload_n hx hb d_law_1349 rfl (lv_at hl 0 rfl) ?_
  refine lv_iload hx hb d_law_1350 (lv_at hl 4 rfl) ?_
  refine lv_iconst (v := (2 : Int32)) hx hb d_law_1352 (by decide) ?_
  refine lv_iadd hx hb d_law_1353 ?_
  refine va_sld hx hb hX hbl hbA hS hi2 d_law_1354 ?_
  obtain ⟨y2, gy2, hf⟩ := jv_ob hf
  have hPl : va_P (dC, dI) vwCl (w_model cI q_mo q_mlb_ q_mcl_ q_mus_ q_mwr_ q_mdk_ q_mcp_ M.1 M.2.1 M.2.2.1 M.2.2.2.1 M.2.2.2.2.1 M.2.2.2.2.2.1 M.2.2.2.2.2.2.1 M.2.2.2.2.2.2.2.1 M.2.2.2.2.2.2.2.2) H := jv_PL (Y := (w_lo cI cA cL q_out q_va q_aa q_cl q_fu Q S vO)) hP
  have hDl : va_D A (w_model cI q_mo q_mlb_ q_mcl_ q_mus_ q_mwr_ q_mdk_ q_mcp_ M.1 M.2.1 M.2.2.1 M.2.2.2.1 M.2.2.2.2.1 M.2.2.2.2.2.1 M.2.2.2.2.2.2.1 M.2.2.2.2.2.2.2.1 M.2.2.2.2.2.2.2.2) := jv_DL (Y := (w_lo cI cA cL q_out q_va q_aa q_cl q_fu Q S vO)) hD
  have hFc := jv_fr hDl hS hA
  refine jv_cwi (va_runV (As := [.int (xs (i + (1 : Int32)).toNatClampNeg), .int (xs (i + (2 : Int32)).toNatClampNeg)]) (rest := [.int y1]) (b := q_mo) ⟨hx, hb, hml, hown, hts⟩ (c_M_about l dC dI cI cA cL q_mo q_mlb_ q_mcl_ q_mus_ q_mwr_ q_mdk_ q_mcp_ M.1 M.2.1 M.2.2.1 M.2.2.2.1 M.2.2.2.2.1 M.2.2.2.2.2.1 M.2.2.2.2.2.2.1 M.2.2.2.2.2.2.2.1 M.2.2.2.2.2.2.2.2 (xs (i + (1 : Int32)).toNatClampNeg) (xs (i + (2 : Int32)).toNatClampNeg) H.size y2 gy2) (jv_cwV hts wa_718 wa_194 wa_719 wa_720 wa_721 rfl rfl yd_M_about ⟨Nat.le_of_ble_eq_true rfl, Nat.le_of_ble_eq_true rfl⟩) (jv_preVW hK hPl hDl 0 rfl rfl) rfl rfl hl.1 rfl (lv_room (Nat.le_of_ble_eq_true rfl)) d_law_1355 ⟨Nat.le_trans (Nat.le_add_right _ _) hc, Nat.le_trans (Nat.le_add_right _ _) hsl⟩) hS hFc (fun H1 locs hP1 hD1 hk1 hS0 => ?_)
  obtain ⟨hP, hD⟩ := jv_joinL (X := (w_model cI q_mo q_mlb_ q_mcl_ q_mus_ q_mwr_ q_mdk_ q_mcp_ M.1 M.2.1 M.2.2.1 M.2.2.2.1 M.2.2.2.2.1 M.2.2.2.2.2.1 M.2.2.2.2.2.2.1 M.2.2.2.2.2.2.2.1 M.2.2.2.2.2.2.2.2)) (X1 := (w_model cI q_mo q_mlb_ q_mcl_ q_mus_ q_mwr_ q_mdk_ q_mcp_ y2.2 M.2.1 M.2.2.1 M.2.2.2.1 M.2.2.2.2.1 M.2.2.2.2.2.1 M.2.2.2.2.2.2.1 M.2.2.2.2.2.2.2.1 M.2.2.2.2.2.2.2.2)) (V := (w_lo cI cA cL q_out q_va q_aa q_cl q_fu Q S vO)) hP hD (fun q h => hA q (Nat.le_trans hS.1 h)) hk1 hP1 hD1
  have hS := hS0
  generalize H1 = H at hP hS ⊢
  have hP : va_P (dC, dI) vwCl ((w_model cI q_mo q_mlb_ q_mcl_ q_mus_ q_mwr_ q_mdk_ q_mcp_ y2.2 M.2.1 M.2.2.1 M.2.2.2.1 M.2.2.2.2.1 M.2.2.2.2.2.1 M.2.2.2.2.2.2.1 M.2.2.2.2.2.2.2.1 M.2.2.2.2.2.2.2.2) ++ (w_lo cI cA cL q_out q_va q_aa q_cl q_fu Q S vO)) H := hP
  have hD : va_D A ((w_model cI q_mo q_mlb_ q_mcl_ q_mus_ q_mwr_ q_mdk_ q_mcp_ y2.2 M.2.1 M.2.2.1 M.2.2.2.1 M.2.2.2.2.1 M.2.2.2.2.2.1 M.2.2.2.2.2.2.1 M.2.2.2.2.2.2.2.1 M.2.2.2.2.2.2.2.2) ++ (w_lo cI cA cL q_out q_va q_aa q_cl q_fu Q S vO)) := hD
  obtain ⟨he, hf⟩ := jv_gd hf
  refine lv_icmp_eq (tgt := 1401) hx hb d_law_1358 (by decide) (fun _ => ?_) (fun h9 => absurd he h9)
  obtain rfl := Option.some.inj hf
  refine W.widen (k := cells + 8) (n := slots + 713) (Nat.le_add_right _ _) (Nat.le_add_right _ _) ?_
  exact KK Q H locs ls hl hP hD hS
theorem d_law_1363 : decode cc_law 1363 = .ok (.aload_n 1, 1) := by decide +kernel
theorem d_law_1364 : decode cc_law 1364 = .ok (.aload_n 0, 1) := by decide +kernel
theorem d_law_1365 : decode cc_law 1365 = .ok (.iload 4, 2) := by decide +kernel
theorem d_law_1367 : decode cc_law 1367 = .ok (.iconst 1, 1) := by decide +kernel
theorem d_law_1368 : decode cc_law 1368 = .ok (.iadd, 1) := by decide +kernel
theorem d_law_1369 : decode cc_law 1369 = .ok (.iaload, 1) := by decide +kernel
theorem d_law_1370 : decode cc_law 1370 = .ok (.invokevirtual 143, 3) := by decide +kernel
theorem d_law_1373 : decode cc_law 1373 = .ok (.aload_n 2, 1) := by decide +kernel
theorem d_law_1374 : decode cc_law 1374 = .ok (.aload_n 0, 1) := by decide +kernel
theorem d_law_1375 : decode cc_law 1375 = .ok (.iload 4, 2) := by decide +kernel
theorem d_law_1377 : decode cc_law 1377 = .ok (.iconst 1, 1) := by decide +kernel
theorem d_law_1378 : decode cc_law 1378 = .ok (.iadd, 1) := by decide +kernel
theorem d_law_1379 : decode cc_law 1379 = .ok (.iaload, 1) := by decide +kernel
theorem d_law_1380 : decode cc_law 1380 = .ok (.invokevirtual 146, 3) := by decide +kernel
theorem d_law_1383 : decode cc_law 1383 = .ok (.if_icmp .eq 18, 3) := by decide +kernel
def s_18 (S : jv_vs) (vO : Nat → Int64) (M : jv_ms) (p1 : Int32) : Option jv_st :=
  (f_V_user S.1 S.2.2.2 p1).bind fun y1 => (f_M_user M.2.2.2.2.2.1 p1 M.1).bind fun y2 => if y1 = y2.1 then (some (S, vO, y2.2, M.2.1, M.2.2.1, M.2.2.2.1, M.2.2.2.2.1, M.2.2.2.2.2.1, M.2.2.2.2.2.2.1, M.2.2.2.2.2.2.2.1, M.2.2.2.2.2.2.2.2)) else none
set_option maxHeartbeats 4000000 in
set_option maxRecDepth 100000 in
theorem b_law_18 {l : Launch} {dC : Nat → ClassId} {dI : Nat → Nat → Nat} {cI cA cL : ClassId} {q_mo q_mlb_ q_mcl_ q_mus_ q_mwr_ q_mdk_ q_mcp_ q_out q_va q_aa q_cl q_fu : Nat} {p : Program} {e : Env} {s : State} {m : MethodId} {below : List Frame} {meth : Method} {c : Code} {b L : Nat} {xs : Nat → Int32} (hl9 : l.stackTraces = false) (hx : p.tables.exec = Jvm.exec) (hb : c.code = code) (hml : c.maxLocals = 7) (hown : s.vm.findClass R_Law = some m.cls) (hts : ∀ w ∈ Cond.tt :: jv_LT, w.before #[Value.ref b] s = true) (hX : va_X b L xs s s.heap) (hbl : b < s.heap.size) (hK : va_K (dC, dI) vwCl (jv_ty cI cA cL) s) (hTc : jv_tc s) {A : Nat → Prop} (hA : ∀ q : Nat, s.heap.size ≤ q → A q) (hAn : ∀ q : Nat, A q → s.heap.size ≤ q) {Z : State → Prop} {Q : Nat → Nat → Nat} {i : Int32} (hi1 : vp_in (i + (1 : Int32)) L) {S : jv_vs} {vO : Nat → Int64} {M : jv_ms} {r : jv_st} {H : Heap} {locs : List Loc} {cells slots : Nat} (hc : cells + 8 ≤ room_1.cells) (hsl : slots + 713 ≤ room_1.slots) {ls : Array Slot} (hl : lv_has ls 7 [(0, .ref b), (1, .ref q_va), (2, .ref q_mo), (3, .ref q_out), (4, .int i)]) (hP : va_P (dC, dI) vwCl ((w_model cI q_mo q_mlb_ q_mcl_ q_mus_ q_mwr_ q_mdk_ q_mcp_ M.1 M.2.1 M.2.2.1 M.2.2.2.1 M.2.2.2.2.1 M.2.2.2.2.2.1 M.2.2.2.2.2.2.1 M.2.2.2.2.2.2.2.1 M.2.2.2.2.2.2.2.2) ++ (w_lo cI cA cL q_out q_va q_aa q_cl q_fu Q S vO)) H) (hD : va_D A ((w_model cI q_mo q_mlb_ q_mcl_ q_mus_ q_mwr_ q_mdk_ q_mcp_ M.1 M.2.1 M.2.2.1 M.2.2.2.1 M.2.2.2.2.1 M.2.2.2.2.2.1 M.2.2.2.2.2.2.1 M.2.2.2.2.2.2.2.1 M.2.2.2.2.2.2.2.2) ++ (w_lo cI cA cL q_out q_va q_aa q_cl q_fu Q S vO))) (hS : va_S A s.heap H locs) (hf : s_18 S vO M (xs (i + (1 : Int32)).toNatClampNeg) = some r) (KK : ∀ (Q : Nat → Nat → Nat) (H : Heap) (locs : List Loc) (ls : Array Slot), lv_has ls 7 [(0, .ref b), (1, .ref q_va), (2, .ref q_mo), (3, .ref q_out), (4, .int i)] → va_P (dC, dI) vwCl ((w_model cI q_mo q_mlb_ q_mcl_ q_mus_ q_mwr_ q_mdk_ q_mcp_ r.2.2.1 r.2.2.2.1 r.2.2.2.2.1 r.2.2.2.2.2.1 r.2.2.2.2.2.2.1 r.2.2.2.2.2.2.2.1 r.2.2.2.2.2.2.2.2.1 r.2.2.2.2.2.2.2.2.2.1 r.2.2.2.2.2.2.2.2.2.2) ++ (w_lo cI cA cL q_out q_va q_aa q_cl q_fu Q r.1 r.2.1)) H → va_D A ((w_model cI q_mo q_mlb_ q_mcl_ q_mus_ q_mwr_ q_mdk_ q_mcp_ r.2.2.1 r.2.2.2.1 r.2.2.2.2.1 r.2.2.2.2.2.1 r.2.2.2.2.2.2.1 r.2.2.2.2.2.2.2.1 r.2.2.2.2.2.2.2.2.1 r.2.2.2.2.2.2.2.2.2.1 r.2.2.2.2.2.2.2.2.2.2) ++ (w_lo cI cA cL q_out q_va q_aa q_cl q_fu Q r.1 r.2.1)) → va_S A s.heap H locs → W p l e room_1 s m #[Value.ref b] below meth c H locs (cells + 8) (slots + 713) Z (F0 m 1401 ls [])) : W p l e room_1 s m #[Value.ref b] below meth c H locs cells slots Z (F0 m 1363 ls []) := by
  have hbA : ¬ A b := fun h => absurd (hAn b h) (by omega)
  unfold s_18 at hf
  refine lv_aload_n hx hb d_law_1363 rfl (lv_at hl 1 rfl) ?_
  refine lv_aload_n hx hb d_law_1364 rfl (lv_at hl 0 rfl) ?_
  refine lv_iload hx hb d_law_1365 (lv_at hl 4 rfl) ?_
  refine lv_iconst (v := (1 : Int32)) hx hb d_law_1367 (by decide) ?_
  refine lv_iadd hx hb d_law_1368 ?_
  refine va_sld hx hb hX hbl hbA hS hi1 d_law_1369 ?_
  obtain ⟨y1, gy1, hf⟩ := jv_ob hf
  have hPr : va_P (dC, dI) vwCl (w_lo cI cA cL q_out q_va q_aa q_cl q_fu Q S vO) H := jv_PR (X := (w_model cI q_mo q_mlb_ q_mcl_ q_mus_ q_mwr_ q_mdk_ q_mcp_ M.1 M.2.1 M.2.2.1 M.2.2.2.1 M.2.2.2.2.1 M.2.2.2.2.2.1 M.2.2.2.2.2.2.1 M.2.2.2.2.2.2.2.1 M.2.2.2.2.2.2.2.2)) hP
  have hPv := jv_PT hPr
  refine jv_cs (W.runV (As := [.int (xs (i + (1 : Int32)).toNatClampNeg)]) (rest := []) (b := q_va) ⟨hx, hb, hml, hown, hts⟩ (c_V_user l dC dI cI cA cL q_va q_aa q_cl q_fu Q S.1 S.2.1 S.2.2.1 S.2.2.2 (xs (i + (1 : Int32)).toNatClampNeg) y1 gy1) (jv_cwV hts wa_722 wa_303 wa_723 wa_724 wa_725 rfl rfl yd_V_user ⟨Nat.le_of_ble_eq_true rfl, Nat.le_of_ble_eq_true rfl⟩) (jv_preV hK hPv 0 rfl rfl) rfl rfl hl.1 rfl (lv_room (Nat.le_of_ble_eq_true rfl)) d_law_1370 ⟨Nat.le_trans (Nat.le_add_right _ _) hc, Nat.le_trans (Nat.le_add_right _ _) hsl⟩) ?_
  refine lv_aload_n hx hb d_law_1373 rfl (lv_at hl 2 rfl) ?_
  refine lv_aload_n hx hb d_law_1374 rfl (lv_at hl 0 rfl) ?_
  refine lv_iload hx hb d_law_1375 (lv_at hl 4 rfl) ?_
  refine lv_iconst (v := (1 : Int32)) hx hb d_law_1377 (by decide) ?_
  refine lv_iadd hx hb d_law_1378 ?_
  refine va_sld hx hb hX hbl hbA hS hi1 d_law_1379 ?_
  obtain ⟨y2, gy2, hf⟩ := jv_ob hf
  have hPl : va_P (dC, dI) vwCl (w_model cI q_mo q_mlb_ q_mcl_ q_mus_ q_mwr_ q_mdk_ q_mcp_ M.1 M.2.1 M.2.2.1 M.2.2.2.1 M.2.2.2.2.1 M.2.2.2.2.2.1 M.2.2.2.2.2.2.1 M.2.2.2.2.2.2.2.1 M.2.2.2.2.2.2.2.2) H := jv_PL (Y := (w_lo cI cA cL q_out q_va q_aa q_cl q_fu Q S vO)) hP
  have hDl : va_D A (w_model cI q_mo q_mlb_ q_mcl_ q_mus_ q_mwr_ q_mdk_ q_mcp_ M.1 M.2.1 M.2.2.1 M.2.2.2.1 M.2.2.2.2.1 M.2.2.2.2.2.1 M.2.2.2.2.2.2.1 M.2.2.2.2.2.2.2.1 M.2.2.2.2.2.2.2.2) := jv_DL (Y := (w_lo cI cA cL q_out q_va q_aa q_cl q_fu Q S vO)) hD
  have hFc := jv_fr hDl hS hA
  refine jv_cwi (va_runV (As := [.int (xs (i + (1 : Int32)).toNatClampNeg)]) (rest := [.int y1]) (b := q_mo) ⟨hx, hb, hml, hown, hts⟩ (c_M_user l dC dI cI cA cL q_mo q_mlb_ q_mcl_ q_mus_ q_mwr_ q_mdk_ q_mcp_ M.1 M.2.1 M.2.2.1 M.2.2.2.1 M.2.2.2.2.1 M.2.2.2.2.2.1 M.2.2.2.2.2.2.1 M.2.2.2.2.2.2.2.1 M.2.2.2.2.2.2.2.2 (xs (i + (1 : Int32)).toNatClampNeg) H.size y2 gy2) (jv_cwV hts wa_726 wa_194 wa_727 wa_728 wa_729 rfl rfl yd_M_user ⟨Nat.le_of_ble_eq_true rfl, Nat.le_of_ble_eq_true rfl⟩) (jv_preVW hK hPl hDl 0 rfl rfl) rfl rfl hl.1 rfl (lv_room (Nat.le_of_ble_eq_true rfl)) d_law_1380 ⟨Nat.le_trans (Nat.le_add_right _ _) hc, Nat.le_trans (Nat.le_add_right _ _) hsl⟩) hS hFc (fun H1 locs hP1 hD1 hk1 hS0 => ?_)
  obtain ⟨hP, hD⟩ := jv_joinL (X := (w_model cI q_mo q_mlb_ q_mcl_ q_mus_ q_mwr_ q_mdk_ q_mcp_ M.1 M.2.1 M.2.2.1 M.2.2.2.1 M.2.2.2.2.1 M.2.2.2.2.2.1 M.2.2.2.2.2.2.1 M.2.2.2.2.2.2.2.1 M.2.2.2.2.2.2.2.2)) (X1 := (w_model cI q_mo q_mlb_ q_mcl_ q_mus_ q_mwr_ q_mdk_ q_mcp_ y2.2 M.2.1 M.2.2.1 M.2.2.2.1 M.2.2.2.2.1 M.2.2.2.2.2.1 M.2.2.2.2.2.2.1 M.2.2.2.2.2.2.2.1 M.2.2.2.2.2.2.2.2)) (V := (w_lo cI cA cL q_out q_va q_aa q_cl q_fu Q S vO)) hP hD (fun q h => hA q (Nat.le_trans hS.1 h)) hk1 hP1 hD1
  have hS := hS0
  generalize H1 = H at hP hS ⊢
  have hP : va_P (dC, dI) vwCl ((w_model cI q_mo q_mlb_ q_mcl_ q_mus_ q_mwr_ q_mdk_ q_mcp_ y2.2 M.2.1 M.2.2.1 M.2.2.2.1 M.2.2.2.2.1 M.2.2.2.2.2.1 M.2.2.2.2.2.2.1 M.2.2.2.2.2.2.2.1 M.2.2.2.2.2.2.2.2) ++ (w_lo cI cA cL q_out q_va q_aa q_cl q_fu Q S vO)) H := hP
  have hD : va_D A ((w_model cI q_mo q_mlb_ q_mcl_ q_mus_ q_mwr_ q_mdk_ q_mcp_ y2.2 M.2.1 M.2.2.1 M.2.2.2.1 M.2.2.2.2.1 M.2.2.2.2.2.1 M.2.2.2.2.2.2.1 M.2.2.2.2.2.2.2.1 M.2.2.2.2.2.2.2.2) ++ (w_lo cI cA cL q_out q_va q_aa q_cl q_fu Q S vO)) := hD
  obtain ⟨he, hf⟩ := jv_gd hf
  refine lv_icmp_eq (tgt := 1401) hx hb d_law_1383 (by decide) (fun _ => ?_) (fun h9 => absurd he h9)
  obtain rfl := Option.some.inj hf
  refine W.widen (k := cells + 8) (n := slots + 713) (Nat.le_add_right _ _) (Nat.le_add_right _ _) ?_
  exact KK Q H locs ls hl hP hD hS
theorem d_law_1388 : decode cc_law 1388 = .ok (.aload_n 1, 1) := by decide +kernel
theorem d_law_1389 : decode cc_law 1389 = .ok (.invokevirtual 147, 3) := by decide +kernel
theorem d_law_1392 : decode cc_law 1392 = .ok (.aload_n 2, 1) := by decide +kernel
theorem d_law_1393 : decode cc_law 1393 = .ok (.invokevirtual 150, 3) := by decide +kernel
theorem d_law_1396 : decode cc_law 1396 = .ok (.if_icmp .eq 5, 3) := by decide +kernel
def s_19 (S : jv_vs) (vO : Nat → Int64) (M : jv_ms) : Option jv_st :=
  (f_V_fuse S.2.2.1).bind fun y1 => (f_M_fuse M.2.2.1 M.1).bind fun y2 => if y1 = y2.1 then (some (S, vO, y2.2, M.2.1, M.2.2.1, M.2.2.2.1, M.2.2.2.2.1, M.2.2.2.2.2.1, M.2.2.2.2.2.2.1, M.2.2.2.2.2.2.2.1, M.2.2.2.2.2.2.2.2)) else none
set_option maxHeartbeats 4000000 in
set_option maxRecDepth 100000 in
theorem b_law_19 {l : Launch} {dC : Nat → ClassId} {dI : Nat → Nat → Nat} {cI cA cL : ClassId} {q_mo q_mlb_ q_mcl_ q_mus_ q_mwr_ q_mdk_ q_mcp_ q_out q_va q_aa q_cl q_fu : Nat} {p : Program} {e : Env} {s : State} {m : MethodId} {below : List Frame} {meth : Method} {c : Code} {b L : Nat} {xs : Nat → Int32} (hl9 : l.stackTraces = false) (hx : p.tables.exec = Jvm.exec) (hb : c.code = code) (hml : c.maxLocals = 7) (hown : s.vm.findClass R_Law = some m.cls) (hts : ∀ w ∈ Cond.tt :: jv_LT, w.before #[Value.ref b] s = true) (hX : va_X b L xs s s.heap) (hbl : b < s.heap.size) (hK : va_K (dC, dI) vwCl (jv_ty cI cA cL) s) (hTc : jv_tc s) {A : Nat → Prop} (hA : ∀ q : Nat, s.heap.size ≤ q → A q) (hAn : ∀ q : Nat, A q → s.heap.size ≤ q) {Z : State → Prop} {Q : Nat → Nat → Nat} {i : Int32} {S : jv_vs} {vO : Nat → Int64} {M : jv_ms} {r : jv_st} {H : Heap} {locs : List Loc} {cells slots : Nat} (hc : cells + 8 ≤ room_1.cells) (hsl : slots + 713 ≤ room_1.slots) {ls : Array Slot} (hl : lv_has ls 7 [(0, .ref b), (1, .ref q_va), (2, .ref q_mo), (3, .ref q_out), (4, .int i)]) (hP : va_P (dC, dI) vwCl ((w_model cI q_mo q_mlb_ q_mcl_ q_mus_ q_mwr_ q_mdk_ q_mcp_ M.1 M.2.1 M.2.2.1 M.2.2.2.1 M.2.2.2.2.1 M.2.2.2.2.2.1 M.2.2.2.2.2.2.1 M.2.2.2.2.2.2.2.1 M.2.2.2.2.2.2.2.2) ++ (w_lo cI cA cL q_out q_va q_aa q_cl q_fu Q S vO)) H) (hD : va_D A ((w_model cI q_mo q_mlb_ q_mcl_ q_mus_ q_mwr_ q_mdk_ q_mcp_ M.1 M.2.1 M.2.2.1 M.2.2.2.1 M.2.2.2.2.1 M.2.2.2.2.2.1 M.2.2.2.2.2.2.1 M.2.2.2.2.2.2.2.1 M.2.2.2.2.2.2.2.2) ++ (w_lo cI cA cL q_out q_va q_aa q_cl q_fu Q S vO))) (hS : va_S A s.heap H locs) (hf : s_19 S vO M = some r) (KK : ∀ (Q : Nat → Nat → Nat) (H : Heap) (locs : List Loc) (ls : Array Slot), lv_has ls 7 [(0, .ref b), (1, .ref q_va), (2, .ref q_mo), (3, .ref q_out), (4, .int i)] → va_P (dC, dI) vwCl ((w_model cI q_mo q_mlb_ q_mcl_ q_mus_ q_mwr_ q_mdk_ q_mcp_ r.2.2.1 r.2.2.2.1 r.2.2.2.2.1 r.2.2.2.2.2.1 r.2.2.2.2.2.2.1 r.2.2.2.2.2.2.2.1 r.2.2.2.2.2.2.2.2.1 r.2.2.2.2.2.2.2.2.2.1 r.2.2.2.2.2.2.2.2.2.2) ++ (w_lo cI cA cL q_out q_va q_aa q_cl q_fu Q r.1 r.2.1)) H → va_D A ((w_model cI q_mo q_mlb_ q_mcl_ q_mus_ q_mwr_ q_mdk_ q_mcp_ r.2.2.1 r.2.2.2.1 r.2.2.2.2.1 r.2.2.2.2.2.1 r.2.2.2.2.2.2.1 r.2.2.2.2.2.2.2.1 r.2.2.2.2.2.2.2.2.1 r.2.2.2.2.2.2.2.2.2.1 r.2.2.2.2.2.2.2.2.2.2) ++ (w_lo cI cA cL q_out q_va q_aa q_cl q_fu Q r.1 r.2.1)) → va_S A s.heap H locs → W p l e room_1 s m #[Value.ref b] below meth c H locs (cells + 8) (slots + 713) Z (F0 m 1401 ls [])) : W p l e room_1 s m #[Value.ref b] below meth c H locs cells slots Z (F0 m 1388 ls []) := by
  have hbA : ¬ A b := fun h => absurd (hAn b h) (by omega)
  unfold s_19 at hf
  refine lv_aload_n hx hb d_law_1388 rfl (lv_at hl 1 rfl) ?_
  obtain ⟨y1, gy1, hf⟩ := jv_ob hf
  have hPr : va_P (dC, dI) vwCl (w_lo cI cA cL q_out q_va q_aa q_cl q_fu Q S vO) H := jv_PR (X := (w_model cI q_mo q_mlb_ q_mcl_ q_mus_ q_mwr_ q_mdk_ q_mcp_ M.1 M.2.1 M.2.2.1 M.2.2.2.1 M.2.2.2.2.1 M.2.2.2.2.2.1 M.2.2.2.2.2.2.1 M.2.2.2.2.2.2.2.1 M.2.2.2.2.2.2.2.2)) hP
  have hPv := jv_PT hPr
  refine jv_cs (W.runV (As := []) (rest := []) (b := q_va) ⟨hx, hb, hml, hown, hts⟩ (c_V_fuse l dC dI cI cA cL q_va q_aa q_cl q_fu Q S.1 S.2.1 S.2.2.1 S.2.2.2 y1 gy1) (jv_cwV hts wa_730 wa_303 wa_731 wa_732 wa_733 rfl rfl yd_V_fuse ⟨Nat.le_of_ble_eq_true rfl, Nat.le_of_ble_eq_true rfl⟩) (jv_preV hK hPv 0 rfl rfl) rfl rfl hl.1 rfl (lv_room (Nat.le_of_ble_eq_true rfl)) d_law_1389 ⟨Nat.le_trans (Nat.le_add_right _ _) hc, Nat.le_trans (Nat.le_add_right _ _) hsl⟩) ?_
  refine lv_aload_n hx hb d_law_1392 rfl (lv_at hl 2 rfl) ?_
  obtain ⟨y2, gy2, hf⟩ := jv_ob hf
  have hPl : va_P (dC, dI) vwCl (w_model cI q_mo q_mlb_ q_mcl_ q_mus_ q_mwr_ q_mdk_ q_mcp_ M.1 M.2.1 M.2.2.1 M.2.2.2.1 M.2.2.2.2.1 M.2.2.2.2.2.1 M.2.2.2.2.2.2.1 M.2.2.2.2.2.2.2.1 M.2.2.2.2.2.2.2.2) H := jv_PL (Y := (w_lo cI cA cL q_out q_va q_aa q_cl q_fu Q S vO)) hP
  have hDl : va_D A (w_model cI q_mo q_mlb_ q_mcl_ q_mus_ q_mwr_ q_mdk_ q_mcp_ M.1 M.2.1 M.2.2.1 M.2.2.2.1 M.2.2.2.2.1 M.2.2.2.2.2.1 M.2.2.2.2.2.2.1 M.2.2.2.2.2.2.2.1 M.2.2.2.2.2.2.2.2) := jv_DL (Y := (w_lo cI cA cL q_out q_va q_aa q_cl q_fu Q S vO)) hD
  have hFc := jv_fr hDl hS hA
  refine jv_cwi (va_runV (As := []) (rest := [.int y1]) (b := q_mo) ⟨hx, hb, hml, hown, hts⟩ (c_M_fuse l dC dI cI cA cL q_mo q_mlb_ q_mcl_ q_mus_ q_mwr_ q_mdk_ q_mcp_ M.1 M.2.1 M.2.2.1 M.2.2.2.1 M.2.2.2.2.1 M.2.2.2.2.2.1 M.2.2.2.2.2.2.1 M.2.2.2.2.2.2.2.1 M.2.2.2.2.2.2.2.2 H.size y2 gy2) (jv_cwV hts wa_734 wa_194 wa_735 wa_736 wa_737 rfl rfl yd_M_fuse ⟨Nat.le_of_ble_eq_true rfl, Nat.le_of_ble_eq_true rfl⟩) (jv_preVW hK hPl hDl 0 rfl rfl) rfl rfl hl.1 rfl (lv_room (Nat.le_of_ble_eq_true rfl)) d_law_1393 ⟨Nat.le_trans (Nat.le_add_right _ _) hc, Nat.le_trans (Nat.le_add_right _ _) hsl⟩) hS hFc (fun H1 locs hP1 hD1 hk1 hS0 => ?_)
  obtain ⟨hP, hD⟩ := jv_joinL (X := (w_model cI q_mo q_mlb_ q_mcl_ q_mus_ q_mwr_ q_mdk_ q_mcp_ M.1 M.2.1 M.2.2.1 M.2.2.2.1 M.2.2.2.2.1 M.2.2.2.2.2.1 M.2.2.2.2.2.2.1 M.2.2.2.2.2.2.2.1 M.2.2.2.2.2.2.2.2)) (X1 := (w_model cI q_mo q_mlb_ q_mcl_ q_mus_ q_mwr_ q_mdk_ q_mcp_ y2.2 M.2.1 M.2.2.1 M.2.2.2.1 M.2.2.2.2.1 M.2.2.2.2.2.1 M.2.2.2.2.2.2.1 M.2.2.2.2.2.2.2.1 M.2.2.2.2.2.2.2.2)) (V := (w_lo cI cA cL q_out q_va q_aa q_cl q_fu Q S vO)) hP hD (fun q h => hA q (Nat.le_trans hS.1 h)) hk1 hP1 hD1
  have hS := hS0
  generalize H1 = H at hP hS ⊢
  have hP : va_P (dC, dI) vwCl ((w_model cI q_mo q_mlb_ q_mcl_ q_mus_ q_mwr_ q_mdk_ q_mcp_ y2.2 M.2.1 M.2.2.1 M.2.2.2.1 M.2.2.2.2.1 M.2.2.2.2.2.1 M.2.2.2.2.2.2.1 M.2.2.2.2.2.2.2.1 M.2.2.2.2.2.2.2.2) ++ (w_lo cI cA cL q_out q_va q_aa q_cl q_fu Q S vO)) H := hP
  have hD : va_D A ((w_model cI q_mo q_mlb_ q_mcl_ q_mus_ q_mwr_ q_mdk_ q_mcp_ y2.2 M.2.1 M.2.2.1 M.2.2.2.1 M.2.2.2.2.1 M.2.2.2.2.2.1 M.2.2.2.2.2.2.1 M.2.2.2.2.2.2.2.1 M.2.2.2.2.2.2.2.2) ++ (w_lo cI cA cL q_out q_va q_aa q_cl q_fu Q S vO)) := hD
  obtain ⟨he, hf⟩ := jv_gd hf
  refine lv_icmp_eq (tgt := 1401) hx hb d_law_1396 (by decide) (fun _ => ?_) (fun h9 => absurd he h9)
  obtain rfl := Option.some.inj hf
  refine W.widen (k := cells + 8) (n := slots + 713) (Nat.le_add_right _ _) (Nat.le_add_right _ _) ?_
  exact KK Q H locs ls hl hP hD hS
