theorem d_law_634 : decode cc_law 634 = .ok (.aload_n 1, 1) := by decide +kernel
theorem d_law_635 : decode cc_law 635 = .ok (.aload_n 0, 1) := by decide +kernel
theorem d_law_636 : decode cc_law 636 = .ok (.iload 4, 2) := by decide +kernel
theorem d_law_638 : decode cc_law 638 = .ok (.iconst 1, 1) := by decide +kernel
theorem d_law_639 : decode cc_law 639 = .ok (.iadd, 1) := by decide +kernel
theorem d_law_640 : decode cc_law 640 = .ok (.iaload, 1) := by decide +kernel
theorem d_law_641 : decode cc_law 641 = .ok (.aload_n 0, 1) := by decide +kernel
theorem d_law_642 : decode cc_law 642 = .ok (.iload 4, 2) := by decide +kernel
theorem d_law_644 : decode cc_law 644 = .ok (.iconst 2, 1) := by decide +kernel
theorem d_law_645 : decode cc_law 645 = .ok (.iadd, 1) := by decide +kernel
theorem d_law_646 : decode cc_law 646 = .ok (.iaload, 1) := by decide +kernel
theorem d_law_647 : decode cc_law 647 = .ok (.aload_n 0, 1) := by decide +kernel
theorem d_law_648 : decode cc_law 648 = .ok (.iload 4, 2) := by decide +kernel
theorem d_law_650 : decode cc_law 650 = .ok (.iconst 3, 1) := by decide +kernel
theorem d_law_651 : decode cc_law 651 = .ok (.iadd, 1) := by decide +kernel
theorem d_law_652 : decode cc_law 652 = .ok (.iaload, 1) := by decide +kernel
theorem d_law_653 : decode cc_law 653 = .ok (.aload_n 3, 1) := by decide +kernel
theorem d_law_654 : decode cc_law 654 = .ok (.invokestatic 108, 3) := by decide +kernel
theorem d_law_657 : decode cc_law 657 = .ok (.istore 5, 2) := by decide +kernel
theorem d_law_659 : decode cc_law 659 = .ok (.aload_n 2, 1) := by decide +kernel
theorem d_law_660 : decode cc_law 660 = .ok (.aload_n 0, 1) := by decide +kernel
theorem d_law_661 : decode cc_law 661 = .ok (.iload 4, 2) := by decide +kernel
theorem d_law_663 : decode cc_law 663 = .ok (.iconst 1, 1) := by decide +kernel
theorem d_law_664 : decode cc_law 664 = .ok (.iadd, 1) := by decide +kernel
theorem d_law_665 : decode cc_law 665 = .ok (.iaload, 1) := by decide +kernel
theorem d_law_666 : decode cc_law 666 = .ok (.aload_n 0, 1) := by decide +kernel
theorem d_law_667 : decode cc_law 667 = .ok (.iload 4, 2) := by decide +kernel
theorem d_law_669 : decode cc_law 669 = .ok (.iconst 2, 1) := by decide +kernel
theorem d_law_670 : decode cc_law 670 = .ok (.iadd, 1) := by decide +kernel
theorem d_law_671 : decode cc_law 671 = .ok (.iaload, 1) := by decide +kernel
theorem d_law_672 : decode cc_law 672 = .ok (.aload_n 0, 1) := by decide +kernel
theorem d_law_673 : decode cc_law 673 = .ok (.iload 4, 2) := by decide +kernel
theorem d_law_675 : decode cc_law 675 = .ok (.iconst 3, 1) := by decide +kernel
theorem d_law_676 : decode cc_law 676 = .ok (.iadd, 1) := by decide +kernel
theorem d_law_677 : decode cc_law 677 = .ok (.iaload, 1) := by decide +kernel
theorem d_law_678 : decode cc_law 678 = .ok (.invokevirtual 110, 3) := by decide +kernel
theorem d_law_681 : decode cc_law 681 = .ok (.istore 6, 2) := by decide +kernel
theorem d_law_683 : decode cc_law 683 = .ok (.aload_n 2, 1) := by decide +kernel
theorem d_law_684 : decode cc_law 684 = .ok (.invokevirtual 83, 3) := by decide +kernel
theorem d_law_687 : decode cc_law 687 = .ok (.iload 5, 2) := by decide +kernel
theorem d_law_689 : decode cc_law 689 = .ok (.if_icmp .eq 5, 3) := by decide +kernel
theorem d_law_694 : decode cc_law 694 = .ok (.iload 5, 2) := by decide +kernel
theorem d_law_696 : decode cc_law 696 = .ok (.ifCond .ne 15, 3) := by decide +kernel
theorem d_law_699 : decode cc_law 699 = .ok (.aload_n 3, 1) := by decide +kernel
theorem d_law_700 : decode cc_law 700 = .ok (.iconst 0, 1) := by decide +kernel
theorem d_law_701 : decode cc_law 701 = .ok (.laload, 1) := by decide +kernel
theorem d_law_702 : decode cc_law 702 = .ok (.iload 6, 2) := by decide +kernel
theorem d_law_704 : decode cc_law 704 = .ok (.i2l, 1) := by decide +kernel
theorem d_law_705 : decode cc_law 705 = .ok (.lcmp, 1) := by decide +kernel
theorem d_law_706 : decode cc_law 706 = .ok (.ifCond .eq 5, 3) := by decide +kernel
theorem d_law_711 : decode cc_law 711 = .ok (.goto 690, 3) := by decide +kernel
def s_7 (S : jv_vs) (vO : Nat → Int64) (M : jv_ms) (p1 : Int32) (p2 : Int32) (p3 : Int32) : Option jv_st :=
  (l_truncate S p1 p2 p3 vO).bind fun x => (f_M_truncate M.2.1 M.2.2.2.1 p1 p2 p3 M.1 M.2.2.1 M.2.2.2.2.2.1 M.2.2.2.2.2.2.1 M.2.2.2.2.2.2.2.1 M.2.2.2.2.2.2.2.2).bind fun y1 => (f_M_thrown y1.2.1).bind fun y2 => if y2 = x.1 then (if x.1 = 0 then (if x.2.2 (0 : Int32).toNatClampNeg = (y1.1).toInt64 then (some (x.2.1, x.2.2, y1.2.1, M.2.1, y1.2.2.1, M.2.2.2.1, M.2.2.2.2.1, y1.2.2.2.1, y1.2.2.2.2.1, y1.2.2.2.2.2.1, y1.2.2.2.2.2.2)) else none) else (some (x.2.1, x.2.2, y1.2.1, M.2.1, y1.2.2.1, M.2.2.2.1, M.2.2.2.2.1, y1.2.2.2.1, y1.2.2.2.2.1, y1.2.2.2.2.2.1, y1.2.2.2.2.2.2))) else none
set_option maxHeartbeats 4000000 in
set_option maxRecDepth 100000 in
theorem b_law_7 {l : Launch} {dC : Nat → ClassId} {dI : Nat → Nat → Nat} {cI cA cL : ClassId} {q_mo q_mlb_ q_mcl_ q_mus_ q_mwr_ q_mdk_ q_mcp_ q_out q_va q_aa q_cl q_fu : Nat} {p : Program} {e : Env} {s : State} {m : MethodId} {below : List Frame} {meth : Method} {c : Code} {b L : Nat} {xs : Nat → Int32} (hl9 : l.stackTraces = false) (hx : p.tables.exec = Jvm.exec) (hb : c.code = code) (hml : c.maxLocals = 7) (hown : s.vm.findClass R_Law = some m.cls) (hts : ∀ w ∈ Cond.tt :: jv_LT, w.before #[Value.ref b] s = true) (hX : va_X b L xs s s.heap) (hbl : b < s.heap.size) (hK : va_K (dC, dI) vwCl (jv_ty cI cA cL) s) (hTc : jv_tc s) {A : Nat → Prop} (hA : ∀ q : Nat, s.heap.size ≤ q → A q) (hAn : ∀ q : Nat, A q → s.heap.size ≤ q) {Z : State → Prop} {Q : Nat → Nat → Nat} {i : Int32} (hi1 : vp_in (i + (1 : Int32)) L) (hi2 : vp_in (i + (2 : Int32)) L) (hi3 : vp_in (i + (3 : Int32)) L) {S : jv_vs} {vO : Nat → Int64} {M : jv_ms} {r : jv_st} {H : Heap} {locs : List Loc} {cells slots : Nat} (hc : cells + 8 ≤ room_1.cells) (hsl : slots + 713 ≤ room_1.slots) {ls : Array Slot} (hl : lv_has ls 7 [(0, .ref b), (1, .ref q_va), (2, .ref q_mo), (3, .ref q_out), (4, .int i)]) (hP : va_P (dC, dI) vwCl ((w_model cI q_mo q_mlb_ q_mcl_ q_mus_ q_mwr_ q_mdk_ q_mcp_ M.1 M.2.1 M.2.2.1 M.2.2.2.1 M.2.2.2.2.1 M.2.2.2.2.2.1 M.2.2.2.2.2.2.1 M.2.2.2.2.2.2.2.1 M.2.2.2.2.2.2.2.2) ++ (w_lo cI cA cL q_out q_va q_aa q_cl q_fu Q S vO)) H) (hD : va_D A ((w_model cI q_mo q_mlb_ q_mcl_ q_mus_ q_mwr_ q_mdk_ q_mcp_ M.1 M.2.1 M.2.2.1 M.2.2.2.1 M.2.2.2.2.1 M.2.2.2.2.2.1 M.2.2.2.2.2.2.1 M.2.2.2.2.2.2.2.1 M.2.2.2.2.2.2.2.2) ++ (w_lo cI cA cL q_out q_va q_aa q_cl q_fu Q S vO))) (hS : va_S A s.heap H locs) (hf : s_7 S vO M (xs (i + (1 : Int32)).toNatClampNeg) (xs (i + (2 : Int32)).toNatClampNeg) (xs (i + (3 : Int32)).toNatClampNeg) = some r) (KK : ∀ (Q : Nat → Nat → Nat) (H : Heap) (locs : List Loc) (ls : Array Slot), lv_has ls 7 [(0, .ref b), (1, .ref q_va), (2, .ref q_mo), (3, .ref q_out), (4, .int i)] → va_P (dC, dI) vwCl ((w_model cI q_mo q_mlb_ q_mcl_ q_mus_ q_mwr_ q_mdk_ q_mcp_ r.2.2.1 r.2.2.2.1 r.2.2.2.2.1 r.2.2.2.2.2.1 r.2.2.2.2.2.2.1 r.2.2.2.2.2.2.2.1 r.2.2.2.2.2.2.2.2.1 r.2.2.2.2.2.2.2.2.2.1 r.2.2.2.2.2.2.2.2.2.2) ++ (w_lo cI cA cL q_out q_va q_aa q_cl q_fu Q r.1 r.2.1)) H → va_D A ((w_model cI q_mo q_mlb_ q_mcl_ q_mus_ q_mwr_ q_mdk_ q_mcp_ r.2.2.1 r.2.2.2.1 r.2.2.2.2.1 r.2.2.2.2.2.1 r.2.2.2.2.2.2.1 r.2.2.2.2.2.2.2.1 r.2.2.2.2.2.2.2.2.1 r.2.2.2.2.2.2.2.2.2.1 r.2.2.2.2.2.2.2.2.2.2) ++ (w_lo cI cA cL q_out q_va q_aa q_cl q_fu Q r.1 r.2.1)) → va_S A s.heap H locs → W p l e room_1 s m #[Value.ref b] below meth c H locs (cells + 8) (slots + 713) Z (F0 m 1401 ls [])) : W p l e room_1 s m #[Value.ref b] below meth c H locs cells slots Z (F0 m 634 ls []) := by
  have hbA : ¬ A b := fun h => absurd (hAn b h) (by omega)
  unfold s_7 at hf
  refine lv_aload_n hx hb d_law_634 rfl (lv_at hl 1 rfl) ?_
  refine lv_aload_n hx hb d_law_635 rfl (lv_at hl 0 rfl) ?_
  refine lv_iload hx hb d_law_636 (lv_at hl 4 rfl) ?_
  refine lv_iconst (v := (1 : Int32)) hx hb d_law_638 (by decide) ?_
  refine lv_iadd hx hb d_law_639 ?_
  refine va_sld hx hb hX hbl hbA hS hi1 d_law_640 ?_
  refine lv_aload_n hx hb d_law_641 rfl (lv_at hl 0 rfl) ?_
  refine lv_iload hx hb d_law_642 (lv_at hl 4 rfl) ?_
  refine lv_iconst (v := (2 : Int32)) hx hb d_law_644 (by decide) ?_
  refine lv_iadd hx hb d_law_645 ?_
  refine va_sld hx hb hX hbl hbA hS hi2 d_law_646 ?_
  refine lv_aload_n hx hb d_law_647 rfl (lv_at hl 0 rfl) ?_
  refine lv_iload hx hb d_law_648 (lv_at hl 4 rfl) ?_
  refine lv_iconst (v := (3 : Int32)) hx hb d_law_650 (by decide) ?_
  refine lv_iadd hx hb d_law_651 ?_
  refine va_sld hx hb hX hbl hbA hS hi3 d_law_652 ?_
  refine lv_aload_n hx hb d_law_653 rfl (lv_at hl 3 rfl) ?_
  obtain ⟨x, gx, hf⟩ := jv_ob hf
  have hPr : va_P (dC, dI) vwCl (w_lo cI cA cL q_out q_va q_aa q_cl q_fu Q S vO) H := jv_PR (X := (w_model cI q_mo q_mlb_ q_mcl_ q_mus_ q_mwr_ q_mdk_ q_mcp_ M.1 M.2.1 M.2.2.1 M.2.2.2.1 M.2.2.2.2.1 M.2.2.2.2.2.1 M.2.2.2.2.2.2.1 M.2.2.2.2.2.2.2.1 M.2.2.2.2.2.2.2.2)) hP
  have hDr : va_D A (w_lo cI cA cL q_out q_va q_aa q_cl q_fu Q S vO) := jv_DR (X := (w_model cI q_mo q_mlb_ q_mcl_ q_mus_ q_mwr_ q_mdk_ q_mcp_ M.1 M.2.1 M.2.2.1 M.2.2.2.1 M.2.2.2.2.1 M.2.2.2.2.2.1 M.2.2.2.2.2.2.1 M.2.2.2.2.2.2.2.1 M.2.2.2.2.2.2.2.2)) hD
  have hFc := jv_fr hDr hS hA
  refine jv_cwl (vx_runSW (As := [.ref q_va, .int (xs (i + (1 : Int32)).toNatClampNeg), .int (xs (i + (2 : Int32)).toNatClampNeg), .int (xs (i + (3 : Int32)).toNatClampNeg), .ref q_out]) (rest := []) ⟨hx, hb, hml, hown, hts⟩ (c_L_truncate l hl9 dC dI cI cA cL q_out q_va q_aa q_cl q_fu Q S vO (xs (i + (1 : Int32)).toNatClampNeg) (xs (i + (2 : Int32)).toNatClampNeg) (xs (i + (3 : Int32)).toNatClampNeg) H.size x gx) (jv_cwSW hts wa_643 wa_590 wa_644 wa_645 rfl rfl yd_L_truncate ⟨Nat.le_of_ble_eq_true rfl, Nat.le_of_ble_eq_true rfl⟩) (jv_preSlw hTc hK hPr hDr (fun q hq => hS.2.1 q hq (fun h => absurd (hAn q h) (by omega)))) rfl rfl hl.1 rfl (lv_room (Nat.le_of_ble_eq_true rfl)) d_law_654 ⟨hc, hsl⟩) hS hFc (fun Q H1 locs hP1 hD1 hk1 hS0 => ?_)
  obtain ⟨hP, hD⟩ := jv_joinR (V1 := (w_lo cI cA cL q_out q_va q_aa q_cl q_fu Q x.2.1 x.2.2)) hk1 hP1 hD1 (w_model cI q_mo q_mlb_ q_mcl_ q_mus_ q_mwr_ q_mdk_ q_mcp_ M.1 M.2.1 M.2.2.1 M.2.2.2.1 M.2.2.2.2.1 M.2.2.2.2.2.1 M.2.2.2.2.2.2.1 M.2.2.2.2.2.2.2.1 M.2.2.2.2.2.2.2.2) A (fun q h => hA q (Nat.le_trans hS.1 h)) hP hD
  have hS := hS0
  generalize H1 = H at hP hS ⊢
  have hP : va_P (dC, dI) vwCl ((w_model cI q_mo q_mlb_ q_mcl_ q_mus_ q_mwr_ q_mdk_ q_mcp_ M.1 M.2.1 M.2.2.1 M.2.2.2.1 M.2.2.2.2.1 M.2.2.2.2.2.1 M.2.2.2.2.2.2.1 M.2.2.2.2.2.2.2.1 M.2.2.2.2.2.2.2.2) ++ (w_lo cI cA cL q_out q_va q_aa q_cl q_fu Q x.2.1 x.2.2)) H := hP
  have hD : va_D A ((w_model cI q_mo q_mlb_ q_mcl_ q_mus_ q_mwr_ q_mdk_ q_mcp_ M.1 M.2.1 M.2.2.1 M.2.2.2.1 M.2.2.2.2.1 M.2.2.2.2.2.1 M.2.2.2.2.2.2.1 M.2.2.2.2.2.2.2.1 M.2.2.2.2.2.2.2.2) ++ (w_lo cI cA cL q_out q_va q_aa q_cl q_fu Q x.2.1 x.2.2)) := hD
  refine lv_istore (lv' := [(5, .int x.1), (0, .ref b), (1, .ref q_va), (2, .ref q_mo), (3, .ref q_out), (4, .int i)]) hx hb d_law_657 hl (by decide) rfl (fun ls hl => ?_)
  refine lv_aload_n hx hb d_law_659 rfl (lv_at hl 3 rfl) ?_
  refine lv_aload_n hx hb d_law_660 rfl (lv_at hl 1 rfl) ?_
  refine lv_iload hx hb d_law_661 (lv_at hl 5 rfl) ?_
  refine lv_iconst (v := (1 : Int32)) hx hb d_law_663 (by decide) ?_
  refine lv_iadd hx hb d_law_664 ?_
  refine va_sld hx hb hX hbl hbA hS hi1 d_law_665 ?_
  refine lv_aload_n hx hb d_law_666 rfl (lv_at hl 1 rfl) ?_
  refine lv_iload hx hb d_law_667 (lv_at hl 5 rfl) ?_
  refine lv_iconst (v := (2 : Int32)) hx hb d_law_669 (by decide) ?_
  refine lv_iadd hx hb d_law_670 ?_
  refine va_sld hx hb hX hbl hbA hS hi2 d_law_671 ?_
  refine lv_aload_n hx hb d_law_672 rfl (lv_at hl 1 rfl) ?_
  refine lv_iload hx hb d_law_673 (lv_at hl 5 rfl) ?_
  refine lv_iconst (v := (3 : Int32)) hx hb d_law_675 (by decide) ?_
  refine lv_iadd hx hb d_law_676 ?_
  refine va_sld hx hb hX hbl hbA hS hi3 d_law_677 ?_
  obtain ⟨y1, gy1, hf⟩ := jv_ob hf
  have hPl : va_P (dC, dI) vwCl (w_model cI q_mo q_mlb_ q_mcl_ q_mus_ q_mwr_ q_mdk_ q_mcp_ M.1 M.2.1 M.2.2.1 M.2.2.2.1 M.2.2.2.2.1 M.2.2.2.2.2.1 M.2.2.2.2.2.2.1 M.2.2.2.2.2.2.2.1 M.2.2.2.2.2.2.2.2) H := jv_PL (Y := (w_lo cI cA cL q_out q_va q_aa q_cl q_fu Q x.2.1 x.2.2)) hP
  have hDl : va_D A (w_model cI q_mo q_mlb_ q_mcl_ q_mus_ q_mwr_ q_mdk_ q_mcp_ M.1 M.2.1 M.2.2.1 M.2.2.2.1 M.2.2.2.2.1 M.2.2.2.2.2.1 M.2.2.2.2.2.2.1 M.2.2.2.2.2.2.2.1 M.2.2.2.2.2.2.2.2) := jv_DL (Y := (w_lo cI cA cL q_out q_va q_aa q_cl q_fu Q x.2.1 x.2.2)) hD
  have hFc := jv_fr hDl hS hA
  refine jv_cwi (va_runV (As := [.int (xs (i + (1 : Int32)).toNatClampNeg), .int (xs (i + (2 : Int32)).toNatClampNeg), .int (xs (i + (3 : Int32)).toNatClampNeg)]) (rest := []) (b := q_mo) ⟨hx, hb, hml, hown, hts⟩ (c_M_truncate l dC dI cI cA cL q_mo q_mlb_ q_mcl_ q_mus_ q_mwr_ q_mdk_ q_mcp_ M.1 M.2.1 M.2.2.1 M.2.2.2.1 M.2.2.2.2.1 M.2.2.2.2.2.1 M.2.2.2.2.2.2.1 M.2.2.2.2.2.2.2.1 M.2.2.2.2.2.2.2.2 (xs (i + (1 : Int32)).toNatClampNeg) (xs (i + (2 : Int32)).toNatClampNeg) (xs (i + (3 : Int32)).toNatClampNeg) H.size y1 gy1) (jv_cwV hts wa_646 wa_194 wa_647 wa_648 wa_649 rfl rfl yd_M_truncate ⟨Nat.le_of_ble_eq_true rfl, Nat.le_of_ble_eq_true rfl⟩) (jv_preVW hK hPl hDl 0 rfl rfl) rfl rfl hl.1 rfl (lv_room (Nat.le_of_ble_eq_true rfl)) d_law_678 ⟨hc, hsl⟩) hS hFc (fun H1 locs hP1 hD1 hk1 hS0 => ?_)
  obtain ⟨hP, hD⟩ := jv_joinL (X := (w_model cI q_mo q_mlb_ q_mcl_ q_mus_ q_mwr_ q_mdk_ q_mcp_ M.1 M.2.1 M.2.2.1 M.2.2.2.1 M.2.2.2.2.1 M.2.2.2.2.2.1 M.2.2.2.2.2.2.1 M.2.2.2.2.2.2.2.1 M.2.2.2.2.2.2.2.2)) (X1 := (w_model cI q_mo q_mlb_ q_mcl_ q_mus_ q_mwr_ q_mdk_ q_mcp_ y1.2.1 M.2.1 y1.2.2.1 M.2.2.2.1 M.2.2.2.2.1 y1.2.2.2.1 y1.2.2.2.2.1 y1.2.2.2.2.2.1 y1.2.2.2.2.2.2)) (V := (w_lo cI cA cL q_out q_va q_aa q_cl q_fu Q x.2.1 x.2.2)) hP hD (fun q h => hA q (Nat.le_trans hS.1 h)) hk1 hP1 hD1
  have hS := hS0
  generalize H1 = H at hP hS ⊢
  have hP : va_P (dC, dI) vwCl ((w_model cI q_mo q_mlb_ q_mcl_ q_mus_ q_mwr_ q_mdk_ q_mcp_ y1.2.1 M.2.1 y1.2.2.1 M.2.2.2.1 M.2.2.2.2.1 y1.2.2.2.1 y1.2.2.2.2.1 y1.2.2.2.2.2.1 y1.2.2.2.2.2.2) ++ (w_lo cI cA cL q_out q_va q_aa q_cl q_fu Q x.2.1 x.2.2)) H := hP
  have hD : va_D A ((w_model cI q_mo q_mlb_ q_mcl_ q_mus_ q_mwr_ q_mdk_ q_mcp_ y1.2.1 M.2.1 y1.2.2.1 M.2.2.2.1 M.2.2.2.2.1 y1.2.2.2.1 y1.2.2.2.2.1 y1.2.2.2.2.2.1 y1.2.2.2.2.2.2) ++ (w_lo cI cA cL q_out q_va q_aa q_cl q_fu Q x.2.1 x.2.2)) := hD
  refine lv_istore (lv' := [(6, .int y1.1), (5, .int x.1), (0, .ref b), (1, .ref q_va), (2, .ref q_mo), (3, .ref q_out), (4, .int i)]) hx hb d_law_681 hl (by decide) rfl (fun ls hl => ?_)
  refine lv_aload_n hx hb d_law_683 rfl (lv_at hl 4 rfl) ?_
  obtain ⟨y2, gy2, hf⟩ := jv_ob hf
  have hPl : va_P (dC, dI) vwCl (w_model cI q_mo q_mlb_ q_mcl_ q_mus_ q_mwr_ q_mdk_ q_mcp_ y1.2.1 M.2.1 y1.2.2.1 M.2.2.2.1 M.2.2.2.2.1 y1.2.2.2.1 y1.2.2.2.2.1 y1.2.2.2.2.2.1 y1.2.2.2.2.2.2) H := jv_PL (Y := (w_lo cI cA cL q_out q_va q_aa q_cl q_fu Q x.2.1 x.2.2)) hP
  have hDl : va_D A (w_model cI q_mo q_mlb_ q_mcl_ q_mus_ q_mwr_ q_mdk_ q_mcp_ y1.2.1 M.2.1 y1.2.2.1 M.2.2.2.1 M.2.2.2.2.1 y1.2.2.2.1 y1.2.2.2.2.1 y1.2.2.2.2.2.1 y1.2.2.2.2.2.2) := jv_DL (Y := (w_lo cI cA cL q_out q_va q_aa q_cl q_fu Q x.2.1 x.2.2)) hD
  refine jv_cs (W.runV (As := []) (rest := []) (b := q_mo) ⟨hx, hb, hml, hown, hts⟩ (c_M_thrown l dC dI cI cA cL q_mo q_mlb_ q_mcl_ q_mus_ q_mwr_ q_mdk_ q_mcp_ y1.2.1 M.2.1 y1.2.2.1 M.2.2.2.1 M.2.2.2.2.1 y1.2.2.2.1 y1.2.2.2.2.1 y1.2.2.2.2.2.1 y1.2.2.2.2.2.2 y2 gy2) (jv_cwV hts wa_597 wa_194 wa_598 wa_599 wa_600 rfl rfl yd_M_thrown ⟨Nat.le_of_ble_eq_true rfl, Nat.le_of_ble_eq_true rfl⟩) (jv_preV hK hPl 0 rfl rfl) rfl rfl hl.1 rfl (lv_room (Nat.le_of_ble_eq_true rfl)) d_law_684 ⟨hc, hsl⟩) ?_
  refine lv_iload hx hb d_law_687 (lv_at hl 1 rfl) ?_
  obtain ⟨he, hf⟩ := jv_gd hf
  refine lv_icmp_eq (tgt := 694) hx hb d_law_689 (by decide) (fun _ => ?_) (fun h9 => absurd he h9)
  refine lv_iload hx hb d_law_694 (lv_at hl 1 rfl) ?_
  by_cases hz : x.1 = 0
  · have hf := jv_it hf hz
    refine lv_if_ne (tgt := 711) hx hb d_law_696 (by decide) (fun h9 => absurd hz h9) (fun _ => ?_)
    refine lv_aload_n hx hb d_law_699 rfl (lv_at hl 5 rfl) ?_
    refine lv_iconst (v := (0 : Int32)) hx hb d_law_700 (by decide) ?_
    refine va_lald hx hb hK hP 7 2 rfl rfl (by unfold vp_in; decide) d_law_701 ?_
    refine lv_iload hx hb d_law_702 (lv_at hl 0 rfl) ?_
    obtain ⟨ho, hf⟩ := jv_gd hf
    refine lv_i2l hx hb d_law_704 rfl ?_
    refine jv_lcmp0 hx hb ho d_law_705 ?_
    refine lv_if_eq (tgt := 711) hx hb d_law_706 (by decide) (fun _ => ?_) (fun h9 => absurd rfl h9)
    obtain rfl := Option.some.inj hf
    refine lv_goto (tgt := 1401) hx hb d_law_711 (by decide) ?_
    exact KK Q H locs ls (lv_sub hl [2, 3, 4, 5, 6] rfl) hP hD hS
  · have hf := jv_if hf hz
    refine lv_if_ne (tgt := 711) hx hb d_law_696 (by decide) (fun _ => ?_) (fun h9 => absurd h9 hz)
    obtain rfl := Option.some.inj hf
    refine lv_goto (tgt := 1401) hx hb d_law_711 (by decide) ?_
    exact KK Q H locs ls (lv_sub hl [2, 3, 4, 5, 6] rfl) hP hD hS
theorem d_law_714 : decode cc_law 714 = .ok (.aload_n 1, 1) := by decide +kernel
theorem d_law_715 : decode cc_law 715 = .ok (.aload_n 0, 1) := by decide +kernel
theorem d_law_716 : decode cc_law 716 = .ok (.iload 4, 2) := by decide +kernel
theorem d_law_718 : decode cc_law 718 = .ok (.iconst 1, 1) := by decide +kernel
theorem d_law_719 : decode cc_law 719 = .ok (.iadd, 1) := by decide +kernel
theorem d_law_720 : decode cc_law 720 = .ok (.iaload, 1) := by decide +kernel
theorem d_law_721 : decode cc_law 721 = .ok (.aload_n 0, 1) := by decide +kernel
theorem d_law_722 : decode cc_law 722 = .ok (.iload 4, 2) := by decide +kernel
theorem d_law_724 : decode cc_law 724 = .ok (.iconst 2, 1) := by decide +kernel
theorem d_law_725 : decode cc_law 725 = .ok (.iadd, 1) := by decide +kernel
theorem d_law_726 : decode cc_law 726 = .ok (.iaload, 1) := by decide +kernel
theorem d_law_727 : decode cc_law 727 = .ok (.aload_n 3, 1) := by decide +kernel
theorem d_law_728 : decode cc_law 728 = .ok (.invokestatic 111, 3) := by decide +kernel
theorem d_law_731 : decode cc_law 731 = .ok (.istore 5, 2) := by decide +kernel
theorem d_law_733 : decode cc_law 733 = .ok (.aload_n 2, 1) := by decide +kernel
theorem d_law_734 : decode cc_law 734 = .ok (.aload_n 0, 1) := by decide +kernel
theorem d_law_735 : decode cc_law 735 = .ok (.iload 4, 2) := by decide +kernel
theorem d_law_737 : decode cc_law 737 = .ok (.iconst 1, 1) := by decide +kernel
theorem d_law_738 : decode cc_law 738 = .ok (.iadd, 1) := by decide +kernel
theorem d_law_739 : decode cc_law 739 = .ok (.iaload, 1) := by decide +kernel
theorem d_law_740 : decode cc_law 740 = .ok (.aload_n 0, 1) := by decide +kernel
theorem d_law_741 : decode cc_law 741 = .ok (.iload 4, 2) := by decide +kernel
theorem d_law_743 : decode cc_law 743 = .ok (.iconst 2, 1) := by decide +kernel
theorem d_law_744 : decode cc_law 744 = .ok (.iadd, 1) := by decide +kernel
theorem d_law_745 : decode cc_law 745 = .ok (.iaload, 1) := by decide +kernel
theorem d_law_746 : decode cc_law 746 = .ok (.invokevirtual 113, 3) := by decide +kernel
theorem d_law_749 : decode cc_law 749 = .ok (.istore 6, 2) := by decide +kernel
theorem d_law_751 : decode cc_law 751 = .ok (.aload_n 2, 1) := by decide +kernel
theorem d_law_752 : decode cc_law 752 = .ok (.invokevirtual 83, 3) := by decide +kernel
theorem d_law_755 : decode cc_law 755 = .ok (.iload 5, 2) := by decide +kernel
theorem d_law_757 : decode cc_law 757 = .ok (.if_icmp .eq 5, 3) := by decide +kernel
theorem d_law_762 : decode cc_law 762 = .ok (.iload 5, 2) := by decide +kernel
theorem d_law_764 : decode cc_law 764 = .ok (.ifCond .ne 15, 3) := by decide +kernel
theorem d_law_767 : decode cc_law 767 = .ok (.aload_n 3, 1) := by decide +kernel
theorem d_law_768 : decode cc_law 768 = .ok (.iconst 0, 1) := by decide +kernel
theorem d_law_769 : decode cc_law 769 = .ok (.laload, 1) := by decide +kernel
theorem d_law_770 : decode cc_law 770 = .ok (.iload 6, 2) := by decide +kernel
theorem d_law_772 : decode cc_law 772 = .ok (.i2l, 1) := by decide +kernel
theorem d_law_773 : decode cc_law 773 = .ok (.lcmp, 1) := by decide +kernel
theorem d_law_774 : decode cc_law 774 = .ok (.ifCond .eq 5, 3) := by decide +kernel
theorem d_law_779 : decode cc_law 779 = .ok (.goto 622, 3) := by decide +kernel
def s_8 (S : jv_vs) (vO : Nat → Int64) (M : jv_ms) (p1 : Int32) (p2 : Int32) : Option jv_st :=
  (l_remove S p1 p2 vO).bind fun x => (f_M_remove M.2.1 M.2.2.2.1 p1 p2 M.1 M.2.2.1 M.2.2.2.2.2.1 M.2.2.2.2.2.2.1 M.2.2.2.2.2.2.2.1 M.2.2.2.2.2.2.2.2).bind fun y1 => (f_M_thrown y1.2.1).bind fun y2 => if y2 = x.1 then (if x.1 = 0 then (if x.2.2 (0 : Int32).toNatClampNeg = (y1.1).toInt64 then (some (x.2.1, x.2.2, y1.2.1, M.2.1, y1.2.2.1, M.2.2.2.1, M.2.2.2.2.1, y1.2.2.2.1, y1.2.2.2.2.1, y1.2.2.2.2.2.1, y1.2.2.2.2.2.2)) else none) else (some (x.2.1, x.2.2, y1.2.1, M.2.1, y1.2.2.1, M.2.2.2.1, M.2.2.2.2.1, y1.2.2.2.1, y1.2.2.2.2.1, y1.2.2.2.2.2.1, y1.2.2.2.2.2.2))) else none
set_option maxHeartbeats 4000000 in
set_option maxRecDepth 100000 in
theorem b_law_8 {l : Launch} {dC : Nat → ClassId} {dI : Nat → Nat → Nat} {cI cA cL : ClassId} {q_mo q_mlb_ q_mcl_ q_mus_ q_mwr_ q_mdk_ q_mcp_ q_out q_va q_aa q_cl q_fu : Nat} {p : Program} {e : Env} {s : State} {m : MethodId} {below : List Frame} {meth : Method} {c : Code} {b L : Nat} {xs : Nat → Int32} (hl9 : l.stackTraces = false) (hx : p.tables.exec = Jvm.exec) (hb : c.code = code) (hml : c.maxLocals = 7) (hown : s.vm.findClass R_Law = some m.cls) (hts : ∀ w ∈ Cond.tt :: jv_LT, w.before #[Value.ref b] s = true) (hX : va_X b L xs s s.heap) (hbl : b < s.heap.size) (hK : va_K (dC, dI) vwCl (jv_ty cI cA cL) s) (hTc : jv_tc s) {A : Nat → Prop} (hA : ∀ q : Nat, s.heap.size ≤ q → A q) (hAn : ∀ q : Nat, A q → s.heap.size ≤ q) {Z : State → Prop} {Q : Nat → Nat → Nat} {i : Int32} (hi1 : vp_in (i + (1 : Int32)) L) (hi2 : vp_in (i + (2 : Int32)) L) {S : jv_vs} {vO : Nat → Int64} {M : jv_ms} {r : jv_st} {H : Heap} {locs : List Loc} {cells slots : Nat} (hc : cells + 8 ≤ room_1.cells) (hsl : slots + 713 ≤ room_1.slots) {ls : Array Slot} (hl : lv_has ls 7 [(0, .ref b), (1, .ref q_va), (2, .ref q_mo), (3, .ref q_out), (4, .int i)]) (hP : va_P (dC, dI) vwCl ((w_model cI q_mo q_mlb_ q_mcl_ q_mus_ q_mwr_ q_mdk_ q_mcp_ M.1 M.2.1 M.2.2.1 M.2.2.2.1 M.2.2.2.2.1 M.2.2.2.2.2.1 M.2.2.2.2.2.2.1 M.2.2.2.2.2.2.2.1 M.2.2.2.2.2.2.2.2) ++ (w_lo cI cA cL q_out q_va q_aa q_cl q_fu Q S vO)) H) (hD : va_D A ((w_model cI q_mo q_mlb_ q_mcl_ q_mus_ q_mwr_ q_mdk_ q_mcp_ M.1 M.2.1 M.2.2.1 M.2.2.2.1 M.2.2.2.2.1 M.2.2.2.2.2.1 M.2.2.2.2.2.2.1 M.2.2.2.2.2.2.2.1 M.2.2.2.2.2.2.2.2) ++ (w_lo cI cA cL q_out q_va q_aa q_cl q_fu Q S vO))) (hS : va_S A s.heap H locs) (hf : s_8 S vO M (xs (i + (1 : Int32)).toNatClampNeg) (xs (i + (2 : Int32)).toNatClampNeg) = some r) (KK : ∀ (Q : Nat → Nat → Nat) (H : Heap) (locs : List Loc) (ls : Array Slot), lv_has ls 7 [(0, .ref b), (1, .ref q_va), (2, .ref q_mo), (3, .ref q_out), (4, .int i)] → va_P (dC, dI) vwCl ((w_model cI q_mo q_mlb_ q_mcl_ q_mus_ q_mwr_ q_mdk_ q_mcp_ r.2.2.1 r.2.2.2.1 r.2.2.2.2.1 r.2.2.2.2.2.1 r.2.2.2.2.2.2.1 r.2.2.2.2.2.2.2.1 r.2.2.2.2.2.2.2.2.1 r.2.2.2.2.2.2.2.2.2.1 r.2.2.2.2.2.2.2.2.2.2) ++ (w_lo cI cA cL q_out q_va q_aa q_cl q_fu Q r.1 r.2.1)) H → va_D A ((w_model cI q_mo q_mlb_ q_mcl_ q_mus_ q_mwr_ q_mdk_ q_mcp_ r.2.2.1 r.2.2.2.1 r.2.2.2.2.1 r.2.2.2.2.2.1 r.2.2.2.2.2.2.1 r.2.2.2.2.2.2.2.1 r.2.2.2.2.2.2.2.2.1 r.2.2.2.2.2.2.2.2.2.1 r.2.2.2.2.2.2.2.2.2.2) ++ (w_lo cI cA cL q_out q_va q_aa q_cl q_fu Q r.1 r.2.1)) → va_S A s.heap H locs → W p l e room_1 s m #[Value.ref b] below meth c H locs (cells + 8) (slots + 713) Z (F0 m 1401 ls [])) : W p l e room_1 s m #[Value.ref b] below meth c H locs cells slots Z (F0 m 714 ls []) := by
  have hbA : ¬ A b := fun h => absurd (hAn b h) (by omega)
  unfold s_8 at hf
  refine lv_aload_n hx hb d_law_714 rfl (lv_at hl 1 rfl) ?_
  refine lv_aload_n hx hb d_law_715 rfl (lv_at hl 0 rfl) ?_
  refine lv_iload hx hb d_law_716 (lv_at hl 4 rfl) ?_
  refine lv_iconst (v := (1 : Int32)) hx hb d_law_718 (by decide) ?_
  refine lv_iadd hx hb d_law_719 ?_
  refine va_sld hx hb hX hbl hbA hS hi1 d_law_720 ?_
  refine lv_aload_n hx hb d_law_721 rfl (lv_at hl 0 rfl) ?_
  refine lv_iload hx hb d_law_722 (lv_at hl 4 rfl) ?_
  refine lv_iconst (v := (2 : Int32)) hx hb d_law_724 (by decide) ?_
  refine lv_iadd hx hb d_law_725 ?_
  refine va_sld hx hb hX hbl hbA hS hi2 d_law_726 ?_
  refine lv_aload_n hx hb d_law_727 rfl (lv_at hl 3 rfl) ?_
  obtain ⟨x, gx, hf⟩ := jv_ob hf
  have hPr : va_P (dC, dI) vwCl (w_lo cI cA cL q_out q_va q_aa q_cl q_fu Q S vO) H := jv_PR (X := (w_model cI q_mo q_mlb_ q_mcl_ q_mus_ q_mwr_ q_mdk_ q_mcp_ M.1 M.2.1 M.2.2.1 M.2.2.2.1 M.2.2.2.2.1 M.2.2.2.2.2.1 M.2.2.2.2.2.2.1 M.2.2.2.2.2.2.2.1 M.2.2.2.2.2.2.2.2)) hP
  have hDr : va_D A (w_lo cI cA cL q_out q_va q_aa q_cl q_fu Q S vO) := jv_DR (X := (w_model cI q_mo q_mlb_ q_mcl_ q_mus_ q_mwr_ q_mdk_ q_mcp_ M.1 M.2.1 M.2.2.1 M.2.2.2.1 M.2.2.2.2.1 M.2.2.2.2.2.1 M.2.2.2.2.2.2.1 M.2.2.2.2.2.2.2.1 M.2.2.2.2.2.2.2.2)) hD
  have hFc := jv_fr hDr hS hA
  refine jv_cwl (vx_runSW (As := [.ref q_va, .int (xs (i + (1 : Int32)).toNatClampNeg), .int (xs (i + (2 : Int32)).toNatClampNeg), .ref q_out]) (rest := []) ⟨hx, hb, hml, hown, hts⟩ (c_L_remove l hl9 dC dI cI cA cL q_out q_va q_aa q_cl q_fu Q S vO (xs (i + (1 : Int32)).toNatClampNeg) (xs (i + (2 : Int32)).toNatClampNeg) H.size x gx) (jv_cwSW hts wa_650 wa_590 wa_651 wa_652 rfl rfl yd_L_remove ⟨Nat.le_of_ble_eq_true rfl, Nat.le_of_ble_eq_true rfl⟩) (jv_preSlw hTc hK hPr hDr (fun q hq => hS.2.1 q hq (fun h => absurd (hAn q h) (by omega)))) rfl rfl hl.1 rfl (lv_room (Nat.le_of_ble_eq_true rfl)) d_law_728 ⟨hc, hsl⟩) hS hFc (fun Q H1 locs hP1 hD1 hk1 hS0 => ?_)
  obtain ⟨hP, hD⟩ := jv_joinR (V1 := (w_lo cI cA cL q_out q_va q_aa q_cl q_fu Q x.2.1 x.2.2)) hk1 hP1 hD1 (w_model cI q_mo q_mlb_ q_mcl_ q_mus_ q_mwr_ q_mdk_ q_mcp_ M.1 M.2.1 M.2.2.1 M.2.2.2.1 M.2.2.2.2.1 M.2.2.2.2.2.1 M.2.2.2.2.2.2.1 M.2.2.2.2.2.2.2.1 M.2.2.2.2.2.2.2.2) A (fun q h => hA q (Nat.le_trans hS.1 h)) hP hD
  have hS := hS0
  generalize H1 = H at hP hS ⊢
  have hP : va_P (dC, dI) vwCl ((w_model cI q_mo q_mlb_ q_mcl_ q_mus_ q_mwr_ q_mdk_ q_mcp_ M.1 M.2.1 M.2.2.1 M.2.2.2.1 M.2.2.2.2.1 M.2.2.2.2.2.1 M.2.2.2.2.2.2.1 M.2.2.2.2.2.2.2.1 M.2.2.2.2.2.2.2.2) ++ (w_lo cI cA cL q_out q_va q_aa q_cl q_fu Q x.2.1 x.2.2)) H := hP
  have hD : va_D A ((w_model cI q_mo q_mlb_ q_mcl_ q_mus_ q_mwr_ q_mdk_ q_mcp_ M.1 M.2.1 M.2.2.1 M.2.2.2.1 M.2.2.2.2.1 M.2.2.2.2.2.1 M.2.2.2.2.2.2.1 M.2.2.2.2.2.2.2.1 M.2.2.2.2.2.2.2.2) ++ (w_lo cI cA cL q_out q_va q_aa q_cl q_fu Q x.2.1 x.2.2)) := hD
  refine lv_istore (lv' := [(5, .int x.1), (0, .ref b), (1, .ref q_va), (2, .ref q_mo), (3, .ref q_out), (4, .int i)]) hx hb d_law_731 hl (by decide) rfl (fun ls hl => ?_)
  refine lv_aload_n hx hb d_law_733 rfl (lv_at hl 3 rfl) ?_
  refine lv_aload_n hx hb d_law_734 rfl (lv_at hl 1 rfl) ?_
  refine lv_iload hx hb d_law_735 (lv_at hl 5 rfl) ?_
  refine lv_iconst (v := (1 : Int32)) hx hb d_law_737 (by decide) ?_
  refine lv_iadd hx hb d_law_738 ?_
  refine va_sld hx hb hX hbl hbA hS hi1 d_law_739 ?_
  refine lv_aload_n hx hb d_law_740 rfl (lv_at hl 1 rfl) ?_
  refine lv_iload hx hb d_law_741 (lv_at hl 5 rfl) ?_
  refine lv_iconst (v := (2 : Int32)) hx hb d_law_743 (by decide) ?_
  refine lv_iadd hx hb d_law_744 ?_
  refine va_sld hx hb hX hbl hbA hS hi2 d_law_745 ?_
  obtain ⟨y1, gy1, hf⟩ := jv_ob hf
  have hPl : va_P (dC, dI) vwCl (w_model cI q_mo q_mlb_ q_mcl_ q_mus_ q_mwr_ q_mdk_ q_mcp_ M.1 M.2.1 M.2.2.1 M.2.2.2.1 M.2.2.2.2.1 M.2.2.2.2.2.1 M.2.2.2.2.2.2.1 M.2.2.2.2.2.2.2.1 M.2.2.2.2.2.2.2.2) H := jv_PL (Y := (w_lo cI cA cL q_out q_va q_aa q_cl q_fu Q x.2.1 x.2.2)) hP
  have hDl : va_D A (w_model cI q_mo q_mlb_ q_mcl_ q_mus_ q_mwr_ q_mdk_ q_mcp_ M.1 M.2.1 M.2.2.1 M.2.2.2.1 M.2.2.2.2.1 M.2.2.2.2.2.1 M.2.2.2.2.2.2.1 M.2.2.2.2.2.2.2.1 M.2.2.2.2.2.2.2.2) := jv_DL (Y := (w_lo cI cA cL q_out q_va q_aa q_cl q_fu Q x.2.1 x.2.2)) hD
  have hFc := jv_fr hDl hS hA
  refine jv_cwi (va_runV (As := [.int (xs (i + (1 : Int32)).toNatClampNeg), .int (xs (i + (2 : Int32)).toNatClampNeg)]) (rest := []) (b := q_mo) ⟨hx, hb, hml, hown, hts⟩ (c_M_remove l dC dI cI cA cL q_mo q_mlb_ q_mcl_ q_mus_ q_mwr_ q_mdk_ q_mcp_ M.1 M.2.1 M.2.2.1 M.2.2.2.1 M.2.2.2.2.1 M.2.2.2.2.2.1 M.2.2.2.2.2.2.1 M.2.2.2.2.2.2.2.1 M.2.2.2.2.2.2.2.2 (xs (i + (1 : Int32)).toNatClampNeg) (xs (i + (2 : Int32)).toNatClampNeg) H.size y1 gy1) (jv_cwV hts wa_653 wa_194 wa_654 wa_655 wa_656 rfl rfl yd_M_remove ⟨Nat.le_of_ble_eq_true rfl, Nat.le_of_ble_eq_true rfl⟩) (jv_preVW hK hPl hDl 0 rfl rfl) rfl rfl hl.1 rfl (lv_room (Nat.le_of_ble_eq_true rfl)) d_law_746 ⟨hc, hsl⟩) hS hFc (fun H1 locs hP1 hD1 hk1 hS0 => ?_)
  obtain ⟨hP, hD⟩ := jv_joinL (X := (w_model cI q_mo q_mlb_ q_mcl_ q_mus_ q_mwr_ q_mdk_ q_mcp_ M.1 M.2.1 M.2.2.1 M.2.2.2.1 M.2.2.2.2.1 M.2.2.2.2.2.1 M.2.2.2.2.2.2.1 M.2.2.2.2.2.2.2.1 M.2.2.2.2.2.2.2.2)) (X1 := (w_model cI q_mo q_mlb_ q_mcl_ q_mus_ q_mwr_ q_mdk_ q_mcp_ y1.2.1 M.2.1 y1.2.2.1 M.2.2.2.1 M.2.2.2.2.1 y1.2.2.2.1 y1.2.2.2.2.1 y1.2.2.2.2.2.1 y1.2.2.2.2.2.2)) (V := (w_lo cI cA cL q_out q_va q_aa q_cl q_fu Q x.2.1 x.2.2)) hP hD (fun q h => hA q (Nat.le_trans hS.1 h)) hk1 hP1 hD1
  have hS := hS0
  generalize H1 = H at hP hS ⊢
  have hP : va_P (dC, dI) vwCl ((w_model cI q_mo q_mlb_ q_mcl_ q_mus_ q_mwr_ q_mdk_ q_mcp_ y1.2.1 M.2.1 y1.2.2.1 M.2.2.2.1 M.2.2.2.2.1 y1.2.2.2.1 y1.2.2.2.2.1 y1.2.2.2.2.2.1 y1.2.2.2.2.2.2) ++ (w_lo cI cA cL q_out q_va q_aa q_cl q_fu Q x.2.1 x.2.2)) H := hP
  have hD : va_D A ((w_model cI q_mo q_mlb_ q_mcl_ q_mus_ q_mwr_ q_mdk_ q_mcp_ y1.2.1 M.2.1 y1.2.2.1 M.2.2.2.1 M.2.2.2.2.1 y1.2.2.2.1 y1.2.2.2.2.1 y1.2.2.2.2.2.1 y1.2.2.2.2.2.2) ++ (w_lo cI cA cL q_out q_va q_aa q_cl q_fu Q x.2.1 x.2.2)) := hD
  refine lv_istore (lv' := [(6, .int y1.1), (5, .int x.1), (0, .ref b), (1, .ref q_va), (2, .ref q_mo), (3, .ref q_out), (4, .int i)]) hx hb d_law_749 hl (by decide) rfl (fun ls hl => ?_)
  refine lv_aload_n hx hb d_law_751 rfl (lv_at hl 4 rfl) ?_
  obtain ⟨y2, gy2, hf⟩ := jv_ob hf
  have hPl : va_P (dC, dI) vwCl (w_model cI q_mo q_mlb_ q_mcl_ q_mus_ q_mwr_ q_mdk_ q_mcp_ y1.2.1 M.2.1 y1.2.2.1 M.2.2.2.1 M.2.2.2.2.1 y1.2.2.2.1 y1.2.2.2.2.1 y1.2.2.2.2.2.1 y1.2.2.2.2.2.2) H := jv_PL (Y := (w_lo cI cA cL q_out q_va q_aa q_cl q_fu Q x.2.1 x.2.2)) hP
  have hDl : va_D A (w_model cI q_mo q_mlb_ q_mcl_ q_mus_ q_mwr_ q_mdk_ q_mcp_ y1.2.1 M.2.1 y1.2.2.1 M.2.2.2.1 M.2.2.2.2.1 y1.2.2.2.1 y1.2.2.2.2.1 y1.2.2.2.2.2.1 y1.2.2.2.2.2.2) := jv_DL (Y := (w_lo cI cA cL q_out q_va q_aa q_cl q_fu Q x.2.1 x.2.2)) hD
  refine jv_cs (W.runV (As := []) (rest := []) (b := q_mo) ⟨hx, hb, hml, hown, hts⟩ (c_M_thrown l dC dI cI cA cL q_mo q_mlb_ q_mcl_ q_mus_ q_mwr_ q_mdk_ q_mcp_ y1.2.1 M.2.1 y1.2.2.1 M.2.2.2.1 M.2.2.2.2.1 y1.2.2.2.1 y1.2.2.2.2.1 y1.2.2.2.2.2.1 y1.2.2.2.2.2.2 y2 gy2) (jv_cwV hts wa_597 wa_194 wa_598 wa_599 wa_600 rfl rfl yd_M_thrown ⟨Nat.le_of_ble_eq_true rfl, Nat.le_of_ble_eq_true rfl⟩) (jv_preV hK hPl 0 rfl rfl) rfl rfl hl.1 rfl (lv_room (Nat.le_of_ble_eq_true rfl)) d_law_752 ⟨hc, hsl⟩) ?_
  refine lv_iload hx hb d_law_755 (lv_at hl 1 rfl) ?_
  obtain ⟨he, hf⟩ := jv_gd hf
  refine lv_icmp_eq (tgt := 762) hx hb d_law_757 (by decide) (fun _ => ?_) (fun h9 => absurd he h9)
  refine lv_iload hx hb d_law_762 (lv_at hl 1 rfl) ?_
  by_cases hz : x.1 = 0
  · have hf := jv_it hf hz
    refine lv_if_ne (tgt := 779) hx hb d_law_764 (by decide) (fun h9 => absurd hz h9) (fun _ => ?_)
    refine lv_aload_n hx hb d_law_767 rfl (lv_at hl 5 rfl) ?_
    refine lv_iconst (v := (0 : Int32)) hx hb d_law_768 (by decide) ?_
    refine va_lald hx hb hK hP 7 2 rfl rfl (by unfold vp_in; decide) d_law_769 ?_
    refine lv_iload hx hb d_law_770 (lv_at hl 0 rfl) ?_
    obtain ⟨ho, hf⟩ := jv_gd hf
    refine lv_i2l hx hb d_law_772 rfl ?_
    refine jv_lcmp0 hx hb ho d_law_773 ?_
    refine lv_if_eq (tgt := 779) hx hb d_law_774 (by decide) (fun _ => ?_) (fun h9 => absurd rfl h9)
    obtain rfl := Option.some.inj hf
    refine lv_goto (tgt := 1401) hx hb d_law_779 (by decide) ?_
    exact KK Q H locs ls (lv_sub hl [2, 3, 4, 5, 6] rfl) hP hD hS
  · have hf := jv_if hf hz
    refine lv_if_ne (tgt := 779) hx hb d_law_764 (by decide) (fun _ => ?_) (fun h9 => absurd h9 hz)
    obtain rfl := Option.some.inj hf
    refine lv_goto (tgt := 1401) hx hb d_law_779 (by decide) ?_
    exact KK Q H locs ls (lv_sub hl [2, 3, 4, 5, 6] rfl) hP hD hS
theorem d_law_782 : decode cc_law 782 = .ok (.aload_n 1, 1) := by decide +kernel
theorem d_law_783 : decode cc_law 783 = .ok (.aload_n 0, 1) := by decide +kernel
theorem d_law_784 : decode cc_law 784 = .ok (.iload 4, 2) := by decide +kernel
theorem d_law_786 : decode cc_law 786 = .ok (.iconst 1, 1) := by decide +kernel
theorem d_law_787 : decode cc_law 787 = .ok (.iadd, 1) := by decide +kernel
theorem d_law_788 : decode cc_law 788 = .ok (.iaload, 1) := by decide +kernel
theorem d_law_789 : decode cc_law 789 = .ok (.aload_n 0, 1) := by decide +kernel
theorem d_law_790 : decode cc_law 790 = .ok (.iload 4, 2) := by decide +kernel
theorem d_law_792 : decode cc_law 792 = .ok (.iconst 2, 1) := by decide +kernel
theorem d_law_793 : decode cc_law 793 = .ok (.iadd, 1) := by decide +kernel
theorem d_law_794 : decode cc_law 794 = .ok (.iaload, 1) := by decide +kernel
theorem d_law_795 : decode cc_law 795 = .ok (.aload_n 0, 1) := by decide +kernel
theorem d_law_796 : decode cc_law 796 = .ok (.iload 4, 2) := by decide +kernel
theorem d_law_798 : decode cc_law 798 = .ok (.iconst 3, 1) := by decide +kernel
theorem d_law_799 : decode cc_law 799 = .ok (.iadd, 1) := by decide +kernel
theorem d_law_800 : decode cc_law 800 = .ok (.iaload, 1) := by decide +kernel
theorem d_law_801 : decode cc_law 801 = .ok (.aload_n 3, 1) := by decide +kernel
theorem d_law_802 : decode cc_law 802 = .ok (.invokestatic 114, 3) := by decide +kernel
theorem d_law_805 : decode cc_law 805 = .ok (.istore 5, 2) := by decide +kernel
theorem d_law_807 : decode cc_law 807 = .ok (.aload_n 2, 1) := by decide +kernel
theorem d_law_808 : decode cc_law 808 = .ok (.aload_n 0, 1) := by decide +kernel
theorem d_law_809 : decode cc_law 809 = .ok (.iload 4, 2) := by decide +kernel
theorem d_law_811 : decode cc_law 811 = .ok (.iconst 1, 1) := by decide +kernel
theorem d_law_812 : decode cc_law 812 = .ok (.iadd, 1) := by decide +kernel
theorem d_law_813 : decode cc_law 813 = .ok (.iaload, 1) := by decide +kernel
theorem d_law_814 : decode cc_law 814 = .ok (.aload_n 0, 1) := by decide +kernel
theorem d_law_815 : decode cc_law 815 = .ok (.iload 4, 2) := by decide +kernel
theorem d_law_817 : decode cc_law 817 = .ok (.iconst 2, 1) := by decide +kernel
theorem d_law_818 : decode cc_law 818 = .ok (.iadd, 1) := by decide +kernel
theorem d_law_819 : decode cc_law 819 = .ok (.iaload, 1) := by decide +kernel
theorem d_law_820 : decode cc_law 820 = .ok (.aload_n 0, 1) := by decide +kernel
theorem d_law_821 : decode cc_law 821 = .ok (.iload 4, 2) := by decide +kernel
theorem d_law_823 : decode cc_law 823 = .ok (.iconst 3, 1) := by decide +kernel
theorem d_law_824 : decode cc_law 824 = .ok (.iadd, 1) := by decide +kernel
theorem d_law_825 : decode cc_law 825 = .ok (.iaload, 1) := by decide +kernel
theorem d_law_826 : decode cc_law 826 = .ok (.invokevirtual 116, 3) := by decide +kernel
theorem d_law_829 : decode cc_law 829 = .ok (.istore 6, 2) := by decide +kernel
theorem d_law_831 : decode cc_law 831 = .ok (.aload_n 2, 1) := by decide +kernel
theorem d_law_832 : decode cc_law 832 = .ok (.invokevirtual 83, 3) := by decide +kernel
theorem d_law_835 : decode cc_law 835 = .ok (.iload 5, 2) := by decide +kernel
theorem d_law_837 : decode cc_law 837 = .ok (.if_icmp .eq 5, 3) := by decide +kernel
theorem d_law_842 : decode cc_law 842 = .ok (.iload 5, 2) := by decide +kernel
theorem d_law_844 : decode cc_law 844 = .ok (.ifCond .ne 15, 3) := by decide +kernel
theorem d_law_847 : decode cc_law 847 = .ok (.aload_n 3, 1) := by decide +kernel
theorem d_law_848 : decode cc_law 848 = .ok (.iconst 0, 1) := by decide +kernel
theorem d_law_849 : decode cc_law 849 = .ok (.laload, 1) := by decide +kernel
theorem d_law_850 : decode cc_law 850 = .ok (.iload 6, 2) := by decide +kernel
theorem d_law_852 : decode cc_law 852 = .ok (.i2l, 1) := by decide +kernel
theorem d_law_853 : decode cc_law 853 = .ok (.lcmp, 1) := by decide +kernel
theorem d_law_854 : decode cc_law 854 = .ok (.ifCond .eq 5, 3) := by decide +kernel
theorem d_law_859 : decode cc_law 859 = .ok (.goto 542, 3) := by decide +kernel
def s_9 (S : jv_vs) (vO : Nat → Int64) (M : jv_ms) (p1 : Int32) (p2 : Int32) (p3 : Int32) : Option jv_st :=
  (l_move S p1 p2 p3 vO).bind fun x => (f_M_move M.2.1 M.2.2.2.1 p1 p2 p3 M.1 M.2.2.1 M.2.2.2.2.2.1 M.2.2.2.2.2.2.1 M.2.2.2.2.2.2.2.1 M.2.2.2.2.2.2.2.2).bind fun y1 => (f_M_thrown y1.2.1).bind fun y2 => if y2 = x.1 then (if x.1 = 0 then (if x.2.2 (0 : Int32).toNatClampNeg = (y1.1).toInt64 then (some (x.2.1, x.2.2, y1.2.1, M.2.1, y1.2.2.1, M.2.2.2.1, M.2.2.2.2.1, y1.2.2.2.1, y1.2.2.2.2.1, y1.2.2.2.2.2.1, y1.2.2.2.2.2.2)) else none) else (some (x.2.1, x.2.2, y1.2.1, M.2.1, y1.2.2.1, M.2.2.2.1, M.2.2.2.2.1, y1.2.2.2.1, y1.2.2.2.2.1, y1.2.2.2.2.2.1, y1.2.2.2.2.2.2))) else none
set_option maxHeartbeats 4000000 in
set_option maxRecDepth 100000 in
theorem b_law_9 {l : Launch} {dC : Nat → ClassId} {dI : Nat → Nat → Nat} {cI cA cL : ClassId} {q_mo q_mlb_ q_mcl_ q_mus_ q_mwr_ q_mdk_ q_mcp_ q_out q_va q_aa q_cl q_fu : Nat} {p : Program} {e : Env} {s : State} {m : MethodId} {below : List Frame} {meth : Method} {c : Code} {b L : Nat} {xs : Nat → Int32} (hl9 : l.stackTraces = false) (hx : p.tables.exec = Jvm.exec) (hb : c.code = code) (hml : c.maxLocals = 7) (hown : s.vm.findClass R_Law = some m.cls) (hts : ∀ w ∈ Cond.tt :: jv_LT, w.before #[Value.ref b] s = true) (hX : va_X b L xs s s.heap) (hbl : b < s.heap.size) (hK : va_K (dC, dI) vwCl (jv_ty cI cA cL) s) (hTc : jv_tc s) {A : Nat → Prop} (hA : ∀ q : Nat, s.heap.size ≤ q → A q) (hAn : ∀ q : Nat, A q → s.heap.size ≤ q) {Z : State → Prop} {Q : Nat → Nat → Nat} {i : Int32} (hi1 : vp_in (i + (1 : Int32)) L) (hi2 : vp_in (i + (2 : Int32)) L) (hi3 : vp_in (i + (3 : Int32)) L) {S : jv_vs} {vO : Nat → Int64} {M : jv_ms} {r : jv_st} {H : Heap} {locs : List Loc} {cells slots : Nat} (hc : cells + 8 ≤ room_1.cells) (hsl : slots + 713 ≤ room_1.slots) {ls : Array Slot} (hl : lv_has ls 7 [(0, .ref b), (1, .ref q_va), (2, .ref q_mo), (3, .ref q_out), (4, .int i)]) (hP : va_P (dC, dI) vwCl ((w_model cI q_mo q_mlb_ q_mcl_ q_mus_ q_mwr_ q_mdk_ q_mcp_ M.1 M.2.1 M.2.2.1 M.2.2.2.1 M.2.2.2.2.1 M.2.2.2.2.2.1 M.2.2.2.2.2.2.1 M.2.2.2.2.2.2.2.1 M.2.2.2.2.2.2.2.2) ++ (w_lo cI cA cL q_out q_va q_aa q_cl q_fu Q S vO)) H) (hD : va_D A ((w_model cI q_mo q_mlb_ q_mcl_ q_mus_ q_mwr_ q_mdk_ q_mcp_ M.1 M.2.1 M.2.2.1 M.2.2.2.1 M.2.2.2.2.1 M.2.2.2.2.2.1 M.2.2.2.2.2.2.1 M.2.2.2.2.2.2.2.1 M.2.2.2.2.2.2.2.2) ++ (w_lo cI cA cL q_out q_va q_aa q_cl q_fu Q S vO))) (hS : va_S A s.heap H locs) (hf : s_9 S vO M (xs (i + (1 : Int32)).toNatClampNeg) (xs (i + (2 : Int32)).toNatClampNeg) (xs (i + (3 : Int32)).toNatClampNeg) = some r) (KK : ∀ (Q : Nat → Nat → Nat) (H : Heap) (locs : List Loc) (ls : Array Slot), lv_has ls 7 [(0, .ref b), (1, .ref q_va), (2, .ref q_mo), (3, .ref q_out), (4, .int i)] → va_P (dC, dI) vwCl ((w_model cI q_mo q_mlb_ q_mcl_ q_mus_ q_mwr_ q_mdk_ q_mcp_ r.2.2.1 r.2.2.2.1 r.2.2.2.2.1 r.2.2.2.2.2.1 r.2.2.2.2.2.2.1 r.2.2.2.2.2.2.2.1 r.2.2.2.2.2.2.2.2.1 r.2.2.2.2.2.2.2.2.2.1 r.2.2.2.2.2.2.2.2.2.2) ++ (w_lo cI cA cL q_out q_va q_aa q_cl q_fu Q r.1 r.2.1)) H → va_D A ((w_model cI q_mo q_mlb_ q_mcl_ q_mus_ q_mwr_ q_mdk_ q_mcp_ r.2.2.1 r.2.2.2.1 r.2.2.2.2.1 r.2.2.2.2.2.1 r.2.2.2.2.2.2.1 r.2.2.2.2.2.2.2.1 r.2.2.2.2.2.2.2.2.1 r.2.2.2.2.2.2.2.2.2.1 r.2.2.2.2.2.2.2.2.2.2) ++ (w_lo cI cA cL q_out q_va q_aa q_cl q_fu Q r.1 r.2.1)) → va_S A s.heap H locs → W p l e room_1 s m #[Value.ref b] below meth c H locs (cells + 8) (slots + 713) Z (F0 m 1401 ls [])) : W p l e room_1 s m #[Value.ref b] below meth c H locs cells slots Z (F0 m 782 ls []) := by
  have hbA : ¬ A b := fun h => absurd (hAn b h) (by omega)
  unfold s_9 at hf
  refine lv_aload_n hx hb d_law_782 rfl (lv_at hl 1 rfl) ?_
  refine lv_aload_n hx hb d_law_783 rfl (lv_at hl 0 rfl) ?_
  refine lv_iload hx hb d_law_784 (lv_at hl 4 rfl) ?_
  refine lv_iconst (v := (1 : Int32)) hx hb d_law_786 (by decide) ?_
  refine lv_iadd hx hb d_law_787 ?_
  refine va_sld hx hb hX hbl hbA hS hi1 d_law_788 ?_
  refine lv_aload_n hx hb d_law_789 rfl (lv_at hl 0 rfl) ?_
  refine lv_iload hx hb d_law_790 (lv_at hl 4 rfl) ?_
  refine lv_iconst (v := (2 : Int32)) hx hb d_law_792 (by decide) ?_
  refine lv_iadd hx hb d_law_793 ?_
  refine va_sld hx hb hX hbl hbA hS hi2 d_law_794 ?_
  refine lv_aload_n hx hb d_law_795 rfl (lv_at hl 0 rfl) ?_
  refine lv_iload hx hb d_law_796 (lv_at hl 4 rfl) ?_
  refine lv_iconst (v := (3 : Int32)) hx hb d_law_798 (by decide) ?_
  refine lv_iadd hx hb d_law_799 ?_
  refine va_sld hx hb hX hbl hbA hS hi3 d_law_800 ?_
  refine lv_aload_n hx hb d_law_801 rfl (lv_at hl 3 rfl) ?_
  obtain ⟨x, gx, hf⟩ := jv_ob hf
  have hPr : va_P (dC, dI) vwCl (w_lo cI cA cL q_out q_va q_aa q_cl q_fu Q S vO) H := jv_PR (X := (w_model cI q_mo q_mlb_ q_mcl_ q_mus_ q_mwr_ q_mdk_ q_mcp_ M.1 M.2.1 M.2.2.1 M.2.2.2.1 M.2.2.2.2.1 M.2.2.2.2.2.1 M.2.2.2.2.2.2.1 M.2.2.2.2.2.2.2.1 M.2.2.2.2.2.2.2.2)) hP
  have hDr : va_D A (w_lo cI cA cL q_out q_va q_aa q_cl q_fu Q S vO) := jv_DR (X := (w_model cI q_mo q_mlb_ q_mcl_ q_mus_ q_mwr_ q_mdk_ q_mcp_ M.1 M.2.1 M.2.2.1 M.2.2.2.1 M.2.2.2.2.1 M.2.2.2.2.2.1 M.2.2.2.2.2.2.1 M.2.2.2.2.2.2.2.1 M.2.2.2.2.2.2.2.2)) hD
  have hFc := jv_fr hDr hS hA
  refine jv_cwl (vx_runSW (As := [.ref q_va, .int (xs (i + (1 : Int32)).toNatClampNeg), .int (xs (i + (2 : Int32)).toNatClampNeg), .int (xs (i + (3 : Int32)).toNatClampNeg), .ref q_out]) (rest := []) ⟨hx, hb, hml, hown, hts⟩ (c_L_move l hl9 dC dI cI cA cL q_out q_va q_aa q_cl q_fu Q S vO (xs (i + (1 : Int32)).toNatClampNeg) (xs (i + (2 : Int32)).toNatClampNeg) (xs (i + (3 : Int32)).toNatClampNeg) H.size x gx) (jv_cwSW hts wa_657 wa_590 wa_658 wa_659 rfl rfl yd_L_move ⟨Nat.le_of_ble_eq_true rfl, Nat.le_of_ble_eq_true rfl⟩) (jv_preSlw hTc hK hPr hDr (fun q hq => hS.2.1 q hq (fun h => absurd (hAn q h) (by omega)))) rfl rfl hl.1 rfl (lv_room (Nat.le_of_ble_eq_true rfl)) d_law_802 ⟨hc, hsl⟩) hS hFc (fun Q H1 locs hP1 hD1 hk1 hS0 => ?_)
  obtain ⟨hP, hD⟩ := jv_joinR (V1 := (w_lo cI cA cL q_out q_va q_aa q_cl q_fu Q x.2.1 x.2.2)) hk1 hP1 hD1 (w_model cI q_mo q_mlb_ q_mcl_ q_mus_ q_mwr_ q_mdk_ q_mcp_ M.1 M.2.1 M.2.2.1 M.2.2.2.1 M.2.2.2.2.1 M.2.2.2.2.2.1 M.2.2.2.2.2.2.1 M.2.2.2.2.2.2.2.1 M.2.2.2.2.2.2.2.2) A (fun q h => hA q (Nat.le_trans hS.1 h)) hP hD
  have hS := hS0
  generalize H1 = H at hP hS ⊢
  have hP : va_P (dC, dI) vwCl ((w_model cI q_mo q_mlb_ q_mcl_ q_mus_ q_mwr_ q_mdk_ q_mcp_ M.1 M.2.1 M.2.2.1 M.2.2.2.1 M.2.2.2.2.1 M.2.2.2.2.2.1 M.2.2.2.2.2.2.1 M.2.2.2.2.2.2.2.1 M.2.2.2.2.2.2.2.2) ++ (w_lo cI cA cL q_out q_va q_aa q_cl q_fu Q x.2.1 x.2.2)) H := hP
  have hD : va_D A ((w_model cI q_mo q_mlb_ q_mcl_ q_mus_ q_mwr_ q_mdk_ q_mcp_ M.1 M.2.1 M.2.2.1 M.2.2.2.1 M.2.2.2.2.1 M.2.2.2.2.2.1 M.2.2.2.2.2.2.1 M.2.2.2.2.2.2.2.1 M.2.2.2.2.2.2.2.2) ++ (w_lo cI cA cL q_out q_va q_aa q_cl q_fu Q x.2.1 x.2.2)) := hD
  refine lv_istore (lv' := [(5, .int x.1), (0, .ref b), (1, .ref q_va), (2, .ref q_mo), (3, .ref q_out), (4, .int i)]) hx hb d_law_805 hl (by decide) rfl (fun ls hl => ?_)
  refine lv_aload_n hx hb d_law_807 rfl (lv_at hl 3 rfl) ?_
  refine lv_aload_n hx hb d_law_808 rfl (lv_at hl 1 rfl) ?_
  refine lv_iload hx hb d_law_809 (lv_at hl 5 rfl) ?_
  refine lv_iconst (v := (1 : Int32)) hx hb d_law_811 (by decide) ?_
  refine lv_iadd hx hb d_law_812 ?_
  refine va_sld hx hb hX hbl hbA hS hi1 d_law_813 ?_
  refine lv_aload_n hx hb d_law_814 rfl (lv_at hl 1 rfl) ?_
  refine lv_iload hx hb d_law_815 (lv_at hl 5 rfl) ?_
  refine lv_iconst (v := (2 : Int32)) hx hb d_law_817 (by decide) ?_
  refine lv_iadd hx hb d_law_818 ?_
  refine va_sld hx hb hX hbl hbA hS hi2 d_law_819 ?_
  refine lv_aload_n hx hb d_law_820 rfl (lv_at hl 1 rfl) ?_
  refine lv_iload hx hb d_law_821 (lv_at hl 5 rfl) ?_
  refine lv_iconst (v := (3 : Int32)) hx hb d_law_823 (by decide) ?_
  refine lv_iadd hx hb d_law_824 ?_
  refine va_sld hx hb hX hbl hbA hS hi3 d_law_825 ?_
  obtain ⟨y1, gy1, hf⟩ := jv_ob hf
  have hPl : va_P (dC, dI) vwCl (w_model cI q_mo q_mlb_ q_mcl_ q_mus_ q_mwr_ q_mdk_ q_mcp_ M.1 M.2.1 M.2.2.1 M.2.2.2.1 M.2.2.2.2.1 M.2.2.2.2.2.1 M.2.2.2.2.2.2.1 M.2.2.2.2.2.2.2.1 M.2.2.2.2.2.2.2.2) H := jv_PL (Y := (w_lo cI cA cL q_out q_va q_aa q_cl q_fu Q x.2.1 x.2.2)) hP
  have hDl : va_D A (w_model cI q_mo q_mlb_ q_mcl_ q_mus_ q_mwr_ q_mdk_ q_mcp_ M.1 M.2.1 M.2.2.1 M.2.2.2.1 M.2.2.2.2.1 M.2.2.2.2.2.1 M.2.2.2.2.2.2.1 M.2.2.2.2.2.2.2.1 M.2.2.2.2.2.2.2.2) := jv_DL (Y := (w_lo cI cA cL q_out q_va q_aa q_cl q_fu Q x.2.1 x.2.2)) hD
  have hFc := jv_fr hDl hS hA
  refine jv_cwi (va_runV (As := [.int (xs (i + (1 : Int32)).toNatClampNeg), .int (xs (i + (2 : Int32)).toNatClampNeg), .int (xs (i + (3 : Int32)).toNatClampNeg)]) (rest := []) (b := q_mo) ⟨hx, hb, hml, hown, hts⟩ (c_M_move l dC dI cI cA cL q_mo q_mlb_ q_mcl_ q_mus_ q_mwr_ q_mdk_ q_mcp_ M.1 M.2.1 M.2.2.1 M.2.2.2.1 M.2.2.2.2.1 M.2.2.2.2.2.1 M.2.2.2.2.2.2.1 M.2.2.2.2.2.2.2.1 M.2.2.2.2.2.2.2.2 (xs (i + (1 : Int32)).toNatClampNeg) (xs (i + (2 : Int32)).toNatClampNeg) (xs (i + (3 : Int32)).toNatClampNeg) H.size y1 gy1) (jv_cwV hts wa_660 wa_194 wa_661 wa_662 wa_663 rfl rfl yd_M_move ⟨Nat.le_of_ble_eq_true rfl, Nat.le_of_ble_eq_true rfl⟩) (jv_preVW hK hPl hDl 0 rfl rfl) rfl rfl hl.1 rfl (lv_room (Nat.le_of_ble_eq_true rfl)) d_law_826 ⟨hc, hsl⟩) hS hFc (fun H1 locs hP1 hD1 hk1 hS0 => ?_)
  obtain ⟨hP, hD⟩ := jv_joinL (X := (w_model cI q_mo q_mlb_ q_mcl_ q_mus_ q_mwr_ q_mdk_ q_mcp_ M.1 M.2.1 M.2.2.1 M.2.2.2.1 M.2.2.2.2.1 M.2.2.2.2.2.1 M.2.2.2.2.2.2.1 M.2.2.2.2.2.2.2.1 M.2.2.2.2.2.2.2.2)) (X1 := (w_model cI q_mo q_mlb_ q_mcl_ q_mus_ q_mwr_ q_mdk_ q_mcp_ y1.2.1 M.2.1 y1.2.2.1 M.2.2.2.1 M.2.2.2.2.1 y1.2.2.2.1 y1.2.2.2.2.1 y1.2.2.2.2.2.1 y1.2.2.2.2.2.2)) (V := (w_lo cI cA cL q_out q_va q_aa q_cl q_fu Q x.2.1 x.2.2)) hP hD (fun q h => hA q (Nat.le_trans hS.1 h)) hk1 hP1 hD1
  have hS := hS0
  generalize H1 = H at hP hS ⊢
  have hP : va_P (dC, dI) vwCl ((w_model cI q_mo q_mlb_ q_mcl_ q_mus_ q_mwr_ q_mdk_ q_mcp_ y1.2.1 M.2.1 y1.2.2.1 M.2.2.2.1 M.2.2.2.2.1 y1.2.2.2.1 y1.2.2.2.2.1 y1.2.2.2.2.2.1 y1.2.2.2.2.2.2) ++ (w_lo cI cA cL q_out q_va q_aa q_cl q_fu Q x.2.1 x.2.2)) H := hP
  have hD : va_D A ((w_model cI q_mo q_mlb_ q_mcl_ q_mus_ q_mwr_ q_mdk_ q_mcp_ y1.2.1 M.2.1 y1.2.2.1 M.2.2.2.1 M.2.2.2.2.1 y1.2.2.2.1 y1.2.2.2.2.1 y1.2.2.2.2.2.1 y1.2.2.2.2.2.2) ++ (w_lo cI cA cL q_out q_va q_aa q_cl q_fu Q x.2.1 x.2.2)) := hD
  refine lv_istore (lv' := [(6, .int y1.1), (5, .int x.1), (0, .ref b), (1, .ref q_va), (2, .ref q_mo), (3, .ref q_out), (4, .int i)]) hx hb d_law_829 hl (by decide) rfl (fun ls hl => ?_)
  refine lv_aload_n hx hb d_law_831 rfl (lv_at hl 4 rfl) ?_
  obtain ⟨y2, gy2, hf⟩ := jv_ob hf
  have hPl : va_P (dC, dI) vwCl (w_model cI q_mo q_mlb_ q_mcl_ q_mus_ q_mwr_ q_mdk_ q_mcp_ y1.2.1 M.2.1 y1.2.2.1 M.2.2.2.1 M.2.2.2.2.1 y1.2.2.2.1 y1.2.2.2.2.1 y1.2.2.2.2.2.1 y1.2.2.2.2.2.2) H := jv_PL (Y := (w_lo cI cA cL q_out q_va q_aa q_cl q_fu Q x.2.1 x.2.2)) hP
  have hDl : va_D A (w_model cI q_mo q_mlb_ q_mcl_ q_mus_ q_mwr_ q_mdk_ q_mcp_ y1.2.1 M.2.1 y1.2.2.1 M.2.2.2.1 M.2.2.2.2.1 y1.2.2.2.1 y1.2.2.2.2.1 y1.2.2.2.2.2.1 y1.2.2.2.2.2.2) := jv_DL (Y := (w_lo cI cA cL q_out q_va q_aa q_cl q_fu Q x.2.1 x.2.2)) hD
  refine jv_cs (W.runV (As := []) (rest := []) (b := q_mo) ⟨hx, hb, hml, hown, hts⟩ (c_M_thrown l dC dI cI cA cL q_mo q_mlb_ q_mcl_ q_mus_ q_mwr_ q_mdk_ q_mcp_ y1.2.1 M.2.1 y1.2.2.1 M.2.2.2.1 M.2.2.2.2.1 y1.2.2.2.1 y1.2.2.2.2.1 y1.2.2.2.2.2.1 y1.2.2.2.2.2.2 y2 gy2) (jv_cwV hts wa_597 wa_194 wa_598 wa_599 wa_600 rfl rfl yd_M_thrown ⟨Nat.le_of_ble_eq_true rfl, Nat.le_of_ble_eq_true rfl⟩) (jv_preV hK hPl 0 rfl rfl) rfl rfl hl.1 rfl (lv_room (Nat.le_of_ble_eq_true rfl)) d_law_832 ⟨hc, hsl⟩) ?_
  refine lv_iload hx hb d_law_835 (lv_at hl 1 rfl) ?_
  obtain ⟨he, hf⟩ := jv_gd hf
  refine lv_icmp_eq (tgt := 842) hx hb d_law_837 (by decide) (fun _ => ?_) (fun h9 => absurd he h9)
  refine lv_iload hx hb d_law_842 (lv_at hl 1 rfl) ?_
  by_cases hz : x.1 = 0
  · have hf := jv_it hf hz
    refine lv_if_ne (tgt := 859) hx hb d_law_844 (by decide) (fun h9 => absurd hz h9) (fun _ => ?_)
    refine lv_aload_n hx hb d_law_847 rfl (lv_at hl 5 rfl) ?_
    refine lv_iconst (v := (0 : Int32)) hx hb d_law_848 (by decide) ?_
    refine va_lald hx hb hK hP 7 2 rfl rfl (by unfold vp_in; decide) d_law_849 ?_
    refine lv_iload hx hb d_law_850 (lv_at hl 0 rfl) ?_
    obtain ⟨ho, hf⟩ := jv_gd hf
    refine lv_i2l hx hb d_law_852 rfl ?_
    refine jv_lcmp0 hx hb ho d_law_853 ?_
    refine lv_if_eq (tgt := 859) hx hb d_law_854 (by decide) (fun _ => ?_) (fun h9 => absurd rfl h9)
    obtain rfl := Option.some.inj hf
    refine lv_goto (tgt := 1401) hx hb d_law_859 (by decide) ?_
    exact KK Q H locs ls (lv_sub hl [2, 3, 4, 5, 6] rfl) hP hD hS
  · have hf := jv_if hf hz
    refine lv_if_ne (tgt := 859) hx hb d_law_844 (by decide) (fun _ => ?_) (fun h9 => absurd h9 hz)
    obtain rfl := Option.some.inj hf
    refine lv_goto (tgt := 1401) hx hb d_law_859 (by decide) ?_
    exact KK Q H locs ls (lv_sub hl [2, 3, 4, 5, 6] rfl) hP hD hS
theorem d_law_862 : decode cc_law 862 = .ok (.aload_n 1, 1) := by decide +kernel
theorem d_law_863 : decode cc_law 863 = .ok (.aload_n 0, 1) := by decide +kernel
theorem d_law_864 : decode cc_law 864 = .ok (.iload 4, 2) := by decide +kernel
theorem d_law_866 : decode cc_law 866 = .ok (.iconst 1, 1) := by decide +kernel
theorem d_law_867 : decode cc_law 867 = .ok (.iadd, 1) := by decide +kernel
theorem d_law_868 : decode cc_law 868 = .ok (.iaload, 1) := by decide +kernel
theorem d_law_869 : decode cc_law 869 = .ok (.aload_n 0, 1) := by decide +kernel
theorem d_law_870 : decode cc_law 870 = .ok (.iload 4, 2) := by decide +kernel
theorem d_law_872 : decode cc_law 872 = .ok (.iconst 2, 1) := by decide +kernel
theorem d_law_873 : decode cc_law 873 = .ok (.iadd, 1) := by decide +kernel
theorem d_law_874 : decode cc_law 874 = .ok (.iaload, 1) := by decide +kernel
theorem d_law_875 : decode cc_law 875 = .ok (.aload_n 0, 1) := by decide +kernel
theorem d_law_876 : decode cc_law 876 = .ok (.iload 4, 2) := by decide +kernel
theorem d_law_878 : decode cc_law 878 = .ok (.iconst 3, 1) := by decide +kernel
theorem d_law_879 : decode cc_law 879 = .ok (.iadd, 1) := by decide +kernel
theorem d_law_880 : decode cc_law 880 = .ok (.iaload, 1) := by decide +kernel
theorem d_law_881 : decode cc_law 881 = .ok (.aload_n 0, 1) := by decide +kernel
theorem d_law_882 : decode cc_law 882 = .ok (.iload 4, 2) := by decide +kernel
theorem d_law_884 : decode cc_law 884 = .ok (.iconst 4, 1) := by decide +kernel
theorem d_law_885 : decode cc_law 885 = .ok (.iadd, 1) := by decide +kernel
theorem d_law_886 : decode cc_law 886 = .ok (.iaload, 1) := by decide +kernel
theorem d_law_887 : decode cc_law 887 = .ok (.aload_n 3, 1) := by decide +kernel
theorem d_law_888 : decode cc_law 888 = .ok (.invokestatic 117, 3) := by decide +kernel
theorem d_law_891 : decode cc_law 891 = .ok (.istore 5, 2) := by decide +kernel
theorem d_law_893 : decode cc_law 893 = .ok (.aload_n 2, 1) := by decide +kernel
theorem d_law_894 : decode cc_law 894 = .ok (.aload_n 0, 1) := by decide +kernel
theorem d_law_895 : decode cc_law 895 = .ok (.iload 4, 2) := by decide +kernel
theorem d_law_897 : decode cc_law 897 = .ok (.iconst 1, 1) := by decide +kernel
theorem d_law_898 : decode cc_law 898 = .ok (.iadd, 1) := by decide +kernel
theorem d_law_899 : decode cc_law 899 = .ok (.iaload, 1) := by decide +kernel
theorem d_law_900 : decode cc_law 900 = .ok (.aload_n 0, 1) := by decide +kernel
theorem d_law_901 : decode cc_law 901 = .ok (.iload 4, 2) := by decide +kernel
theorem d_law_903 : decode cc_law 903 = .ok (.iconst 2, 1) := by decide +kernel
theorem d_law_904 : decode cc_law 904 = .ok (.iadd, 1) := by decide +kernel
theorem d_law_905 : decode cc_law 905 = .ok (.iaload, 1) := by decide +kernel
theorem d_law_906 : decode cc_law 906 = .ok (.aload_n 0, 1) := by decide +kernel
theorem d_law_907 : decode cc_law 907 = .ok (.iload 4, 2) := by decide +kernel
theorem d_law_909 : decode cc_law 909 = .ok (.iconst 3, 1) := by decide +kernel
theorem d_law_910 : decode cc_law 910 = .ok (.iadd, 1) := by decide +kernel
theorem d_law_911 : decode cc_law 911 = .ok (.iaload, 1) := by decide +kernel
theorem d_law_912 : decode cc_law 912 = .ok (.aload_n 0, 1) := by decide +kernel
theorem d_law_913 : decode cc_law 913 = .ok (.iload 4, 2) := by decide +kernel
theorem d_law_915 : decode cc_law 915 = .ok (.iconst 4, 1) := by decide +kernel
theorem d_law_916 : decode cc_law 916 = .ok (.iadd, 1) := by decide +kernel
theorem d_law_917 : decode cc_law 917 = .ok (.iaload, 1) := by decide +kernel
theorem d_law_918 : decode cc_law 918 = .ok (.invokevirtual 119, 3) := by decide +kernel
theorem d_law_921 : decode cc_law 921 = .ok (.istore 6, 2) := by decide +kernel
theorem d_law_923 : decode cc_law 923 = .ok (.aload_n 2, 1) := by decide +kernel
theorem d_law_924 : decode cc_law 924 = .ok (.invokevirtual 83, 3) := by decide +kernel
theorem d_law_927 : decode cc_law 927 = .ok (.iload 5, 2) := by decide +kernel
theorem d_law_929 : decode cc_law 929 = .ok (.if_icmp .eq 5, 3) := by decide +kernel
theorem d_law_934 : decode cc_law 934 = .ok (.iload 5, 2) := by decide +kernel
theorem d_law_936 : decode cc_law 936 = .ok (.ifCond .ne 15, 3) := by decide +kernel
theorem d_law_939 : decode cc_law 939 = .ok (.aload_n 3, 1) := by decide +kernel
theorem d_law_940 : decode cc_law 940 = .ok (.iconst 0, 1) := by decide +kernel
theorem d_law_941 : decode cc_law 941 = .ok (.laload, 1) := by decide +kernel
theorem d_law_942 : decode cc_law 942 = .ok (.iload 6, 2) := by decide +kernel
theorem d_law_944 : decode cc_law 944 = .ok (.i2l, 1) := by decide +kernel
theorem d_law_945 : decode cc_law 945 = .ok (.lcmp, 1) := by decide +kernel
theorem d_law_946 : decode cc_law 946 = .ok (.ifCond .eq 5, 3) := by decide +kernel
theorem d_law_951 : decode cc_law 951 = .ok (.goto 450, 3) := by decide +kernel
def s_10 (S : jv_vs) (vO : Nat → Int64) (M : jv_ms) (p1 : Int32) (p2 : Int32) (p3 : Int32) (p4 : Int32) : Option jv_st :=
  (l_read S p1 p2 p3 p4 vO).bind fun x => (f_M_read M.2.1 M.2.2.2.1 M.2.2.2.2.2.1 M.2.2.2.2.2.2.2.1 p1 p2 p3 p4 M.1 M.2.2.2.2.2.2.2.2).bind fun y1 => (f_M_thrown y1.2.1).bind fun y2 => if y2 = x.1 then (if x.1 = 0 then (if x.2.2 (0 : Int32).toNatClampNeg = (y1.1).toInt64 then (some (x.2.1, x.2.2, y1.2.1, M.2.1, M.2.2.1, M.2.2.2.1, M.2.2.2.2.1, M.2.2.2.2.2.1, M.2.2.2.2.2.2.1, M.2.2.2.2.2.2.2.1, y1.2.2)) else none) else (some (x.2.1, x.2.2, y1.2.1, M.2.1, M.2.2.1, M.2.2.2.1, M.2.2.2.2.1, M.2.2.2.2.2.1, M.2.2.2.2.2.2.1, M.2.2.2.2.2.2.2.1, y1.2.2))) else none
set_option maxHeartbeats 4000000 in
set_option maxRecDepth 100000 in
theorem b_law_10 {l : Launch} {dC : Nat → ClassId} {dI : Nat → Nat → Nat} {cI cA cL : ClassId} {q_mo q_mlb_ q_mcl_ q_mus_ q_mwr_ q_mdk_ q_mcp_ q_out q_va q_aa q_cl q_fu : Nat} {p : Program} {e : Env} {s : State} {m : MethodId} {below : List Frame} {meth : Method} {c : Code} {b L : Nat} {xs : Nat → Int32} (hl9 : l.stackTraces = false) (hx : p.tables.exec = Jvm.exec) (hb : c.code = code) (hml : c.maxLocals = 7) (hown : s.vm.findClass R_Law = some m.cls) (hts : ∀ w ∈ Cond.tt :: jv_LT, w.before #[Value.ref b] s = true) (hX : va_X b L xs s s.heap) (hbl : b < s.heap.size) (hK : va_K (dC, dI) vwCl (jv_ty cI cA cL) s) (hTc : jv_tc s) {A : Nat → Prop} (hA : ∀ q : Nat, s.heap.size ≤ q → A q) (hAn : ∀ q : Nat, A q → s.heap.size ≤ q) {Z : State → Prop} {Q : Nat → Nat → Nat} {i : Int32} (hi1 : vp_in (i + (1 : Int32)) L) (hi2 : vp_in (i + (2 : Int32)) L) (hi3 : vp_in (i + (3 : Int32)) L) (hi4 : vp_in (i + (4 : Int32)) L) {S : jv_vs} {vO : Nat → Int64} {M : jv_ms} {r : jv_st} {H : Heap} {locs : List Loc} {cells slots : Nat} (hc : cells + 8 ≤ room_1.cells) (hsl : slots + 713 ≤ room_1.slots) {ls : Array Slot} (hl : lv_has ls 7 [(0, .ref b), (1, .ref q_va), (2, .ref q_mo), (3, .ref q_out), (4, .int i)]) (hP : va_P (dC, dI) vwCl ((w_model cI q_mo q_mlb_ q_mcl_ q_mus_ q_mwr_ q_mdk_ q_mcp_ M.1 M.2.1 M.2.2.1 M.2.2.2.1 M.2.2.2.2.1 M.2.2.2.2.2.1 M.2.2.2.2.2.2.1 M.2.2.2.2.2.2.2.1 M.2.2.2.2.2.2.2.2) ++ (w_lo cI cA cL q_out q_va q_aa q_cl q_fu Q S vO)) H) (hD : va_D A ((w_model cI q_mo q_mlb_ q_mcl_ q_mus_ q_mwr_ q_mdk_ q_mcp_ M.1 M.2.1 M.2.2.1 M.2.2.2.1 M.2.2.2.2.1 M.2.2.2.2.2.1 M.2.2.2.2.2.2.1 M.2.2.2.2.2.2.2.1 M.2.2.2.2.2.2.2.2) ++ (w_lo cI cA cL q_out q_va q_aa q_cl q_fu Q S vO))) (hS : va_S A s.heap H locs) (hf : s_10 S vO M (xs (i + (1 : Int32)).toNatClampNeg) (xs (i + (2 : Int32)).toNatClampNeg) (xs (i + (3 : Int32)).toNatClampNeg) (xs (i + (4 : Int32)).toNatClampNeg) = some r) (KK : ∀ (Q : Nat → Nat → Nat) (H : Heap) (locs : List Loc) (ls : Array Slot), lv_has ls 7 [(0, .ref b), (1, .ref q_va), (2, .ref q_mo), (3, .ref q_out), (4, .int i)] → va_P (dC, dI) vwCl ((w_model cI q_mo q_mlb_ q_mcl_ q_mus_ q_mwr_ q_mdk_ q_mcp_ r.2.2.1 r.2.2.2.1 r.2.2.2.2.1 r.2.2.2.2.2.1 r.2.2.2.2.2.2.1 r.2.2.2.2.2.2.2.1 r.2.2.2.2.2.2.2.2.1 r.2.2.2.2.2.2.2.2.2.1 r.2.2.2.2.2.2.2.2.2.2) ++ (w_lo cI cA cL q_out q_va q_aa q_cl q_fu Q r.1 r.2.1)) H → va_D A ((w_model cI q_mo q_mlb_ q_mcl_ q_mus_ q_mwr_ q_mdk_ q_mcp_ r.2.2.1 r.2.2.2.1 r.2.2.2.2.1 r.2.2.2.2.2.1 r.2.2.2.2.2.2.1 r.2.2.2.2.2.2.2.1 r.2.2.2.2.2.2.2.2.1 r.2.2.2.2.2.2.2.2.2.1 r.2.2.2.2.2.2.2.2.2.2) ++ (w_lo cI cA cL q_out q_va q_aa q_cl q_fu Q r.1 r.2.1)) → va_S A s.heap H locs → W p l e room_1 s m #[Value.ref b] below meth c H locs (cells + 8) (slots + 713) Z (F0 m 1401 ls [])) : W p l e room_1 s m #[Value.ref b] below meth c H locs cells slots Z (F0 m 862 ls []) := by
  have hbA : ¬ A b := fun h => absurd (hAn b h) (by omega)
  unfold s_10 at hf
  refine lv_aload_n hx hb d_law_862 rfl (lv_at hl 1 rfl) ?_
  refine lv_aload_n hx hb d_law_863 rfl (lv_at hl 0 rfl) ?_
  refine lv_iload hx hb d_law_864 (lv_at hl 4 rfl) ?_
  refine lv_iconst (v := (1 : Int32)) hx hb d_law_866 (by decide) ?_
  refine lv_iadd hx hb d_law_867 ?_
  refine va_sld hx hb hX hbl hbA hS hi1 d_law_868 ?_
  refine lv_aload_n hx hb d_law_869 rfl (lv_at hl 0 rfl) ?_
  refine lv_iload hx hb d_law_870 (lv_at hl 4 rfl) ?_
  refine lv_iconst (v := (2 : Int32)) hx hb d_law_872 (by decide) ?_
  refine lv_iadd hx hb d_law_873 ?_
  refine va_sld hx hb hX hbl hbA hS hi2 d_law_874 ?_
  refine lv_aload_n hx hb d_law_875 rfl (lv_at hl 0 rfl) ?_
  refine lv_iload hx hb d_law_876 (lv_at hl 4 rfl) ?_
  refine lv_iconst (v := (3 : Int32)) hx hb d_law_878 (by decide) ?_
  refine lv_iadd hx hb d_law_879 ?_
  refine va_sld hx hb hX hbl hbA hS hi3 d_law_880 ?_
  refine lv_aload_n hx hb d_law_881 rfl (lv_at hl 0 rfl) ?_
  refine lv_iload hx hb d_law_882 (lv_at hl 4 rfl) ?_
  refine lv_iconst (v := (4 : Int32)) hx hb d_law_884 (by decide) ?_
  refine lv_iadd hx hb d_law_885 ?_
  refine va_sld hx hb hX hbl hbA hS hi4 d_law_886 ?_
  refine lv_aload_n hx hb d_law_887 rfl (lv_at hl 3 rfl) ?_
  obtain ⟨x, gx, hf⟩ := jv_ob hf
  have hPr : va_P (dC, dI) vwCl (w_lo cI cA cL q_out q_va q_aa q_cl q_fu Q S vO) H := jv_PR (X := (w_model cI q_mo q_mlb_ q_mcl_ q_mus_ q_mwr_ q_mdk_ q_mcp_ M.1 M.2.1 M.2.2.1 M.2.2.2.1 M.2.2.2.2.1 M.2.2.2.2.2.1 M.2.2.2.2.2.2.1 M.2.2.2.2.2.2.2.1 M.2.2.2.2.2.2.2.2)) hP
  have hDr : va_D A (w_lo cI cA cL q_out q_va q_aa q_cl q_fu Q S vO) := jv_DR (X := (w_model cI q_mo q_mlb_ q_mcl_ q_mus_ q_mwr_ q_mdk_ q_mcp_ M.1 M.2.1 M.2.2.1 M.2.2.2.1 M.2.2.2.2.1 M.2.2.2.2.2.1 M.2.2.2.2.2.2.1 M.2.2.2.2.2.2.2.1 M.2.2.2.2.2.2.2.2)) hD
  have hFc := jv_fr hDr hS hA
  refine jv_cwl (vx_runSW (As := [.ref q_va, .int (xs (i + (1 : Int32)).toNatClampNeg), .int (xs (i + (2 : Int32)).toNatClampNeg), .int (xs (i + (3 : Int32)).toNatClampNeg), .int (xs (i + (4 : Int32)).toNatClampNeg), .ref q_out]) (rest := []) ⟨hx, hb, hml, hown, hts⟩ (c_L_read l hl9 dC dI cI cA cL q_out q_va q_aa q_cl q_fu Q S vO (xs (i + (1 : Int32)).toNatClampNeg) (xs (i + (2 : Int32)).toNatClampNeg) (xs (i + (3 : Int32)).toNatClampNeg) (xs (i + (4 : Int32)).toNatClampNeg) H.size x gx) (jv_cwSW hts wa_664 wa_590 wa_665 wa_666 rfl rfl yd_L_read ⟨Nat.le_of_ble_eq_true rfl, Nat.le_of_ble_eq_true rfl⟩) (jv_preSlw hTc hK hPr hDr (fun q hq => hS.2.1 q hq (fun h => absurd (hAn q h) (by omega)))) rfl rfl hl.1 rfl (lv_room (Nat.le_of_ble_eq_true rfl)) d_law_888 ⟨hc, hsl⟩) hS hFc (fun Q H1 locs hP1 hD1 hk1 hS0 => ?_)
  obtain ⟨hP, hD⟩ := jv_joinR (V1 := (w_lo cI cA cL q_out q_va q_aa q_cl q_fu Q x.2.1 x.2.2)) hk1 hP1 hD1 (w_model cI q_mo q_mlb_ q_mcl_ q_mus_ q_mwr_ q_mdk_ q_mcp_ M.1 M.2.1 M.2.2.1 M.2.2.2.1 M.2.2.2.2.1 M.2.2.2.2.2.1 M.2.2.2.2.2.2.1 M.2.2.2.2.2.2.2.1 M.2.2.2.2.2.2.2.2) A (fun q h => hA q (Nat.le_trans hS.1 h)) hP hD
  have hS := hS0
  generalize H1 = H at hP hS ⊢
  have hP : va_P (dC, dI) vwCl ((w_model cI q_mo q_mlb_ q_mcl_ q_mus_ q_mwr_ q_mdk_ q_mcp_ M.1 M.2.1 M.2.2.1 M.2.2.2.1 M.2.2.2.2.1 M.2.2.2.2.2.1 M.2.2.2.2.2.2.1 M.2.2.2.2.2.2.2.1 M.2.2.2.2.2.2.2.2) ++ (w_lo cI cA cL q_out q_va q_aa q_cl q_fu Q x.2.1 x.2.2)) H := hP
  have hD : va_D A ((w_model cI q_mo q_mlb_ q_mcl_ q_mus_ q_mwr_ q_mdk_ q_mcp_ M.1 M.2.1 M.2.2.1 M.2.2.2.1 M.2.2.2.2.1 M.2.2.2.2.2.1 M.2.2.2.2.2.2.1 M.2.2.2.2.2.2.2.1 M.2.2.2.2.2.2.2.2) ++ (w_lo cI cA cL q_out q_va q_aa q_cl q_fu Q x.2.1 x.2.2)) := hD
  refine lv_istore (lv' := [(5, .int x.1), (0, .ref b), (1, .ref q_va), (2, .ref q_mo), (3, .ref q_out), (4, .int i)]) hx hb d_law_891 hl (by decide) rfl (fun ls hl => ?_)
  refine lv_aload_n hx hb d_law_893 rfl (lv_at hl 3 rfl) ?_
  refine lv_aload_n hx hb d_law_894 rfl (lv_at hl 1 rfl) ?_
  refine lv_iload hx hb d_law_895 (lv_at hl 5 rfl) ?_
  refine lv_iconst (v := (1 : Int32)) hx hb d_law_897 (by decide) ?_
  refine lv_iadd hx hb d_law_898 ?_
  refine va_sld hx hb hX hbl hbA hS hi1 d_law_899 ?_
  refine lv_aload_n hx hb d_law_900 rfl (lv_at hl 1 rfl) ?_
  refine lv_iload hx hb d_law_901 (lv_at hl 5 rfl) ?_
  refine lv_iconst (v := (2 : Int32)) hx hb d_law_903 (by decide) ?_
  refine lv_iadd hx hb d_law_904 ?_
  refine va_sld hx hb hX hbl hbA hS hi2 d_law_905 ?_
  refine lv_aload_n hx hb d_law_906 rfl (lv_at hl 1 rfl) ?_
  refine lv_iload hx hb d_law_907 (lv_at hl 5 rfl) ?_
  refine lv_iconst (v := (3 : Int32)) hx hb d_law_909 (by decide) ?_
  refine lv_iadd hx hb d_law_910 ?_
  refine va_sld hx hb hX hbl hbA hS hi3 d_law_911 ?_
  refine lv_aload_n hx hb d_law_912 rfl (lv_at hl 1 rfl) ?_
  refine lv_iload hx hb d_law_913 (lv_at hl 5 rfl) ?_
  refine lv_iconst (v := (4 : Int32)) hx hb d_law_915 (by decide) ?_
  refine lv_iadd hx hb d_law_916 ?_
  refine va_sld hx hb hX hbl hbA hS hi4 d_law_917 ?_
  obtain ⟨y1, gy1, hf⟩ := jv_ob hf
  have hPl : va_P (dC, dI) vwCl (w_model cI q_mo q_mlb_ q_mcl_ q_mus_ q_mwr_ q_mdk_ q_mcp_ M.1 M.2.1 M.2.2.1 M.2.2.2.1 M.2.2.2.2.1 M.2.2.2.2.2.1 M.2.2.2.2.2.2.1 M.2.2.2.2.2.2.2.1 M.2.2.2.2.2.2.2.2) H := jv_PL (Y := (w_lo cI cA cL q_out q_va q_aa q_cl q_fu Q x.2.1 x.2.2)) hP
  have hDl : va_D A (w_model cI q_mo q_mlb_ q_mcl_ q_mus_ q_mwr_ q_mdk_ q_mcp_ M.1 M.2.1 M.2.2.1 M.2.2.2.1 M.2.2.2.2.1 M.2.2.2.2.2.1 M.2.2.2.2.2.2.1 M.2.2.2.2.2.2.2.1 M.2.2.2.2.2.2.2.2) := jv_DL (Y := (w_lo cI cA cL q_out q_va q_aa q_cl q_fu Q x.2.1 x.2.2)) hD
  have hFc := jv_fr hDl hS hA
  refine jv_cwi (va_runV (As := [.int (xs (i + (1 : Int32)).toNatClampNeg), .int (xs (i + (2 : Int32)).toNatClampNeg), .int (xs (i + (3 : Int32)).toNatClampNeg), .int (xs (i + (4 : Int32)).toNatClampNeg)]) (rest := []) (b := q_mo) ⟨hx, hb, hml, hown, hts⟩ (c_M_read l dC dI cI cA cL q_mo q_mlb_ q_mcl_ q_mus_ q_mwr_ q_mdk_ q_mcp_ M.1 M.2.1 M.2.2.1 M.2.2.2.1 M.2.2.2.2.1 M.2.2.2.2.2.1 M.2.2.2.2.2.2.1 M.2.2.2.2.2.2.2.1 M.2.2.2.2.2.2.2.2 (xs (i + (1 : Int32)).toNatClampNeg) (xs (i + (2 : Int32)).toNatClampNeg) (xs (i + (3 : Int32)).toNatClampNeg) (xs (i + (4 : Int32)).toNatClampNeg) H.size y1 gy1) (jv_cwV hts wa_667 wa_194 wa_668 wa_669 wa_670 rfl rfl yd_M_read ⟨Nat.le_of_ble_eq_true rfl, Nat.le_of_ble_eq_true rfl⟩) (jv_preVW hK hPl hDl 0 rfl rfl) rfl rfl hl.1 rfl (lv_room (Nat.le_of_ble_eq_true rfl)) d_law_918 ⟨hc, hsl⟩) hS hFc (fun H1 locs hP1 hD1 hk1 hS0 => ?_)
  obtain ⟨hP, hD⟩ := jv_joinL (X := (w_model cI q_mo q_mlb_ q_mcl_ q_mus_ q_mwr_ q_mdk_ q_mcp_ M.1 M.2.1 M.2.2.1 M.2.2.2.1 M.2.2.2.2.1 M.2.2.2.2.2.1 M.2.2.2.2.2.2.1 M.2.2.2.2.2.2.2.1 M.2.2.2.2.2.2.2.2)) (X1 := (w_model cI q_mo q_mlb_ q_mcl_ q_mus_ q_mwr_ q_mdk_ q_mcp_ y1.2.1 M.2.1 M.2.2.1 M.2.2.2.1 M.2.2.2.2.1 M.2.2.2.2.2.1 M.2.2.2.2.2.2.1 M.2.2.2.2.2.2.2.1 y1.2.2)) (V := (w_lo cI cA cL q_out q_va q_aa q_cl q_fu Q x.2.1 x.2.2)) hP hD (fun q h => hA q (Nat.le_trans hS.1 h)) hk1 hP1 hD1
  have hS := hS0
  generalize H1 = H at hP hS ⊢
  have hP : va_P (dC, dI) vwCl ((w_model cI q_mo q_mlb_ q_mcl_ q_mus_ q_mwr_ q_mdk_ q_mcp_ y1.2.1 M.2.1 M.2.2.1 M.2.2.2.1 M.2.2.2.2.1 M.2.2.2.2.2.1 M.2.2.2.2.2.2.1 M.2.2.2.2.2.2.2.1 y1.2.2) ++ (w_lo cI cA cL q_out q_va q_aa q_cl q_fu Q x.2.1 x.2.2)) H := hP
  have hD : va_D A ((w_model cI q_mo q_mlb_ q_mcl_ q_mus_ q_mwr_ q_mdk_ q_mcp_ y1.2.1 M.2.1 M.2.2.1 M.2.2.2.1 M.2.2.2.2.1 M.2.2.2.2.2.1 M.2.2.2.2.2.2.1 M.2.2.2.2.2.2.2.1 y1.2.2) ++ (w_lo cI cA cL q_out q_va q_aa q_cl q_fu Q x.2.1 x.2.2)) := hD
  refine lv_istore (lv' := [(6, .int y1.1), (5, .int x.1), (0, .ref b), (1, .ref q_va), (2, .ref q_mo), (3, .ref q_out), (4, .int i)]) hx hb d_law_921 hl (by decide) rfl (fun ls hl => ?_)
  refine lv_aload_n hx hb d_law_923 rfl (lv_at hl 4 rfl) ?_
  obtain ⟨y2, gy2, hf⟩ := jv_ob hf
  have hPl : va_P (dC, dI) vwCl (w_model cI q_mo q_mlb_ q_mcl_ q_mus_ q_mwr_ q_mdk_ q_mcp_ y1.2.1 M.2.1 M.2.2.1 M.2.2.2.1 M.2.2.2.2.1 M.2.2.2.2.2.1 M.2.2.2.2.2.2.1 M.2.2.2.2.2.2.2.1 y1.2.2) H := jv_PL (Y := (w_lo cI cA cL q_out q_va q_aa q_cl q_fu Q x.2.1 x.2.2)) hP
  have hDl : va_D A (w_model cI q_mo q_mlb_ q_mcl_ q_mus_ q_mwr_ q_mdk_ q_mcp_ y1.2.1 M.2.1 M.2.2.1 M.2.2.2.1 M.2.2.2.2.1 M.2.2.2.2.2.1 M.2.2.2.2.2.2.1 M.2.2.2.2.2.2.2.1 y1.2.2) := jv_DL (Y := (w_lo cI cA cL q_out q_va q_aa q_cl q_fu Q x.2.1 x.2.2)) hD
  refine jv_cs (W.runV (As := []) (rest := []) (b := q_mo) ⟨hx, hb, hml, hown, hts⟩ (c_M_thrown l dC dI cI cA cL q_mo q_mlb_ q_mcl_ q_mus_ q_mwr_ q_mdk_ q_mcp_ y1.2.1 M.2.1 M.2.2.1 M.2.2.2.1 M.2.2.2.2.1 M.2.2.2.2.2.1 M.2.2.2.2.2.2.1 M.2.2.2.2.2.2.2.1 y1.2.2 y2 gy2) (jv_cwV hts wa_597 wa_194 wa_598 wa_599 wa_600 rfl rfl yd_M_thrown ⟨Nat.le_of_ble_eq_true rfl, Nat.le_of_ble_eq_true rfl⟩) (jv_preV hK hPl 0 rfl rfl) rfl rfl hl.1 rfl (lv_room (Nat.le_of_ble_eq_true rfl)) d_law_924 ⟨hc, hsl⟩) ?_
  refine lv_iload hx hb d_law_927 (lv_at hl 1 rfl) ?_
  obtain ⟨he, hf⟩ := jv_gd hf
  refine lv_icmp_eq (tgt := 934) hx hb d_law_929 (by decide) (fun _ => ?_) (fun h9 => absurd he h9)
  refine lv_iload hx hb d_law_934 (lv_at hl 1 rfl) ?_
  by_cases hz : x.1 = 0
  · have hf := jv_it hf hz
    refine lv_if_ne (tgt := 951) hx hb d_law_936 (by decide) (fun h9 => absurd hz h9) (fun _ => ?_)
    refine lv_aload_n hx hb d_law_939 rfl (lv_at hl 5 rfl) ?_
    refine lv_iconst (v := (0 : Int32)) hx hb d_law_940 (by decide) ?_
    refine va_lald hx hb hK hP 7 2 rfl rfl (by unfold vp_in; decide) d_law_941 ?_
    refine lv_iload hx hb d_law_942 (lv_at hl 0 rfl) ?_
    obtain ⟨ho, hf⟩ := jv_gd hf
    refine lv_i2l hx hb d_law_944 rfl ?_
    refine jv_lcmp0 hx hb ho d_law_945 ?_
    refine lv_if_eq (tgt := 951) hx hb d_law_946 (by decide) (fun _ => ?_) (fun h9 => absurd rfl h9)
    obtain rfl := Option.some.inj hf
    refine lv_goto (tgt := 1401) hx hb d_law_951 (by decide) ?_
    exact KK Q H locs ls (lv_sub hl [2, 3, 4, 5, 6] rfl) hP hD hS
  · have hf := jv_if hf hz
    refine lv_if_ne (tgt := 951) hx hb d_law_936 (by decide) (fun _ => ?_) (fun h9 => absurd h9 hz)
    obtain rfl := Option.some.inj hf
    refine lv_goto (tgt := 1401) hx hb d_law_951 (by decide) ?_
    exact KK Q H locs ls (lv_sub hl [2, 3, 4, 5, 6] rfl) hP hD hS
theorem d_law_954 : decode cc_law 954 = .ok (.aload_n 1, 1) := by decide +kernel
theorem d_law_955 : decode cc_law 955 = .ok (.aload_n 0, 1) := by decide +kernel
theorem d_law_956 : decode cc_law 956 = .ok (.iload 4, 2) := by decide +kernel
theorem d_law_958 : decode cc_law 958 = .ok (.iconst 1, 1) := by decide +kernel
theorem d_law_959 : decode cc_law 959 = .ok (.iadd, 1) := by decide +kernel
theorem d_law_960 : decode cc_law 960 = .ok (.iaload, 1) := by decide +kernel
theorem d_law_961 : decode cc_law 961 = .ok (.aload_n 0, 1) := by decide +kernel
theorem d_law_962 : decode cc_law 962 = .ok (.iload 4, 2) := by decide +kernel
theorem d_law_964 : decode cc_law 964 = .ok (.iconst 2, 1) := by decide +kernel
theorem d_law_965 : decode cc_law 965 = .ok (.iadd, 1) := by decide +kernel
theorem d_law_966 : decode cc_law 966 = .ok (.iaload, 1) := by decide +kernel
theorem d_law_967 : decode cc_law 967 = .ok (.aload_n 3, 1) := by decide +kernel
theorem d_law_968 : decode cc_law 968 = .ok (.invokestatic 120, 3) := by decide +kernel
theorem d_law_971 : decode cc_law 971 = .ok (.istore 5, 2) := by decide +kernel
theorem d_law_973 : decode cc_law 973 = .ok (.aload_n 2, 1) := by decide +kernel
theorem d_law_974 : decode cc_law 974 = .ok (.aload_n 0, 1) := by decide +kernel
theorem d_law_975 : decode cc_law 975 = .ok (.iload 4, 2) := by decide +kernel
theorem d_law_977 : decode cc_law 977 = .ok (.iconst 1, 1) := by decide +kernel
theorem d_law_978 : decode cc_law 978 = .ok (.iadd, 1) := by decide +kernel
theorem d_law_979 : decode cc_law 979 = .ok (.iaload, 1) := by decide +kernel
theorem d_law_980 : decode cc_law 980 = .ok (.aload_n 0, 1) := by decide +kernel
theorem d_law_981 : decode cc_law 981 = .ok (.iload 4, 2) := by decide +kernel
theorem d_law_983 : decode cc_law 983 = .ok (.iconst 2, 1) := by decide +kernel
theorem d_law_984 : decode cc_law 984 = .ok (.iadd, 1) := by decide +kernel
theorem d_law_985 : decode cc_law 985 = .ok (.iaload, 1) := by decide +kernel
theorem d_law_986 : decode cc_law 986 = .ok (.invokevirtual 122, 3) := by decide +kernel
theorem d_law_989 : decode cc_law 989 = .ok (.istore 6, 2) := by decide +kernel
theorem d_law_991 : decode cc_law 991 = .ok (.aload_n 2, 1) := by decide +kernel
theorem d_law_992 : decode cc_law 992 = .ok (.invokevirtual 83, 3) := by decide +kernel
theorem d_law_995 : decode cc_law 995 = .ok (.iload 5, 2) := by decide +kernel
theorem d_law_997 : decode cc_law 997 = .ok (.if_icmp .eq 5, 3) := by decide +kernel
theorem d_law_1002 : decode cc_law 1002 = .ok (.iload 5, 2) := by decide +kernel
theorem d_law_1004 : decode cc_law 1004 = .ok (.ifCond .ne 15, 3) := by decide +kernel
theorem d_law_1007 : decode cc_law 1007 = .ok (.aload_n 3, 1) := by decide +kernel
theorem d_law_1008 : decode cc_law 1008 = .ok (.iconst 0, 1) := by decide +kernel
theorem d_law_1009 : decode cc_law 1009 = .ok (.laload, 1) := by decide +kernel
theorem d_law_1010 : decode cc_law 1010 = .ok (.iload 6, 2) := by decide +kernel
theorem d_law_1012 : decode cc_law 1012 = .ok (.i2l, 1) := by decide +kernel
theorem d_law_1013 : decode cc_law 1013 = .ok (.lcmp, 1) := by decide +kernel
theorem d_law_1014 : decode cc_law 1014 = .ok (.ifCond .eq 5, 3) := by decide +kernel
theorem d_law_1019 : decode cc_law 1019 = .ok (.goto 382, 3) := by decide +kernel
def s_11 (S : jv_vs) (vO : Nat → Int64) (M : jv_ms) (p1 : Int32) (p2 : Int32) : Option jv_st :=
  (l_list S p1 p2 vO).bind fun x => (f_M_list M.2.1 M.2.2.2.1 M.2.2.2.2.2.1 M.2.2.2.2.2.2.2.1 p1 p2 M.1).bind fun y1 => (f_M_thrown y1.2).bind fun y2 => if y2 = x.1 then (if x.1 = 0 then (if x.2.2 (0 : Int32).toNatClampNeg = (y1.1).toInt64 then (some (x.2.1, x.2.2, y1.2, M.2.1, M.2.2.1, M.2.2.2.1, M.2.2.2.2.1, M.2.2.2.2.2.1, M.2.2.2.2.2.2.1, M.2.2.2.2.2.2.2.1, M.2.2.2.2.2.2.2.2)) else none) else (some (x.2.1, x.2.2, y1.2, M.2.1, M.2.2.1, M.2.2.2.1, M.2.2.2.2.1, M.2.2.2.2.2.1, M.2.2.2.2.2.2.1, M.2.2.2.2.2.2.2.1, M.2.2.2.2.2.2.2.2))) else none
set_option maxHeartbeats 4000000 in
set_option maxRecDepth 100000 in
theorem b_law_11 {l : Launch} {dC : Nat → ClassId} {dI : Nat → Nat → Nat} {cI cA cL : ClassId} {q_mo q_mlb_ q_mcl_ q_mus_ q_mwr_ q_mdk_ q_mcp_ q_out q_va q_aa q_cl q_fu : Nat} {p : Program} {e : Env} {s : State} {m : MethodId} {below : List Frame} {meth : Method} {c : Code} {b L : Nat} {xs : Nat → Int32} (hl9 : l.stackTraces = false) (hx : p.tables.exec = Jvm.exec) (hb : c.code = code) (hml : c.maxLocals = 7) (hown : s.vm.findClass R_Law = some m.cls) (hts : ∀ w ∈ Cond.tt :: jv_LT, w.before #[Value.ref b] s = true) (hX : va_X b L xs s s.heap) (hbl : b < s.heap.size) (hK : va_K (dC, dI) vwCl (jv_ty cI cA cL) s) (hTc : jv_tc s) {A : Nat → Prop} (hA : ∀ q : Nat, s.heap.size ≤ q → A q) (hAn : ∀ q : Nat, A q → s.heap.size ≤ q) {Z : State → Prop} {Q : Nat → Nat → Nat} {i : Int32} (hi1 : vp_in (i + (1 : Int32)) L) (hi2 : vp_in (i + (2 : Int32)) L) {S : jv_vs} {vO : Nat → Int64} {M : jv_ms} {r : jv_st} {H : Heap} {locs : List Loc} {cells slots : Nat} (hc : cells + 8 ≤ room_1.cells) (hsl : slots + 713 ≤ room_1.slots) {ls : Array Slot} (hl : lv_has ls 7 [(0, .ref b), (1, .ref q_va), (2, .ref q_mo), (3, .ref q_out), (4, .int i)]) (hP : va_P (dC, dI) vwCl ((w_model cI q_mo q_mlb_ q_mcl_ q_mus_ q_mwr_ q_mdk_ q_mcp_ M.1 M.2.1 M.2.2.1 M.2.2.2.1 M.2.2.2.2.1 M.2.2.2.2.2.1 M.2.2.2.2.2.2.1 M.2.2.2.2.2.2.2.1 M.2.2.2.2.2.2.2.2) ++ (w_lo cI cA cL q_out q_va q_aa q_cl q_fu Q S vO)) H) (hD : va_D A ((w_model cI q_mo q_mlb_ q_mcl_ q_mus_ q_mwr_ q_mdk_ q_mcp_ M.1 M.2.1 M.2.2.1 M.2.2.2.1 M.2.2.2.2.1 M.2.2.2.2.2.1 M.2.2.2.2.2.2.1 M.2.2.2.2.2.2.2.1 M.2.2.2.2.2.2.2.2) ++ (w_lo cI cA cL q_out q_va q_aa q_cl q_fu Q S vO))) (hS : va_S A s.heap H locs) (hf : s_11 S vO M (xs (i + (1 : Int32)).toNatClampNeg) (xs (i + (2 : Int32)).toNatClampNeg) = some r) (KK : ∀ (Q : Nat → Nat → Nat) (H : Heap) (locs : List Loc) (ls : Array Slot), lv_has ls 7 [(0, .ref b), (1, .ref q_va), (2, .ref q_mo), (3, .ref q_out), (4, .int i)] → va_P (dC, dI) vwCl ((w_model cI q_mo q_mlb_ q_mcl_ q_mus_ q_mwr_ q_mdk_ q_mcp_ r.2.2.1 r.2.2.2.1 r.2.2.2.2.1 r.2.2.2.2.2.1 r.2.2.2.2.2.2.1 r.2.2.2.2.2.2.2.1 r.2.2.2.2.2.2.2.2.1 r.2.2.2.2.2.2.2.2.2.1 r.2.2.2.2.2.2.2.2.2.2) ++ (w_lo cI cA cL q_out q_va q_aa q_cl q_fu Q r.1 r.2.1)) H → va_D A ((w_model cI q_mo q_mlb_ q_mcl_ q_mus_ q_mwr_ q_mdk_ q_mcp_ r.2.2.1 r.2.2.2.1 r.2.2.2.2.1 r.2.2.2.2.2.1 r.2.2.2.2.2.2.1 r.2.2.2.2.2.2.2.1 r.2.2.2.2.2.2.2.2.1 r.2.2.2.2.2.2.2.2.2.1 r.2.2.2.2.2.2.2.2.2.2) ++ (w_lo cI cA cL q_out q_va q_aa q_cl q_fu Q r.1 r.2.1)) → va_S A s.heap H locs → W p l e room_1 s m #[Value.ref b] below meth c H locs (cells + 8) (slots + 713) Z (F0 m 1401 ls [])) : W p l e room_1 s m #[Value.ref b] below meth c H locs cells slots Z (F0 m 954 ls []) := by
  have hbA : ¬ A b := fun h => absurd (hAn b h) (by omega)
  unfold s_11 at hf
  refine lv_aload_n hx hb d_law_954 rfl (lv_at hl 1 rfl) ?_
  refine lv_aload_n hx hb d_law_955 rfl (lv_at hl 0 rfl) ?_
  refine lv_iload hx hb d_law_956 (lv_at hl 4 rfl) ?_
  refine lv_iconst (v := (1 : Int32)) hx hb d_law_958 (by decide) ?_
  refine lv_iadd hx hb d_law_959 ?_
  refine va_sld hx hb hX hbl hbA hS hi1 d_law_960 ?_
  refine lv_aload_n hx hb d_law_961 rfl (lv_at hl 0 rfl) ?_
  refine lv_iload hx hb d_law_962 (lv_at hl 4 rfl) ?_
  refine lv_iconst (v := (2 : Int32)) hx hb d_law_964 (by decide) ?_
  refine lv_iadd hx hb d_law_965 ?_
  refine va_sld hx hb hX hbl hbA hS hi2 d_law_966 ?_
  refine lv_aload_n hx hb d_law_967 rfl (lv_at hl 3 rfl) ?_
  obtain ⟨x, gx, hf⟩ := jv_ob hf
  have hPr : va_P (dC, dI) vwCl (w_lo cI cA cL q_out q_va q_aa q_cl q_fu Q S vO) H := jv_PR (X := (w_model cI q_mo q_mlb_ q_mcl_ q_mus_ q_mwr_ q_mdk_ q_mcp_ M.1 M.2.1 M.2.2.1 M.2.2.2.1 M.2.2.2.2.1 M.2.2.2.2.2.1 M.2.2.2.2.2.2.1 M.2.2.2.2.2.2.2.1 M.2.2.2.2.2.2.2.2)) hP
  have hDr : va_D A (w_lo cI cA cL q_out q_va q_aa q_cl q_fu Q S vO) := jv_DR (X := (w_model cI q_mo q_mlb_ q_mcl_ q_mus_ q_mwr_ q_mdk_ q_mcp_ M.1 M.2.1 M.2.2.1 M.2.2.2.1 M.2.2.2.2.1 M.2.2.2.2.2.1 M.2.2.2.2.2.2.1 M.2.2.2.2.2.2.2.1 M.2.2.2.2.2.2.2.2)) hD
  have hFc := jv_fr hDr hS hA
  refine jv_cwl (vx_runSW (As := [.ref q_va, .int (xs (i + (1 : Int32)).toNatClampNeg), .int (xs (i + (2 : Int32)).toNatClampNeg), .ref q_out]) (rest := []) ⟨hx, hb, hml, hown, hts⟩ (c_L_list l hl9 dC dI cI cA cL q_out q_va q_aa q_cl q_fu Q S vO (xs (i + (1 : Int32)).toNatClampNeg) (xs (i + (2 : Int32)).toNatClampNeg) H.size x gx) (jv_cwSW hts wa_671 wa_590 wa_672 wa_673 rfl rfl yd_L_list ⟨Nat.le_of_ble_eq_true rfl, Nat.le_of_ble_eq_true rfl⟩) (jv_preSlw hTc hK hPr hDr (fun q hq => hS.2.1 q hq (fun h => absurd (hAn q h) (by omega)))) rfl rfl hl.1 rfl (lv_room (Nat.le_of_ble_eq_true rfl)) d_law_968 ⟨hc, hsl⟩) hS hFc (fun Q H1 locs hP1 hD1 hk1 hS0 => ?_)
  obtain ⟨hP, hD⟩ := jv_joinR (V1 := (w_lo cI cA cL q_out q_va q_aa q_cl q_fu Q x.2.1 x.2.2)) hk1 hP1 hD1 (w_model cI q_mo q_mlb_ q_mcl_ q_mus_ q_mwr_ q_mdk_ q_mcp_ M.1 M.2.1 M.2.2.1 M.2.2.2.1 M.2.2.2.2.1 M.2.2.2.2.2.1 M.2.2.2.2.2.2.1 M.2.2.2.2.2.2.2.1 M.2.2.2.2.2.2.2.2) A (fun q h => hA q (Nat.le_trans hS.1 h)) hP hD
  have hS := hS0
  generalize H1 = H at hP hS ⊢
  have hP : va_P (dC, dI) vwCl ((w_model cI q_mo q_mlb_ q_mcl_ q_mus_ q_mwr_ q_mdk_ q_mcp_ M.1 M.2.1 M.2.2.1 M.2.2.2.1 M.2.2.2.2.1 M.2.2.2.2.2.1 M.2.2.2.2.2.2.1 M.2.2.2.2.2.2.2.1 M.2.2.2.2.2.2.2.2) ++ (w_lo cI cA cL q_out q_va q_aa q_cl q_fu Q x.2.1 x.2.2)) H := hP
  have hD : va_D A ((w_model cI q_mo q_mlb_ q_mcl_ q_mus_ q_mwr_ q_mdk_ q_mcp_ M.1 M.2.1 M.2.2.1 M.2.2.2.1 M.2.2.2.2.1 M.2.2.2.2.2.1 M.2.2.2.2.2.2.1 M.2.2.2.2.2.2.2.1 M.2.2.2.2.2.2.2.2) ++ (w_lo cI cA cL q_out q_va q_aa q_cl q_fu Q x.2.1 x.2.2)) := hD
  refine lv_istore (lv' := [(5, .int x.1), (0, .ref b), (1, .ref q_va), (2, .ref q_mo), (3, .ref q_out), (4, .int i)]) hx hb d_law_971 hl (by decide) rfl (fun ls hl => ?_)
  refine lv_aload_n hx hb d_law_973 rfl (lv_at hl 3 rfl) ?_
  refine lv_aload_n hx hb d_law_974 rfl (lv_at hl 1 rfl) ?_
  refine lv_iload hx hb d_law_975 (lv_at hl 5 rfl) ?_
  refine lv_iconst (v := (1 : Int32)) hx hb d_law_977 (by decide) ?_
  refine lv_iadd hx hb d_law_978 ?_
  refine va_sld hx hb hX hbl hbA hS hi1 d_law_979 ?_
  refine lv_aload_n hx hb d_law_980 rfl (lv_at hl 1 rfl) ?_
  refine lv_iload hx hb d_law_981 (lv_at hl 5 rfl) ?_
  refine lv_iconst (v := (2 : Int32)) hx hb d_law_983 (by decide) ?_
  refine lv_iadd hx hb d_law_984 ?_
  refine va_sld hx hb hX hbl hbA hS hi2 d_law_985 ?_
  obtain ⟨y1, gy1, hf⟩ := jv_ob hf
  have hPl : va_P (dC, dI) vwCl (w_model cI q_mo q_mlb_ q_mcl_ q_mus_ q_mwr_ q_mdk_ q_mcp_ M.1 M.2.1 M.2.2.1 M.2.2.2.1 M.2.2.2.2.1 M.2.2.2.2.2.1 M.2.2.2.2.2.2.1 M.2.2.2.2.2.2.2.1 M.2.2.2.2.2.2.2.2) H := jv_PL (Y := (w_lo cI cA cL q_out q_va q_aa q_cl q_fu Q x.2.1 x.2.2)) hP
  have hDl : va_D A (w_model cI q_mo q_mlb_ q_mcl_ q_mus_ q_mwr_ q_mdk_ q_mcp_ M.1 M.2.1 M.2.2.1 M.2.2.2.1 M.2.2.2.2.1 M.2.2.2.2.2.1 M.2.2.2.2.2.2.1 M.2.2.2.2.2.2.2.1 M.2.2.2.2.2.2.2.2) := jv_DL (Y := (w_lo cI cA cL q_out q_va q_aa q_cl q_fu Q x.2.1 x.2.2)) hD
  have hFc := jv_fr hDl hS hA
  refine jv_cwi (va_runV (As := [.int (xs (i + (1 : Int32)).toNatClampNeg), .int (xs (i + (2 : Int32)).toNatClampNeg)]) (rest := []) (b := q_mo) ⟨hx, hb, hml, hown, hts⟩ (c_M_list l dC dI cI cA cL q_mo q_mlb_ q_mcl_ q_mus_ q_mwr_ q_mdk_ q_mcp_ M.1 M.2.1 M.2.2.1 M.2.2.2.1 M.2.2.2.2.1 M.2.2.2.2.2.1 M.2.2.2.2.2.2.1 M.2.2.2.2.2.2.2.1 M.2.2.2.2.2.2.2.2 (xs (i + (1 : Int32)).toNatClampNeg) (xs (i + (2 : Int32)).toNatClampNeg) H.size y1 gy1) (jv_cwV hts wa_674 wa_194 wa_675 wa_676 wa_677 rfl rfl yd_M_list ⟨Nat.le_of_ble_eq_true rfl, Nat.le_of_ble_eq_true rfl⟩) (jv_preVW hK hPl hDl 0 rfl rfl) rfl rfl hl.1 rfl (lv_room (Nat.le_of_ble_eq_true rfl)) d_law_986 ⟨hc, hsl⟩) hS hFc (fun H1 locs hP1 hD1 hk1 hS0 => ?_)
  obtain ⟨hP, hD⟩ := jv_joinL (X := (w_model cI q_mo q_mlb_ q_mcl_ q_mus_ q_mwr_ q_mdk_ q_mcp_ M.1 M.2.1 M.2.2.1 M.2.2.2.1 M.2.2.2.2.1 M.2.2.2.2.2.1 M.2.2.2.2.2.2.1 M.2.2.2.2.2.2.2.1 M.2.2.2.2.2.2.2.2)) (X1 := (w_model cI q_mo q_mlb_ q_mcl_ q_mus_ q_mwr_ q_mdk_ q_mcp_ y1.2 M.2.1 M.2.2.1 M.2.2.2.1 M.2.2.2.2.1 M.2.2.2.2.2.1 M.2.2.2.2.2.2.1 M.2.2.2.2.2.2.2.1 M.2.2.2.2.2.2.2.2)) (V := (w_lo cI cA cL q_out q_va q_aa q_cl q_fu Q x.2.1 x.2.2)) hP hD (fun q h => hA q (Nat.le_trans hS.1 h)) hk1 hP1 hD1
  have hS := hS0
  generalize H1 = H at hP hS ⊢
  have hP : va_P (dC, dI) vwCl ((w_model cI q_mo q_mlb_ q_mcl_ q_mus_ q_mwr_ q_mdk_ q_mcp_ y1.2 M.2.1 M.2.2.1 M.2.2.2.1 M.2.2.2.2.1 M.2.2.2.2.2.1 M.2.2.2.2.2.2.1 M.2.2.2.2.2.2.2.1 M.2.2.2.2.2.2.2.2) ++ (w_lo cI cA cL q_out q_va q_aa q_cl q_fu Q x.2.1 x.2.2)) H := hP
  have hD : va_D A ((w_model cI q_mo q_mlb_ q_mcl_ q_mus_ q_mwr_ q_mdk_ q_mcp_ y1.2 M.2.1 M.2.2.1 M.2.2.2.1 M.2.2.2.2.1 M.2.2.2.2.2.1 M.2.2.2.2.2.2.1 M.2.2.2.2.2.2.2.1 M.2.2.2.2.2.2.2.2) ++ (w_lo cI cA cL q_out q_va q_aa q_cl q_fu Q x.2.1 x.2.2)) := hD
  refine lv_istore (lv' := [(6, .int y1.1), (5, .int x.1), (0, .ref b), (1, .ref q_va), (2, .ref q_mo), (3, .ref q_out), (4, .int i)]) hx hb d_law_989 hl (by decide) rfl (fun ls hl => ?_)
  refine lv_aload_n hx hb d_law_991 rfl (lv_at hl 4 rfl) ?_
  obtain ⟨y2, gy2, hf⟩ := jv_ob hf
  have hPl : va_P (dC, dI) vwCl (w_model cI q_mo q_mlb_ q_mcl_ q_mus_ q_mwr_ q_mdk_ q_mcp_ y1.2 M.2.1 M.2.2.1 M.2.2.2.1 M.2.2.2.2.1 M.2.2.2.2.2.1 M.2.2.2.2.2.2.1 M.2.2.2.2.2.2.2.1 M.2.2.2.2.2.2.2.2) H := jv_PL (Y := (w_lo cI cA cL q_out q_va q_aa q_cl q_fu Q x.2.1 x.2.2)) hP
  have hDl : va_D A (w_model cI q_mo q_mlb_ q_mcl_ q_mus_ q_mwr_ q_mdk_ q_mcp_ y1.2 M.2.1 M.2.2.1 M.2.2.2.1 M.2.2.2.2.1 M.2.2.2.2.2.1 M.2.2.2.2.2.2.1 M.2.2.2.2.2.2.2.1 M.2.2.2.2.2.2.2.2) := jv_DL (Y := (w_lo cI cA cL q_out q_va q_aa q_cl q_fu Q x.2.1 x.2.2)) hD
  refine jv_cs (W.runV (As := []) (rest := []) (b := q_mo) ⟨hx, hb, hml, hown, hts⟩ (c_M_thrown l dC dI cI cA cL q_mo q_mlb_ q_mcl_ q_mus_ q_mwr_ q_mdk_ q_mcp_ y1.2 M.2.1 M.2.2.1 M.2.2.2.1 M.2.2.2.2.1 M.2.2.2.2.2.1 M.2.2.2.2.2.2.1 M.2.2.2.2.2.2.2.1 M.2.2.2.2.2.2.2.2 y2 gy2) (jv_cwV hts wa_597 wa_194 wa_598 wa_599 wa_600 rfl rfl yd_M_thrown ⟨Nat.le_of_ble_eq_true rfl, Nat.le_of_ble_eq_true rfl⟩) (jv_preV hK hPl 0 rfl rfl) rfl rfl hl.1 rfl (lv_room (Nat.le_of_ble_eq_true rfl)) d_law_992 ⟨hc, hsl⟩) ?_
  refine lv_iload hx hb d_law_995 (lv_at hl 1 rfl) ?_
  obtain ⟨he, hf⟩ := jv_gd hf
  refine lv_icmp_eq (tgt := 1002) hx hb d_law_997 (by decide) (fun _ => ?_) (fun h9 => absurd he h9)
  refine lv_iload hx hb d_law_1002 (lv_at hl 1 rfl) ?_
  by_cases hz : x.1 = 0
  · have hf := jv_it hf hz
    refine lv_if_ne (tgt := 1019) hx hb d_law_1004 (by decide) (fun h9 => absurd hz h9) (fun _ => ?_)
    refine lv_aload_n hx hb d_law_1007 rfl (lv_at hl 5 rfl) ?_
    refine lv_iconst (v := (0 : Int32)) hx hb d_law_1008 (by decide) ?_
    refine va_lald hx hb hK hP 7 2 rfl rfl (by unfold vp_in; decide) d_law_1009 ?_
    refine lv_iload hx hb d_law_1010 (lv_at hl 0 rfl) ?_
    obtain ⟨ho, hf⟩ := jv_gd hf
    refine lv_i2l hx hb d_law_1012 rfl ?_
    refine jv_lcmp0 hx hb ho d_law_1013 ?_
    refine lv_if_eq (tgt := 1019) hx hb d_law_1014 (by decide) (fun _ => ?_) (fun h9 => absurd rfl h9)
    obtain rfl := Option.some.inj hf
    refine lv_goto (tgt := 1401) hx hb d_law_1019 (by decide) ?_
    exact KK Q H locs ls (lv_sub hl [2, 3, 4, 5, 6] rfl) hP hD hS
  · have hf := jv_if hf hz
    refine lv_if_ne (tgt := 1019) hx hb d_law_1004 (by decide) (fun _ => ?_) (fun h9 => absurd h9 hz)
    obtain rfl := Option.some.inj hf
    refine lv_goto (tgt := 1401) hx hb d_law_1019 (by decide) ?_
    exact KK Q H locs ls (lv_sub hl [2, 3, 4, 5, 6] rfl) hP hD hS
theorem d_law_1022 : decode cc_law 1022 = .ok (.aload_n 1, 1) := by decide +kernel
theorem d_law_1023 : decode cc_law 1023 = .ok (.aload_n 0, 1) := by decide +kernel
theorem d_law_1024 : decode cc_law 1024 = .ok (.iload 4, 2) := by decide +kernel
theorem d_law_1026 : decode cc_law 1026 = .ok (.iconst 1, 1) := by decide +kernel
theorem d_law_1027 : decode cc_law 1027 = .ok (.iadd, 1) := by decide +kernel
theorem d_law_1028 : decode cc_law 1028 = .ok (.iaload, 1) := by decide +kernel
theorem d_law_1029 : decode cc_law 1029 = .ok (.aload_n 0, 1) := by decide +kernel
theorem d_law_1030 : decode cc_law 1030 = .ok (.iload 4, 2) := by decide +kernel
theorem d_law_1032 : decode cc_law 1032 = .ok (.iconst 2, 1) := by decide +kernel
theorem d_law_1033 : decode cc_law 1033 = .ok (.iadd, 1) := by decide +kernel
theorem d_law_1034 : decode cc_law 1034 = .ok (.iaload, 1) := by decide +kernel
theorem d_law_1035 : decode cc_law 1035 = .ok (.aload_n 3, 1) := by decide +kernel
theorem d_law_1036 : decode cc_law 1036 = .ok (.invokestatic 123, 3) := by decide +kernel
theorem d_law_1039 : decode cc_law 1039 = .ok (.istore 5, 2) := by decide +kernel
theorem d_law_1041 : decode cc_law 1041 = .ok (.aload_n 2, 1) := by decide +kernel
theorem d_law_1042 : decode cc_law 1042 = .ok (.aload_n 0, 1) := by decide +kernel
theorem d_law_1043 : decode cc_law 1043 = .ok (.iload 4, 2) := by decide +kernel
theorem d_law_1045 : decode cc_law 1045 = .ok (.iconst 1, 1) := by decide +kernel
theorem d_law_1046 : decode cc_law 1046 = .ok (.iadd, 1) := by decide +kernel
theorem d_law_1047 : decode cc_law 1047 = .ok (.iaload, 1) := by decide +kernel
theorem d_law_1048 : decode cc_law 1048 = .ok (.aload_n 0, 1) := by decide +kernel
theorem d_law_1049 : decode cc_law 1049 = .ok (.iload 4, 2) := by decide +kernel
theorem d_law_1051 : decode cc_law 1051 = .ok (.iconst 2, 1) := by decide +kernel
theorem d_law_1052 : decode cc_law 1052 = .ok (.iadd, 1) := by decide +kernel
theorem d_law_1053 : decode cc_law 1053 = .ok (.iaload, 1) := by decide +kernel
theorem d_law_1054 : decode cc_law 1054 = .ok (.invokevirtual 125, 3) := by decide +kernel
theorem d_law_1057 : decode cc_law 1057 = .ok (.istore 6, 2) := by decide +kernel
theorem d_law_1059 : decode cc_law 1059 = .ok (.aload_n 2, 1) := by decide +kernel
theorem d_law_1060 : decode cc_law 1060 = .ok (.invokevirtual 83, 3) := by decide +kernel
theorem d_law_1063 : decode cc_law 1063 = .ok (.iload 5, 2) := by decide +kernel
theorem d_law_1065 : decode cc_law 1065 = .ok (.if_icmp .eq 5, 3) := by decide +kernel
theorem d_law_1070 : decode cc_law 1070 = .ok (.iload 5, 2) := by decide +kernel
theorem d_law_1072 : decode cc_law 1072 = .ok (.ifCond .ne 15, 3) := by decide +kernel
theorem d_law_1075 : decode cc_law 1075 = .ok (.aload_n 3, 1) := by decide +kernel
theorem d_law_1076 : decode cc_law 1076 = .ok (.iconst 0, 1) := by decide +kernel
theorem d_law_1077 : decode cc_law 1077 = .ok (.laload, 1) := by decide +kernel
theorem d_law_1078 : decode cc_law 1078 = .ok (.iload 6, 2) := by decide +kernel
theorem d_law_1080 : decode cc_law 1080 = .ok (.i2l, 1) := by decide +kernel
theorem d_law_1081 : decode cc_law 1081 = .ok (.lcmp, 1) := by decide +kernel
theorem d_law_1082 : decode cc_law 1082 = .ok (.ifCond .eq 5, 3) := by decide +kernel
theorem d_law_1087 : decode cc_law 1087 = .ok (.goto 314, 3) := by decide +kernel
def s_12 (S : jv_vs) (vO : Nat → Int64) (M : jv_ms) (p1 : Int32) (p2 : Int32) : Option jv_st :=
  (l_look S p1 p2 vO).bind fun x => (f_M_look M.2.1 M.2.2.2.1 M.2.2.2.2.2.1 M.2.2.2.2.2.2.2.1 p1 p2 M.1).bind fun y1 => (f_M_thrown y1.2).bind fun y2 => if y2 = x.1 then (if x.1 = 0 then (if x.2.2 (0 : Int32).toNatClampNeg = (y1.1).toInt64 then (some (x.2.1, x.2.2, y1.2, M.2.1, M.2.2.1, M.2.2.2.1, M.2.2.2.2.1, M.2.2.2.2.2.1, M.2.2.2.2.2.2.1, M.2.2.2.2.2.2.2.1, M.2.2.2.2.2.2.2.2)) else none) else (some (x.2.1, x.2.2, y1.2, M.2.1, M.2.2.1, M.2.2.2.1, M.2.2.2.2.1, M.2.2.2.2.2.1, M.2.2.2.2.2.2.1, M.2.2.2.2.2.2.2.1, M.2.2.2.2.2.2.2.2))) else none
set_option maxHeartbeats 4000000 in
set_option maxRecDepth 100000 in
theorem b_law_12 {l : Launch} {dC : Nat → ClassId} {dI : Nat → Nat → Nat} {cI cA cL : ClassId} {q_mo q_mlb_ q_mcl_ q_mus_ q_mwr_ q_mdk_ q_mcp_ q_out q_va q_aa q_cl q_fu : Nat} {p : Program} {e : Env} {s : State} {m : MethodId} {below : List Frame} {meth : Method} {c : Code} {b L : Nat} {xs : Nat → Int32} (hl9 : l.stackTraces = false) (hx : p.tables.exec = Jvm.exec) (hb : c.code = code) (hml : c.maxLocals = 7) (hown : s.vm.findClass R_Law = some m.cls) (hts : ∀ w ∈ Cond.tt :: jv_LT, w.before #[Value.ref b] s = true) (hX : va_X b L xs s s.heap) (hbl : b < s.heap.size) (hK : va_K (dC, dI) vwCl (jv_ty cI cA cL) s) (hTc : jv_tc s) {A : Nat → Prop} (hA : ∀ q : Nat, s.heap.size ≤ q → A q) (hAn : ∀ q : Nat, A q → s.heap.size ≤ q) {Z : State → Prop} {Q : Nat → Nat → Nat} {i : Int32} (hi1 : vp_in (i + (1 : Int32)) L) (hi2 : vp_in (i + (2 : Int32)) L) {S : jv_vs} {vO : Nat → Int64} {M : jv_ms} {r : jv_st} {H : Heap} {locs : List Loc} {cells slots : Nat} (hc : cells + 8 ≤ room_1.cells) (hsl : slots + 713 ≤ room_1.slots) {ls : Array Slot} (hl : lv_has ls 7 [(0, .ref b), (1, .ref q_va), (2, .ref q_mo), (3, .ref q_out), (4, .int i)]) (hP : va_P (dC, dI) vwCl ((w_model cI q_mo q_mlb_ q_mcl_ q_mus_ q_mwr_ q_mdk_ q_mcp_ M.1 M.2.1 M.2.2.1 M.2.2.2.1 M.2.2.2.2.1 M.2.2.2.2.2.1 M.2.2.2.2.2.2.1 M.2.2.2.2.2.2.2.1 M.2.2.2.2.2.2.2.2) ++ (w_lo cI cA cL q_out q_va q_aa q_cl q_fu Q S vO)) H) (hD : va_D A ((w_model cI q_mo q_mlb_ q_mcl_ q_mus_ q_mwr_ q_mdk_ q_mcp_ M.1 M.2.1 M.2.2.1 M.2.2.2.1 M.2.2.2.2.1 M.2.2.2.2.2.1 M.2.2.2.2.2.2.1 M.2.2.2.2.2.2.2.1 M.2.2.2.2.2.2.2.2) ++ (w_lo cI cA cL q_out q_va q_aa q_cl q_fu Q S vO))) (hS : va_S A s.heap H locs) (hf : s_12 S vO M (xs (i + (1 : Int32)).toNatClampNeg) (xs (i + (2 : Int32)).toNatClampNeg) = some r) (KK : ∀ (Q : Nat → Nat → Nat) (H : Heap) (locs : List Loc) (ls : Array Slot), lv_has ls 7 [(0, .ref b), (1, .ref q_va), (2, .ref q_mo), (3, .ref q_out), (4, .int i)] → va_P (dC, dI) vwCl ((w_model cI q_mo q_mlb_ q_mcl_ q_mus_ q_mwr_ q_mdk_ q_mcp_ r.2.2.1 r.2.2.2.1 r.2.2.2.2.1 r.2.2.2.2.2.1 r.2.2.2.2.2.2.1 r.2.2.2.2.2.2.2.1 r.2.2.2.2.2.2.2.2.1 r.2.2.2.2.2.2.2.2.2.1 r.2.2.2.2.2.2.2.2.2.2) ++ (w_lo cI cA cL q_out q_va q_aa q_cl q_fu Q r.1 r.2.1)) H → va_D A ((w_model cI q_mo q_mlb_ q_mcl_ q_mus_ q_mwr_ q_mdk_ q_mcp_ r.2.2.1 r.2.2.2.1 r.2.2.2.2.1 r.2.2.2.2.2.1 r.2.2.2.2.2.2.1 r.2.2.2.2.2.2.2.1 r.2.2.2.2.2.2.2.2.1 r.2.2.2.2.2.2.2.2.2.1 r.2.2.2.2.2.2.2.2.2.2) ++ (w_lo cI cA cL q_out q_va q_aa q_cl q_fu Q r.1 r.2.1)) → va_S A s.heap H locs → W p l e room_1 s m #[Value.ref b] below meth c H locs (cells + 8) (slots + 713) Z (F0 m 1401 ls [])) : W p l e room_1 s m #[Value.ref b] below meth c H locs cells slots Z (F0 m 1022 ls []) := by
  have hbA : ¬ A b := fun h => absurd (hAn b h) (by omega)
  unfold s_12 at hf
  refine lv_aload_n hx hb d_law_1022 rfl (lv_at hl 1 rfl) ?_
  refine lv_aload_n hx hb d_law_1023 rfl (lv_at hl 0 rfl) ?_
  refine lv_iload hx hb d_law_1024 (lv_at hl 4 rfl) ?_
  refine lv_iconst (v := (1 : Int32)) hx hb d_law_1026 (by decide) ?_
  refine lv_iadd hx hb d_law_1027 ?_
  refine va_sld hx hb hX hbl hbA hS hi1 d_law_1028 ?_
  refine lv_aload_n hx hb d_law_1029 rfl (lv_at hl 0 rfl) ?_
  refine lv_iload hx hb d_law_1030 (lv_at hl 4 rfl) ?_
  refine lv_iconst (v := (2 : Int32)) hx hb d_law_1032 (by decide) ?_
  refine lv_iadd hx hb d_law_1033 ?_
  refine va_sld hx hb hX hbl hbA hS hi2 d_law_1034 ?_
  refine lv_aload_n hx hb d_law_1035 rfl (lv_at hl 3 rfl) ?_
  obtain ⟨x, gx, hf⟩ := jv_ob hf
  have hPr : va_P (dC, dI) vwCl (w_lo cI cA cL q_out q_va q_aa q_cl q_fu Q S vO) H := jv_PR (X := (w_model cI q_mo q_mlb_ q_mcl_ q_mus_ q_mwr_ q_mdk_ q_mcp_ M.1 M.2.1 M.2.2.1 M.2.2.2.1 M.2.2.2.2.1 M.2.2.2.2.2.1 M.2.2.2.2.2.2.1 M.2.2.2.2.2.2.2.1 M.2.2.2.2.2.2.2.2)) hP
  have hDr : va_D A (w_lo cI cA cL q_out q_va q_aa q_cl q_fu Q S vO) := jv_DR (X := (w_model cI q_mo q_mlb_ q_mcl_ q_mus_ q_mwr_ q_mdk_ q_mcp_ M.1 M.2.1 M.2.2.1 M.2.2.2.1 M.2.2.2.2.1 M.2.2.2.2.2.1 M.2.2.2.2.2.2.1 M.2.2.2.2.2.2.2.1 M.2.2.2.2.2.2.2.2)) hD
  have hFc := jv_fr hDr hS hA
  refine jv_cwl (vx_runSW (As := [.ref q_va, .int (xs (i + (1 : Int32)).toNatClampNeg), .int (xs (i + (2 : Int32)).toNatClampNeg), .ref q_out]) (rest := []) ⟨hx, hb, hml, hown, hts⟩ (c_L_look l hl9 dC dI cI cA cL q_out q_va q_aa q_cl q_fu Q S vO (xs (i + (1 : Int32)).toNatClampNeg) (xs (i + (2 : Int32)).toNatClampNeg) H.size x gx) (jv_cwSW hts wa_678 wa_590 wa_679 wa_680 rfl rfl yd_L_look ⟨Nat.le_of_ble_eq_true rfl, Nat.le_of_ble_eq_true rfl⟩) (jv_preSlw hTc hK hPr hDr (fun q hq => hS.2.1 q hq (fun h => absurd (hAn q h) (by omega)))) rfl rfl hl.1 rfl (lv_room (Nat.le_of_ble_eq_true rfl)) d_law_1036 ⟨hc, hsl⟩) hS hFc (fun Q H1 locs hP1 hD1 hk1 hS0 => ?_)
  obtain ⟨hP, hD⟩ := jv_joinR (V1 := (w_lo cI cA cL q_out q_va q_aa q_cl q_fu Q x.2.1 x.2.2)) hk1 hP1 hD1 (w_model cI q_mo q_mlb_ q_mcl_ q_mus_ q_mwr_ q_mdk_ q_mcp_ M.1 M.2.1 M.2.2.1 M.2.2.2.1 M.2.2.2.2.1 M.2.2.2.2.2.1 M.2.2.2.2.2.2.1 M.2.2.2.2.2.2.2.1 M.2.2.2.2.2.2.2.2) A (fun q h => hA q (Nat.le_trans hS.1 h)) hP hD
  have hS := hS0
  generalize H1 = H at hP hS ⊢
  have hP : va_P (dC, dI) vwCl ((w_model cI q_mo q_mlb_ q_mcl_ q_mus_ q_mwr_ q_mdk_ q_mcp_ M.1 M.2.1 M.2.2.1 M.2.2.2.1 M.2.2.2.2.1 M.2.2.2.2.2.1 M.2.2.2.2.2.2.1 M.2.2.2.2.2.2.2.1 M.2.2.2.2.2.2.2.2) ++ (w_lo cI cA cL q_out q_va q_aa q_cl q_fu Q x.2.1 x.2.2)) H := hP
  have hD : va_D A ((w_model cI q_mo q_mlb_ q_mcl_ q_mus_ q_mwr_ q_mdk_ q_mcp_ M.1 M.2.1 M.2.2.1 M.2.2.2.1 M.2.2.2.2.1 M.2.2.2.2.2.1 M.2.2.2.2.2.2.1 M.2.2.2.2.2.2.2.1 M.2.2.2.2.2.2.2.2) ++ (w_lo cI cA cL q_out q_va q_aa q_cl q_fu Q x.2.1 x.2.2)) := hD
  refine lv_istore (lv' := [(5, .int x.1), (0, .ref b), (1, .ref q_va), (2, .ref q_mo), (3, .ref q_out), (4, .int i)]) hx hb d_law_1039 hl (by decide) rfl (fun ls hl => ?_)
  refine lv_aload_n hx hb d_law_1041 rfl (lv_at hl 3 rfl) ?_
  refine lv_aload_n hx hb d_law_1042 rfl (lv_at hl 1 rfl) ?_
  refine lv_iload hx hb d_law_1043 (lv_at hl 5 rfl) ?_
  refine lv_iconst (v := (1 : Int32)) hx hb d_law_1045 (by decide) ?_
  refine lv_iadd hx hb d_law_1046 ?_
  refine va_sld hx hb hX hbl hbA hS hi1 d_law_1047 ?_
  refine lv_aload_n hx hb d_law_1048 rfl (lv_at hl 1 rfl) ?_
  refine lv_iload hx hb d_law_1049 (lv_at hl 5 rfl) ?_
  refine lv_iconst (v := (2 : Int32)) hx hb d_law_1051 (by decide) ?_
  refine lv_iadd hx hb d_law_1052 ?_
  refine va_sld hx hb hX hbl hbA hS hi2 d_law_1053 ?_
  obtain ⟨y1, gy1, hf⟩ := jv_ob hf
  have hPl : va_P (dC, dI) vwCl (w_model cI q_mo q_mlb_ q_mcl_ q_mus_ q_mwr_ q_mdk_ q_mcp_ M.1 M.2.1 M.2.2.1 M.2.2.2.1 M.2.2.2.2.1 M.2.2.2.2.2.1 M.2.2.2.2.2.2.1 M.2.2.2.2.2.2.2.1 M.2.2.2.2.2.2.2.2) H := jv_PL (Y := (w_lo cI cA cL q_out q_va q_aa q_cl q_fu Q x.2.1 x.2.2)) hP
  have hDl : va_D A (w_model cI q_mo q_mlb_ q_mcl_ q_mus_ q_mwr_ q_mdk_ q_mcp_ M.1 M.2.1 M.2.2.1 M.2.2.2.1 M.2.2.2.2.1 M.2.2.2.2.2.1 M.2.2.2.2.2.2.1 M.2.2.2.2.2.2.2.1 M.2.2.2.2.2.2.2.2) := jv_DL (Y := (w_lo cI cA cL q_out q_va q_aa q_cl q_fu Q x.2.1 x.2.2)) hD
  have hFc := jv_fr hDl hS hA
  refine jv_cwi (va_runV (As := [.int (xs (i + (1 : Int32)).toNatClampNeg), .int (xs (i + (2 : Int32)).toNatClampNeg)]) (rest := []) (b := q_mo) ⟨hx, hb, hml, hown, hts⟩ (c_M_look l dC dI cI cA cL q_mo q_mlb_ q_mcl_ q_mus_ q_mwr_ q_mdk_ q_mcp_ M.1 M.2.1 M.2.2.1 M.2.2.2.1 M.2.2.2.2.1 M.2.2.2.2.2.1 M.2.2.2.2.2.2.1 M.2.2.2.2.2.2.2.1 M.2.2.2.2.2.2.2.2 (xs (i + (1 : Int32)).toNatClampNeg) (xs (i + (2 : Int32)).toNatClampNeg) H.size y1 gy1) (jv_cwV hts wa_681 wa_194 wa_682 wa_683 wa_684 rfl rfl yd_M_look ⟨Nat.le_of_ble_eq_true rfl, Nat.le_of_ble_eq_true rfl⟩) (jv_preVW hK hPl hDl 0 rfl rfl) rfl rfl hl.1 rfl (lv_room (Nat.le_of_ble_eq_true rfl)) d_law_1054 ⟨hc, hsl⟩) hS hFc (fun H1 locs hP1 hD1 hk1 hS0 => ?_)
  obtain ⟨hP, hD⟩ := jv_joinL (X := (w_model cI q_mo q_mlb_ q_mcl_ q_mus_ q_mwr_ q_mdk_ q_mcp_ M.1 M.2.1 M.2.2.1 M.2.2.2.1 M.2.2.2.2.1 M.2.2.2.2.2.1 M.2.2.2.2.2.2.1 M.2.2.2.2.2.2.2.1 M.2.2.2.2.2.2.2.2)) (X1 := (w_model cI q_mo q_mlb_ q_mcl_ q_mus_ q_mwr_ q_mdk_ q_mcp_ y1.2 M.2.1 M.2.2.1 M.2.2.2.1 M.2.2.2.2.1 M.2.2.2.2.2.1 M.2.2.2.2.2.2.1 M.2.2.2.2.2.2.2.1 M.2.2.2.2.2.2.2.2)) (V := (w_lo cI cA cL q_out q_va q_aa q_cl q_fu Q x.2.1 x.2.2)) hP hD (fun q h => hA q (Nat.le_trans hS.1 h)) hk1 hP1 hD1
  have hS := hS0
  generalize H1 = H at hP hS ⊢
  have hP : va_P (dC, dI) vwCl ((w_model cI q_mo q_mlb_ q_mcl_ q_mus_ q_mwr_ q_mdk_ q_mcp_ y1.2 M.2.1 M.2.2.1 M.2.2.2.1 M.2.2.2.2.1 M.2.2.2.2.2.1 M.2.2.2.2.2.2.1 M.2.2.2.2.2.2.2.1 M.2.2.2.2.2.2.2.2) ++ (w_lo cI cA cL q_out q_va q_aa q_cl q_fu Q x.2.1 x.2.2)) H := hP
  have hD : va_D A ((w_model cI q_mo q_mlb_ q_mcl_ q_mus_ q_mwr_ q_mdk_ q_mcp_ y1.2 M.2.1 M.2.2.1 M.2.2.2.1 M.2.2.2.2.1 M.2.2.2.2.2.1 M.2.2.2.2.2.2.1 M.2.2.2.2.2.2.2.1 M.2.2.2.2.2.2.2.2) ++ (w_lo cI cA cL q_out q_va q_aa q_cl q_fu Q x.2.1 x.2.2)) := hD
  refine lv_istore (lv' := [(6, .int y1.1), (5, .int x.1), (0, .ref b), (1, .ref q_va), (2, .ref q_mo), (3, .ref q_out), (4, .int i)]) hx hb d_law_1057 hl (by decide) rfl (fun ls hl => ?_)
  refine lv_aload_n hx hb d_law_1059 rfl (lv_at hl 4 rfl) ?_
  obtain ⟨y2, gy2, hf⟩ := jv_ob hf
  have hPl : va_P (dC, dI) vwCl (w_model cI q_mo q_mlb_ q_mcl_ q_mus_ q_mwr_ q_mdk_ q_mcp_ y1.2 M.2.1 M.2.2.1 M.2.2.2.1 M.2.2.2.2.1 M.2.2.2.2.2.1 M.2.2.2.2.2.2.1 M.2.2.2.2.2.2.2.1 M.2.2.2.2.2.2.2.2) H := jv_PL (Y := (w_lo cI cA cL q_out q_va q_aa q_cl q_fu Q x.2.1 x.2.2)) hP
  have hDl : va_D A (w_model cI q_mo q_mlb_ q_mcl_ q_mus_ q_mwr_ q_mdk_ q_mcp_ y1.2 M.2.1 M.2.2.1 M.2.2.2.1 M.2.2.2.2.1 M.2.2.2.2.2.1 M.2.2.2.2.2.2.1 M.2.2.2.2.2.2.2.1 M.2.2.2.2.2.2.2.2) := jv_DL (Y := (w_lo cI cA cL q_out q_va q_aa q_cl q_fu Q x.2.1 x.2.2)) hD
  refine jv_cs (W.runV (As := []) (rest := []) (b := q_mo) ⟨hx, hb, hml, hown, hts⟩ (c_M_thrown l dC dI cI cA cL q_mo q_mlb_ q_mcl_ q_mus_ q_mwr_ q_mdk_ q_mcp_ y1.2 M.2.1 M.2.2.1 M.2.2.2.1 M.2.2.2.2.1 M.2.2.2.2.2.1 M.2.2.2.2.2.2.1 M.2.2.2.2.2.2.2.1 M.2.2.2.2.2.2.2.2 y2 gy2) (jv_cwV hts wa_597 wa_194 wa_598 wa_599 wa_600 rfl rfl yd_M_thrown ⟨Nat.le_of_ble_eq_true rfl, Nat.le_of_ble_eq_true rfl⟩) (jv_preV hK hPl 0 rfl rfl) rfl rfl hl.1 rfl (lv_room (Nat.le_of_ble_eq_true rfl)) d_law_1060 ⟨hc, hsl⟩) ?_
  refine lv_iload hx hb d_law_1063 (lv_at hl 1 rfl) ?_
  obtain ⟨he, hf⟩ := jv_gd hf
  refine lv_icmp_eq (tgt := 1070) hx hb d_law_1065 (by decide) (fun _ => ?_) (fun h9 => absurd he h9)
  refine lv_iload hx hb d_law_1070 (lv_at hl 1 rfl) ?_
  by_cases hz : x.1 = 0
  · have hf := jv_it hf hz
    refine lv_if_ne (tgt := 1087) hx hb d_law_1072 (by decide) (fun h9 => absurd hz h9) (fun _ => ?_)
    refine lv_aload_n hx hb d_law_1075 rfl (lv_at hl 5 rfl) ?_
    refine lv_iconst (v := (0 : Int32)) hx hb d_law_1076 (by decide) ?_
    refine va_lald hx hb hK hP 7 2 rfl rfl (by unfold vp_in; decide) d_law_1077 ?_
    refine lv_iload hx hb d_law_1078 (lv_at hl 0 rfl) ?_
    obtain ⟨ho, hf⟩ := jv_gd hf
    refine lv_i2l hx hb d_law_1080 rfl ?_
    refine jv_lcmp0 hx hb ho d_law_1081 ?_
    refine lv_if_eq (tgt := 1087) hx hb d_law_1082 (by decide) (fun _ => ?_) (fun h9 => absurd rfl h9)
    obtain rfl := Option.some.inj hf
    refine lv_goto (tgt := 1401) hx hb d_law_1087 (by decide) ?_
    exact KK Q H locs ls (lv_sub hl [2, 3, 4, 5, 6] rfl) hP hD hS
  · have hf := jv_if hf hz
    refine lv_if_ne (tgt := 1087) hx hb d_law_1072 (by decide) (fun _ => ?_) (fun h9 => absurd h9 hz)
    obtain rfl := Option.some.inj hf
    refine lv_goto (tgt := 1401) hx hb d_law_1087 (by decide) ?_
    exact KK Q H locs ls (lv_sub hl [2, 3, 4, 5, 6] rfl) hP hD hS
