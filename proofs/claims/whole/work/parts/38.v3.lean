theorem d_V_make_0 : decode cc_V_make 0 = .ok (.aload_n 0, 1) := by decide +kernel
theorem d_V_make_1 : decode cc_V_make 1 = .ok (.iload_n 1, 1) := by decide +kernel
theorem d_V_make_2 : decode cc_V_make 2 = .ok (.invokevirtual 79, 3) := by decide +kernel
theorem d_V_make_5 : decode cc_V_make 5 = .ok (.astore 4, 2) := by decide +kernel
theorem d_V_make_7 : decode cc_V_make 7 = .ok (.iload_n 2, 1) := by decide +kernel
theorem d_V_make_8 : decode cc_V_make 8 = .ok (.invokestatic 85, 3) := by decide +kernel
theorem d_V_make_11 : decode cc_V_make 11 = .ok (.ifCond .eq 17, 3) := by decide +kernel
theorem d_V_make_28 : decode cc_V_make 28 = .ok (.iconst 0, 1) := by decide +kernel
theorem d_V_make_14 : decode cc_V_make 14 = .ok (.iload_n 3, 1) := by decide +kernel
theorem d_V_make_15 : decode cc_V_make 15 = .ok (.iconst 1, 1) := by decide +kernel
theorem d_V_make_16 : decode cc_V_make 16 = .ok (.if_icmp .eq 8, 3) := by decide +kernel
theorem d_V_make_24 : decode cc_V_make 24 = .ok (.iconst 1, 1) := by decide +kernel
theorem d_V_make_25 : decode cc_V_make 25 = .ok (.goto 4, 3) := by decide +kernel
theorem d_V_make_19 : decode cc_V_make 19 = .ok (.iload_n 3, 1) := by decide +kernel
theorem d_V_make_20 : decode cc_V_make 20 = .ok (.iconst 2, 1) := by decide +kernel
theorem d_V_make_21 : decode cc_V_make 21 = .ok (.if_icmp .ne 7, 3) := by decide +kernel
theorem d_V_make_29 : decode cc_V_make 29 = .ok (.invokestatic 36, 3) := by decide +kernel
theorem d_V_make_32 : decode cc_V_make 32 = .ok (.aload_n 0, 1) := by decide +kernel
theorem d_V_make_33 : decode cc_V_make 33 = .ok (.aload 4, 2) := by decide +kernel
theorem d_V_make_35 : decode cc_V_make 35 = .ok (.getfield 67, 3) := by decide +kernel
theorem d_V_make_38 : decode cc_V_make 38 = .ok (.iload_n 2, 1) := by decide +kernel
theorem d_V_make_39 : decode cc_V_make 39 = .ok (.invokestatic 90, 3) := by decide +kernel
theorem d_V_make_42 : decode cc_V_make 42 = .ok (.invokevirtual 93, 3) := by decide +kernel
theorem d_V_make_45 : decode cc_V_make 45 = .ok (.istore 5, 2) := by decide +kernel
theorem d_V_make_47 : decode cc_V_make 47 = .ok (.iload 5, 2) := by decide +kernel
theorem d_V_make_49 : decode cc_V_make 49 = .ok (.ifCond .ne 13, 3) := by decide +kernel
theorem d_V_make_62 : decode cc_V_make 62 = .ok (.iload 5, 2) := by decide +kernel
theorem d_V_make_64 : decode cc_V_make 64 = .ok (.iconst 1, 1) := by decide +kernel
theorem d_V_make_65 : decode cc_V_make 65 = .ok (.iand, 1) := by decide +kernel
theorem d_V_make_66 : decode cc_V_make 66 = .ok (.ifCond .eq 15, 3) := by decide +kernel
theorem d_V_make_81 : decode cc_V_make 81 = .ok (.new 111, 3) := by decide +kernel
theorem d_V_make_69 : decode cc_V_make 69 = .ok (.aload 4, 2) := by decide +kernel
theorem d_V_make_71 : decode cc_V_make 71 = .ok (.getfield 102, 3) := by decide +kernel
theorem d_V_make_74 : decode cc_V_make 74 = .ok (.iload_n 2, 1) := by decide +kernel
theorem d_V_make_75 : decode cc_V_make 75 = .ok (.invokevirtual 106, 3) := by decide +kernel
theorem d_V_make_78 : decode cc_V_make 78 = .ok (.ifCond .eq 13, 3) := by decide +kernel
theorem d_V_make_91 : decode cc_V_make 91 = .ok (.aload 4, 2) := by decide +kernel
theorem d_V_make_93 : decode cc_V_make 93 = .ok (.getfield 102, 3) := by decide +kernel
theorem d_V_make_96 : decode cc_V_make 96 = .ok (.iload_n 2, 1) := by decide +kernel
theorem d_V_make_97 : decode cc_V_make 97 = .ok (.invokevirtual 116, 3) := by decide +kernel
theorem d_V_make_100 : decode cc_V_make 100 = .ok (.iconst (-1), 1) := by decide +kernel
theorem d_V_make_101 : decode cc_V_make 101 = .ok (.if_icmp .eq 13, 3) := by decide +kernel
theorem d_V_make_114 : decode cc_V_make 114 = .ok (.aload 4, 2) := by decide +kernel
theorem d_V_make_116 : decode cc_V_make 116 = .ok (.getfield 102, 3) := by decide +kernel
theorem d_V_make_119 : decode cc_V_make 119 = .ok (.iload_n 2, 1) := by decide +kernel
theorem d_V_make_120 : decode cc_V_make 120 = .ok (.iload_n 3, 1) := by decide +kernel
theorem d_V_make_121 : decode cc_V_make 121 = .ok (.invokevirtual 121, 3) := by decide +kernel
theorem d_V_make_124 : decode cc_V_make 124 = .ok (.istore 6, 2) := by decide +kernel
theorem d_V_make_126 : decode cc_V_make 126 = .ok (.iload 6, 2) := by decide +kernel
theorem d_V_make_128 : decode cc_V_make 128 = .ok (.iconst (-1), 1) := by decide +kernel
theorem d_V_make_129 : decode cc_V_make 129 = .ok (.if_icmp .ne 11, 3) := by decide +kernel
theorem d_V_make_140 : decode cc_V_make 140 = .ok (.aload_n 0, 1) := by decide +kernel
theorem d_V_make_141 : decode cc_V_make 141 = .ok (.aload 4, 2) := by decide +kernel
theorem d_V_make_143 : decode cc_V_make 143 = .ok (.iload 6, 2) := by decide +kernel
theorem d_V_make_145 : decode cc_V_make 145 = .ok (.invokevirtual 128, 3) := by decide +kernel
theorem d_V_make_148 : decode cc_V_make 148 = .ok (.ireturn, 1) := by decide +kernel
theorem d_V_make_132 : decode cc_V_make 132 = .ok (.aload 4, 2) := by decide +kernel
theorem d_V_make_134 : decode cc_V_make 134 = .ok (.invokestatic 124, 3) := by decide +kernel
theorem d_V_make_137 : decode cc_V_make 137 = .ok (.goto 11, 3) := by decide +kernel
theorem d_V_make_104 : decode cc_V_make 104 = .ok (.new 43, 3) := by decide +kernel
theorem d_V_make_52 : decode cc_V_make 52 = .ok (.new 97, 3) := by decide +kernel
theorem d_V_make_87 : decode cc_V_make 87 = .ok (.invokespecial 115, 3) := by decide +kernel
theorem d_V_make_90 : decode cc_V_make 90 = .ok (.athrow, 1) := by decide +kernel
theorem d_V_make_84 : decode cc_V_make 84 = .ok (.dup, 1) := by decide +kernel
theorem d_V_make_85 : decode cc_V_make 85 = .ok (.ldc 113, 2) := by decide +kernel
theorem d_V_make_110 : decode cc_V_make 110 = .ok (.invokespecial 47, 3) := by decide +kernel
theorem d_V_make_113 : decode cc_V_make 113 = .ok (.athrow, 1) := by decide +kernel
theorem d_V_make_107 : decode cc_V_make 107 = .ok (.dup, 1) := by decide +kernel
theorem d_V_make_108 : decode cc_V_make 108 = .ok (.ldc 119, 2) := by decide +kernel
theorem d_V_make_58 : decode cc_V_make 58 = .ok (.invokespecial 101, 3) := by decide +kernel
theorem d_V_make_61 : decode cc_V_make 61 = .ok (.athrow, 1) := by decide +kernel
theorem d_V_make_55 : decode cc_V_make 55 = .ok (.dup, 1) := by decide +kernel
theorem d_V_make_56 : decode cc_V_make 56 = .ok (.ldc 99, 2) := by decide +kernel
def f_V_make_29 (vn : Nat) (y0 : Int32) (y1 : Int32) (y2 : Int32) (y3 : Nat) (y4 : Int32) (y5 : Nat → jv_ar) : Option (Nat ⊕ (Int32 × Int32 × (Nat → jv_ar))) :=
  (f_V_demand y2).bind fun x8 => jv_se x8 fun v10 => (f_P_parentOf y0).bind fun x12 => (f_V_kindsSeen vn y5 ((y5 y3).1) x12).bind fun x14 => if x14 = 0 then (some (Sum.inl 3)) else (if (x14 &&& (1 : Int32)) = 0 then (some (Sum.inl 4)) else ((f_T_hasFileAbove ((y5 y3).2.2.2.1) y0).bind fun x16 => if x16 = 0 then ((f_T_find ((y5 y3).2.2.2.1) y0).bind fun x18 => if x18 = (-1 : Int32) then ((f_T_create y0 y1 ((y5 y3).2.2.2.1)).bind fun x20 => jv_lt (va_up y5 y3 ((y5 y3).1, (y5 y3).2.1, (y5 y3).2.2.1, x20.2, (y5 y3).2.2.2.2.1, (y5 y3).2.2.2.2.2.1, (y5 y3).2.2.2.2.2.2.1, (y5 y3).2.2.2.2.2.2.2)) fun A22 => if x20.1 = (-1 : Int32) then ((f_V_giveUp y3 A22).bind fun x26 => some (Sum.inr (x26.1, y4, x26.2))) else ((f_V_finish vn y3 x20.1 y4 A22).bind fun x24 => some (Sum.inr (x24.1, x24.2.1, x24.2.2)))) else (some (Sum.inl 2))) else (some (Sum.inl 4))))
set_option maxHeartbeats 4000000 in
set_option maxRecDepth 100000 in
theorem b_V_make_29 {l : Launch} {dC : Nat → ClassId} {dI : Nat → Nat → Nat} {cI cA cL : ClassId} {q_va q_aa q_cl q_fu : Nat} {Q : Nat → Nat → Nat} {vn : Nat} {vC : Nat → Int32} {p : Program} {e : Env} {s : State} {m : MethodId} {args : Array Value} {below : List Frame} {meth : Method} {c : Code} (cx : jv_cx p s m args meth c cc_V_make 7 R_Vault (some .int) ws_V_make) (hK : va_K (dC, dI) vwCl (jv_ty cI cA cL) s) {A : Nat → Prop} (hA : ∀ q : Nat, s.heap.size ≤ q → A q) (hl9 : l.stackTraces = false) (hT : jv_th s) (hout : c.exceptionTable.isEmpty = true) {r : Int32 × Int32 × (Nat → jv_ar)} {y0 : Int32} {y1 : Int32} {y2 : Int32} {y3 : Nat} {y4 : Int32} {y5 : Nat → jv_ar} (hy3 : y3 < vn) {ls : Array Slot} (hl : lv_has ls 7 [(0, .ref q_va), (2, .int y0), (3, .int y1), (4, .ref (Q y3 0))]) (hP : va_P (dC, dI) vwCl (w_vault cI cA q_va q_aa q_cl q_fu Q vn vC y4 y5) s.heap) (hD : va_D A (w_vault cI cA q_va q_aa q_cl q_fu Q vn vC y4 y5)) (hf : f_V_make_29 vn y0 y1 y2 y3 y4 y5 = some (Sum.inr r)) : W p l e rm_V_make s m args below meth c s.heap [] 0 0 (MQ below (jv_Qi r.1 (dC, dI) (w_vault cI cA q_va q_aa q_cl q_fu Q vn vC r.2.1 r.2.2) A) args s 0 0 A) (F0 m 29 ls [.int y2]) := by
  unfold f_V_make_29 at hf
  obtain ⟨hx, hb, hml, hown, hts, hr, hlocks⟩ := id cx
  have hS : va_S A s.heap s.heap [] := va_S.rf
  obtain ⟨x8, g9, hf⟩ := jv_ob hf
  rcases x8 with k11 | v10
  · exact jv_ci hf
  have hf := jv_sr hf
  refine jv_csv (W.runS (As := [.int y2]) (rest := []) ⟨hx, hb, hml, hown, hts⟩ (c_V_demand l hl9 y2 v10 g9) (jv_cwS hts wa_321 wa_303 wa_322 wa_323 rfl rfl yd_V_demand ⟨Nat.le_of_ble_eq_true rfl, Nat.le_of_ble_eq_true rfl⟩) (jv_pre0t hT) rfl rfl hl.1 rfl (lv_room (Nat.le_of_ble_eq_true rfl)) d_V_make_29 ⟨Nat.zero_le _, Nat.zero_le _⟩) ?_
  refine lv_aload_n hx hb d_V_make_32 rfl (lv_at hl 0 rfl) ?_
  refine lv_aload hx hb d_V_make_33 (lv_at hl 3 rfl) ?_
  refine va_get (D := (dC, dI)) (ci := kArea) (v := .int ((y5 y3).1)) (C := R_Area) (T := T_Area) (N := 5) hx hb hts (fun w h => List.mem_cons_of_mem _ (in_Area w h)) hown hK (jv_open hP hy3) 1 rfl rfl 0 (by decide) (jv_w hts wa_301) (fun _ h9 => h9) rfl d_V_make_35 ?_
  refine lv_iload_n hx hb d_V_make_38 rfl (lv_at hl 1 rfl) ?_
  obtain ⟨x12, g13, hf⟩ := jv_ob hf
  refine jv_cs (W.runS (As := [.int y0]) (rest := [.int ((y5 y3).1), .ref q_va]) ⟨hx, hb, hml, hown, hts⟩ (c_P_parentOf l y0 x12 g13) (jv_cwS hts wa_11 wa_8 wa_400 wa_13 rfl rfl yd_P_parentOf ⟨Nat.le_of_ble_eq_true rfl, Nat.le_of_ble_eq_true rfl⟩) jv_pre0 rfl rfl hl.1 rfl (lv_room (Nat.le_of_ble_eq_true rfl)) d_V_make_39 ⟨Nat.zero_le _, Nat.zero_le _⟩) ?_
  obtain ⟨x14, g15, hf⟩ := jv_ob hf
  refine jv_cs (W.runV (As := [.int ((y5 y3).1), .int x12]) (rest := []) (b := q_va) ⟨hx, hb, hml, hown, hts⟩ (c_V_kindsSeen l dC dI cI cA cL q_va q_aa q_cl q_fu Q vn vC y4 y5 ((y5 y3).1) x12 x14 g15) (jv_cwV hts wa_328 wa_303 wa_329 wa_330 wa_331 rfl rfl yd_V_kindsSeen ⟨Nat.le_of_ble_eq_true rfl, Nat.le_of_ble_eq_true rfl⟩) (jv_preV hK hP 0 rfl rfl) rfl rfl hl.1 rfl (lv_room (Nat.le_of_ble_eq_true rfl)) d_V_make_42 ⟨Nat.zero_le _, Nat.zero_le _⟩) ?_
  refine lv_istore (lv' := [(5, .int x14), (0, .ref q_va), (2, .int y0), (3, .int y1), (4, .ref (Q y3 0))]) hx hb d_V_make_45 hl (by decide) rfl (fun ls hl => ?_)
  refine lv_iload hx hb d_V_make_47 (lv_at hl 0 rfl) ?_
  refine lv_if_ne (tgt := 62) hx hb d_V_make_49 (by decide) (fun hc => ?_) (fun hc => ?_)
  · have hf := jv_if hf hc
    refine lv_iload hx hb d_V_make_62 (lv_at hl 0 rfl) ?_
    refine lv_iconst (v := (1 : Int32)) hx hb d_V_make_64 (by decide) ?_
    refine lv_iand hx hb d_V_make_65 ?_
    refine lv_if_eq (tgt := 81) hx hb d_V_make_66 (by decide) (fun hc => ?_) (fun hc => ?_)
    · have hf := jv_it hf hc
      cases Option.some.inj hf
    · have hf := jv_if hf hc
      refine lv_aload hx hb d_V_make_69 (lv_at hl 4 rfl) ?_
      refine va_get (D := (dC, dI)) (ci := kArea) (v := .ref (Q y3 6)) (C := R_Area) (T := T_Area) (N := 5) hx hb hts (fun w h => List.mem_cons_of_mem _ (in_Area w h)) hown hK (jv_open hP hy3) 1 rfl rfl 3 (by decide) (jv_w hts wa_315) (fun _ h9 => h9) rfl d_V_make_71 ?_
      refine lv_iload_n hx hb d_V_make_74 rfl (lv_at hl 2 rfl) ?_
      obtain ⟨x16, g17, hf⟩ := jv_ob hf
      have hPc := (jv_open hP hy3).sub (ws' := (w_tree cI (Q y3 6) (Q y3 2) (Q y3 3) (Q y3 4) (Q y3 5) ((y5 y3).2.2.2.2.2.1) ((y5 y3).2.2.2.2.2.2.1) ((y5 y3).2.2.2.2.2.2.2) ((y5 y3).2.2.1) ((y5 y3).2.2.2.1) ((y5 y3).2.2.2.2.1))) [7, 3, 4, 5, 6] rfl
      refine jv_cs (W.runV (As := [.int y0]) (rest := []) (b := (Q y3 6)) ⟨hx, hb, hml, hown, hts⟩ (c_T_hasFileAbove l dC dI cI cA cL (Q y3 6) (Q y3 2) (Q y3 3) (Q y3 4) (Q y3 5) ((y5 y3).2.2.2.2.2.1) ((y5 y3).2.2.2.2.2.2.1) ((y5 y3).2.2.2.2.2.2.2) ((y5 y3).2.2.1) ((y5 y3).2.2.2.1) ((y5 y3).2.2.2.2.1) y0 x16 g17) (jv_cwV hts wa_401 wa_78 wa_402 wa_403 wa_404 rfl rfl yd_T_hasFileAbove ⟨Nat.le_of_ble_eq_true rfl, Nat.le_of_ble_eq_true rfl⟩) (jv_preV hK hPc 0 rfl rfl) rfl rfl hl.1 rfl (lv_room (Nat.le_of_ble_eq_true rfl)) d_V_make_75 ⟨Nat.zero_le _, Nat.zero_le _⟩) ?_
      refine lv_if_eq (tgt := 91) hx hb d_V_make_78 (by decide) (fun hc => ?_) (fun hc => ?_)
      · have hf := jv_it hf hc
        refine lv_aload hx hb d_V_make_91 (lv_at hl 4 rfl) ?_
        refine va_get (D := (dC, dI)) (ci := kArea) (v := .ref (Q y3 6)) (C := R_Area) (T := T_Area) (N := 5) hx hb hts (fun w h => List.mem_cons_of_mem _ (in_Area w h)) hown hK (jv_open hP hy3) 1 rfl rfl 3 (by decide) (jv_w hts wa_315) (fun _ h9 => h9) rfl d_V_make_93 ?_
        refine lv_iload_n hx hb d_V_make_96 rfl (lv_at hl 2 rfl) ?_
        obtain ⟨x18, g19, hf⟩ := jv_ob hf
        have hPc := (jv_open hP hy3).sub (ws' := (w_tree cI (Q y3 6) (Q y3 2) (Q y3 3) (Q y3 4) (Q y3 5) ((y5 y3).2.2.2.2.2.1) ((y5 y3).2.2.2.2.2.2.1) ((y5 y3).2.2.2.2.2.2.2) ((y5 y3).2.2.1) ((y5 y3).2.2.2.1) ((y5 y3).2.2.2.2.1))) [7, 3, 4, 5, 6] rfl
        refine jv_cs (W.runV (As := [.int y0]) (rest := []) (b := (Q y3 6)) ⟨hx, hb, hml, hown, hts⟩ (c_T_find l dC dI cI cA cL (Q y3 6) (Q y3 2) (Q y3 3) (Q y3 4) (Q y3 5) ((y5 y3).2.2.2.2.2.1) ((y5 y3).2.2.2.2.2.2.1) ((y5 y3).2.2.2.2.2.2.2) ((y5 y3).2.2.1) ((y5 y3).2.2.2.1) ((y5 y3).2.2.2.2.1) y0 x18 g19) (jv_cwV hts wa_82 wa_78 wa_332 wa_84 wa_85 rfl rfl yd_T_find ⟨Nat.le_of_ble_eq_true rfl, Nat.le_of_ble_eq_true rfl⟩) (jv_preV hK hPc 0 rfl rfl) rfl rfl hl.1 rfl (lv_room (Nat.le_of_ble_eq_true rfl)) d_V_make_97 ⟨Nat.zero_le _, Nat.zero_le _⟩) ?_
        refine lv_iconst (v := (-1 : Int32)) hx hb d_V_make_100 (by decide) ?_
        refine lv_icmp_eq (tgt := 114) hx hb d_V_make_101 (by decide) (fun hc => ?_) (fun hc => ?_)
        · have hf := jv_it hf hc
          refine lv_aload hx hb d_V_make_114 (lv_at hl 4 rfl) ?_
          refine va_get (D := (dC, dI)) (ci := kArea) (v := .ref (Q y3 6)) (C := R_Area) (T := T_Area) (N := 5) hx hb hts (fun w h => List.mem_cons_of_mem _ (in_Area w h)) hown hK (jv_open hP hy3) 1 rfl rfl 3 (by decide) (jv_w hts wa_315) (fun _ h9 => h9) rfl d_V_make_116 ?_
          refine lv_iload_n hx hb d_V_make_119 rfl (lv_at hl 2 rfl) ?_
          refine lv_iload_n hx hb d_V_make_120 rfl (lv_at hl 3 rfl) ?_
          obtain ⟨x20, g21, hf⟩ := jv_ob hf
          have hPj := jv_open hP hy3
          have hDj := jv_openD hD hy3
          have hPc := hPj.sub (ws' := (w_tree cI (Q y3 6) (Q y3 2) (Q y3 3) (Q y3 4) (Q y3 5) ((y5 y3).2.2.2.2.2.1) ((y5 y3).2.2.2.2.2.2.1) ((y5 y3).2.2.2.2.2.2.2) ((y5 y3).2.2.1) ((y5 y3).2.2.2.1) ((y5 y3).2.2.2.2.1))) [7, 3, 4, 5, 6] rfl
          have hDc := hDj.sub (ws' := (w_tree cI (Q y3 6) (Q y3 2) (Q y3 3) (Q y3 4) (Q y3 5) ((y5 y3).2.2.2.2.2.1) ((y5 y3).2.2.2.2.2.2.1) ((y5 y3).2.2.2.2.2.2.2) ((y5 y3).2.2.1) ((y5 y3).2.2.2.1) ((y5 y3).2.2.2.2.1))) [7, 3, 4, 5, 6] (by decide) rfl
          have hFc := va_free (wc := (w_tree cI (Q y3 6) (Q y3 2) (Q y3 3) (Q y3 4) (Q y3 5) ((y5 y3).2.2.2.2.2.1) ((y5 y3).2.2.2.2.2.2.1) ((y5 y3).2.2.2.2.2.2.2) ((y5 y3).2.2.1) ((y5 y3).2.2.2.1) ((y5 y3).2.2.2.2.1))) hDj hS hA [7, 3, 4, 5, 6] rfl
          refine jv_cwi (va_runV (As := [.int y0, .int y1]) (rest := []) (b := (Q y3 6)) ⟨hx, hb, hml, hown, hts⟩ (c_T_create l dC dI cI cA cL (Q y3 6) (Q y3 2) (Q y3 3) (Q y3 4) (Q y3 5) ((y5 y3).2.2.2.2.2.1) ((y5 y3).2.2.2.2.2.2.1) ((y5 y3).2.2.2.2.2.2.2) ((y5 y3).2.2.1) ((y5 y3).2.2.2.1) ((y5 y3).2.2.2.2.1) y0 y1 s.heap.size x20 g21) (jv_cwV hts wa_405 wa_78 wa_406 wa_407 wa_408 rfl rfl yd_T_create ⟨Nat.le_of_ble_eq_true rfl, Nat.le_of_ble_eq_true rfl⟩) (jv_preVW hK hPc hDc 0 rfl rfl) rfl rfl hl.1 rfl (lv_room (Nat.le_of_ble_eq_true rfl)) d_V_make_121 ⟨Nat.zero_le _, Nat.zero_le _⟩) hS hFc (fun H1 locs hP1 hD1 hk1 hS => ?_)
          obtain ⟨hPk, hDk⟩ := va_join (wc := (w_tree cI (Q y3 6) (Q y3 2) (Q y3 3) (Q y3 4) (Q y3 5) ((y5 y3).2.2.2.2.2.1) ((y5 y3).2.2.2.2.2.2.1) ((y5 y3).2.2.2.2.2.2.2) ((y5 y3).2.2.1) ((y5 y3).2.2.2.1) ((y5 y3).2.2.2.2.1))) (wr := [(q_fu, .inr (kFuse, [.int y4])), (Q y3 0, .inr (kArea, [.int (y5 y3).1, .ref (Q y3 1), .ref (Q y3 2), .ref (Q y3 6), .ref (Q y3 7)])), (Q y3 1, .inl (cI, 4, .inl (y5 y3).2.1)), (Q y3 7, .inr (kCont, [.ref (Q y3 2)]))]) (w1 := (w_tree cI (Q y3 6) (Q y3 2) (Q y3 3) (Q y3 4) (Q y3 5) ((y5 y3).2.2.2.2.2.1) ((y5 y3).2.2.2.2.2.2.1) ((y5 y3).2.2.2.2.2.2.2) ((y5 y3).2.2.1) x20.2 ((y5 y3).2.2.2.2.1))) hPj hDj [7, 3, 4, 5, 6] [0, 1, 2, 8] rfl rfl (by decide) (by decide) hk1 hFc hP1 hD1
          have hPk : va_P (dC, dI) vwCl (w_focus cI q_fu Q y3 y4 ((y5 y3).1, (y5 y3).2.1, (y5 y3).2.2.1, x20.2, (y5 y3).2.2.2.2.1, (y5 y3).2.2.2.2.2.1, (y5 y3).2.2.2.2.2.2.1, (y5 y3).2.2.2.2.2.2.2)) H1 := hPk.sub [0, 1, 2, 5, 6, 7, 8, 4, 3] rfl
          have hkk := jv_out (ws := (w_focus cI q_fu Q y3 y4 (y5 y3))) (wc := (w_tree cI (Q y3 6) (Q y3 2) (Q y3 3) (Q y3 4) (Q y3 5) ((y5 y3).2.2.2.2.2.1) ((y5 y3).2.2.2.2.2.2.1) ((y5 y3).2.2.2.2.2.2.2) ((y5 y3).2.2.1) ((y5 y3).2.2.2.1) ((y5 y3).2.2.2.2.1))) [7, 3, 4, 5, 6] rfl hk1
          obtain ⟨hP, hD⟩ := jv_close hP hD hy3 hkk hPk
          obtain ⟨A22, e23, hf⟩ := jv_le hf
          rw [← e23] at hP hD
          have hP : va_P (dC, dI) vwCl (w_vault cI cA q_va q_aa q_cl q_fu Q vn vC y4 A22) H1 := hP
          have hD : va_D A (w_vault cI cA q_va q_aa q_cl q_fu Q vn vC y4 A22) := hD
          generalize H1 = H at hP hS ⊢
          refine lv_istore (lv' := [(6, .int x20.1), (5, .int x14), (0, .ref q_va), (2, .int y0), (3, .int y1), (4, .ref (Q y3 0))]) hx hb d_V_make_124 hl (by decide) rfl (fun ls hl => ?_)
          refine lv_iload hx hb d_V_make_126 (lv_at hl 0 rfl) ?_
          refine lv_iconst (v := (-1 : Int32)) hx hb d_V_make_128 (by decide) ?_
          refine lv_icmp_ne (tgt := 140) hx hb d_V_make_129 (by decide) (fun hc => ?_) (fun hc => ?_)
          · have hf := jv_if hf hc
            refine lv_aload_n hx hb d_V_make_140 rfl (lv_at hl 2 rfl) ?_
            refine lv_aload hx hb d_V_make_141 (lv_at hl 5 rfl) ?_
            refine lv_iload hx hb d_V_make_143 (lv_at hl 0 rfl) ?_
            obtain ⟨x24, g25, hf⟩ := jv_ob hf
            have hFc := jv_fr hD hS hA
            refine jv_cwi (va_runV (As := [.ref (Q y3 0), .int x20.1]) (rest := []) (b := q_va) ⟨hx, hb, hml, hown, hts⟩ (c_V_finish l dC dI cI cA cL q_va q_aa q_cl q_fu Q vn vC y4 A22 y3 x20.1 hy3 H.size x24 g25) (jv_cwV hts wa_409 wa_303 wa_410 wa_411 wa_412 rfl rfl yd_V_finish ⟨Nat.le_of_ble_eq_true rfl, Nat.le_of_ble_eq_true rfl⟩) (jv_preVW hK hP hD 0 rfl rfl) rfl rfl hl.1 rfl (lv_room (Nat.le_of_ble_eq_true rfl)) d_V_make_145 ⟨Nat.zero_le _, Nat.zero_le _⟩) hS hFc (fun H1 locs hP hD1 hk1 hS => ?_)
            have hP : va_P (dC, dI) vwCl (w_vault cI cA q_va q_aa q_cl q_fu Q vn vC x24.2.1 x24.2.2) H1 := hP
            have hD : va_D A (w_vault cI cA q_va q_aa q_cl q_fu Q vn vC x24.2.1 x24.2.2) := hD1.weaken (fun _ q _ h => hFc q.1 h)
            generalize H1 = H at hP hS ⊢
            obtain rfl := Sum.inr.inj (Option.some.inj hf)
            exact W.iret hx hb hr (fun t ht hW => ⟨rfl, by rw [ht]; exact hP, hD, hS.F ht⟩) hS.2.2 d_V_make_148
          · have hf := jv_it hf hc
            refine lv_aload hx hb d_V_make_132 (lv_at hl 5 rfl) ?_
            obtain ⟨x26, g27, hf⟩ := jv_ob hf
            have hFc := jv_fr hD hS hA
            refine jv_cwi (va_runS (As := [.ref (Q y3 0)]) (rest := []) ⟨hx, hb, hml, hown, hts⟩ (c_V_giveUp l dC dI cI cA cL q_va q_aa q_cl q_fu Q vn vC y4 A22 y3 hy3 H.size x26 g27) (jv_cwS hts wa_413 wa_303 wa_414 wa_415 rfl rfl yd_V_giveUp ⟨Nat.le_of_ble_eq_true rfl, Nat.le_of_ble_eq_true rfl⟩) (jv_preSW hK hP hD) rfl rfl hl.1 rfl (lv_room (Nat.le_of_ble_eq_true rfl)) d_V_make_134 ⟨Nat.zero_le _, Nat.zero_le _⟩) hS hFc (fun H1 locs hP hD1 hk1 hS => ?_)
            have hP : va_P (dC, dI) vwCl (w_vault cI cA q_va q_aa q_cl q_fu Q vn vC y4 x26.2) H1 := hP
            have hD : va_D A (w_vault cI cA q_va q_aa q_cl q_fu Q vn vC y4 x26.2) := hD1.weaken (fun _ q _ h => hFc q.1 h)
            generalize H1 = H at hP hS ⊢
            refine lv_goto (tgt := 148) hx hb d_V_make_137 (by decide) ?_
            obtain rfl := Sum.inr.inj (Option.some.inj hf)
            exact W.iret hx hb hr (fun t ht hW => ⟨rfl, by rw [ht]; exact hP, hD, hS.F ht⟩) hS.2.2 d_V_make_148
        · have hf := jv_if hf hc
          cases Option.some.inj hf
      · have hf := jv_if hf hc
        cases Option.some.inj hf
  · have hf := jv_it hf hc
    cases Option.some.inj hf
def f_V_make_0 (vn : Nat) (y0 : Int32) (y1 : Int32) (y2 : Int32) (y3 : Int32) (y4 : Nat → jv_ar) : Option (Nat ⊕ (Int32 × Int32 × (Nat → jv_ar))) :=
  (f_V_areaOf vn y4 y0).bind fun x1 => jv_se x1 fun v3 => if v3 < vn then ((f_P_isBelowRoot y1).bind fun x6 => if x6 = 0 then (f_V_make_29 vn y1 y2 (0 : Int32) v3 y3 y4) else (if y2 = (1 : Int32) then (f_V_make_29 vn y1 y2 (1 : Int32) v3 y3 y4) else (if y2 = (2 : Int32) then (f_V_make_29 vn y1 y2 (1 : Int32) v3 y3 y4) else (f_V_make_29 vn y1 y2 (0 : Int32) v3 y3 y4)))) else none
set_option maxHeartbeats 4000000 in
set_option maxRecDepth 100000 in
theorem b_V_make_0 {l : Launch} {dC : Nat → ClassId} {dI : Nat → Nat → Nat} {cI cA cL : ClassId} {q_va q_aa q_cl q_fu : Nat} {Q : Nat → Nat → Nat} {vn : Nat} {vC : Nat → Int32} {p : Program} {e : Env} {s : State} {m : MethodId} {args : Array Value} {below : List Frame} {meth : Method} {c : Code} (cx : jv_cx p s m args meth c cc_V_make 7 R_Vault (some .int) ws_V_make) (hK : va_K (dC, dI) vwCl (jv_ty cI cA cL) s) {A : Nat → Prop} (hA : ∀ q : Nat, s.heap.size ≤ q → A q) (hl9 : l.stackTraces = false) (hT : jv_th s) (hout : c.exceptionTable.isEmpty = true) {r : Int32 × Int32 × (Nat → jv_ar)} {y0 : Int32} {y1 : Int32} {y2 : Int32} {y3 : Int32} {y4 : Nat → jv_ar} {ls : Array Slot} (hl : lv_has ls 7 [(0, .ref q_va), (1, .int y0), (2, .int y1), (3, .int y2)]) (hP : va_P (dC, dI) vwCl (w_vault cI cA q_va q_aa q_cl q_fu Q vn vC y3 y4) s.heap) (hD : va_D A (w_vault cI cA q_va q_aa q_cl q_fu Q vn vC y3 y4)) (hf : f_V_make_0 vn y0 y1 y2 y3 y4 = some (Sum.inr r)) : W p l e rm_V_make s m args below meth c s.heap [] 0 0 (MQ below (jv_Qi r.1 (dC, dI) (w_vault cI cA q_va q_aa q_cl q_fu Q vn vC r.2.1 r.2.2) A) args s 0 0 A) (F0 m 0 ls []) := by
  unfold f_V_make_0 at hf
  obtain ⟨hx, hb, hml, hown, hts, hr, hlocks⟩ := id cx
  have hS : va_S A s.heap s.heap [] := va_S.rf
  refine lv_aload_n hx hb d_V_make_0 rfl (lv_at hl 0 rfl) ?_
  refine lv_iload_n hx hb d_V_make_1 rfl (lv_at hl 1 rfl) ?_
  obtain ⟨x1, g2, hf⟩ := jv_ob hf
  rcases x1 with k4 | v3
  · exact jv_ci hf
  have hf := jv_sr hf
  obtain ⟨hj5, hf⟩ := jv_gd hf
  refine jv_csr (W.runV (As := [.int y0]) (rest := []) (b := q_va) ⟨hx, hb, hml, hown, hts⟩ (c_V_areaOf l hl9 dC dI cI cA cL q_va q_aa q_cl q_fu Q vn vC y3 y4 y0 v3 g2) (jv_cwV hts wa_389 wa_303 wa_390 wa_391 wa_392 rfl rfl yd_V_areaOf ⟨Nat.le_of_ble_eq_true rfl, Nat.le_of_ble_eq_true rfl⟩) (jv_preVt hT hK hP 0 rfl rfl) rfl rfl hl.1 rfl (lv_room (Nat.le_of_ble_eq_true rfl)) d_V_make_2 ⟨Nat.zero_le _, Nat.zero_le _⟩) ?_
  refine lv_astore (lv' := [(4, .ref (Q v3 0)), (0, .ref q_va), (1, .int y0), (2, .int y1), (3, .int y2)]) hx hb d_V_make_5 hl (by decide) rfl (fun ls hl => ?_)
  refine lv_iload_n hx hb d_V_make_7 rfl (lv_at hl 3 rfl) ?_
  obtain ⟨x6, g7, hf⟩ := jv_ob hf
  refine jv_cs (W.runS (As := [.int y1]) (rest := []) ⟨hx, hb, hml, hown, hts⟩ (c_P_isBelowRoot l y1 x6 g7) (jv_cwS hts wa_397 wa_8 wa_398 wa_399 rfl rfl yd_P_isBelowRoot ⟨Nat.le_of_ble_eq_true rfl, Nat.le_of_ble_eq_true rfl⟩) jv_pre0 rfl rfl hl.1 rfl (lv_room (Nat.le_of_ble_eq_true rfl)) d_V_make_8 ⟨Nat.zero_le _, Nat.zero_le _⟩) ?_
  refine lv_if_eq (tgt := 28) hx hb d_V_make_11 (by decide) (fun hc => ?_) (fun hc => ?_)
  · have hf := jv_it hf hc
    refine lv_iconst (v := (0 : Int32)) hx hb d_V_make_28 (by decide) ?_
    exact b_V_make_29 (y0 := y1) (y1 := y2) (y2 := (0 : Int32)) (y3 := v3) (y4 := y3) (y5 := y4) (hy3 := hj5) cx hK hA hl9 hT hout (lv_sub hl [1, 3, 4, 0] rfl) hP hD hf
  · have hf := jv_if hf hc
    refine lv_iload_n hx hb d_V_make_14 rfl (lv_at hl 4 rfl) ?_
    refine lv_iconst (v := (1 : Int32)) hx hb d_V_make_15 (by decide) ?_
    refine lv_icmp_eq (tgt := 24) hx hb d_V_make_16 (by decide) (fun hc => ?_) (fun hc => ?_)
    · have hf := jv_it hf hc
      refine lv_iconst (v := (1 : Int32)) hx hb d_V_make_24 (by decide) ?_
      refine lv_goto (tgt := 29) hx hb d_V_make_25 (by decide) ?_
      exact b_V_make_29 (y0 := y1) (y1 := y2) (y2 := (1 : Int32)) (y3 := v3) (y4 := y3) (y5 := y4) (hy3 := hj5) cx hK hA hl9 hT hout (lv_sub hl [1, 3, 4, 0] rfl) hP hD hf
    · have hf := jv_if hf hc
      refine lv_iload_n hx hb d_V_make_19 rfl (lv_at hl 4 rfl) ?_
      refine lv_iconst (v := (2 : Int32)) hx hb d_V_make_20 (by decide) ?_
      refine lv_icmp_ne (tgt := 28) hx hb d_V_make_21 (by decide) (fun hc => ?_) (fun hc => ?_)
      · have hf := jv_if hf hc
        refine lv_iconst (v := (0 : Int32)) hx hb d_V_make_28 (by decide) ?_
        exact b_V_make_29 (y0 := y1) (y1 := y2) (y2 := (0 : Int32)) (y3 := v3) (y4 := y3) (y5 := y4) (hy3 := hj5) cx hK hA hl9 hT hout (lv_sub hl [1, 3, 4, 0] rfl) hP hD hf
      · have hf := jv_it hf hc
        refine lv_iconst (v := (1 : Int32)) hx hb d_V_make_24 (by decide) ?_
        refine lv_goto (tgt := 29) hx hb d_V_make_25 (by decide) ?_
        exact b_V_make_29 (y0 := y1) (y1 := y2) (y2 := (1 : Int32)) (y3 := v3) (y4 := y3) (y5 := y4) (hy3 := hj5) cx hK hA hl9 hT hout (lv_sub hl [1, 3, 4, 0] rfl) hP hD hf
def f_V_make (vn : Nat) (a0 : Int32) (a1 : Int32) (a2 : Int32) (vat : Int32) (ars : Nat → jv_ar) : Option (Nat ⊕ (Int32 × Int32 × (Nat → jv_ar))) := f_V_make_0 vn a0 a1 a2 vat ars
set_option maxHeartbeats 4000000 in
set_option maxRecDepth 100000 in
theorem c_V_make (l : Launch) (hl9 : l.stackTraces = false) (dC : Nat → ClassId) (dI : Nat → Nat → Nat) (cI cA cL : ClassId) (q_va q_aa q_cl q_fu : Nat) (Q : Nat → Nat → Nat) (vn : Nat) (vC : Nat → Int32) (vat : Int32) (ars : Nat → jv_ar) (a0 : Int32) (a1 : Int32) (a2 : Int32) (sz : Nat) (r : Int32 × Int32 × (Nat → jv_ar)) (hf : f_V_make vn a0 a1 a2 vat ars = some (Sum.inr r)) : Met l y_V_make ws_V_make rm_V_make (jv_Pwt [.ref q_va, .int a0, .int a1, .int a2] (dC, dI) (jv_ty cI cA cL) (w_vault cI cA q_va q_aa q_cl q_fu Q vn vC vat ars) sz) (jv_Qi r.1 (dC, dI) (w_vault cI cA q_va q_aa q_cl q_fu Q vn vC r.2.1 r.2.2) (va_A (w_vault cI cA q_va q_aa q_cl q_fu Q vn vC vat ars) sz)) 0 0 (va_A (w_vault cI cA q_va q_aa q_cl q_fu Q vn vC vat ars) sz) := by
  refine Met.ofW (cc := cc_V_make) (maxL := 7) (ret := (some .int)) (by decide) rfl ?_
  intro p e s m args below meth c s₁ B hml hv
  obtain ⟨rfl, hsz, hP, hK, hD0, hT⟩ := hv
  have cx : jv_cx p s m _ meth c cc_V_make 7 R_Vault (some .int) ws_V_make := ⟨B.exec, B.bytes, hml, findClass_of_methodNamed B.named, atoms_spec (ws := ws_V_make) B.pre, B.returns, B.notSynchronized⟩
  have hout : c.exceptionTable.isEmpty = true := B.noHandlers (atoms_spec (ws := ws_V_make) B.pre _ List.mem_cons_self)
  subst hsz
  have hD := hD0.self (sz := s.heap.size)
  generalize hAe : va_A (w_vault cI cA q_va q_aa q_cl q_fu Q vn vC vat ars) s.heap.size = A at hD ⊢
  have hA : ∀ q : Nat, s.heap.size ≤ q → A q := fun q h => by rw [← hAe]; exact Or.inr h
  have hS : va_S A s.heap s.heap [] := va_S.rf
  have hl := lv_entry ([.ref q_va, .int a0, .int a1, .int a2]) (n := 7) (Nat.le_of_ble_eq_true rfl)
  rw [lg_entry_eq]
  generalize (lg_sl ([.ref q_va, .int a0, .int a1, .int a2]) ++ List.replicate (7 - (lg_sl ([.ref q_va, .int a0, .int a1, .int a2])).length) Slot.unset).toArray = ls at hl ⊢
  have hl : lv_has ls 7 [(0, .ref q_va), (1, .int a0), (2, .int a1), (3, .int a2)] := hl
  exact b_V_make_0 (y0 := a0) (y1 := a1) (y2 := a2) (y3 := vat) (y4 := ars) cx hK hA hl9 hT hout (lv_sub hl [0, 1, 2, 3] rfl) hP hD hf
set_option maxHeartbeats 4000000 in
set_option maxRecDepth 100000 in
theorem t_V_make_29 {l : Launch} {dC : Nat → ClassId} {dI : Nat → Nat → Nat} {cI cA cL : ClassId} {q_va q_aa q_cl q_fu : Nat} {Q : Nat → Nat → Nat} {vn : Nat} {vC : Nat → Int32} {p : Program} {e : Env} {s : State} {m : MethodId} {args : Array Value} {below : List Frame} {meth : Method} {c : Code} (cx : jv_cx p s m args meth c cc_V_make 7 R_Vault (some .int) ws_V_make) (hK : va_K (dC, dI) vwCl (jv_ty cI cA cL) s) (hl9 : l.stackTraces = false) (hT : jv_th s) (hout : c.exceptionTable.isEmpty = true) {kx : Nat} {y0 : Int32} {y1 : Int32} {y2 : Int32} {y3 : Nat} {y4 : Int32} {y5 : Nat → jv_ar} (hy3 : y3 < vn) {ls : Array Slot} (hl : lv_has ls 7 [(0, .ref q_va), (2, .int y0), (3, .int y1), (4, .ref (Q y3 0))]) (hP : va_P (dC, dI) vwCl (w_vault cI cA q_va q_aa q_cl q_fu Q vn vC y4 y5) s.heap) (hf : f_V_make_29 vn y0 y1 y2 y3 y4 y5 = some (Sum.inl kx)) : W p l e rx_V_make s m args below meth c s.heap [] 0 0 (jv_MQ below (jv_en kx) args s 1 6) (F0 m 29 ls [.int y2]) := by
  unfold f_V_make_29 at hf
  obtain ⟨hx, hb, hml, hown, hts, hr, hlocks⟩ := id cx
  obtain ⟨x8, g9, hf⟩ := jv_ob hf
  rcases x8 with k11 | v10
  · rw [jv_sl hf] at g9
    exact jv_xS (cells := 0) (slots := 0) (As := [.int y2]) (rest := []) ⟨hx, hb, hml, hown, hts⟩ (x_V_demand l hl9 y2 kx g9) (jv_cwS hts wa_321 wa_303 wa_322 wa_323 rfl rfl yd_V_demand ⟨Nat.le_of_ble_eq_true rfl, Nat.le_of_ble_eq_true rfl⟩) (jv_pre0t hT) rfl rfl hl.1 rfl (lv_room (Nat.le_of_ble_eq_true rfl)) d_V_make_29 ⟨Nat.le_of_ble_eq_true rfl, Nat.le_of_ble_eq_true rfl⟩ (fun x H1 hob => jv_leave hout hlocks hob)
  have hf := jv_sr hf
  refine jv_csv (W.runS (As := [.int y2]) (rest := []) ⟨hx, hb, hml, hown, hts⟩ (c_V_demand l hl9 y2 v10 g9) (jv_cwS hts wa_321 wa_303 wa_322 wa_323 rfl rfl yd_V_demand ⟨Nat.le_of_ble_eq_true rfl, Nat.le_of_ble_eq_true rfl⟩) (jv_pre0t hT) rfl rfl hl.1 rfl (lv_room (Nat.le_of_ble_eq_true rfl)) d_V_make_29 ⟨Nat.zero_le _, Nat.zero_le _⟩) ?_
  refine lv_aload_n hx hb d_V_make_32 rfl (lv_at hl 0 rfl) ?_
  refine lv_aload hx hb d_V_make_33 (lv_at hl 3 rfl) ?_
  refine va_get (D := (dC, dI)) (ci := kArea) (v := .int ((y5 y3).1)) (C := R_Area) (T := T_Area) (N := 5) hx hb hts (fun w h => List.mem_cons_of_mem _ (in_Area w h)) hown hK (jv_open hP hy3) 1 rfl rfl 0 (by decide) (jv_w hts wa_301) (fun _ h9 => h9) rfl d_V_make_35 ?_
  refine lv_iload_n hx hb d_V_make_38 rfl (lv_at hl 1 rfl) ?_
  obtain ⟨x12, g13, hf⟩ := jv_ob hf
  refine jv_cs (W.runS (As := [.int y0]) (rest := [.int ((y5 y3).1), .ref q_va]) ⟨hx, hb, hml, hown, hts⟩ (c_P_parentOf l y0 x12 g13) (jv_cwS hts wa_11 wa_8 wa_400 wa_13 rfl rfl yd_P_parentOf ⟨Nat.le_of_ble_eq_true rfl, Nat.le_of_ble_eq_true rfl⟩) jv_pre0 rfl rfl hl.1 rfl (lv_room (Nat.le_of_ble_eq_true rfl)) d_V_make_39 ⟨Nat.zero_le _, Nat.zero_le _⟩) ?_
  obtain ⟨x14, g15, hf⟩ := jv_ob hf
  refine jv_cs (W.runV (As := [.int ((y5 y3).1), .int x12]) (rest := []) (b := q_va) ⟨hx, hb, hml, hown, hts⟩ (c_V_kindsSeen l dC dI cI cA cL q_va q_aa q_cl q_fu Q vn vC y4 y5 ((y5 y3).1) x12 x14 g15) (jv_cwV hts wa_328 wa_303 wa_329 wa_330 wa_331 rfl rfl yd_V_kindsSeen ⟨Nat.le_of_ble_eq_true rfl, Nat.le_of_ble_eq_true rfl⟩) (jv_preV hK hP 0 rfl rfl) rfl rfl hl.1 rfl (lv_room (Nat.le_of_ble_eq_true rfl)) d_V_make_42 ⟨Nat.zero_le _, Nat.zero_le _⟩) ?_
  refine lv_istore (lv' := [(5, .int x14), (0, .ref q_va), (2, .int y0), (3, .int y1), (4, .ref (Q y3 0))]) hx hb d_V_make_45 hl (by decide) rfl (fun ls hl => ?_)
  refine lv_iload hx hb d_V_make_47 (lv_at hl 0 rfl) ?_
  refine lv_if_ne (tgt := 62) hx hb d_V_make_49 (by decide) (fun hc => ?_) (fun hc => ?_)
  · have hf := jv_if hf hc
    refine lv_iload hx hb d_V_make_62 (lv_at hl 0 rfl) ?_
    refine lv_iconst (v := (1 : Int32)) hx hb d_V_make_64 (by decide) ?_
    refine lv_iand hx hb d_V_make_65 ?_
    refine lv_if_eq (tgt := 81) hx hb d_V_make_66 (by decide) (fun hc => ?_) (fun hc => ?_)
    · have hf := jv_it hf hc
      obtain rfl := Sum.inl.inj (Option.some.inj hf)
      refine W.newc hx hb hown (jv_w hts wa_340) (jv_w hts wa_341) (jv_w hts wa_342) rfl d_V_make_81 (Nat.le_of_ble_eq_true rfl) (Nat.le_of_ble_eq_true rfl) (fun cC kC h1 h2 h3 h4 => ?_)
      refine W.eq (g2 := F0 m 84 ls (.ref s.heap.size :: [])) rfl ?_
      refine lv_dup hx hb d_V_make_84 rfl ?_
      obtain ⟨sa, hsa⟩ := hT.2.2 (113, "a file is on the way") (by decide +kernel)
      refine va_ldcS (own := R_Vault) hx hb hown hsa d_V_make_85 ?_
      exact jv_throwS (names := ["java/lang/RuntimeException", "java/lang/Exception"]) hx hb hl9 hlocks (hl.1.trans hml.symm) hown (by decide +kernel) (by decide +kernel) (jv_own hts hT oa_115) hout h1 h2 jv_fresh (Nat.le_refl _) d_V_make_87 d_V_make_90 (Nat.le_of_ble_eq_true rfl) (Nat.le_of_ble_eq_true rfl)
    · have hf := jv_if hf hc
      refine lv_aload hx hb d_V_make_69 (lv_at hl 4 rfl) ?_
      refine va_get (D := (dC, dI)) (ci := kArea) (v := .ref (Q y3 6)) (C := R_Area) (T := T_Area) (N := 5) hx hb hts (fun w h => List.mem_cons_of_mem _ (in_Area w h)) hown hK (jv_open hP hy3) 1 rfl rfl 3 (by decide) (jv_w hts wa_315) (fun _ h9 => h9) rfl d_V_make_71 ?_
      refine lv_iload_n hx hb d_V_make_74 rfl (lv_at hl 2 rfl) ?_
      obtain ⟨x16, g17, hf⟩ := jv_ob hf
      have hPc := (jv_open hP hy3).sub (ws' := (w_tree cI (Q y3 6) (Q y3 2) (Q y3 3) (Q y3 4) (Q y3 5) ((y5 y3).2.2.2.2.2.1) ((y5 y3).2.2.2.2.2.2.1) ((y5 y3).2.2.2.2.2.2.2) ((y5 y3).2.2.1) ((y5 y3).2.2.2.1) ((y5 y3).2.2.2.2.1))) [7, 3, 4, 5, 6] rfl
      refine jv_cs (W.runV (As := [.int y0]) (rest := []) (b := (Q y3 6)) ⟨hx, hb, hml, hown, hts⟩ (c_T_hasFileAbove l dC dI cI cA cL (Q y3 6) (Q y3 2) (Q y3 3) (Q y3 4) (Q y3 5) ((y5 y3).2.2.2.2.2.1) ((y5 y3).2.2.2.2.2.2.1) ((y5 y3).2.2.2.2.2.2.2) ((y5 y3).2.2.1) ((y5 y3).2.2.2.1) ((y5 y3).2.2.2.2.1) y0 x16 g17) (jv_cwV hts wa_401 wa_78 wa_402 wa_403 wa_404 rfl rfl yd_T_hasFileAbove ⟨Nat.le_of_ble_eq_true rfl, Nat.le_of_ble_eq_true rfl⟩) (jv_preV hK hPc 0 rfl rfl) rfl rfl hl.1 rfl (lv_room (Nat.le_of_ble_eq_true rfl)) d_V_make_75 ⟨Nat.zero_le _, Nat.zero_le _⟩) ?_
      refine lv_if_eq (tgt := 91) hx hb d_V_make_78 (by decide) (fun hc => ?_) (fun hc => ?_)
      · have hf := jv_it hf hc
        refine lv_aload hx hb d_V_make_91 (lv_at hl 4 rfl) ?_
        refine va_get (D := (dC, dI)) (ci := kArea) (v := .ref (Q y3 6)) (C := R_Area) (T := T_Area) (N := 5) hx hb hts (fun w h => List.mem_cons_of_mem _ (in_Area w h)) hown hK (jv_open hP hy3) 1 rfl rfl 3 (by decide) (jv_w hts wa_315) (fun _ h9 => h9) rfl d_V_make_93 ?_
        refine lv_iload_n hx hb d_V_make_96 rfl (lv_at hl 2 rfl) ?_
        obtain ⟨x18, g19, hf⟩ := jv_ob hf
        have hPc := (jv_open hP hy3).sub (ws' := (w_tree cI (Q y3 6) (Q y3 2) (Q y3 3) (Q y3 4) (Q y3 5) ((y5 y3).2.2.2.2.2.1) ((y5 y3).2.2.2.2.2.2.1) ((y5 y3).2.2.2.2.2.2.2) ((y5 y3).2.2.1) ((y5 y3).2.2.2.1) ((y5 y3).2.2.2.2.1))) [7, 3, 4, 5, 6] rfl
        refine jv_cs (W.runV (As := [.int y0]) (rest := []) (b := (Q y3 6)) ⟨hx, hb, hml, hown, hts⟩ (c_T_find l dC dI cI cA cL (Q y3 6) (Q y3 2) (Q y3 3) (Q y3 4) (Q y3 5) ((y5 y3).2.2.2.2.2.1) ((y5 y3).2.2.2.2.2.2.1) ((y5 y3).2.2.2.2.2.2.2) ((y5 y3).2.2.1) ((y5 y3).2.2.2.1) ((y5 y3).2.2.2.2.1) y0 x18 g19) (jv_cwV hts wa_82 wa_78 wa_332 wa_84 wa_85 rfl rfl yd_T_find ⟨Nat.le_of_ble_eq_true rfl, Nat.le_of_ble_eq_true rfl⟩) (jv_preV hK hPc 0 rfl rfl) rfl rfl hl.1 rfl (lv_room (Nat.le_of_ble_eq_true rfl)) d_V_make_97 ⟨Nat.zero_le _, Nat.zero_le _⟩) ?_
        refine lv_iconst (v := (-1 : Int32)) hx hb d_V_make_100 (by decide) ?_
        refine lv_icmp_eq (tgt := 114) hx hb d_V_make_101 (by decide) (fun hc => ?_) (fun hc => ?_)
        · have hf := jv_it hf hc
          refine lv_aload hx hb d_V_make_114 (lv_at hl 4 rfl) ?_
          refine va_get (D := (dC, dI)) (ci := kArea) (v := .ref (Q y3 6)) (C := R_Area) (T := T_Area) (N := 5) hx hb hts (fun w h => List.mem_cons_of_mem _ (in_Area w h)) hown hK (jv_open hP hy3) 1 rfl rfl 3 (by decide) (jv_w hts wa_315) (fun _ h9 => h9) rfl d_V_make_116 ?_
          refine lv_iload_n hx hb d_V_make_119 rfl (lv_at hl 2 rfl) ?_
          refine lv_iload_n hx hb d_V_make_120 rfl (lv_at hl 3 rfl) ?_
          obtain ⟨x20, g21, hf⟩ := jv_ob hf
          obtain ⟨A22, e23, hf⟩ := jv_le hf
          by_cases hc : x20.1 = (-1 : Int32)
          · have hf := jv_it hf hc
            obtain ⟨x26, g27, hf⟩ := jv_ob hf
            cases Option.some.inj hf
          · have hf := jv_if hf hc
            obtain ⟨x24, g25, hf⟩ := jv_ob hf
            cases Option.some.inj hf
        · have hf := jv_if hf hc
          obtain rfl := Sum.inl.inj (Option.some.inj hf)
          refine W.newc hx hb hown (jv_w hts wa_333) (jv_w hts wa_334) (jv_w hts wa_335) rfl d_V_make_104 (Nat.le_of_ble_eq_true rfl) (Nat.le_of_ble_eq_true rfl) (fun cC kC h1 h2 h3 h4 => ?_)
          refine W.eq (g2 := F0 m 107 ls (.ref s.heap.size :: [])) rfl ?_
          refine lv_dup hx hb d_V_make_107 rfl ?_
          obtain ⟨sa, hsa⟩ := hT.2.2 (119, "the area has this path") (by decide +kernel)
          refine va_ldcS (own := R_Vault) hx hb hown hsa d_V_make_108 ?_
          exact jv_throwS (names := ["java/lang/RuntimeException", "java/lang/Exception"]) hx hb hl9 hlocks (hl.1.trans hml.symm) hown (by decide +kernel) (by decide +kernel) (jv_own hts hT oa_47) hout h1 h2 jv_fresh (Nat.le_refl _) d_V_make_110 d_V_make_113 (Nat.le_of_ble_eq_true rfl) (Nat.le_of_ble_eq_true rfl)
      · have hf := jv_if hf hc
        obtain rfl := Sum.inl.inj (Option.some.inj hf)
        refine W.newc hx hb hown (jv_w hts wa_340) (jv_w hts wa_341) (jv_w hts wa_342) rfl d_V_make_81 (Nat.le_of_ble_eq_true rfl) (Nat.le_of_ble_eq_true rfl) (fun cC kC h1 h2 h3 h4 => ?_)
        refine W.eq (g2 := F0 m 84 ls (.ref s.heap.size :: [])) rfl ?_
        refine lv_dup hx hb d_V_make_84 rfl ?_
        obtain ⟨sa, hsa⟩ := hT.2.2 (113, "a file is on the way") (by decide +kernel)
        refine va_ldcS (own := R_Vault) hx hb hown hsa d_V_make_85 ?_
        exact jv_throwS (names := ["java/lang/RuntimeException", "java/lang/Exception"]) hx hb hl9 hlocks (hl.1.trans hml.symm) hown (by decide +kernel) (by decide +kernel) (jv_own hts hT oa_115) hout h1 h2 jv_fresh (Nat.le_refl _) d_V_make_87 d_V_make_90 (Nat.le_of_ble_eq_true rfl) (Nat.le_of_ble_eq_true rfl)
  · have hf := jv_it hf hc
    obtain rfl := Sum.inl.inj (Option.some.inj hf)
    refine W.newc hx hb hown (jv_w hts wa_336) (jv_w hts wa_337) (jv_w hts wa_338) rfl d_V_make_52 (Nat.le_of_ble_eq_true rfl) (Nat.le_of_ble_eq_true rfl) (fun cC kC h1 h2 h3 h4 => ?_)
    refine W.eq (g2 := F0 m 55 ls (.ref s.heap.size :: [])) rfl ?_
    refine lv_dup hx hb d_V_make_55 rfl ?_
    obtain ⟨sa, hsa⟩ := hT.2.2 (99, "the parent is not visible") (by decide +kernel)
    refine va_ldcS (own := R_Vault) hx hb hown hsa d_V_make_56 ?_
    exact jv_throwN (Y := "java/lang/RuntimeException") (names := ["java/lang/Exception"]) (idx := 13) hx hb hl9 hlocks (hl.1.trans hml.symm) hown (by decide +kernel) (by decide +kernel) (by decide +kernel) (by decide +kernel) (jv_ownN hts hT oa_101) hout h1 h2 jv_fresh (Nat.le_refl _) d_V_make_58 d_V_make_61 (Nat.le_of_ble_eq_true rfl) (Nat.le_of_ble_eq_true rfl)
set_option maxHeartbeats 4000000 in
set_option maxRecDepth 100000 in
theorem t_V_make_0 {l : Launch} {dC : Nat → ClassId} {dI : Nat → Nat → Nat} {cI cA cL : ClassId} {q_va q_aa q_cl q_fu : Nat} {Q : Nat → Nat → Nat} {vn : Nat} {vC : Nat → Int32} {p : Program} {e : Env} {s : State} {m : MethodId} {args : Array Value} {below : List Frame} {meth : Method} {c : Code} (cx : jv_cx p s m args meth c cc_V_make 7 R_Vault (some .int) ws_V_make) (hK : va_K (dC, dI) vwCl (jv_ty cI cA cL) s) (hl9 : l.stackTraces = false) (hT : jv_th s) (hout : c.exceptionTable.isEmpty = true) {kx : Nat} {y0 : Int32} {y1 : Int32} {y2 : Int32} {y3 : Int32} {y4 : Nat → jv_ar} {ls : Array Slot} (hl : lv_has ls 7 [(0, .ref q_va), (1, .int y0), (2, .int y1), (3, .int y2)]) (hP : va_P (dC, dI) vwCl (w_vault cI cA q_va q_aa q_cl q_fu Q vn vC y3 y4) s.heap) (hf : f_V_make_0 vn y0 y1 y2 y3 y4 = some (Sum.inl kx)) : W p l e rx_V_make s m args below meth c s.heap [] 0 0 (jv_MQ below (jv_en kx) args s 1 6) (F0 m 0 ls []) := by
  unfold f_V_make_0 at hf
  obtain ⟨hx, hb, hml, hown, hts, hr, hlocks⟩ := id cx
  refine lv_aload_n hx hb d_V_make_0 rfl (lv_at hl 0 rfl) ?_
  refine lv_iload_n hx hb d_V_make_1 rfl (lv_at hl 1 rfl) ?_
  obtain ⟨x1, g2, hf⟩ := jv_ob hf
  rcases x1 with k4 | v3
  · rw [jv_sl hf] at g2
    exact jv_xV (cells := 0) (slots := 0) (As := [.int y0]) (rest := []) (b := q_va) ⟨hx, hb, hml, hown, hts⟩ (x_V_areaOf l hl9 dC dI cI cA cL q_va q_aa q_cl q_fu Q vn vC y3 y4 y0 kx g2) (jv_cwV hts wa_389 wa_303 wa_390 wa_391 wa_392 rfl rfl yd_V_areaOf ⟨Nat.le_of_ble_eq_true rfl, Nat.le_of_ble_eq_true rfl⟩) (jv_preVt hT hK hP 0 rfl rfl) rfl rfl hl.1 rfl (lv_room (Nat.le_of_ble_eq_true rfl)) d_V_make_2 ⟨Nat.le_of_ble_eq_true rfl, Nat.le_of_ble_eq_true rfl⟩ (fun x H1 hob => jv_leave hout hlocks hob)
  have hf := jv_sr hf
  obtain ⟨hj5, hf⟩ := jv_gd hf
  refine jv_csr (W.runV (As := [.int y0]) (rest := []) (b := q_va) ⟨hx, hb, hml, hown, hts⟩ (c_V_areaOf l hl9 dC dI cI cA cL q_va q_aa q_cl q_fu Q vn vC y3 y4 y0 v3 g2) (jv_cwV hts wa_389 wa_303 wa_390 wa_391 wa_392 rfl rfl yd_V_areaOf ⟨Nat.le_of_ble_eq_true rfl, Nat.le_of_ble_eq_true rfl⟩) (jv_preVt hT hK hP 0 rfl rfl) rfl rfl hl.1 rfl (lv_room (Nat.le_of_ble_eq_true rfl)) d_V_make_2 ⟨Nat.zero_le _, Nat.zero_le _⟩) ?_
  refine lv_astore (lv' := [(4, .ref (Q v3 0)), (0, .ref q_va), (1, .int y0), (2, .int y1), (3, .int y2)]) hx hb d_V_make_5 hl (by decide) rfl (fun ls hl => ?_)
  refine lv_iload_n hx hb d_V_make_7 rfl (lv_at hl 3 rfl) ?_
  obtain ⟨x6, g7, hf⟩ := jv_ob hf
  refine jv_cs (W.runS (As := [.int y1]) (rest := []) ⟨hx, hb, hml, hown, hts⟩ (c_P_isBelowRoot l y1 x6 g7) (jv_cwS hts wa_397 wa_8 wa_398 wa_399 rfl rfl yd_P_isBelowRoot ⟨Nat.le_of_ble_eq_true rfl, Nat.le_of_ble_eq_true rfl⟩) jv_pre0 rfl rfl hl.1 rfl (lv_room (Nat.le_of_ble_eq_true rfl)) d_V_make_8 ⟨Nat.zero_le _, Nat.zero_le _⟩) ?_
  refine lv_if_eq (tgt := 28) hx hb d_V_make_11 (by decide) (fun hc => ?_) (fun hc => ?_)
  · have hf := jv_it hf hc
    refine lv_iconst (v := (0 : Int32)) hx hb d_V_make_28 (by decide) ?_
    exact t_V_make_29 (y0 := y1) (y1 := y2) (y2 := (0 : Int32)) (y3 := v3) (y4 := y3) (y5 := y4) (hy3 := hj5) cx hK hl9 hT hout (lv_sub hl [1, 3, 4, 0] rfl) hP hf
  · have hf := jv_if hf hc
    refine lv_iload_n hx hb d_V_make_14 rfl (lv_at hl 4 rfl) ?_
    refine lv_iconst (v := (1 : Int32)) hx hb d_V_make_15 (by decide) ?_
    refine lv_icmp_eq (tgt := 24) hx hb d_V_make_16 (by decide) (fun hc => ?_) (fun hc => ?_)
    · have hf := jv_it hf hc
      refine lv_iconst (v := (1 : Int32)) hx hb d_V_make_24 (by decide) ?_
      refine lv_goto (tgt := 29) hx hb d_V_make_25 (by decide) ?_
      exact t_V_make_29 (y0 := y1) (y1 := y2) (y2 := (1 : Int32)) (y3 := v3) (y4 := y3) (y5 := y4) (hy3 := hj5) cx hK hl9 hT hout (lv_sub hl [1, 3, 4, 0] rfl) hP hf
    · have hf := jv_if hf hc
      refine lv_iload_n hx hb d_V_make_19 rfl (lv_at hl 4 rfl) ?_
      refine lv_iconst (v := (2 : Int32)) hx hb d_V_make_20 (by decide) ?_
      refine lv_icmp_ne (tgt := 28) hx hb d_V_make_21 (by decide) (fun hc => ?_) (fun hc => ?_)
      · have hf := jv_if hf hc
        refine lv_iconst (v := (0 : Int32)) hx hb d_V_make_28 (by decide) ?_
        exact t_V_make_29 (y0 := y1) (y1 := y2) (y2 := (0 : Int32)) (y3 := v3) (y4 := y3) (y5 := y4) (hy3 := hj5) cx hK hl9 hT hout (lv_sub hl [1, 3, 4, 0] rfl) hP hf
      · have hf := jv_it hf hc
        refine lv_iconst (v := (1 : Int32)) hx hb d_V_make_24 (by decide) ?_
        refine lv_goto (tgt := 29) hx hb d_V_make_25 (by decide) ?_
        exact t_V_make_29 (y0 := y1) (y1 := y2) (y2 := (1 : Int32)) (y3 := v3) (y4 := y3) (y5 := y4) (hy3 := hj5) cx hK hl9 hT hout (lv_sub hl [1, 3, 4, 0] rfl) hP hf
set_option maxHeartbeats 4000000 in
set_option maxRecDepth 100000 in
theorem x_V_make (l : Launch) (hl9 : l.stackTraces = false) (dC : Nat → ClassId) (dI : Nat → Nat → Nat) (cI cA cL : ClassId) (q_va q_aa q_cl q_fu : Nat) (Q : Nat → Nat → Nat) (vn : Nat) (vC : Nat → Int32) (vat : Int32) (ars : Nat → jv_ar) (a0 : Int32) (a1 : Int32) (a2 : Int32) (kx : Nat) (hf : f_V_make vn a0 a1 a2 vat ars = some (Sum.inl kx)) : jv_MX l y_V_make ws_V_make rx_V_make (jv_Prt [.ref q_va, .int a0, .int a1, .int a2] (dC, dI) (jv_ty cI cA cL) (w_vault cI cA q_va q_aa q_cl q_fu Q vn vC vat ars)) (jv_en kx) 1 6 := by
  refine jv_MX.ofW (cc := cc_V_make) (maxL := 7) (ret := (some .int)) (by decide) rfl ?_
  intro p e s m args below meth c s₁ B hml hv
  obtain ⟨rfl, hP, hK, hT⟩ := hv
  have cx : jv_cx p s m _ meth c cc_V_make 7 R_Vault (some .int) ws_V_make := ⟨B.exec, B.bytes, hml, findClass_of_methodNamed B.named, atoms_spec (ws := ws_V_make) B.pre, B.returns, B.notSynchronized⟩
  have hout : c.exceptionTable.isEmpty = true := B.noHandlers (atoms_spec (ws := ws_V_make) B.pre _ List.mem_cons_self)
  have hl := lv_entry ([.ref q_va, .int a0, .int a1, .int a2]) (n := 7) (Nat.le_of_ble_eq_true rfl)
  rw [lg_entry_eq]
  generalize (lg_sl ([.ref q_va, .int a0, .int a1, .int a2]) ++ List.replicate (7 - (lg_sl ([.ref q_va, .int a0, .int a1, .int a2])).length) Slot.unset).toArray = ls at hl ⊢
  have hl : lv_has ls 7 [(0, .ref q_va), (1, .int a0), (2, .int a1), (3, .int a2)] := hl
  exact t_V_make_0 (y0 := a0) (y1 := a1) (y2 := a2) (y3 := vat) (y4 := ars) cx hK hl9 hT hout (lv_sub hl [0, 1, 2, 3] rfl) hP hf
theorem d_V_write_0 : decode cc_V_write 0 = .ok (.aload_n 0, 1) := by decide +kernel
theorem d_V_write_1 : decode cc_V_write 1 = .ok (.iload_n 1, 1) := by decide +kernel
theorem d_V_write_2 : decode cc_V_write 2 = .ok (.invokevirtual 79, 3) := by decide +kernel
theorem d_V_write_5 : decode cc_V_write 5 = .ok (.astore 5, 2) := by decide +kernel
theorem d_V_write_7 : decode cc_V_write 7 = .ok (.iload_n 2, 1) := by decide +kernel
theorem d_V_write_8 : decode cc_V_write 8 = .ok (.invokestatic 132, 3) := by decide +kernel
theorem d_V_write_11 : decode cc_V_write 11 = .ok (.ifCond .eq 17, 3) := by decide +kernel
theorem d_V_write_28 : decode cc_V_write 28 = .ok (.iconst 0, 1) := by decide +kernel
theorem d_V_write_14 : decode cc_V_write 14 = .ok (.iload_n 3, 1) := by decide +kernel
theorem d_V_write_15 : decode cc_V_write 15 = .ok (.ifCond .lt 13, 3) := by decide +kernel
theorem d_V_write_18 : decode cc_V_write 18 = .ok (.iload_n 3, 1) := by decide +kernel
theorem d_V_write_19 : decode cc_V_write 19 = .ok (.bipush 80, 2) := by decide +kernel
theorem d_V_write_21 : decode cc_V_write 21 = .ok (.if_icmp .ge 7, 3) := by decide +kernel
theorem d_V_write_24 : decode cc_V_write 24 = .ok (.iconst 1, 1) := by decide +kernel
theorem d_V_write_25 : decode cc_V_write 25 = .ok (.goto 4, 3) := by decide +kernel
theorem d_V_write_29 : decode cc_V_write 29 = .ok (.invokestatic 36, 3) := by decide +kernel
theorem d_V_write_32 : decode cc_V_write 32 = .ok (.aload_n 0, 1) := by decide +kernel
theorem d_V_write_33 : decode cc_V_write 33 = .ok (.aload 5, 2) := by decide +kernel
theorem d_V_write_35 : decode cc_V_write 35 = .ok (.iload_n 2, 1) := by decide +kernel
theorem d_V_write_36 : decode cc_V_write 36 = .ok (.invokevirtual 137, 3) := by decide +kernel
theorem d_V_write_39 : decode cc_V_write 39 = .ok (.istore 6, 2) := by decide +kernel
theorem d_V_write_41 : decode cc_V_write 41 = .ok (.aload 5, 2) := by decide +kernel
theorem d_V_write_43 : decode cc_V_write 43 = .ok (.iload 6, 2) := by decide +kernel
theorem d_V_write_45 : decode cc_V_write 45 = .ok (.invokestatic 140, 3) := by decide +kernel
theorem d_V_write_48 : decode cc_V_write 48 = .ok (.aload 5, 2) := by decide +kernel
theorem d_V_write_50 : decode cc_V_write 50 = .ok (.getfield 144, 3) := by decide +kernel
theorem d_V_write_53 : decode cc_V_write 53 = .ok (.iload 6, 2) := by decide +kernel
theorem d_V_write_55 : decode cc_V_write 55 = .ok (.iload_n 3, 1) := by decide +kernel
theorem d_V_write_56 : decode cc_V_write 56 = .ok (.iload 4, 2) := by decide +kernel
theorem d_V_write_58 : decode cc_V_write 58 = .ok (.invokevirtual 148, 3) := by decide +kernel
theorem d_V_write_61 : decode cc_V_write 61 = .ok (.ifCond .ne 9, 3) := by decide +kernel
theorem d_V_write_70 : decode cc_V_write 70 = .ok (.aload_n 0, 1) := by decide +kernel
theorem d_V_write_71 : decode cc_V_write 71 = .ok (.aload 5, 2) := by decide +kernel
theorem d_V_write_73 : decode cc_V_write 73 = .ok (.aload 5, 2) := by decide +kernel
theorem d_V_write_75 : decode cc_V_write 75 = .ok (.getfield 144, 3) := by decide +kernel
theorem d_V_write_78 : decode cc_V_write 78 = .ok (.iload 6, 2) := by decide +kernel
theorem d_V_write_80 : decode cc_V_write 80 = .ok (.invokevirtual 152, 3) := by decide +kernel
theorem d_V_write_83 : decode cc_V_write 83 = .ok (.invokevirtual 128, 3) := by decide +kernel
theorem d_V_write_86 : decode cc_V_write 86 = .ok (.ireturn, 1) := by decide +kernel
theorem d_V_write_64 : decode cc_V_write 64 = .ok (.aload 5, 2) := by decide +kernel
theorem d_V_write_66 : decode cc_V_write 66 = .ok (.invokestatic 124, 3) := by decide +kernel
theorem d_V_write_69 : decode cc_V_write 69 = .ok (.ireturn, 1) := by decide +kernel
def f_V_write_29 (vn : Nat) (y0 : Int32) (y1 : Int32) (y2 : Int32) (y3 : Int32) (y4 : Nat) (y5 : Int32) (y6 : Nat → jv_ar) : Option (Nat ⊕ (Int32 × Int32 × (Nat → jv_ar))) :=
  (f_V_demand y3).bind fun x8 => jv_se x8 fun v10 => (f_V_ownInode vn y6 y4 y0).bind fun x12 => jv_se x12 fun v14 => (f_V_demandFile y6 y4 v14).bind fun x16 => jv_se x16 fun v18 => (f_C_store v14 y1 y2 ((y6 y4).2.2.2.1)).bind fun x20 => jv_lt (va_up y6 y4 ((y6 y4).1, (y6 y4).2.1, (y6 y4).2.2.1, x20.2, (y6 y4).2.2.2.2.1, (y6 y4).2.2.2.2.2.1, (y6 y4).2.2.2.2.2.2.1, (y6 y4).2.2.2.2.2.2.2)) fun A22 => if x20.1 = 0 then ((f_V_giveUp y4 A22).bind fun x28 => some (Sum.inr (x28.1, y5, x28.2))) else ((f_C_sizeOf ((A22 y4).2.2.2.1) v14).bind fun x24 => (f_V_finish vn y4 x24 y5 A22).bind fun x26 => some (Sum.inr (x26.1, x26.2.1, x26.2.2)))
set_option maxHeartbeats 4000000 in
set_option maxRecDepth 100000 in
theorem b_V_write_29 {l : Launch} {dC : Nat → ClassId} {dI : Nat → Nat → Nat} {cI cA cL : ClassId} {q_va q_aa q_cl q_fu : Nat} {Q : Nat → Nat → Nat} {vn : Nat} {vC : Nat → Int32} {p : Program} {e : Env} {s : State} {m : MethodId} {args : Array Value} {below : List Frame} {meth : Method} {c : Code} (cx : jv_cx p s m args meth c cc_V_write 7 R_Vault (some .int) ws_V_write) (hK : va_K (dC, dI) vwCl (jv_ty cI cA cL) s) {A : Nat → Prop} (hA : ∀ q : Nat, s.heap.size ≤ q → A q) (hl9 : l.stackTraces = false) (hT : jv_th s) (hout : c.exceptionTable.isEmpty = true) {r : Int32 × Int32 × (Nat → jv_ar)} {y0 : Int32} {y1 : Int32} {y2 : Int32} {y3 : Int32} {y4 : Nat} {y5 : Int32} {y6 : Nat → jv_ar} (hy4 : y4 < vn) {ls : Array Slot} (hl : lv_has ls 7 [(0, .ref q_va), (2, .int y0), (3, .int y1), (4, .int y2), (5, .ref (Q y4 0))]) (hP : va_P (dC, dI) vwCl (w_vault cI cA q_va q_aa q_cl q_fu Q vn vC y5 y6) s.heap) (hD : va_D A (w_vault cI cA q_va q_aa q_cl q_fu Q vn vC y5 y6)) (hf : f_V_write_29 vn y0 y1 y2 y3 y4 y5 y6 = some (Sum.inr r)) : W p l e rm_V_write s m args below meth c s.heap [] 0 0 (MQ below (jv_Qi r.1 (dC, dI) (w_vault cI cA q_va q_aa q_cl q_fu Q vn vC r.2.1 r.2.2) A) args s 0 0 A) (F0 m 29 ls [.int y3]) := by
  unfold f_V_write_29 at hf
  obtain ⟨hx, hb, hml, hown, hts, hr, hlocks⟩ := id cx
  have hS : va_S A s.heap s.heap [] := va_S.rf
  obtain ⟨x8, g9, hf⟩ := jv_ob hf
  rcases x8 with k11 | v10
  · exact jv_ci hf
  have hf := jv_sr hf
  refine jv_csv (W.runS (As := [.int y3]) (rest := []) ⟨hx, hb, hml, hown, hts⟩ (c_V_demand l hl9 y3 v10 g9) (jv_cwS hts wa_321 wa_303 wa_322 wa_323 rfl rfl yd_V_demand ⟨Nat.le_of_ble_eq_true rfl, Nat.le_of_ble_eq_true rfl⟩) (jv_pre0t hT) rfl rfl hl.1 rfl (lv_room (Nat.le_of_ble_eq_true rfl)) d_V_write_29 ⟨Nat.zero_le _, Nat.zero_le _⟩) ?_
  refine lv_aload_n hx hb d_V_write_32 rfl (lv_at hl 0 rfl) ?_
  refine lv_aload hx hb d_V_write_33 (lv_at hl 4 rfl) ?_
  refine lv_iload_n hx hb d_V_write_35 rfl (lv_at hl 1 rfl) ?_
  obtain ⟨x12, g13, hf⟩ := jv_ob hf
  rcases x12 with k15 | v14
  · exact jv_ci hf
  have hf := jv_sr hf
  refine jv_cs (W.runV (As := [.ref (Q y4 0), .int y0]) (rest := []) (b := q_va) ⟨hx, hb, hml, hown, hts⟩ (c_V_ownInode l hl9 dC dI cI cA cL q_va q_aa q_cl q_fu Q vn vC y5 y6 y4 y0 hy4 v14 g13) (jv_cwV hts wa_417 wa_303 wa_418 wa_419 wa_420 rfl rfl yd_V_ownInode ⟨Nat.le_of_ble_eq_true rfl, Nat.le_of_ble_eq_true rfl⟩) (jv_preVt hT hK hP 0 rfl rfl) rfl rfl hl.1 rfl (lv_room (Nat.le_of_ble_eq_true rfl)) d_V_write_36 ⟨Nat.zero_le _, Nat.zero_le _⟩) ?_
  refine lv_istore (lv' := [(6, .int v14), (0, .ref q_va), (2, .int y0), (3, .int y1), (4, .int y2), (5, .ref (Q y4 0))]) hx hb d_V_write_39 hl (by decide) rfl (fun ls hl => ?_)
  refine lv_aload hx hb d_V_write_41 (lv_at hl 5 rfl) ?_
  refine lv_iload hx hb d_V_write_43 (lv_at hl 0 rfl) ?_
  obtain ⟨x16, g17, hf⟩ := jv_ob hf
  rcases x16 with k19 | v18
  · exact jv_ci hf
  have hf := jv_sr hf
  refine jv_csv (W.runS (As := [.ref (Q y4 0), .int v14]) (rest := []) ⟨hx, hb, hml, hown, hts⟩ (c_V_demandFile l hl9 dC dI cI cA cL q_va q_aa q_cl q_fu Q vn vC y5 y6 y4 v14 hy4 v18 g17) (jv_cwS hts wa_343 wa_303 wa_344 wa_345 rfl rfl yd_V_demandFile ⟨Nat.le_of_ble_eq_true rfl, Nat.le_of_ble_eq_true rfl⟩) (jv_preSt hT hK hP) rfl rfl hl.1 rfl (lv_room (Nat.le_of_ble_eq_true rfl)) d_V_write_45 ⟨Nat.zero_le _, Nat.zero_le _⟩) ?_
  refine lv_aload hx hb d_V_write_48 (lv_at hl 5 rfl) ?_
  refine va_get (D := (dC, dI)) (ci := kArea) (v := .ref (Q y4 7)) (C := R_Area) (T := T_Area) (N := 5) hx hb hts (fun w h => List.mem_cons_of_mem _ (in_Area w h)) hown hK (jv_open hP hy4) 1 rfl rfl 4 (by decide) (jv_w hts wa_421) (fun _ h9 => h9) rfl d_V_write_50 ?_
  refine lv_iload hx hb d_V_write_53 (lv_at hl 0 rfl) ?_
  refine lv_iload_n hx hb d_V_write_55 rfl (lv_at hl 3 rfl) ?_
  refine lv_iload hx hb d_V_write_56 (lv_at hl 4 rfl) ?_
  obtain ⟨x20, g21, hf⟩ := jv_ob hf
  have hPj := jv_open hP hy4
  have hDj := jv_openD hD hy4
  have hPc := hPj.sub (ws' := (w_cont cI (Q y4 7) (Q y4 2) (Q y4 3) (Q y4 4) (Q y4 5) ((y6 y4).2.2.2.2.2.1) ((y6 y4).2.2.2.2.2.2.1) ((y6 y4).2.2.2.2.2.2.2) ((y6 y4).2.2.1) ((y6 y4).2.2.2.1) ((y6 y4).2.2.2.2.1))) [8, 3, 4, 5, 6] rfl
  have hDc := hDj.sub (ws' := (w_cont cI (Q y4 7) (Q y4 2) (Q y4 3) (Q y4 4) (Q y4 5) ((y6 y4).2.2.2.2.2.1) ((y6 y4).2.2.2.2.2.2.1) ((y6 y4).2.2.2.2.2.2.2) ((y6 y4).2.2.1) ((y6 y4).2.2.2.1) ((y6 y4).2.2.2.2.1))) [8, 3, 4, 5, 6] (by decide) rfl
  have hFc := va_free (wc := (w_cont cI (Q y4 7) (Q y4 2) (Q y4 3) (Q y4 4) (Q y4 5) ((y6 y4).2.2.2.2.2.1) ((y6 y4).2.2.2.2.2.2.1) ((y6 y4).2.2.2.2.2.2.2) ((y6 y4).2.2.1) ((y6 y4).2.2.2.1) ((y6 y4).2.2.2.2.1))) hDj hS hA [8, 3, 4, 5, 6] rfl
  refine jv_cwi (va_runV (As := [.int v14, .int y1, .int y2]) (rest := []) (b := (Q y4 7)) ⟨hx, hb, hml, hown, hts⟩ (c_C_store l dC dI cI cA cL (Q y4 7) (Q y4 2) (Q y4 3) (Q y4 4) (Q y4 5) ((y6 y4).2.2.2.2.2.1) ((y6 y4).2.2.2.2.2.2.1) ((y6 y4).2.2.2.2.2.2.2) ((y6 y4).2.2.1) ((y6 y4).2.2.2.1) ((y6 y4).2.2.2.2.1) v14 y1 y2 s.heap.size x20 g21) (jv_cwV hts wa_422 wa_129 wa_423 wa_424 wa_425 rfl rfl yd_C_store ⟨Nat.le_of_ble_eq_true rfl, Nat.le_of_ble_eq_true rfl⟩) (jv_preVW hK hPc hDc 0 rfl rfl) rfl rfl hl.1 rfl (lv_room (Nat.le_of_ble_eq_true rfl)) d_V_write_58 ⟨Nat.zero_le _, Nat.zero_le _⟩) hS hFc (fun H1 locs hP1 hD1 hk1 hS => ?_)
  obtain ⟨hPk, hDk⟩ := va_join (wc := (w_cont cI (Q y4 7) (Q y4 2) (Q y4 3) (Q y4 4) (Q y4 5) ((y6 y4).2.2.2.2.2.1) ((y6 y4).2.2.2.2.2.2.1) ((y6 y4).2.2.2.2.2.2.2) ((y6 y4).2.2.1) ((y6 y4).2.2.2.1) ((y6 y4).2.2.2.2.1))) (wr := [(q_fu, .inr (kFuse, [.int y5])), (Q y4 0, .inr (kArea, [.int (y6 y4).1, .ref (Q y4 1), .ref (Q y4 2), .ref (Q y4 6), .ref (Q y4 7)])), (Q y4 1, .inl (cI, 4, .inl (y6 y4).2.1)), (Q y4 6, .inr (kTree, [.ref (Q y4 2)]))]) (w1 := (w_cont cI (Q y4 7) (Q y4 2) (Q y4 3) (Q y4 4) (Q y4 5) ((y6 y4).2.2.2.2.2.1) ((y6 y4).2.2.2.2.2.2.1) ((y6 y4).2.2.2.2.2.2.2) ((y6 y4).2.2.1) x20.2 ((y6 y4).2.2.2.2.1))) hPj hDj [8, 3, 4, 5, 6] [0, 1, 2, 7] rfl rfl (by decide) (by decide) hk1 hFc hP1 hD1
  have hPk : va_P (dC, dI) vwCl (w_focus cI q_fu Q y4 y5 ((y6 y4).1, (y6 y4).2.1, (y6 y4).2.2.1, x20.2, (y6 y4).2.2.2.2.1, (y6 y4).2.2.2.2.2.1, (y6 y4).2.2.2.2.2.2.1, (y6 y4).2.2.2.2.2.2.2)) H1 := hPk.sub [0, 1, 2, 5, 6, 7, 8, 3, 4] rfl
  have hkk := jv_out (ws := (w_focus cI q_fu Q y4 y5 (y6 y4))) (wc := (w_cont cI (Q y4 7) (Q y4 2) (Q y4 3) (Q y4 4) (Q y4 5) ((y6 y4).2.2.2.2.2.1) ((y6 y4).2.2.2.2.2.2.1) ((y6 y4).2.2.2.2.2.2.2) ((y6 y4).2.2.1) ((y6 y4).2.2.2.1) ((y6 y4).2.2.2.2.1))) [8, 3, 4, 5, 6] rfl hk1
  obtain ⟨hP, hD⟩ := jv_close hP hD hy4 hkk hPk
  obtain ⟨A22, e23, hf⟩ := jv_le hf
  rw [← e23] at hP hD
  have hP : va_P (dC, dI) vwCl (w_vault cI cA q_va q_aa q_cl q_fu Q vn vC y5 A22) H1 := hP
  have hD : va_D A (w_vault cI cA q_va q_aa q_cl q_fu Q vn vC y5 A22) := hD
  generalize H1 = H at hP hS ⊢
  refine lv_if_ne (tgt := 70) hx hb d_V_write_61 (by decide) (fun hc => ?_) (fun hc => ?_)
  · have hf := jv_if hf hc
    refine lv_aload_n hx hb d_V_write_70 rfl (lv_at hl 1 rfl) ?_
    refine lv_aload hx hb d_V_write_71 (lv_at hl 5 rfl) ?_
    refine lv_aload hx hb d_V_write_73 (lv_at hl 5 rfl) ?_
    refine va_get (D := (dC, dI)) (ci := kArea) (v := .ref (Q y4 7)) (C := R_Area) (T := T_Area) (N := 5) hx hb hts (fun w h => List.mem_cons_of_mem _ (in_Area w h)) hown hK (jv_open hP hy4) 1 rfl rfl 4 (by decide) (jv_w hts wa_421) (fun _ h9 => h9) rfl d_V_write_75 ?_
    refine lv_iload hx hb d_V_write_78 (lv_at hl 0 rfl) ?_
    obtain ⟨x24, g25, hf⟩ := jv_ob hf
    have hPc := (jv_open hP hy4).sub (ws' := (w_cont cI (Q y4 7) (Q y4 2) (Q y4 3) (Q y4 4) (Q y4 5) ((A22 y4).2.2.2.2.2.1) ((A22 y4).2.2.2.2.2.2.1) ((A22 y4).2.2.2.2.2.2.2) ((A22 y4).2.2.1) ((A22 y4).2.2.2.1) ((A22 y4).2.2.2.2.1))) [8, 3, 4, 5, 6] rfl
    refine jv_cs (W.runV (As := [.int v14]) (rest := [.ref (Q y4 0), .ref q_va]) (b := (Q y4 7)) ⟨hx, hb, hml, hown, hts⟩ (c_C_sizeOf l dC dI cI cA cL (Q y4 7) (Q y4 2) (Q y4 3) (Q y4 4) (Q y4 5) ((A22 y4).2.2.2.2.2.1) ((A22 y4).2.2.2.2.2.2.1) ((A22 y4).2.2.2.2.2.2.2) ((A22 y4).2.2.1) ((A22 y4).2.2.2.1) ((A22 y4).2.2.2.2.1) v14 x24 g25) (jv_cwV hts wa_160 wa_129 wa_426 wa_162 wa_163 rfl rfl yd_C_sizeOf ⟨Nat.le_of_ble_eq_true rfl, Nat.le_of_ble_eq_true rfl⟩) (jv_preV hK hPc 0 rfl rfl) rfl rfl hl.1 rfl (lv_room (Nat.le_of_ble_eq_true rfl)) d_V_write_80 ⟨Nat.zero_le _, Nat.zero_le _⟩) ?_
    obtain ⟨x26, g27, hf⟩ := jv_ob hf
    have hFc := jv_fr hD hS hA
    refine jv_cwi (va_runV (As := [.ref (Q y4 0), .int x24]) (rest := []) (b := q_va) ⟨hx, hb, hml, hown, hts⟩ (c_V_finish l dC dI cI cA cL q_va q_aa q_cl q_fu Q vn vC y5 A22 y4 x24 hy4 H.size x26 g27) (jv_cwV hts wa_409 wa_303 wa_410 wa_411 wa_412 rfl rfl yd_V_finish ⟨Nat.le_of_ble_eq_true rfl, Nat.le_of_ble_eq_true rfl⟩) (jv_preVW hK hP hD 0 rfl rfl) rfl rfl hl.1 rfl (lv_room (Nat.le_of_ble_eq_true rfl)) d_V_write_83 ⟨Nat.zero_le _, Nat.zero_le _⟩) hS hFc (fun H1 locs hP hD1 hk1 hS => ?_)
    have hP : va_P (dC, dI) vwCl (w_vault cI cA q_va q_aa q_cl q_fu Q vn vC x26.2.1 x26.2.2) H1 := hP
    have hD : va_D A (w_vault cI cA q_va q_aa q_cl q_fu Q vn vC x26.2.1 x26.2.2) := hD1.weaken (fun _ q _ h => hFc q.1 h)
    generalize H1 = H at hP hS ⊢
    obtain rfl := Sum.inr.inj (Option.some.inj hf)
    exact W.iret hx hb hr (fun t ht hW => ⟨rfl, by rw [ht]; exact hP, hD, hS.F ht⟩) hS.2.2 d_V_write_86
  · have hf := jv_it hf hc
    refine lv_aload hx hb d_V_write_64 (lv_at hl 5 rfl) ?_
    obtain ⟨x28, g29, hf⟩ := jv_ob hf
    have hFc := jv_fr hD hS hA
    refine jv_cwi (va_runS (As := [.ref (Q y4 0)]) (rest := []) ⟨hx, hb, hml, hown, hts⟩ (c_V_giveUp l dC dI cI cA cL q_va q_aa q_cl q_fu Q vn vC y5 A22 y4 hy4 H.size x28 g29) (jv_cwS hts wa_413 wa_303 wa_414 wa_415 rfl rfl yd_V_giveUp ⟨Nat.le_of_ble_eq_true rfl, Nat.le_of_ble_eq_true rfl⟩) (jv_preSW hK hP hD) rfl rfl hl.1 rfl (lv_room (Nat.le_of_ble_eq_true rfl)) d_V_write_66 ⟨Nat.zero_le _, Nat.zero_le _⟩) hS hFc (fun H1 locs hP hD1 hk1 hS => ?_)
    have hP : va_P (dC, dI) vwCl (w_vault cI cA q_va q_aa q_cl q_fu Q vn vC y5 x28.2) H1 := hP
    have hD : va_D A (w_vault cI cA q_va q_aa q_cl q_fu Q vn vC y5 x28.2) := hD1.weaken (fun _ q _ h => hFc q.1 h)
    generalize H1 = H at hP hS ⊢
    obtain rfl := Sum.inr.inj (Option.some.inj hf)
    exact W.iret hx hb hr (fun t ht hW => ⟨rfl, by rw [ht]; exact hP, hD, hS.F ht⟩) hS.2.2 d_V_write_69
def f_V_write_0 (vn : Nat) (y0 : Int32) (y1 : Int32) (y2 : Int32) (y3 : Int32) (y4 : Int32) (y5 : Nat → jv_ar) : Option (Nat ⊕ (Int32 × Int32 × (Nat → jv_ar))) :=
  (f_V_areaOf vn y5 y0).bind fun x1 => jv_se x1 fun v3 => if v3 < vn then ((f_P_isPath y1).bind fun x6 => if x6 = 0 then (f_V_write_29 vn y1 y2 y3 (0 : Int32) v3 y4 y5) else (if y2 < 0 then (f_V_write_29 vn y1 y2 y3 (0 : Int32) v3 y4 y5) else (if (80 : Int32) ≤ y2 then (f_V_write_29 vn y1 y2 y3 (0 : Int32) v3 y4 y5) else (f_V_write_29 vn y1 y2 y3 (1 : Int32) v3 y4 y5)))) else none
set_option maxHeartbeats 4000000 in
set_option maxRecDepth 100000 in
theorem b_V_write_0 {l : Launch} {dC : Nat → ClassId} {dI : Nat → Nat → Nat} {cI cA cL : ClassId} {q_va q_aa q_cl q_fu : Nat} {Q : Nat → Nat → Nat} {vn : Nat} {vC : Nat → Int32} {p : Program} {e : Env} {s : State} {m : MethodId} {args : Array Value} {below : List Frame} {meth : Method} {c : Code} (cx : jv_cx p s m args meth c cc_V_write 7 R_Vault (some .int) ws_V_write) (hK : va_K (dC, dI) vwCl (jv_ty cI cA cL) s) {A : Nat → Prop} (hA : ∀ q : Nat, s.heap.size ≤ q → A q) (hl9 : l.stackTraces = false) (hT : jv_th s) (hout : c.exceptionTable.isEmpty = true) {r : Int32 × Int32 × (Nat → jv_ar)} {y0 : Int32} {y1 : Int32} {y2 : Int32} {y3 : Int32} {y4 : Int32} {y5 : Nat → jv_ar} {ls : Array Slot} (hl : lv_has ls 7 [(0, .ref q_va), (1, .int y0), (2, .int y1), (3, .int y2), (4, .int y3)]) (hP : va_P (dC, dI) vwCl (w_vault cI cA q_va q_aa q_cl q_fu Q vn vC y4 y5) s.heap) (hD : va_D A (w_vault cI cA q_va q_aa q_cl q_fu Q vn vC y4 y5)) (hf : f_V_write_0 vn y0 y1 y2 y3 y4 y5 = some (Sum.inr r)) : W p l e rm_V_write s m args below meth c s.heap [] 0 0 (MQ below (jv_Qi r.1 (dC, dI) (w_vault cI cA q_va q_aa q_cl q_fu Q vn vC r.2.1 r.2.2) A) args s 0 0 A) (F0 m 0 ls []) := by
  unfold f_V_write_0 at hf
  obtain ⟨hx, hb, hml, hown, hts, hr, hlocks⟩ := id cx
  have hS : va_S A s.heap s.heap [] := va_S.rf
  refine lv_aload_n hx hb d_V_write_0 rfl (lv_at hl 0 rfl) ?_
  refine lv_iload_n hx hb d_V_write_1 rfl (lv_at hl 1 rfl) ?_
  obtain ⟨x1, g2, hf⟩ := jv_ob hf
  rcases x1 with k4 | v3
  · exact jv_ci hf
  have hf := jv_sr hf
  obtain ⟨hj5, hf⟩ := jv_gd hf
  refine jv_csr (W.runV (As := [.int y0]) (rest := []) (b := q_va) ⟨hx, hb, hml, hown, hts⟩ (c_V_areaOf l hl9 dC dI cI cA cL q_va q_aa q_cl q_fu Q vn vC y4 y5 y0 v3 g2) (jv_cwV hts wa_389 wa_303 wa_390 wa_391 wa_392 rfl rfl yd_V_areaOf ⟨Nat.le_of_ble_eq_true rfl, Nat.le_of_ble_eq_true rfl⟩) (jv_preVt hT hK hP 0 rfl rfl) rfl rfl hl.1 rfl (lv_room (Nat.le_of_ble_eq_true rfl)) d_V_write_2 ⟨Nat.zero_le _, Nat.zero_le _⟩) ?_
  refine lv_astore (lv' := [(5, .ref (Q v3 0)), (0, .ref q_va), (1, .int y0), (2, .int y1), (3, .int y2), (4, .int y3)]) hx hb d_V_write_5 hl (by decide) rfl (fun ls hl => ?_)
  refine lv_iload_n hx hb d_V_write_7 rfl (lv_at hl 3 rfl) ?_
  obtain ⟨x6, g7, hf⟩ := jv_ob hf
  refine jv_cs (W.runS (As := [.int y1]) (rest := []) ⟨hx, hb, hml, hown, hts⟩ (c_P_isPath l y1 x6 g7) (jv_cwS hts wa_14 wa_8 wa_416 wa_16 rfl rfl yd_P_isPath ⟨Nat.le_of_ble_eq_true rfl, Nat.le_of_ble_eq_true rfl⟩) jv_pre0 rfl rfl hl.1 rfl (lv_room (Nat.le_of_ble_eq_true rfl)) d_V_write_8 ⟨Nat.zero_le _, Nat.zero_le _⟩) ?_
  refine lv_if_eq (tgt := 28) hx hb d_V_write_11 (by decide) (fun hc => ?_) (fun hc => ?_)
  · have hf := jv_it hf hc
    refine lv_iconst (v := (0 : Int32)) hx hb d_V_write_28 (by decide) ?_
    exact b_V_write_29 (y0 := y1) (y1 := y2) (y2 := y3) (y3 := (0 : Int32)) (y4 := v3) (y5 := y4) (y6 := y5) (hy4 := hj5) cx hK hA hl9 hT hout (lv_sub hl [1, 3, 4, 5, 0] rfl) hP hD hf
  · have hf := jv_if hf hc
    refine lv_iload_n hx hb d_V_write_14 rfl (lv_at hl 4 rfl) ?_
    refine lv_if_lt (tgt := 28) hx hb d_V_write_15 (by decide) (fun hc => ?_) (fun hc => ?_)
    · have hf := jv_it hf hc
      refine lv_iconst (v := (0 : Int32)) hx hb d_V_write_28 (by decide) ?_
      exact b_V_write_29 (y0 := y1) (y1 := y2) (y2 := y3) (y3 := (0 : Int32)) (y4 := v3) (y5 := y4) (y6 := y5) (hy4 := hj5) cx hK hA hl9 hT hout (lv_sub hl [1, 3, 4, 5, 0] rfl) hP hD hf
    · have hf := jv_if hf hc
      refine lv_iload_n hx hb d_V_write_18 rfl (lv_at hl 4 rfl) ?_
      refine lv_bipush (v := (80 : Int32)) hx hb d_V_write_19 (by decide) ?_
      refine lv_icmp_ge (tgt := 28) hx hb d_V_write_21 (by decide) (fun hc => ?_) (fun hc => ?_)
      · have hf := jv_it hf hc
        refine lv_iconst (v := (0 : Int32)) hx hb d_V_write_28 (by decide) ?_
        exact b_V_write_29 (y0 := y1) (y1 := y2) (y2 := y3) (y3 := (0 : Int32)) (y4 := v3) (y5 := y4) (y6 := y5) (hy4 := hj5) cx hK hA hl9 hT hout (lv_sub hl [1, 3, 4, 5, 0] rfl) hP hD hf
      · have hf := jv_if hf hc
        refine lv_iconst (v := (1 : Int32)) hx hb d_V_write_24 (by decide) ?_
        refine lv_goto (tgt := 29) hx hb d_V_write_25 (by decide) ?_
        exact b_V_write_29 (y0 := y1) (y1 := y2) (y2 := y3) (y3 := (1 : Int32)) (y4 := v3) (y5 := y4) (y6 := y5) (hy4 := hj5) cx hK hA hl9 hT hout (lv_sub hl [1, 3, 4, 5, 0] rfl) hP hD hf
def f_V_write (vn : Nat) (a0 : Int32) (a1 : Int32) (a2 : Int32) (a3 : Int32) (vat : Int32) (ars : Nat → jv_ar) : Option (Nat ⊕ (Int32 × Int32 × (Nat → jv_ar))) := f_V_write_0 vn a0 a1 a2 a3 vat ars
set_option maxHeartbeats 4000000 in
set_option maxRecDepth 100000 in
theorem c_V_write (l : Launch) (hl9 : l.stackTraces = false) (dC : Nat → ClassId) (dI : Nat → Nat → Nat) (cI cA cL : ClassId) (q_va q_aa q_cl q_fu : Nat) (Q : Nat → Nat → Nat) (vn : Nat) (vC : Nat → Int32) (vat : Int32) (ars : Nat → jv_ar) (a0 : Int32) (a1 : Int32) (a2 : Int32) (a3 : Int32) (sz : Nat) (r : Int32 × Int32 × (Nat → jv_ar)) (hf : f_V_write vn a0 a1 a2 a3 vat ars = some (Sum.inr r)) : Met l y_V_write ws_V_write rm_V_write (jv_Pwt [.ref q_va, .int a0, .int a1, .int a2, .int a3] (dC, dI) (jv_ty cI cA cL) (w_vault cI cA q_va q_aa q_cl q_fu Q vn vC vat ars) sz) (jv_Qi r.1 (dC, dI) (w_vault cI cA q_va q_aa q_cl q_fu Q vn vC r.2.1 r.2.2) (va_A (w_vault cI cA q_va q_aa q_cl q_fu Q vn vC vat ars) sz)) 0 0 (va_A (w_vault cI cA q_va q_aa q_cl q_fu Q vn vC vat ars) sz) := by
  refine Met.ofW (cc := cc_V_write) (maxL := 7) (ret := (some .int)) (by decide) rfl ?_
  intro p e s m args below meth c s₁ B hml hv
  obtain ⟨rfl, hsz, hP, hK, hD0, hT⟩ := hv
  have cx : jv_cx p s m _ meth c cc_V_write 7 R_Vault (some .int) ws_V_write := ⟨B.exec, B.bytes, hml, findClass_of_methodNamed B.named, atoms_spec (ws := ws_V_write) B.pre, B.returns, B.notSynchronized⟩
  have hout : c.exceptionTable.isEmpty = true := B.noHandlers (atoms_spec (ws := ws_V_write) B.pre _ List.mem_cons_self)
  subst hsz
  have hD := hD0.self (sz := s.heap.size)
  generalize hAe : va_A (w_vault cI cA q_va q_aa q_cl q_fu Q vn vC vat ars) s.heap.size = A at hD ⊢
  have hA : ∀ q : Nat, s.heap.size ≤ q → A q := fun q h => by rw [← hAe]; exact Or.inr h
  have hS : va_S A s.heap s.heap [] := va_S.rf
  have hl := lv_entry ([.ref q_va, .int a0, .int a1, .int a2, .int a3]) (n := 7) (Nat.le_of_ble_eq_true rfl)
  rw [lg_entry_eq]
  generalize (lg_sl ([.ref q_va, .int a0, .int a1, .int a2, .int a3]) ++ List.replicate (7 - (lg_sl ([.ref q_va, .int a0, .int a1, .int a2, .int a3])).length) Slot.unset).toArray = ls at hl ⊢
  have hl : lv_has ls 7 [(0, .ref q_va), (1, .int a0), (2, .int a1), (3, .int a2), (4, .int a3)] := hl
  exact b_V_write_0 (y0 := a0) (y1 := a1) (y2 := a2) (y3 := a3) (y4 := vat) (y5 := ars) cx hK hA hl9 hT hout (lv_sub hl [0, 1, 2, 3, 4] rfl) hP hD hf
set_option maxHeartbeats 4000000 in
set_option maxRecDepth 100000 in
theorem t_V_write_29 {l : Launch} {dC : Nat → ClassId} {dI : Nat → Nat → Nat} {cI cA cL : ClassId} {q_va q_aa q_cl q_fu : Nat} {Q : Nat → Nat → Nat} {vn : Nat} {vC : Nat → Int32} {p : Program} {e : Env} {s : State} {m : MethodId} {args : Array Value} {below : List Frame} {meth : Method} {c : Code} (cx : jv_cx p s m args meth c cc_V_write 7 R_Vault (some .int) ws_V_write) (hK : va_K (dC, dI) vwCl (jv_ty cI cA cL) s) (hl9 : l.stackTraces = false) (hT : jv_th s) (hout : c.exceptionTable.isEmpty = true) {kx : Nat} {y0 : Int32} {y1 : Int32} {y2 : Int32} {y3 : Int32} {y4 : Nat} {y5 : Int32} {y6 : Nat → jv_ar} (hy4 : y4 < vn) {ls : Array Slot} (hl : lv_has ls 7 [(0, .ref q_va), (2, .int y0), (3, .int y1), (4, .int y2), (5, .ref (Q y4 0))]) (hP : va_P (dC, dI) vwCl (w_vault cI cA q_va q_aa q_cl q_fu Q vn vC y5 y6) s.heap) (hf : f_V_write_29 vn y0 y1 y2 y3 y4 y5 y6 = some (Sum.inl kx)) : W p l e rx_V_write s m args below meth c s.heap [] 0 0 (jv_MQ below (jv_en kx) args s 1 6) (F0 m 29 ls [.int y3]) := by
  unfold f_V_write_29 at hf
  obtain ⟨hx, hb, hml, hown, hts, hr, hlocks⟩ := id cx
  obtain ⟨x8, g9, hf⟩ := jv_ob hf
  rcases x8 with k11 | v10
  · rw [jv_sl hf] at g9
    exact jv_xS (cells := 0) (slots := 0) (As := [.int y3]) (rest := []) ⟨hx, hb, hml, hown, hts⟩ (x_V_demand l hl9 y3 kx g9) (jv_cwS hts wa_321 wa_303 wa_322 wa_323 rfl rfl yd_V_demand ⟨Nat.le_of_ble_eq_true rfl, Nat.le_of_ble_eq_true rfl⟩) (jv_pre0t hT) rfl rfl hl.1 rfl (lv_room (Nat.le_of_ble_eq_true rfl)) d_V_write_29 ⟨Nat.le_of_ble_eq_true rfl, Nat.le_of_ble_eq_true rfl⟩ (fun x H1 hob => jv_leave hout hlocks hob)
  have hf := jv_sr hf
  refine jv_csv (W.runS (As := [.int y3]) (rest := []) ⟨hx, hb, hml, hown, hts⟩ (c_V_demand l hl9 y3 v10 g9) (jv_cwS hts wa_321 wa_303 wa_322 wa_323 rfl rfl yd_V_demand ⟨Nat.le_of_ble_eq_true rfl, Nat.le_of_ble_eq_true rfl⟩) (jv_pre0t hT) rfl rfl hl.1 rfl (lv_room (Nat.le_of_ble_eq_true rfl)) d_V_write_29 ⟨Nat.zero_le _, Nat.zero_le _⟩) ?_
  refine lv_aload_n hx hb d_V_write_32 rfl (lv_at hl 0 rfl) ?_
  refine lv_aload hx hb d_V_write_33 (lv_at hl 4 rfl) ?_
  refine lv_iload_n hx hb d_V_write_35 rfl (lv_at hl 1 rfl) ?_
  obtain ⟨x12, g13, hf⟩ := jv_ob hf
  rcases x12 with k15 | v14
  · rw [jv_sl hf] at g13
    exact jv_xV (cells := 0) (slots := 0) (As := [.ref (Q y4 0), .int y0]) (rest := []) (b := q_va) ⟨hx, hb, hml, hown, hts⟩ (x_V_ownInode l hl9 dC dI cI cA cL q_va q_aa q_cl q_fu Q vn vC y5 y6 y4 y0 hy4 kx g13) (jv_cwV hts wa_417 wa_303 wa_418 wa_419 wa_420 rfl rfl yd_V_ownInode ⟨Nat.le_of_ble_eq_true rfl, Nat.le_of_ble_eq_true rfl⟩) (jv_preVt hT hK hP 0 rfl rfl) rfl rfl hl.1 rfl (lv_room (Nat.le_of_ble_eq_true rfl)) d_V_write_36 ⟨Nat.le_of_ble_eq_true rfl, Nat.le_of_ble_eq_true rfl⟩ (fun x H1 hob => jv_leave hout hlocks hob)
  have hf := jv_sr hf
  refine jv_cs (W.runV (As := [.ref (Q y4 0), .int y0]) (rest := []) (b := q_va) ⟨hx, hb, hml, hown, hts⟩ (c_V_ownInode l hl9 dC dI cI cA cL q_va q_aa q_cl q_fu Q vn vC y5 y6 y4 y0 hy4 v14 g13) (jv_cwV hts wa_417 wa_303 wa_418 wa_419 wa_420 rfl rfl yd_V_ownInode ⟨Nat.le_of_ble_eq_true rfl, Nat.le_of_ble_eq_true rfl⟩) (jv_preVt hT hK hP 0 rfl rfl) rfl rfl hl.1 rfl (lv_room (Nat.le_of_ble_eq_true rfl)) d_V_write_36 ⟨Nat.zero_le _, Nat.zero_le _⟩) ?_
  refine lv_istore (lv' := [(6, .int v14), (0, .ref q_va), (2, .int y0), (3, .int y1), (4, .int y2), (5, .ref (Q y4 0))]) hx hb d_V_write_39 hl (by decide) rfl (fun ls hl => ?_)
  refine lv_aload hx hb d_V_write_41 (lv_at hl 5 rfl) ?_
  refine lv_iload hx hb d_V_write_43 (lv_at hl 0 rfl) ?_
  obtain ⟨x16, g17, hf⟩ := jv_ob hf
  rcases x16 with k19 | v18
  · rw [jv_sl hf] at g17
    exact jv_xS (cells := 0) (slots := 0) (As := [.ref (Q y4 0), .int v14]) (rest := []) ⟨hx, hb, hml, hown, hts⟩ (x_V_demandFile l hl9 dC dI cI cA cL q_va q_aa q_cl q_fu Q vn vC y5 y6 y4 v14 hy4 kx g17) (jv_cwS hts wa_343 wa_303 wa_344 wa_345 rfl rfl yd_V_demandFile ⟨Nat.le_of_ble_eq_true rfl, Nat.le_of_ble_eq_true rfl⟩) (jv_preSt hT hK hP) rfl rfl hl.1 rfl (lv_room (Nat.le_of_ble_eq_true rfl)) d_V_write_45 ⟨Nat.le_of_ble_eq_true rfl, Nat.le_of_ble_eq_true rfl⟩ (fun x H1 hob => jv_leave hout hlocks hob)
  have hf := jv_sr hf
  refine jv_csv (W.runS (As := [.ref (Q y4 0), .int v14]) (rest := []) ⟨hx, hb, hml, hown, hts⟩ (c_V_demandFile l hl9 dC dI cI cA cL q_va q_aa q_cl q_fu Q vn vC y5 y6 y4 v14 hy4 v18 g17) (jv_cwS hts wa_343 wa_303 wa_344 wa_345 rfl rfl yd_V_demandFile ⟨Nat.le_of_ble_eq_true rfl, Nat.le_of_ble_eq_true rfl⟩) (jv_preSt hT hK hP) rfl rfl hl.1 rfl (lv_room (Nat.le_of_ble_eq_true rfl)) d_V_write_45 ⟨Nat.zero_le _, Nat.zero_le _⟩) ?_
  refine lv_aload hx hb d_V_write_48 (lv_at hl 5 rfl) ?_
  refine va_get (D := (dC, dI)) (ci := kArea) (v := .ref (Q y4 7)) (C := R_Area) (T := T_Area) (N := 5) hx hb hts (fun w h => List.mem_cons_of_mem _ (in_Area w h)) hown hK (jv_open hP hy4) 1 rfl rfl 4 (by decide) (jv_w hts wa_421) (fun _ h9 => h9) rfl d_V_write_50 ?_
  refine lv_iload hx hb d_V_write_53 (lv_at hl 0 rfl) ?_
  refine lv_iload_n hx hb d_V_write_55 rfl (lv_at hl 3 rfl) ?_
  refine lv_iload hx hb d_V_write_56 (lv_at hl 4 rfl) ?_
  obtain ⟨x20, g21, hf⟩ := jv_ob hf
  obtain ⟨A22, e23, hf⟩ := jv_le hf
  by_cases hc : x20.1 = 0
  · have hf := jv_it hf hc
    obtain ⟨x28, g29, hf⟩ := jv_ob hf
    cases Option.some.inj hf
  · have hf := jv_if hf hc
    obtain ⟨x24, g25, hf⟩ := jv_ob hf
    obtain ⟨x26, g27, hf⟩ := jv_ob hf
    cases Option.some.inj hf
set_option maxHeartbeats 4000000 in
set_option maxRecDepth 100000 in
theorem t_V_write_0 {l : Launch} {dC : Nat → ClassId} {dI : Nat → Nat → Nat} {cI cA cL : ClassId} {q_va q_aa q_cl q_fu : Nat} {Q : Nat → Nat → Nat} {vn : Nat} {vC : Nat → Int32} {p : Program} {e : Env} {s : State} {m : MethodId} {args : Array Value} {below : List Frame} {meth : Method} {c : Code} (cx : jv_cx p s m args meth c cc_V_write 7 R_Vault (some .int) ws_V_write) (hK : va_K (dC, dI) vwCl (jv_ty cI cA cL) s) (hl9 : l.stackTraces = false) (hT : jv_th s) (hout : c.exceptionTable.isEmpty = true) {kx : Nat} {y0 : Int32} {y1 : Int32} {y2 : Int32} {y3 : Int32} {y4 : Int32} {y5 : Nat → jv_ar} {ls : Array Slot} (hl : lv_has ls 7 [(0, .ref q_va), (1, .int y0), (2, .int y1), (3, .int y2), (4, .int y3)]) (hP : va_P (dC, dI) vwCl (w_vault cI cA q_va q_aa q_cl q_fu Q vn vC y4 y5) s.heap) (hf : f_V_write_0 vn y0 y1 y2 y3 y4 y5 = some (Sum.inl kx)) : W p l e rx_V_write s m args below meth c s.heap [] 0 0 (jv_MQ below (jv_en kx) args s 1 6) (F0 m 0 ls []) := by
  unfold f_V_write_0 at hf
  obtain ⟨hx, hb, hml, hown, hts, hr, hlocks⟩ := id cx
  refine lv_aload_n hx hb d_V_write_0 rfl (lv_at hl 0 rfl) ?_
  refine lv_iload_n hx hb d_V_write_1 rfl (lv_at hl 1 rfl) ?_
  obtain ⟨x1, g2, hf⟩ := jv_ob hf
  rcases x1 with k4 | v3
  · rw [jv_sl hf] at g2
    exact jv_xV (cells := 0) (slots := 0) (As := [.int y0]) (rest := []) (b := q_va) ⟨hx, hb, hml, hown, hts⟩ (x_V_areaOf l hl9 dC dI cI cA cL q_va q_aa q_cl q_fu Q vn vC y4 y5 y0 kx g2) (jv_cwV hts wa_389 wa_303 wa_390 wa_391 wa_392 rfl rfl yd_V_areaOf ⟨Nat.le_of_ble_eq_true rfl, Nat.le_of_ble_eq_true rfl⟩) (jv_preVt hT hK hP 0 rfl rfl) rfl rfl hl.1 rfl (lv_room (Nat.le_of_ble_eq_true rfl)) d_V_write_2 ⟨Nat.le_of_ble_eq_true rfl, Nat.le_of_ble_eq_true rfl⟩ (fun x H1 hob => jv_leave hout hlocks hob)
  have hf := jv_sr hf
  obtain ⟨hj5, hf⟩ := jv_gd hf
  refine jv_csr (W.runV (As := [.int y0]) (rest := []) (b := q_va) ⟨hx, hb, hml, hown, hts⟩ (c_V_areaOf l hl9 dC dI cI cA cL q_va q_aa q_cl q_fu Q vn vC y4 y5 y0 v3 g2) (jv_cwV hts wa_389 wa_303 wa_390 wa_391 wa_392 rfl rfl yd_V_areaOf ⟨Nat.le_of_ble_eq_true rfl, Nat.le_of_ble_eq_true rfl⟩) (jv_preVt hT hK hP 0 rfl rfl) rfl rfl hl.1 rfl (lv_room (Nat.le_of_ble_eq_true rfl)) d_V_write_2 ⟨Nat.zero_le _, Nat.zero_le _⟩) ?_
  refine lv_astore (lv' := [(5, .ref (Q v3 0)), (0, .ref q_va), (1, .int y0), (2, .int y1), (3, .int y2), (4, .int y3)]) hx hb d_V_write_5 hl (by decide) rfl (fun ls hl => ?_)
  refine lv_iload_n hx hb d_V_write_7 rfl (lv_at hl 3 rfl) ?_
  obtain ⟨x6, g7, hf⟩ := jv_ob hf
  refine jv_cs (W.runS (As := [.int y1]) (rest := []) ⟨hx, hb, hml, hown, hts⟩ (c_P_isPath l y1 x6 g7) (jv_cwS hts wa_14 wa_8 wa_416 wa_16 rfl rfl yd_P_isPath ⟨Nat.le_of_ble_eq_true rfl, Nat.le_of_ble_eq_true rfl⟩) jv_pre0 rfl rfl hl.1 rfl (lv_room (Nat.le_of_ble_eq_true rfl)) d_V_write_8 ⟨Nat.zero_le _, Nat.zero_le _⟩) ?_
  refine lv_if_eq (tgt := 28) hx hb d_V_write_11 (by decide) (fun hc => ?_) (fun hc => ?_)
  · have hf := jv_it hf hc
    refine lv_iconst (v := (0 : Int32)) hx hb d_V_write_28 (by decide) ?_
    exact t_V_write_29 (y0 := y1) (y1 := y2) (y2 := y3) (y3 := (0 : Int32)) (y4 := v3) (y5 := y4) (y6 := y5) (hy4 := hj5) cx hK hl9 hT hout (lv_sub hl [1, 3, 4, 5, 0] rfl) hP hf
  · have hf := jv_if hf hc
    refine lv_iload_n hx hb d_V_write_14 rfl (lv_at hl 4 rfl) ?_
    refine lv_if_lt (tgt := 28) hx hb d_V_write_15 (by decide) (fun hc => ?_) (fun hc => ?_)
    · have hf := jv_it hf hc
      refine lv_iconst (v := (0 : Int32)) hx hb d_V_write_28 (by decide) ?_
      exact t_V_write_29 (y0 := y1) (y1 := y2) (y2 := y3) (y3 := (0 : Int32)) (y4 := v3) (y5 := y4) (y6 := y5) (hy4 := hj5) cx hK hl9 hT hout (lv_sub hl [1, 3, 4, 5, 0] rfl) hP hf
    · have hf := jv_if hf hc
      refine lv_iload_n hx hb d_V_write_18 rfl (lv_at hl 4 rfl) ?_
      refine lv_bipush (v := (80 : Int32)) hx hb d_V_write_19 (by decide) ?_
      refine lv_icmp_ge (tgt := 28) hx hb d_V_write_21 (by decide) (fun hc => ?_) (fun hc => ?_)
      · have hf := jv_it hf hc
        refine lv_iconst (v := (0 : Int32)) hx hb d_V_write_28 (by decide) ?_
        exact t_V_write_29 (y0 := y1) (y1 := y2) (y2 := y3) (y3 := (0 : Int32)) (y4 := v3) (y5 := y4) (y6 := y5) (hy4 := hj5) cx hK hl9 hT hout (lv_sub hl [1, 3, 4, 5, 0] rfl) hP hf
      · have hf := jv_if hf hc
        refine lv_iconst (v := (1 : Int32)) hx hb d_V_write_24 (by decide) ?_
        refine lv_goto (tgt := 29) hx hb d_V_write_25 (by decide) ?_
        exact t_V_write_29 (y0 := y1) (y1 := y2) (y2 := y3) (y3 := (1 : Int32)) (y4 := v3) (y5 := y4) (y6 := y5) (hy4 := hj5) cx hK hl9 hT hout (lv_sub hl [1, 3, 4, 5, 0] rfl) hP hf
set_option maxHeartbeats 4000000 in
set_option maxRecDepth 100000 in
theorem x_V_write (l : Launch) (hl9 : l.stackTraces = false) (dC : Nat → ClassId) (dI : Nat → Nat → Nat) (cI cA cL : ClassId) (q_va q_aa q_cl q_fu : Nat) (Q : Nat → Nat → Nat) (vn : Nat) (vC : Nat → Int32) (vat : Int32) (ars : Nat → jv_ar) (a0 : Int32) (a1 : Int32) (a2 : Int32) (a3 : Int32) (kx : Nat) (hf : f_V_write vn a0 a1 a2 a3 vat ars = some (Sum.inl kx)) : jv_MX l y_V_write ws_V_write rx_V_write (jv_Prt [.ref q_va, .int a0, .int a1, .int a2, .int a3] (dC, dI) (jv_ty cI cA cL) (w_vault cI cA q_va q_aa q_cl q_fu Q vn vC vat ars)) (jv_en kx) 1 6 := by
  refine jv_MX.ofW (cc := cc_V_write) (maxL := 7) (ret := (some .int)) (by decide) rfl ?_
  intro p e s m args below meth c s₁ B hml hv
  obtain ⟨rfl, hP, hK, hT⟩ := hv
  have cx : jv_cx p s m _ meth c cc_V_write 7 R_Vault (some .int) ws_V_write := ⟨B.exec, B.bytes, hml, findClass_of_methodNamed B.named, atoms_spec (ws := ws_V_write) B.pre, B.returns, B.notSynchronized⟩
  have hout : c.exceptionTable.isEmpty = true := B.noHandlers (atoms_spec (ws := ws_V_write) B.pre _ List.mem_cons_self)
  have hl := lv_entry ([.ref q_va, .int a0, .int a1, .int a2, .int a3]) (n := 7) (Nat.le_of_ble_eq_true rfl)
  rw [lg_entry_eq]
  generalize (lg_sl ([.ref q_va, .int a0, .int a1, .int a2, .int a3]) ++ List.replicate (7 - (lg_sl ([.ref q_va, .int a0, .int a1, .int a2, .int a3])).length) Slot.unset).toArray = ls at hl ⊢
  have hl : lv_has ls 7 [(0, .ref q_va), (1, .int a0), (2, .int a1), (3, .int a2), (4, .int a3)] := hl
  exact t_V_write_0 (y0 := a0) (y1 := a1) (y2 := a2) (y3 := a3) (y4 := vat) (y5 := ars) cx hK hl9 hT hout (lv_sub hl [0, 1, 2, 3, 4] rfl) hP hf
