theorem d_V_truncate_0 : decode cc_V_truncate 0 = .ok (.aload_n 0, 1) := by decide +kernel
theorem d_V_truncate_1 : decode cc_V_truncate 1 = .ok (.iload_n 1, 1) := by decide +kernel
theorem d_V_truncate_2 : decode cc_V_truncate 2 = .ok (.invokevirtual 79, 3) := by decide +kernel
theorem d_V_truncate_5 : decode cc_V_truncate 5 = .ok (.astore 4, 2) := by decide +kernel
theorem d_V_truncate_7 : decode cc_V_truncate 7 = .ok (.iload_n 2, 1) := by decide +kernel
theorem d_V_truncate_8 : decode cc_V_truncate 8 = .ok (.invokestatic 132, 3) := by decide +kernel
theorem d_V_truncate_11 : decode cc_V_truncate 11 = .ok (.ifCond .eq 17, 3) := by decide +kernel
theorem d_V_truncate_28 : decode cc_V_truncate 28 = .ok (.iconst 0, 1) := by decide +kernel
theorem d_V_truncate_14 : decode cc_V_truncate 14 = .ok (.iload_n 3, 1) := by decide +kernel
theorem d_V_truncate_15 : decode cc_V_truncate 15 = .ok (.ifCond .lt 13, 3) := by decide +kernel
theorem d_V_truncate_18 : decode cc_V_truncate 18 = .ok (.iload_n 3, 1) := by decide +kernel
theorem d_V_truncate_19 : decode cc_V_truncate 19 = .ok (.bipush 80, 2) := by decide +kernel
theorem d_V_truncate_21 : decode cc_V_truncate 21 = .ok (.if_icmp .gt 7, 3) := by decide +kernel
theorem d_V_truncate_24 : decode cc_V_truncate 24 = .ok (.iconst 1, 1) := by decide +kernel
theorem d_V_truncate_25 : decode cc_V_truncate 25 = .ok (.goto 4, 3) := by decide +kernel
theorem d_V_truncate_29 : decode cc_V_truncate 29 = .ok (.invokestatic 36, 3) := by decide +kernel
theorem d_V_truncate_32 : decode cc_V_truncate 32 = .ok (.aload_n 0, 1) := by decide +kernel
theorem d_V_truncate_33 : decode cc_V_truncate 33 = .ok (.aload 4, 2) := by decide +kernel
theorem d_V_truncate_35 : decode cc_V_truncate 35 = .ok (.iload_n 2, 1) := by decide +kernel
theorem d_V_truncate_36 : decode cc_V_truncate 36 = .ok (.invokevirtual 137, 3) := by decide +kernel
theorem d_V_truncate_39 : decode cc_V_truncate 39 = .ok (.istore 5, 2) := by decide +kernel
theorem d_V_truncate_41 : decode cc_V_truncate 41 = .ok (.aload 4, 2) := by decide +kernel
theorem d_V_truncate_43 : decode cc_V_truncate 43 = .ok (.iload 5, 2) := by decide +kernel
theorem d_V_truncate_45 : decode cc_V_truncate 45 = .ok (.invokestatic 140, 3) := by decide +kernel
theorem d_V_truncate_48 : decode cc_V_truncate 48 = .ok (.iload_n 3, 1) := by decide +kernel
theorem d_V_truncate_49 : decode cc_V_truncate 49 = .ok (.aload 4, 2) := by decide +kernel
theorem d_V_truncate_51 : decode cc_V_truncate 51 = .ok (.getfield 144, 3) := by decide +kernel
theorem d_V_truncate_54 : decode cc_V_truncate 54 = .ok (.iload 5, 2) := by decide +kernel
theorem d_V_truncate_56 : decode cc_V_truncate 56 = .ok (.invokevirtual 152, 3) := by decide +kernel
theorem d_V_truncate_59 : decode cc_V_truncate 59 = .ok (.if_icmp .le 13, 3) := by decide +kernel
theorem d_V_truncate_72 : decode cc_V_truncate 72 = .ok (.aload_n 0, 1) := by decide +kernel
theorem d_V_truncate_73 : decode cc_V_truncate 73 = .ok (.aload 4, 2) := by decide +kernel
theorem d_V_truncate_75 : decode cc_V_truncate 75 = .ok (.aload 4, 2) := by decide +kernel
theorem d_V_truncate_77 : decode cc_V_truncate 77 = .ok (.getfield 144, 3) := by decide +kernel
theorem d_V_truncate_80 : decode cc_V_truncate 80 = .ok (.iload 5, 2) := by decide +kernel
theorem d_V_truncate_82 : decode cc_V_truncate 82 = .ok (.iload_n 3, 1) := by decide +kernel
theorem d_V_truncate_83 : decode cc_V_truncate 83 = .ok (.invokevirtual 157, 3) := by decide +kernel
theorem d_V_truncate_86 : decode cc_V_truncate 86 = .ok (.invokevirtual 128, 3) := by decide +kernel
theorem d_V_truncate_89 : decode cc_V_truncate 89 = .ok (.ireturn, 1) := by decide +kernel
theorem d_V_truncate_62 : decode cc_V_truncate 62 = .ok (.new 111, 3) := by decide +kernel
theorem d_V_truncate_68 : decode cc_V_truncate 68 = .ok (.invokespecial 115, 3) := by decide +kernel
theorem d_V_truncate_71 : decode cc_V_truncate 71 = .ok (.athrow, 1) := by decide +kernel
theorem d_V_truncate_65 : decode cc_V_truncate 65 = .ok (.dup, 1) := by decide +kernel
theorem d_V_truncate_66 : decode cc_V_truncate 66 = .ok (.ldc 155, 2) := by decide +kernel
def f_V_truncate_29 (vn : Nat) (y0 : Int32) (y1 : Int32) (y2 : Int32) (y3 : Nat) (y4 : Int32) (y5 : Nat → jv_ar) : Option (Nat ⊕ (Int32 × Int32 × (Nat → jv_ar))) :=
  (f_V_demand y2).bind fun x8 => jv_se x8 fun v10 => (f_V_ownInode vn y5 y3 y0).bind fun x12 => jv_se x12 fun v14 => (f_V_demandFile y5 y3 v14).bind fun x16 => jv_se x16 fun v18 => (f_C_sizeOf ((y5 y3).2.2.2.1) v14).bind fun x20 => if y1 ≤ x20 then ((f_C_cut v14 y1 ((y5 y3).2.2.2.1)).bind fun x22 => jv_lt (va_up y5 y3 ((y5 y3).1, (y5 y3).2.1, (y5 y3).2.2.1, x22.2, (y5 y3).2.2.2.2.1, (y5 y3).2.2.2.2.2.1, (y5 y3).2.2.2.2.2.2.1, (y5 y3).2.2.2.2.2.2.2)) fun A24 => (f_V_finish vn y3 x22.1 y4 A24).bind fun x26 => some (Sum.inr (x26.1, x26.2.1, x26.2.2))) else (some (Sum.inl 4))
set_option maxHeartbeats 4000000 in
set_option maxRecDepth 100000 in
theorem b_V_truncate_29 {l : Launch} {dC : Nat → ClassId} {dI : Nat → Nat → Nat} {cI cA cL : ClassId} {q_va q_aa q_cl q_fu : Nat} {Q : Nat → Nat → Nat} {vn : Nat} {vC : Nat → Int32} {p : Program} {e : Env} {s : State} {m : MethodId} {args : Array Value} {below : List Frame} {meth : Method} {c : Code} (cx : jv_cx p s m args meth c cc_V_truncate 6 R_Vault (some .int) ws_V_truncate) (hK : va_K (dC, dI) vwCl (jv_ty cI cA cL) s) {A : Nat → Prop} (hA : ∀ q : Nat, s.heap.size ≤ q → A q) (hl9 : l.stackTraces = false) (hT : jv_th s) (hout : c.exceptionTable.isEmpty = true) {r : Int32 × Int32 × (Nat → jv_ar)} {y0 : Int32} {y1 : Int32} {y2 : Int32} {y3 : Nat} {y4 : Int32} {y5 : Nat → jv_ar} (hy3 : y3 < vn) {ls : Array Slot} (hl : lv_has ls 6 [(0, .ref q_va), (2, .int y0), (3, .int y1), (4, .ref (Q y3 0))]) (hP : va_P (dC, dI) vwCl (w_vault cI cA q_va q_aa q_cl q_fu Q vn vC y4 y5) s.heap) (hD : va_D A (w_vault cI cA q_va q_aa q_cl q_fu Q vn vC y4 y5)) (hf : f_V_truncate_29 vn y0 y1 y2 y3 y4 y5 = some (Sum.inr r)) : W p l e rm_V_truncate s m args below meth c s.heap [] 0 0 (MQ below (jv_Qi r.1 (dC, dI) (w_vault cI cA q_va q_aa q_cl q_fu Q vn vC r.2.1 r.2.2) A) args s 0 0 A) (F0 m 29 ls [.int y2]) := by
  unfold f_V_truncate_29 at hf
  obtain ⟨hx, hb, hml, hown, hts, hr, hlocks⟩ := id cx
  have hS : va_S A s.heap s.heap [] := va_S.rf
  obtain ⟨x8, g9, hf⟩ := jv_ob hf
  rcases x8 with k11 | v10
  · exact jv_ci hf
  have hf := jv_sr hf
  refine jv_csv (W.runS (As := [.int y2]) (rest := []) ⟨hx, hb, hml, hown, hts⟩ (c_V_demand l hl9 y2 v10 g9) (jv_cwS hts wa_321 wa_303 wa_322 wa_323 rfl rfl yd_V_demand ⟨Nat.le_of_ble_eq_true rfl, Nat.le_of_ble_eq_true rfl⟩) (jv_pre0t hT) rfl rfl hl.1 rfl (lv_room (Nat.le_of_ble_eq_true rfl)) d_V_truncate_29 ⟨Nat.zero_le _, Nat.zero_le _⟩) ?_
  refine lv_aload_n hx hb d_V_truncate_32 rfl (lv_at hl 0 rfl) ?_
  refine lv_aload hx hb d_V_truncate_33 (lv_at hl 3 rfl) ?_
  refine lv_iload_n hx hb d_V_truncate_35 rfl (lv_at hl 1 rfl) ?_
  obtain ⟨x12, g13, hf⟩ := jv_ob hf
  rcases x12 with k15 | v14
  · exact jv_ci hf
  have hf := jv_sr hf
  refine jv_cs (W.runV (As := [.ref (Q y3 0), .int y0]) (rest := []) (b := q_va) ⟨hx, hb, hml, hown, hts⟩ (c_V_ownInode l hl9 dC dI cI cA cL q_va q_aa q_cl q_fu Q vn vC y4 y5 y3 y0 hy3 v14 g13) (jv_cwV hts wa_417 wa_303 wa_418 wa_419 wa_420 rfl rfl yd_V_ownInode ⟨Nat.le_of_ble_eq_true rfl, Nat.le_of_ble_eq_true rfl⟩) (jv_preVt hT hK hP 0 rfl rfl) rfl rfl hl.1 rfl (lv_room (Nat.le_of_ble_eq_true rfl)) d_V_truncate_36 ⟨Nat.zero_le _, Nat.zero_le _⟩) ?_
  refine lv_istore (lv' := [(5, .int v14), (0, .ref q_va), (2, .int y0), (3, .int y1), (4, .ref (Q y3 0))]) hx hb d_V_truncate_39 hl (by decide) rfl (fun ls hl => ?_)
  refine lv_aload hx hb d_V_truncate_41 (lv_at hl 4 rfl) ?_
  refine lv_iload hx hb d_V_truncate_43 (lv_at hl 0 rfl) ?_
  obtain ⟨x16, g17, hf⟩ := jv_ob hf
  rcases x16 with k19 | v18
  · exact jv_ci hf
  have hf := jv_sr hf
  refine jv_csv (W.runS (As := [.ref (Q y3 0), .int v14]) (rest := []) ⟨hx, hb, hml, hown, hts⟩ (c_V_demandFile l hl9 dC dI cI cA cL q_va q_aa q_cl q_fu Q vn vC y4 y5 y3 v14 hy3 v18 g17) (jv_cwS hts wa_343 wa_303 wa_344 wa_345 rfl rfl yd_V_demandFile ⟨Nat.le_of_ble_eq_true rfl, Nat.le_of_ble_eq_true rfl⟩) (jv_preSt hT hK hP) rfl rfl hl.1 rfl (lv_room (Nat.le_of_ble_eq_true rfl)) d_V_truncate_45 ⟨Nat.zero_le _, Nat.zero_le _⟩) ?_
  refine lv_iload_n hx hb d_V_truncate_48 rfl (lv_at hl 3 rfl) ?_
  refine lv_aload hx hb d_V_truncate_49 (lv_at hl 4 rfl) ?_
  refine va_get (D := (dC, dI)) (ci := kArea) (v := .ref (Q y3 7)) (C := R_Area) (T := T_Area) (N := 5) hx hb hts (fun w h => List.mem_cons_of_mem _ (in_Area w h)) hown hK (jv_open hP hy3) 1 rfl rfl 4 (by decide) (jv_w hts wa_421) (fun _ h9 => h9) rfl d_V_truncate_51 ?_
  refine lv_iload hx hb d_V_truncate_54 (lv_at hl 0 rfl) ?_
  obtain ⟨x20, g21, hf⟩ := jv_ob hf
  have hPc := (jv_open hP hy3).sub (ws' := (w_cont cI (Q y3 7) (Q y3 2) (Q y3 3) (Q y3 4) (Q y3 5) ((y5 y3).2.2.2.2.2.1) ((y5 y3).2.2.2.2.2.2.1) ((y5 y3).2.2.2.2.2.2.2) ((y5 y3).2.2.1) ((y5 y3).2.2.2.1) ((y5 y3).2.2.2.2.1))) [8, 3, 4, 5, 6] rfl
  refine jv_cs (W.runV (As := [.int v14]) (rest := [.int y1]) (b := (Q y3 7)) ⟨hx, hb, hml, hown, hts⟩ (c_C_sizeOf l dC dI cI cA cL (Q y3 7) (Q y3 2) (Q y3 3) (Q y3 4) (Q y3 5) ((y5 y3).2.2.2.2.2.1) ((y5 y3).2.2.2.2.2.2.1) ((y5 y3).2.2.2.2.2.2.2) ((y5 y3).2.2.1) ((y5 y3).2.2.2.1) ((y5 y3).2.2.2.2.1) v14 x20 g21) (jv_cwV hts wa_160 wa_129 wa_426 wa_162 wa_163 rfl rfl yd_C_sizeOf ⟨Nat.le_of_ble_eq_true rfl, Nat.le_of_ble_eq_true rfl⟩) (jv_preV hK hPc 0 rfl rfl) rfl rfl hl.1 rfl (lv_room (Nat.le_of_ble_eq_true rfl)) d_V_truncate_56 ⟨Nat.zero_le _, Nat.zero_le _⟩) ?_
  refine lv_icmp_le (tgt := 72) hx hb d_V_truncate_59 (by decide) (fun hc => ?_) (fun hc => ?_)
  · have hf := jv_it hf hc
    refine lv_aload_n hx hb d_V_truncate_72 rfl (lv_at hl 1 rfl) ?_
    refine lv_aload hx hb d_V_truncate_73 (lv_at hl 4 rfl) ?_
    refine lv_aload hx hb d_V_truncate_75 (lv_at hl 4 rfl) ?_
    refine va_get (D := (dC, dI)) (ci := kArea) (v := .ref (Q y3 7)) (C := R_Area) (T := T_Area) (N := 5) hx hb hts (fun w h => List.mem_cons_of_mem _ (in_Area w h)) hown hK (jv_open hP hy3) 1 rfl rfl 4 (by decide) (jv_w hts wa_421) (fun _ h9 => h9) rfl d_V_truncate_77 ?_
    refine lv_iload hx hb d_V_truncate_80 (lv_at hl 0 rfl) ?_
    refine lv_iload_n hx hb d_V_truncate_82 rfl (lv_at hl 3 rfl) ?_
    obtain ⟨x22, g23, hf⟩ := jv_ob hf
    have hPj := jv_open hP hy3
    have hDj := jv_openD hD hy3
    have hPc := hPj.sub (ws' := (w_cont cI (Q y3 7) (Q y3 2) (Q y3 3) (Q y3 4) (Q y3 5) ((y5 y3).2.2.2.2.2.1) ((y5 y3).2.2.2.2.2.2.1) ((y5 y3).2.2.2.2.2.2.2) ((y5 y3).2.2.1) ((y5 y3).2.2.2.1) ((y5 y3).2.2.2.2.1))) [8, 3, 4, 5, 6] rfl
    have hDc := hDj.sub (ws' := (w_cont cI (Q y3 7) (Q y3 2) (Q y3 3) (Q y3 4) (Q y3 5) ((y5 y3).2.2.2.2.2.1) ((y5 y3).2.2.2.2.2.2.1) ((y5 y3).2.2.2.2.2.2.2) ((y5 y3).2.2.1) ((y5 y3).2.2.2.1) ((y5 y3).2.2.2.2.1))) [8, 3, 4, 5, 6] (by decide) rfl
    have hFc := va_free (wc := (w_cont cI (Q y3 7) (Q y3 2) (Q y3 3) (Q y3 4) (Q y3 5) ((y5 y3).2.2.2.2.2.1) ((y5 y3).2.2.2.2.2.2.1) ((y5 y3).2.2.2.2.2.2.2) ((y5 y3).2.2.1) ((y5 y3).2.2.2.1) ((y5 y3).2.2.2.2.1))) hDj hS hA [8, 3, 4, 5, 6] rfl
    refine jv_cwi (va_runV (As := [.int v14, .int y1]) (rest := [.ref (Q y3 0), .ref q_va]) (b := (Q y3 7)) ⟨hx, hb, hml, hown, hts⟩ (c_C_cut l dC dI cI cA cL (Q y3 7) (Q y3 2) (Q y3 3) (Q y3 4) (Q y3 5) ((y5 y3).2.2.2.2.2.1) ((y5 y3).2.2.2.2.2.2.1) ((y5 y3).2.2.2.2.2.2.2) ((y5 y3).2.2.1) ((y5 y3).2.2.2.1) ((y5 y3).2.2.2.2.1) v14 y1 s.heap.size x22 g23) (jv_cwV hts wa_427 wa_129 wa_428 wa_429 wa_430 rfl rfl yd_C_cut ⟨Nat.le_of_ble_eq_true rfl, Nat.le_of_ble_eq_true rfl⟩) (jv_preVW hK hPc hDc 0 rfl rfl) rfl rfl hl.1 rfl (lv_room (Nat.le_of_ble_eq_true rfl)) d_V_truncate_83 ⟨Nat.zero_le _, Nat.zero_le _⟩) hS hFc (fun H1 locs hP1 hD1 hk1 hS => ?_)
    obtain ⟨hPk, hDk⟩ := va_join (wc := (w_cont cI (Q y3 7) (Q y3 2) (Q y3 3) (Q y3 4) (Q y3 5) ((y5 y3).2.2.2.2.2.1) ((y5 y3).2.2.2.2.2.2.1) ((y5 y3).2.2.2.2.2.2.2) ((y5 y3).2.2.1) ((y5 y3).2.2.2.1) ((y5 y3).2.2.2.2.1))) (wr := [(q_fu, .inr (kFuse, [.int y4])), (Q y3 0, .inr (kArea, [.int (y5 y3).1, .ref (Q y3 1), .ref (Q y3 2), .ref (Q y3 6), .ref (Q y3 7)])), (Q y3 1, .inl (cI, 4, .inl (y5 y3).2.1)), (Q y3 6, .inr (kTree, [.ref (Q y3 2)]))]) (w1 := (w_cont cI (Q y3 7) (Q y3 2) (Q y3 3) (Q y3 4) (Q y3 5) ((y5 y3).2.2.2.2.2.1) ((y5 y3).2.2.2.2.2.2.1) ((y5 y3).2.2.2.2.2.2.2) ((y5 y3).2.2.1) x22.2 ((y5 y3).2.2.2.2.1))) hPj hDj [8, 3, 4, 5, 6] [0, 1, 2, 7] rfl rfl (by decide) (by decide) hk1 hFc hP1 hD1
    have hPk : va_P (dC, dI) vwCl (w_focus cI q_fu Q y3 y4 ((y5 y3).1, (y5 y3).2.1, (y5 y3).2.2.1, x22.2, (y5 y3).2.2.2.2.1, (y5 y3).2.2.2.2.2.1, (y5 y3).2.2.2.2.2.2.1, (y5 y3).2.2.2.2.2.2.2)) H1 := hPk.sub [0, 1, 2, 5, 6, 7, 8, 3, 4] rfl
    have hkk := jv_out (ws := (w_focus cI q_fu Q y3 y4 (y5 y3))) (wc := (w_cont cI (Q y3 7) (Q y3 2) (Q y3 3) (Q y3 4) (Q y3 5) ((y5 y3).2.2.2.2.2.1) ((y5 y3).2.2.2.2.2.2.1) ((y5 y3).2.2.2.2.2.2.2) ((y5 y3).2.2.1) ((y5 y3).2.2.2.1) ((y5 y3).2.2.2.2.1))) [8, 3, 4, 5, 6] rfl hk1
    obtain ⟨hP, hD⟩ := jv_close hP hD hy3 hkk hPk
    obtain ⟨A24, e25, hf⟩ := jv_le hf
    rw [← e25] at hP hD
    have hP : va_P (dC, dI) vwCl (w_vault cI cA q_va q_aa q_cl q_fu Q vn vC y4 A24) H1 := hP
    have hD : va_D A (w_vault cI cA q_va q_aa q_cl q_fu Q vn vC y4 A24) := hD
    generalize H1 = H at hP hS ⊢
    obtain ⟨x26, g27, hf⟩ := jv_ob hf
    have hFc := jv_fr hD hS hA
    refine jv_cwi (va_runV (As := [.ref (Q y3 0), .int x22.1]) (rest := []) (b := q_va) ⟨hx, hb, hml, hown, hts⟩ (c_V_finish l dC dI cI cA cL q_va q_aa q_cl q_fu Q vn vC y4 A24 y3 x22.1 hy3 H.size x26 g27) (jv_cwV hts wa_409 wa_303 wa_410 wa_411 wa_412 rfl rfl yd_V_finish ⟨Nat.le_of_ble_eq_true rfl, Nat.le_of_ble_eq_true rfl⟩) (jv_preVW hK hP hD 0 rfl rfl) rfl rfl hl.1 rfl (lv_room (Nat.le_of_ble_eq_true rfl)) d_V_truncate_86 ⟨Nat.zero_le _, Nat.zero_le _⟩) hS hFc (fun H1 locs hP hD1 hk1 hS => ?_)
    have hP : va_P (dC, dI) vwCl (w_vault cI cA q_va q_aa q_cl q_fu Q vn vC x26.2.1 x26.2.2) H1 := hP
    have hD : va_D A (w_vault cI cA q_va q_aa q_cl q_fu Q vn vC x26.2.1 x26.2.2) := hD1.weaken (fun _ q _ h => hFc q.1 h)
    generalize H1 = H at hP hS ⊢
    obtain rfl := Sum.inr.inj (Option.some.inj hf)
    exact W.iret hx hb hr (fun t ht hW => ⟨rfl, by rw [ht]; exact hP, hD, hS.F ht⟩) hS.2.2 d_V_truncate_89
  · have hf := jv_if hf hc
    cases Option.some.inj hf
def f_V_truncate_0 (vn : Nat) (y0 : Int32) (y1 : Int32) (y2 : Int32) (y3 : Int32) (y4 : Nat → jv_ar) : Option (Nat ⊕ (Int32 × Int32 × (Nat → jv_ar))) :=
  (f_V_areaOf vn y4 y0).bind fun x1 => jv_se x1 fun v3 => if v3 < vn then ((f_P_isPath y1).bind fun x6 => if x6 = 0 then (f_V_truncate_29 vn y1 y2 (0 : Int32) v3 y3 y4) else (if y2 < 0 then (f_V_truncate_29 vn y1 y2 (0 : Int32) v3 y3 y4) else (if (80 : Int32) < y2 then (f_V_truncate_29 vn y1 y2 (0 : Int32) v3 y3 y4) else (f_V_truncate_29 vn y1 y2 (1 : Int32) v3 y3 y4)))) else none
set_option maxHeartbeats 4000000 in
set_option maxRecDepth 100000 in
theorem b_V_truncate_0 {l : Launch} {dC : Nat → ClassId} {dI : Nat → Nat → Nat} {cI cA cL : ClassId} {q_va q_aa q_cl q_fu : Nat} {Q : Nat → Nat → Nat} {vn : Nat} {vC : Nat → Int32} {p : Program} {e : Env} {s : State} {m : MethodId} {args : Array Value} {below : List Frame} {meth : Method} {c : Code} (cx : jv_cx p s m args meth c cc_V_truncate 6 R_Vault (some .int) ws_V_truncate) (hK : va_K (dC, dI) vwCl (jv_ty cI cA cL) s) {A : Nat → Prop} (hA : ∀ q : Nat, s.heap.size ≤ q → A q) (hl9 : l.stackTraces = false) (hT : jv_th s) (hout : c.exceptionTable.isEmpty = true) {r : Int32 × Int32 × (Nat → jv_ar)} {y0 : Int32} {y1 : Int32} {y2 : Int32} {y3 : Int32} {y4 : Nat → jv_ar} {ls : Array Slot} (hl : lv_has ls 6 [(0, .ref q_va), (1, .int y0), (2, .int y1), (3, .int y2)]) (hP : va_P (dC, dI) vwCl (w_vault cI cA q_va q_aa q_cl q_fu Q vn vC y3 y4) s.heap) (hD : va_D A (w_vault cI cA q_va q_aa q_cl q_fu Q vn vC y3 y4)) (hf : f_V_truncate_0 vn y0 y1 y2 y3 y4 = some (Sum.inr r)) : W p l e rm_V_truncate s m args below meth c s.heap [] 0 0 (MQ below (jv_Qi r.1 (dC, dI) (w_vault cI cA q_va q_aa q_cl q_fu Q vn vC r.2.1 r.2.2) A) args s 0 0 A) (F0 m 0 ls []) := by
  unfold f_V_truncate_0 at hf
  obtain ⟨hx, hb, hml, hown, hts, hr, hlocks⟩ := id cx
  have hS : va_S A s.heap s.heap [] := va_S.rf
  refine lv_aload_n hx hb d_V_truncate_0 rfl (lv_at hl 0 rfl) ?_
  refine lv_iload_n hx hb d_V_truncate_1 rfl (lv_at hl 1 rfl) ?_
  obtain ⟨x1, g2, hf⟩ := jv_ob hf
  rcases x1 with k4 | v3
  · exact jv_ci hf
  have hf := jv_sr hf
  obtain ⟨hj5, hf⟩ := jv_gd hf
  refine jv_csr (W.runV (As := [.int y0]) (rest := []) (b := q_va) ⟨hx, hb, hml, hown, hts⟩ (c_V_areaOf l hl9 dC dI cI cA cL q_va q_aa q_cl q_fu Q vn vC y3 y4 y0 v3 g2) (jv_cwV hts wa_389 wa_303 wa_390 wa_391 wa_392 rfl rfl yd_V_areaOf ⟨Nat.le_of_ble_eq_true rfl, Nat.le_of_ble_eq_true rfl⟩) (jv_preVt hT hK hP 0 rfl rfl) rfl rfl hl.1 rfl (lv_room (Nat.le_of_ble_eq_true rfl)) d_V_truncate_2 ⟨Nat.zero_le _, Nat.zero_le _⟩) ?_
  refine lv_astore (lv' := [(4, .ref (Q v3 0)), (0, .ref q_va), (1, .int y0), (2, .int y1), (3, .int y2)]) hx hb d_V_truncate_5 hl (by decide) rfl (fun ls hl => ?_)
  refine lv_iload_n hx hb d_V_truncate_7 rfl (lv_at hl 3 rfl) ?_
  obtain ⟨x6, g7, hf⟩ := jv_ob hf
  refine jv_cs (W.runS (As := [.int y1]) (rest := []) ⟨hx, hb, hml, hown, hts⟩ (c_P_isPath l y1 x6 g7) (jv_cwS hts wa_14 wa_8 wa_416 wa_16 rfl rfl yd_P_isPath ⟨Nat.le_of_ble_eq_true rfl, Nat.le_of_ble_eq_true rfl⟩) jv_pre0 rfl rfl hl.1 rfl (lv_room (Nat.le_of_ble_eq_true rfl)) d_V_truncate_8 ⟨Nat.zero_le _, Nat.zero_le _⟩) ?_
  refine lv_if_eq (tgt := 28) hx hb d_V_truncate_11 (by decide) (fun hc => ?_) (fun hc => ?_)
  · have hf := jv_it hf hc
    refine lv_iconst (v := (0 : Int32)) hx hb d_V_truncate_28 (by decide) ?_
    exact b_V_truncate_29 (y0 := y1) (y1 := y2) (y2 := (0 : Int32)) (y3 := v3) (y4 := y3) (y5 := y4) (hy3 := hj5) cx hK hA hl9 hT hout (lv_sub hl [1, 3, 4, 0] rfl) hP hD hf
  · have hf := jv_if hf hc
    refine lv_iload_n hx hb d_V_truncate_14 rfl (lv_at hl 4 rfl) ?_
    refine lv_if_lt (tgt := 28) hx hb d_V_truncate_15 (by decide) (fun hc => ?_) (fun hc => ?_)
    · have hf := jv_it hf hc
      refine lv_iconst (v := (0 : Int32)) hx hb d_V_truncate_28 (by decide) ?_
      exact b_V_truncate_29 (y0 := y1) (y1 := y2) (y2 := (0 : Int32)) (y3 := v3) (y4 := y3) (y5 := y4) (hy3 := hj5) cx hK hA hl9 hT hout (lv_sub hl [1, 3, 4, 0] rfl) hP hD hf
    · have hf := jv_if hf hc
      refine lv_iload_n hx hb d_V_truncate_18 rfl (lv_at hl 4 rfl) ?_
      refine lv_bipush (v := (80 : Int32)) hx hb d_V_truncate_19 (by decide) ?_
      refine lv_icmp_gt (tgt := 28) hx hb d_V_truncate_21 (by decide) (fun hc => ?_) (fun hc => ?_)
      · have hf := jv_it hf hc
        refine lv_iconst (v := (0 : Int32)) hx hb d_V_truncate_28 (by decide) ?_
        exact b_V_truncate_29 (y0 := y1) (y1 := y2) (y2 := (0 : Int32)) (y3 := v3) (y4 := y3) (y5 := y4) (hy3 := hj5) cx hK hA hl9 hT hout (lv_sub hl [1, 3, 4, 0] rfl) hP hD hf
      · have hf := jv_if hf hc
        refine lv_iconst (v := (1 : Int32)) hx hb d_V_truncate_24 (by decide) ?_
        refine lv_goto (tgt := 29) hx hb d_V_truncate_25 (by decide) ?_
        exact b_V_truncate_29 (y0 := y1) (y1 := y2) (y2 := (1 : Int32)) (y3 := v3) (y4 := y3) (y5 := y4) (hy3 := hj5) cx hK hA hl9 hT hout (lv_sub hl [1, 3, 4, 0] rfl) hP hD hf
def f_V_truncate (vn : Nat) (a0 : Int32) (a1 : Int32) (a2 : Int32) (vat : Int32) (ars : Nat → jv_ar) : Option (Nat ⊕ (Int32 × Int32 × (Nat → jv_ar))) := f_V_truncate_0 vn a0 a1 a2 vat ars
set_option maxHeartbeats 4000000 in
set_option maxRecDepth 100000 in
theorem c_V_truncate (l : Launch) (hl9 : l.stackTraces = false) (dC : Nat → ClassId) (dI : Nat → Nat → Nat) (cI cA cL : ClassId) (q_va q_aa q_cl q_fu : Nat) (Q : Nat → Nat → Nat) (vn : Nat) (vC : Nat → Int32) (vat : Int32) (ars : Nat → jv_ar) (a0 : Int32) (a1 : Int32) (a2 : Int32) (sz : Nat) (r : Int32 × Int32 × (Nat → jv_ar)) (hf : f_V_truncate vn a0 a1 a2 vat ars = some (Sum.inr r)) : Met l y_V_truncate ws_V_truncate rm_V_truncate (jv_Pwt [.ref q_va, .int a0, .int a1, .int a2] (dC, dI) (jv_ty cI cA cL) (w_vault cI cA q_va q_aa q_cl q_fu Q vn vC vat ars) sz) (jv_Qi r.1 (dC, dI) (w_vault cI cA q_va q_aa q_cl q_fu Q vn vC r.2.1 r.2.2) (va_A (w_vault cI cA q_va q_aa q_cl q_fu Q vn vC vat ars) sz)) 0 0 (va_A (w_vault cI cA q_va q_aa q_cl q_fu Q vn vC vat ars) sz) := by
  refine Met.ofW (cc := cc_V_truncate) (maxL := 6) (ret := (some .int)) (by decide) rfl ?_
  intro p e s m args below meth c s₁ B hml hv
  obtain ⟨rfl, hsz, hP, hK, hD0, hT⟩ := hv
  have cx : jv_cx p s m _ meth c cc_V_truncate 6 R_Vault (some .int) ws_V_truncate := ⟨B.exec, B.bytes, hml, findClass_of_methodNamed B.named, atoms_spec (ws := ws_V_truncate) B.pre, B.returns, B.notSynchronized⟩
  have hout : c.exceptionTable.isEmpty = true := B.noHandlers (atoms_spec (ws := ws_V_truncate) B.pre _ List.mem_cons_self)
  subst hsz
  have hD := hD0.self (sz := s.heap.size)
  generalize hAe : va_A (w_vault cI cA q_va q_aa q_cl q_fu Q vn vC vat ars) s.heap.size = A at hD ⊢
  have hA : ∀ q : Nat, s.heap.size ≤ q → A q := fun q h => by rw [← hAe]; exact Or.inr h
  have hS : va_S A s.heap s.heap [] := va_S.rf
  have hl := lv_entry ([.ref q_va, .int a0, .int a1, .int a2]) (n := 6) (Nat.le_of_ble_eq_true rfl)
  rw [lg_entry_eq]
  generalize (lg_sl ([.ref q_va, .int a0, .int a1, .int a2]) ++ List.replicate (6 - (lg_sl ([.ref q_va, .int a0, .int a1, .int a2])).length) Slot.unset).toArray = ls at hl ⊢
  have hl : lv_has ls 6 [(0, .ref q_va), (1, .int a0), (2, .int a1), (3, .int a2)] := hl
  exact b_V_truncate_0 (y0 := a0) (y1 := a1) (y2 := a2) (y3 := vat) (y4 := ars) cx hK hA hl9 hT hout (lv_sub hl [0, 1, 2, 3] rfl) hP hD hf
set_option maxHeartbeats 4000000 in
set_option maxRecDepth 100000 in
theorem t_V_truncate_29 {l : Launch} {dC : Nat → ClassId} {dI : Nat → Nat → Nat} {cI cA cL : ClassId} {q_va q_aa q_cl q_fu : Nat} {Q : Nat → Nat → Nat} {vn : Nat} {vC : Nat → Int32} {p : Program} {e : Env} {s : State} {m : MethodId} {args : Array Value} {below : List Frame} {meth : Method} {c : Code} (cx : jv_cx p s m args meth c cc_V_truncate 6 R_Vault (some .int) ws_V_truncate) (hK : va_K (dC, dI) vwCl (jv_ty cI cA cL) s) (hl9 : l.stackTraces = false) (hT : jv_th s) (hout : c.exceptionTable.isEmpty = true) {kx : Nat} {y0 : Int32} {y1 : Int32} {y2 : Int32} {y3 : Nat} {y4 : Int32} {y5 : Nat → jv_ar} (hy3 : y3 < vn) {ls : Array Slot} (hl : lv_has ls 6 [(0, .ref q_va), (2, .int y0), (3, .int y1), (4, .ref (Q y3 0))]) (hP : va_P (dC, dI) vwCl (w_vault cI cA q_va q_aa q_cl q_fu Q vn vC y4 y5) s.heap) (hf : f_V_truncate_29 vn y0 y1 y2 y3 y4 y5 = some (Sum.inl kx)) : W p l e rx_V_truncate s m args below meth c s.heap [] 0 0 (jv_MQ below (jv_en kx) args s 1 6) (F0 m 29 ls [.int y2]) := by
  unfold f_V_truncate_29 at hf
  obtain ⟨hx, hb, hml, hown, hts, hr, hlocks⟩ := id cx
  obtain ⟨x8, g9, hf⟩ := jv_ob hf
  rcases x8 with k11 | v10
  · rw [jv_sl hf] at g9
    exact jv_xS (cells := 0) (slots := 0) (As := [.int y2]) (rest := []) ⟨hx, hb, hml, hown, hts⟩ (x_V_demand l hl9 y2 kx g9) (jv_cwS hts wa_321 wa_303 wa_322 wa_323 rfl rfl yd_V_demand ⟨Nat.le_of_ble_eq_true rfl, Nat.le_of_ble_eq_true rfl⟩) (jv_pre0t hT) rfl rfl hl.1 rfl (lv_room (Nat.le_of_ble_eq_true rfl)) d_V_truncate_29 ⟨Nat.le_of_ble_eq_true rfl, Nat.le_of_ble_eq_true rfl⟩ (fun x H1 hob => jv_leave hout hlocks hob)
  have hf := jv_sr hf
  refine jv_csv (W.runS (As := [.int y2]) (rest := []) ⟨hx, hb, hml, hown, hts⟩ (c_V_demand l hl9 y2 v10 g9) (jv_cwS hts wa_321 wa_303 wa_322 wa_323 rfl rfl yd_V_demand ⟨Nat.le_of_ble_eq_true rfl, Nat.le_of_ble_eq_true rfl⟩) (jv_pre0t hT) rfl rfl hl.1 rfl (lv_room (Nat.le_of_ble_eq_true rfl)) d_V_truncate_29 ⟨Nat.zero_le _, Nat.zero_le _⟩) ?_
  refine lv_aload_n hx hb d_V_truncate_32 rfl (lv_at hl 0 rfl) ?_
  refine lv_aload hx hb d_V_truncate_33 (lv_at hl 3 rfl) ?_
  refine lv_iload_n hx hb d_V_truncate_35 rfl (lv_at hl 1 rfl) ?_
  obtain ⟨x12, g13, hf⟩ := jv_ob hf
  rcases x12 with k15 | v14
  · rw [jv_sl hf] at g13
    exact jv_xV (cells := 0) (slots := 0) (As := [.ref (Q y3 0), .int y0]) (rest := []) (b := q_va) ⟨hx, hb, hml, hown, hts⟩ (x_V_ownInode l hl9 dC dI cI cA cL q_va q_aa q_cl q_fu Q vn vC y4 y5 y3 y0 hy3 kx g13) (jv_cwV hts wa_417 wa_303 wa_418 wa_419 wa_420 rfl rfl yd_V_ownInode ⟨Nat.le_of_ble_eq_true rfl, Nat.le_of_ble_eq_true rfl⟩) (jv_preVt hT hK hP 0 rfl rfl) rfl rfl hl.1 rfl (lv_room (Nat.le_of_ble_eq_true rfl)) d_V_truncate_36 ⟨Nat.le_of_ble_eq_true rfl, Nat.le_of_ble_eq_true rfl⟩ (fun x H1 hob => jv_leave hout hlocks hob)
  have hf := jv_sr hf
  refine jv_cs (W.runV (As := [.ref (Q y3 0), .int y0]) (rest := []) (b := q_va) ⟨hx, hb, hml, hown, hts⟩ (c_V_ownInode l hl9 dC dI cI cA cL q_va q_aa q_cl q_fu Q vn vC y4 y5 y3 y0 hy3 v14 g13) (jv_cwV hts wa_417 wa_303 wa_418 wa_419 wa_420 rfl rfl yd_V_ownInode ⟨Nat.le_of_ble_eq_true rfl, Nat.le_of_ble_eq_true rfl⟩) (jv_preVt hT hK hP 0 rfl rfl) rfl rfl hl.1 rfl (lv_room (Nat.le_of_ble_eq_true rfl)) d_V_truncate_36 ⟨Nat.zero_le _, Nat.zero_le _⟩) ?_
  refine lv_istore (lv' := [(5, .int v14), (0, .ref q_va), (2, .int y0), (3, .int y1), (4, .ref (Q y3 0))]) hx hb d_V_truncate_39 hl (by decide) rfl (fun ls hl => ?_)
  refine lv_aload hx hb d_V_truncate_41 (lv_at hl 4 rfl) ?_
  refine lv_iload hx hb d_V_truncate_43 (lv_at hl 0 rfl) ?_
  obtain ⟨x16, g17, hf⟩ := jv_ob hf
  rcases x16 with k19 | v18
  · rw [jv_sl hf] at g17
    exact jv_xS (cells := 0) (slots := 0) (As := [.ref (Q y3 0), .int v14]) (rest := []) ⟨hx, hb, hml, hown, hts⟩ (x_V_demandFile l hl9 dC dI cI cA cL q_va q_aa q_cl q_fu Q vn vC y4 y5 y3 v14 hy3 kx g17) (jv_cwS hts wa_343 wa_303 wa_344 wa_345 rfl rfl yd_V_demandFile ⟨Nat.le_of_ble_eq_true rfl, Nat.le_of_ble_eq_true rfl⟩) (jv_preSt hT hK hP) rfl rfl hl.1 rfl (lv_room (Nat.le_of_ble_eq_true rfl)) d_V_truncate_45 ⟨Nat.le_of_ble_eq_true rfl, Nat.le_of_ble_eq_true rfl⟩ (fun x H1 hob => jv_leave hout hlocks hob)
  have hf := jv_sr hf
  refine jv_csv (W.runS (As := [.ref (Q y3 0), .int v14]) (rest := []) ⟨hx, hb, hml, hown, hts⟩ (c_V_demandFile l hl9 dC dI cI cA cL q_va q_aa q_cl q_fu Q vn vC y4 y5 y3 v14 hy3 v18 g17) (jv_cwS hts wa_343 wa_303 wa_344 wa_345 rfl rfl yd_V_demandFile ⟨Nat.le_of_ble_eq_true rfl, Nat.le_of_ble_eq_true rfl⟩) (jv_preSt hT hK hP) rfl rfl hl.1 rfl (lv_room (Nat.le_of_ble_eq_true rfl)) d_V_truncate_45 ⟨Nat.zero_le _, Nat.zero_le _⟩) ?_
  refine lv_iload_n hx hb d_V_truncate_48 rfl (lv_at hl 3 rfl) ?_
  refine lv_aload hx hb d_V_truncate_49 (lv_at hl 4 rfl) ?_
  refine va_get (D := (dC, dI)) (ci := kArea) (v := .ref (Q y3 7)) (C := R_Area) (T := T_Area) (N := 5) hx hb hts (fun w h => List.mem_cons_of_mem _ (in_Area w h)) hown hK (jv_open hP hy3) 1 rfl rfl 4 (by decide) (jv_w hts wa_421) (fun _ h9 => h9) rfl d_V_truncate_51 ?_
  refine lv_iload hx hb d_V_truncate_54 (lv_at hl 0 rfl) ?_
  obtain ⟨x20, g21, hf⟩ := jv_ob hf
  have hPc := (jv_open hP hy3).sub (ws' := (w_cont cI (Q y3 7) (Q y3 2) (Q y3 3) (Q y3 4) (Q y3 5) ((y5 y3).2.2.2.2.2.1) ((y5 y3).2.2.2.2.2.2.1) ((y5 y3).2.2.2.2.2.2.2) ((y5 y3).2.2.1) ((y5 y3).2.2.2.1) ((y5 y3).2.2.2.2.1))) [8, 3, 4, 5, 6] rfl
  refine jv_cs (W.runV (As := [.int v14]) (rest := [.int y1]) (b := (Q y3 7)) ⟨hx, hb, hml, hown, hts⟩ (c_C_sizeOf l dC dI cI cA cL (Q y3 7) (Q y3 2) (Q y3 3) (Q y3 4) (Q y3 5) ((y5 y3).2.2.2.2.2.1) ((y5 y3).2.2.2.2.2.2.1) ((y5 y3).2.2.2.2.2.2.2) ((y5 y3).2.2.1) ((y5 y3).2.2.2.1) ((y5 y3).2.2.2.2.1) v14 x20 g21) (jv_cwV hts wa_160 wa_129 wa_426 wa_162 wa_163 rfl rfl yd_C_sizeOf ⟨Nat.le_of_ble_eq_true rfl, Nat.le_of_ble_eq_true rfl⟩) (jv_preV hK hPc 0 rfl rfl) rfl rfl hl.1 rfl (lv_room (Nat.le_of_ble_eq_true rfl)) d_V_truncate_56 ⟨Nat.zero_le _, Nat.zero_le _⟩) ?_
  refine lv_icmp_le (tgt := 72) hx hb d_V_truncate_59 (by decide) (fun hc => ?_) (fun hc => ?_)
  · have hf := jv_it hf hc
    refine lv_aload_n hx hb d_V_truncate_72 rfl (lv_at hl 1 rfl) ?_
    refine lv_aload hx hb d_V_truncate_73 (lv_at hl 4 rfl) ?_
    refine lv_aload hx hb d_V_truncate_75 (lv_at hl 4 rfl) ?_
    refine va_get (D := (dC, dI)) (ci := kArea) (v := .ref (Q y3 7)) (C := R_Area) (T := T_Area) (N := 5) hx hb hts (fun w h => List.mem_cons_of_mem _ (in_Area w h)) hown hK (jv_open hP hy3) 1 rfl rfl 4 (by decide) (jv_w hts wa_421) (fun _ h9 => h9) rfl d_V_truncate_77 ?_
    refine lv_iload hx hb d_V_truncate_80 (lv_at hl 0 rfl) ?_
    refine lv_iload_n hx hb d_V_truncate_82 rfl (lv_at hl 3 rfl) ?_
    obtain ⟨x22, g23, hf⟩ := jv_ob hf
    obtain ⟨A24, e25, hf⟩ := jv_le hf
    obtain ⟨x26, g27, hf⟩ := jv_ob hf
    cases Option.some.inj hf
  · have hf := jv_if hf hc
    obtain rfl := Sum.inl.inj (Option.some.inj hf)
    refine W.newc hx hb hown (jv_w hts wa_340) (jv_w hts wa_341) (jv_w hts wa_342) rfl d_V_truncate_62 (Nat.le_of_ble_eq_true rfl) (Nat.le_of_ble_eq_true rfl) (fun cC kC h1 h2 h3 h4 => ?_)
    refine W.eq (g2 := F0 m 65 ls (.ref s.heap.size :: [])) rfl ?_
    refine lv_dup hx hb d_V_truncate_65 rfl ?_
    obtain ⟨sa, hsa⟩ := hT.2.2 (155, "the file is shorter than that") (by decide +kernel)
    refine va_ldcS (own := R_Vault) hx hb hown hsa d_V_truncate_66 ?_
    exact jv_throwS (names := ["java/lang/RuntimeException", "java/lang/Exception"]) hx hb hl9 hlocks (hl.1.trans hml.symm) hown (by decide +kernel) (by decide +kernel) (jv_own hts hT oa_115) hout h1 h2 jv_fresh (Nat.le_refl _) d_V_truncate_68 d_V_truncate_71 (Nat.le_of_ble_eq_true rfl) (Nat.le_of_ble_eq_true rfl)
set_option maxHeartbeats 4000000 in
set_option maxRecDepth 100000 in
theorem t_V_truncate_0 {l : Launch} {dC : Nat → ClassId} {dI : Nat → Nat → Nat} {cI cA cL : ClassId} {q_va q_aa q_cl q_fu : Nat} {Q : Nat → Nat → Nat} {vn : Nat} {vC : Nat → Int32} {p : Program} {e : Env} {s : State} {m : MethodId} {args : Array Value} {below : List Frame} {meth : Method} {c : Code} (cx : jv_cx p s m args meth c cc_V_truncate 6 R_Vault (some .int) ws_V_truncate) (hK : va_K (dC, dI) vwCl (jv_ty cI cA cL) s) (hl9 : l.stackTraces = false) (hT : jv_th s) (hout : c.exceptionTable.isEmpty = true) {kx : Nat} {y0 : Int32} {y1 : Int32} {y2 : Int32} {y3 : Int32} {y4 : Nat → jv_ar} {ls : Array Slot} (hl : lv_has ls 6 [(0, .ref q_va), (1, .int y0), (2, .int y1), (3, .int y2)]) (hP : va_P (dC, dI) vwCl (w_vault cI cA q_va q_aa q_cl q_fu Q vn vC y3 y4) s.heap) (hf : f_V_truncate_0 vn y0 y1 y2 y3 y4 = some (Sum.inl kx)) : W p l e rx_V_truncate s m args below meth c s.heap [] 0 0 (jv_MQ below (jv_en kx) args s 1 6) (F0 m 0 ls []) := by
  unfold f_V_truncate_0 at hf
  obtain ⟨hx, hb, hml, hown, hts, hr, hlocks⟩ := id cx
  refine lv_aload_n hx hb d_V_truncate_0 rfl (lv_at hl 0 rfl) ?_
  refine lv_iload_n hx hb d_V_truncate_1 rfl (lv_at hl 1 rfl) ?_
  obtain ⟨x1, g2, hf⟩ := jv_ob hf
  rcases x1 with k4 | v3
  · rw [jv_sl hf] at g2
    exact jv_xV (cells := 0) (slots := 0) (As := [.int y0]) (rest := []) (b := q_va) ⟨hx, hb, hml, hown, hts⟩ (x_V_areaOf l hl9 dC dI cI cA cL q_va q_aa q_cl q_fu Q vn vC y3 y4 y0 kx g2) (jv_cwV hts wa_389 wa_303 wa_390 wa_391 wa_392 rfl rfl yd_V_areaOf ⟨Nat.le_of_ble_eq_true rfl, Nat.le_of_ble_eq_true rfl⟩) (jv_preVt hT hK hP 0 rfl rfl) rfl rfl hl.1 rfl (lv_room (Nat.le_of_ble_eq_true rfl)) d_V_truncate_2 ⟨Nat.le_of_ble_eq_true rfl, Nat.le_of_ble_eq_true rfl⟩ (fun x H1 hob => jv_leave hout hlocks hob)
  have hf := jv_sr hf
  obtain ⟨hj5, hf⟩ := jv_gd hf
  refine jv_csr (W.runV (As := [.int y0]) (rest := []) (b := q_va) ⟨hx, hb, hml, hown, hts⟩ (c_V_areaOf l hl9 dC dI cI cA cL q_va q_aa q_cl q_fu Q vn vC y3 y4 y0 v3 g2) (jv_cwV hts wa_389 wa_303 wa_390 wa_391 wa_392 rfl rfl yd_V_areaOf ⟨Nat.le_of_ble_eq_true rfl, Nat.le_of_ble_eq_true rfl⟩) (jv_preVt hT hK hP 0 rfl rfl) rfl rfl hl.1 rfl (lv_room (Nat.le_of_ble_eq_true rfl)) d_V_truncate_2 ⟨Nat.zero_le _, Nat.zero_le _⟩) ?_
  refine lv_astore (lv' := [(4, .ref (Q v3 0)), (0, .ref q_va), (1, .int y0), (2, .int y1), (3, .int y2)]) hx hb d_V_truncate_5 hl (by decide) rfl (fun ls hl => ?_)
  refine lv_iload_n hx hb d_V_truncate_7 rfl (lv_at hl 3 rfl) ?_
  obtain ⟨x6, g7, hf⟩ := jv_ob hf
  refine jv_cs (W.runS (As := [.int y1]) (rest := []) ⟨hx, hb, hml, hown, hts⟩ (c_P_isPath l y1 x6 g7) (jv_cwS hts wa_14 wa_8 wa_416 wa_16 rfl rfl yd_P_isPath ⟨Nat.le_of_ble_eq_true rfl, Nat.le_of_ble_eq_true rfl⟩) jv_pre0 rfl rfl hl.1 rfl (lv_room (Nat.le_of_ble_eq_true rfl)) d_V_truncate_8 ⟨Nat.zero_le _, Nat.zero_le _⟩) ?_
  refine lv_if_eq (tgt := 28) hx hb d_V_truncate_11 (by decide) (fun hc => ?_) (fun hc => ?_)
  · have hf := jv_it hf hc
    refine lv_iconst (v := (0 : Int32)) hx hb d_V_truncate_28 (by decide) ?_
    exact t_V_truncate_29 (y0 := y1) (y1 := y2) (y2 := (0 : Int32)) (y3 := v3) (y4 := y3) (y5 := y4) (hy3 := hj5) cx hK hl9 hT hout (lv_sub hl [1, 3, 4, 0] rfl) hP hf
  · have hf := jv_if hf hc
    refine lv_iload_n hx hb d_V_truncate_14 rfl (lv_at hl 4 rfl) ?_
    refine lv_if_lt (tgt := 28) hx hb d_V_truncate_15 (by decide) (fun hc => ?_) (fun hc => ?_)
    · have hf := jv_it hf hc
      refine lv_iconst (v := (0 : Int32)) hx hb d_V_truncate_28 (by decide) ?_
      exact t_V_truncate_29 (y0 := y1) (y1 := y2) (y2 := (0 : Int32)) (y3 := v3) (y4 := y3) (y5 := y4) (hy3 := hj5) cx hK hl9 hT hout (lv_sub hl [1, 3, 4, 0] rfl) hP hf
    · have hf := jv_if hf hc
      refine lv_iload_n hx hb d_V_truncate_18 rfl (lv_at hl 4 rfl) ?_
      refine lv_bipush (v := (80 : Int32)) hx hb d_V_truncate_19 (by decide) ?_
      refine lv_icmp_gt (tgt := 28) hx hb d_V_truncate_21 (by decide) (fun hc => ?_) (fun hc => ?_)
      · have hf := jv_it hf hc
        refine lv_iconst (v := (0 : Int32)) hx hb d_V_truncate_28 (by decide) ?_
        exact t_V_truncate_29 (y0 := y1) (y1 := y2) (y2 := (0 : Int32)) (y3 := v3) (y4 := y3) (y5 := y4) (hy3 := hj5) cx hK hl9 hT hout (lv_sub hl [1, 3, 4, 0] rfl) hP hf
      · have hf := jv_if hf hc
        refine lv_iconst (v := (1 : Int32)) hx hb d_V_truncate_24 (by decide) ?_
        refine lv_goto (tgt := 29) hx hb d_V_truncate_25 (by decide) ?_
        exact t_V_truncate_29 (y0 := y1) (y1 := y2) (y2 := (1 : Int32)) (y3 := v3) (y4 := y3) (y5 := y4) (hy3 := hj5) cx hK hl9 hT hout (lv_sub hl [1, 3, 4, 0] rfl) hP hf
set_option maxHeartbeats 4000000 in
set_option maxRecDepth 100000 in
theorem x_V_truncate (l : Launch) (hl9 : l.stackTraces = false) (dC : Nat → ClassId) (dI : Nat → Nat → Nat) (cI cA cL : ClassId) (q_va q_aa q_cl q_fu : Nat) (Q : Nat → Nat → Nat) (vn : Nat) (vC : Nat → Int32) (vat : Int32) (ars : Nat → jv_ar) (a0 : Int32) (a1 : Int32) (a2 : Int32) (kx : Nat) (hf : f_V_truncate vn a0 a1 a2 vat ars = some (Sum.inl kx)) : jv_MX l y_V_truncate ws_V_truncate rx_V_truncate (jv_Prt [.ref q_va, .int a0, .int a1, .int a2] (dC, dI) (jv_ty cI cA cL) (w_vault cI cA q_va q_aa q_cl q_fu Q vn vC vat ars)) (jv_en kx) 1 6 := by
  refine jv_MX.ofW (cc := cc_V_truncate) (maxL := 6) (ret := (some .int)) (by decide) rfl ?_
  intro p e s m args below meth c s₁ B hml hv
  obtain ⟨rfl, hP, hK, hT⟩ := hv
  have cx : jv_cx p s m _ meth c cc_V_truncate 6 R_Vault (some .int) ws_V_truncate := ⟨B.exec, B.bytes, hml, findClass_of_methodNamed B.named, atoms_spec (ws := ws_V_truncate) B.pre, B.returns, B.notSynchronized⟩
  have hout : c.exceptionTable.isEmpty = true := B.noHandlers (atoms_spec (ws := ws_V_truncate) B.pre _ List.mem_cons_self)
  have hl := lv_entry ([.ref q_va, .int a0, .int a1, .int a2]) (n := 6) (Nat.le_of_ble_eq_true rfl)
  rw [lg_entry_eq]
  generalize (lg_sl ([.ref q_va, .int a0, .int a1, .int a2]) ++ List.replicate (6 - (lg_sl ([.ref q_va, .int a0, .int a1, .int a2])).length) Slot.unset).toArray = ls at hl ⊢
  have hl : lv_has ls 6 [(0, .ref q_va), (1, .int a0), (2, .int a1), (3, .int a2)] := hl
  exact t_V_truncate_0 (y0 := a0) (y1 := a1) (y2 := a2) (y3 := vat) (y4 := ars) cx hK hl9 hT hout (lv_sub hl [0, 1, 2, 3] rfl) hP hf
theorem d_V_remove_0 : decode cc_V_remove 0 = .ok (.aload_n 0, 1) := by decide +kernel
theorem d_V_remove_1 : decode cc_V_remove 1 = .ok (.iload_n 1, 1) := by decide +kernel
theorem d_V_remove_2 : decode cc_V_remove 2 = .ok (.invokevirtual 79, 3) := by decide +kernel
theorem d_V_remove_5 : decode cc_V_remove 5 = .ok (.astore_n 3, 1) := by decide +kernel
theorem d_V_remove_6 : decode cc_V_remove 6 = .ok (.iload_n 2, 1) := by decide +kernel
theorem d_V_remove_7 : decode cc_V_remove 7 = .ok (.invokestatic 85, 3) := by decide +kernel
theorem d_V_remove_10 : decode cc_V_remove 10 = .ok (.invokestatic 36, 3) := by decide +kernel
theorem d_V_remove_13 : decode cc_V_remove 13 = .ok (.aload_n 0, 1) := by decide +kernel
theorem d_V_remove_14 : decode cc_V_remove 14 = .ok (.aload_n 3, 1) := by decide +kernel
theorem d_V_remove_15 : decode cc_V_remove 15 = .ok (.iload_n 2, 1) := by decide +kernel
theorem d_V_remove_16 : decode cc_V_remove 16 = .ok (.invokevirtual 137, 3) := by decide +kernel
theorem d_V_remove_19 : decode cc_V_remove 19 = .ok (.istore 4, 2) := by decide +kernel
theorem d_V_remove_21 : decode cc_V_remove 21 = .ok (.aload_n 3, 1) := by decide +kernel
theorem d_V_remove_22 : decode cc_V_remove 22 = .ok (.getfield 102, 3) := by decide +kernel
theorem d_V_remove_25 : decode cc_V_remove 25 = .ok (.iconst 1, 1) := by decide +kernel
theorem d_V_remove_26 : decode cc_V_remove 26 = .ok (.iload 4, 2) := by decide +kernel
theorem d_V_remove_28 : decode cc_V_remove 28 = .ok (.ishl, 1) := by decide +kernel
theorem d_V_remove_29 : decode cc_V_remove 29 = .ok (.invokevirtual 160, 3) := by decide +kernel
theorem d_V_remove_32 : decode cc_V_remove 32 = .ok (.ifCond .eq 13, 3) := by decide +kernel
theorem d_V_remove_45 : decode cc_V_remove 45 = .ok (.aload_n 3, 1) := by decide +kernel
theorem d_V_remove_46 : decode cc_V_remove 46 = .ok (.getfield 144, 3) := by decide +kernel
theorem d_V_remove_49 : decode cc_V_remove 49 = .ok (.iload 4, 2) := by decide +kernel
theorem d_V_remove_51 : decode cc_V_remove 51 = .ok (.invokevirtual 165, 3) := by decide +kernel
theorem d_V_remove_54 : decode cc_V_remove 54 = .ok (.aload_n 3, 1) := by decide +kernel
theorem d_V_remove_55 : decode cc_V_remove 55 = .ok (.getfield 102, 3) := by decide +kernel
theorem d_V_remove_58 : decode cc_V_remove 58 = .ok (.iload 4, 2) := by decide +kernel
theorem d_V_remove_60 : decode cc_V_remove 60 = .ok (.invokevirtual 169, 3) := by decide +kernel
theorem d_V_remove_63 : decode cc_V_remove 63 = .ok (.aload_n 0, 1) := by decide +kernel
theorem d_V_remove_64 : decode cc_V_remove 64 = .ok (.aload_n 3, 1) := by decide +kernel
theorem d_V_remove_65 : decode cc_V_remove 65 = .ok (.iload 4, 2) := by decide +kernel
theorem d_V_remove_67 : decode cc_V_remove 67 = .ok (.invokevirtual 128, 3) := by decide +kernel
theorem d_V_remove_70 : decode cc_V_remove 70 = .ok (.ireturn, 1) := by decide +kernel
theorem d_V_remove_35 : decode cc_V_remove 35 = .ok (.new 111, 3) := by decide +kernel
theorem d_V_remove_41 : decode cc_V_remove 41 = .ok (.invokespecial 115, 3) := by decide +kernel
theorem d_V_remove_44 : decode cc_V_remove 44 = .ok (.athrow, 1) := by decide +kernel
theorem d_V_remove_38 : decode cc_V_remove 38 = .ok (.dup, 1) := by decide +kernel
theorem d_V_remove_39 : decode cc_V_remove 39 = .ok (.ldc 163, 2) := by decide +kernel
def f_V_remove_0 (vn : Nat) (y0 : Int32) (y1 : Int32) (y2 : Int32) (y3 : Nat → jv_ar) : Option (Nat ⊕ (Int32 × Int32 × (Nat → jv_ar))) :=
  (f_V_areaOf vn y3 y0).bind fun x1 => jv_se x1 fun v3 => if v3 < vn then ((f_P_isBelowRoot y1).bind fun x6 => (f_V_demand x6).bind fun x8 => jv_se x8 fun v10 => (f_V_ownInode vn y3 v3 y1).bind fun x12 => jv_se x12 fun v14 => (f_T_childrenOf ((y3 v3).2.2.2.1) ((1 : Int32) <<< (v14 &&& 31))).bind fun x16 => if x16 = 0 then ((f_C_releaseAll v14 ((y3 v3).2.2.2.1)).bind fun x18 => jv_lt (va_up y3 v3 ((y3 v3).1, (y3 v3).2.1, (y3 v3).2.2.1, x18, (y3 v3).2.2.2.2.1, (y3 v3).2.2.2.2.2.1, (y3 v3).2.2.2.2.2.2.1, (y3 v3).2.2.2.2.2.2.2)) fun A20 => (f_T_erase v14 ((A20 v3).2.2.2.1)).bind fun x22 => jv_lt (va_up A20 v3 ((A20 v3).1, (A20 v3).2.1, (A20 v3).2.2.1, x22, (A20 v3).2.2.2.2.1, (A20 v3).2.2.2.2.2.1, (A20 v3).2.2.2.2.2.2.1, (A20 v3).2.2.2.2.2.2.2)) fun A24 => (f_V_finish vn v3 v14 y2 A24).bind fun x26 => some (Sum.inr (x26.1, x26.2.1, x26.2.2))) else (some (Sum.inl 4))) else none
set_option maxHeartbeats 4000000 in
set_option maxRecDepth 100000 in
theorem b_V_remove_0 {l : Launch} {dC : Nat → ClassId} {dI : Nat → Nat → Nat} {cI cA cL : ClassId} {q_va q_aa q_cl q_fu : Nat} {Q : Nat → Nat → Nat} {vn : Nat} {vC : Nat → Int32} {p : Program} {e : Env} {s : State} {m : MethodId} {args : Array Value} {below : List Frame} {meth : Method} {c : Code} (cx : jv_cx p s m args meth c cc_V_remove 5 R_Vault (some .int) ws_V_remove) (hK : va_K (dC, dI) vwCl (jv_ty cI cA cL) s) {A : Nat → Prop} (hA : ∀ q : Nat, s.heap.size ≤ q → A q) (hl9 : l.stackTraces = false) (hT : jv_th s) (hout : c.exceptionTable.isEmpty = true) {r : Int32 × Int32 × (Nat → jv_ar)} {y0 : Int32} {y1 : Int32} {y2 : Int32} {y3 : Nat → jv_ar} {ls : Array Slot} (hl : lv_has ls 5 [(0, .ref q_va), (1, .int y0), (2, .int y1)]) (hP : va_P (dC, dI) vwCl (w_vault cI cA q_va q_aa q_cl q_fu Q vn vC y2 y3) s.heap) (hD : va_D A (w_vault cI cA q_va q_aa q_cl q_fu Q vn vC y2 y3)) (hf : f_V_remove_0 vn y0 y1 y2 y3 = some (Sum.inr r)) : W p l e rm_V_remove s m args below meth c s.heap [] 0 0 (MQ below (jv_Qi r.1 (dC, dI) (w_vault cI cA q_va q_aa q_cl q_fu Q vn vC r.2.1 r.2.2) A) args s 0 0 A) (F0 m 0 ls []) := by
  unfold f_V_remove_0 at hf
  obtain ⟨hx, hb, hml, hown, hts, hr, hlocks⟩ := id cx
  have hS : va_S A s.heap s.heap [] := va_S.rf
  refine lv_aload_n hx hb d_V_remove_0 rfl (lv_at hl 0 rfl) ?_
  refine lv_iload_n hx hb d_V_remove_1 rfl (lv_at hl 1 rfl) ?_
  obtain ⟨x1, g2, hf⟩ := jv_ob hf
  rcases x1 with k4 | v3
  · exact jv_ci hf
  have hf := jv_sr hf
  obtain ⟨hj5, hf⟩ := jv_gd hf
  refine jv_csr (W.runV (As := [.int y0]) (rest := []) (b := q_va) ⟨hx, hb, hml, hown, hts⟩ (c_V_areaOf l hl9 dC dI cI cA cL q_va q_aa q_cl q_fu Q vn vC y2 y3 y0 v3 g2) (jv_cwV hts wa_389 wa_303 wa_390 wa_391 wa_392 rfl rfl yd_V_areaOf ⟨Nat.le_of_ble_eq_true rfl, Nat.le_of_ble_eq_true rfl⟩) (jv_preVt hT hK hP 0 rfl rfl) rfl rfl hl.1 rfl (lv_room (Nat.le_of_ble_eq_true rfl)) d_V_remove_2 ⟨Nat.zero_le _, Nat.zero_le _⟩) ?_
  refine lv_astore_n (lv' := [(3, .ref (Q v3 0)), (0, .ref q_va), (1, .int y0), (2, .int y1)]) hx hb d_V_remove_5 rfl hl (by decide) rfl (fun ls hl => ?_)
  refine lv_iload_n hx hb d_V_remove_6 rfl (lv_at hl 3 rfl) ?_
  obtain ⟨x6, g7, hf⟩ := jv_ob hf
  refine jv_cs (W.runS (As := [.int y1]) (rest := []) ⟨hx, hb, hml, hown, hts⟩ (c_P_isBelowRoot l y1 x6 g7) (jv_cwS hts wa_397 wa_8 wa_398 wa_399 rfl rfl yd_P_isBelowRoot ⟨Nat.le_of_ble_eq_true rfl, Nat.le_of_ble_eq_true rfl⟩) jv_pre0 rfl rfl hl.1 rfl (lv_room (Nat.le_of_ble_eq_true rfl)) d_V_remove_7 ⟨Nat.zero_le _, Nat.zero_le _⟩) ?_
  obtain ⟨x8, g9, hf⟩ := jv_ob hf
  rcases x8 with k11 | v10
  · exact jv_ci hf
  have hf := jv_sr hf
  refine jv_csv (W.runS (As := [.int x6]) (rest := []) ⟨hx, hb, hml, hown, hts⟩ (c_V_demand l hl9 x6 v10 g9) (jv_cwS hts wa_321 wa_303 wa_322 wa_323 rfl rfl yd_V_demand ⟨Nat.le_of_ble_eq_true rfl, Nat.le_of_ble_eq_true rfl⟩) (jv_pre0t hT) rfl rfl hl.1 rfl (lv_room (Nat.le_of_ble_eq_true rfl)) d_V_remove_10 ⟨Nat.zero_le _, Nat.zero_le _⟩) ?_
  refine lv_aload_n hx hb d_V_remove_13 rfl (lv_at hl 1 rfl) ?_
  refine lv_aload_n hx hb d_V_remove_14 rfl (lv_at hl 0 rfl) ?_
  refine lv_iload_n hx hb d_V_remove_15 rfl (lv_at hl 3 rfl) ?_
  obtain ⟨x12, g13, hf⟩ := jv_ob hf
  rcases x12 with k15 | v14
  · exact jv_ci hf
  have hf := jv_sr hf
  refine jv_cs (W.runV (As := [.ref (Q v3 0), .int y1]) (rest := []) (b := q_va) ⟨hx, hb, hml, hown, hts⟩ (c_V_ownInode l hl9 dC dI cI cA cL q_va q_aa q_cl q_fu Q vn vC y2 y3 v3 y1 hj5 v14 g13) (jv_cwV hts wa_417 wa_303 wa_418 wa_419 wa_420 rfl rfl yd_V_ownInode ⟨Nat.le_of_ble_eq_true rfl, Nat.le_of_ble_eq_true rfl⟩) (jv_preVt hT hK hP 0 rfl rfl) rfl rfl hl.1 rfl (lv_room (Nat.le_of_ble_eq_true rfl)) d_V_remove_16 ⟨Nat.zero_le _, Nat.zero_le _⟩) ?_
  refine lv_istore (lv' := [(4, .int v14), (3, .ref (Q v3 0)), (0, .ref q_va), (1, .int y0), (2, .int y1)]) hx hb d_V_remove_19 hl (by decide) rfl (fun ls hl => ?_)
  refine lv_aload_n hx hb d_V_remove_21 rfl (lv_at hl 1 rfl) ?_
  refine va_get (D := (dC, dI)) (ci := kArea) (v := .ref (Q v3 6)) (C := R_Area) (T := T_Area) (N := 5) hx hb hts (fun w h => List.mem_cons_of_mem _ (in_Area w h)) hown hK (jv_open hP hj5) 1 rfl rfl 3 (by decide) (jv_w hts wa_315) (fun _ h9 => h9) rfl d_V_remove_22 ?_
  refine lv_iconst (v := (1 : Int32)) hx hb d_V_remove_25 (by decide) ?_
  refine lv_iload hx hb d_V_remove_26 (lv_at hl 0 rfl) ?_
  refine lv_ishl hx hb d_V_remove_28 ?_
  obtain ⟨x16, g17, hf⟩ := jv_ob hf
  have hPc := (jv_open hP hj5).sub (ws' := (w_tree cI (Q v3 6) (Q v3 2) (Q v3 3) (Q v3 4) (Q v3 5) ((y3 v3).2.2.2.2.2.1) ((y3 v3).2.2.2.2.2.2.1) ((y3 v3).2.2.2.2.2.2.2) ((y3 v3).2.2.1) ((y3 v3).2.2.2.1) ((y3 v3).2.2.2.2.1))) [7, 3, 4, 5, 6] rfl
  refine jv_cs (W.runV (As := [.int ((1 : Int32) <<< (v14 &&& 31))]) (rest := []) (b := (Q v3 6)) ⟨hx, hb, hml, hown, hts⟩ (c_T_childrenOf l dC dI cI cA cL (Q v3 6) (Q v3 2) (Q v3 3) (Q v3 4) (Q v3 5) ((y3 v3).2.2.2.2.2.1) ((y3 v3).2.2.2.2.2.2.1) ((y3 v3).2.2.2.2.2.2.2) ((y3 v3).2.2.1) ((y3 v3).2.2.2.1) ((y3 v3).2.2.2.2.1) ((1 : Int32) <<< (v14 &&& 31)) x16 g17) (jv_cwV hts wa_102 wa_78 wa_431 wa_104 wa_105 rfl rfl yd_T_childrenOf ⟨Nat.le_of_ble_eq_true rfl, Nat.le_of_ble_eq_true rfl⟩) (jv_preV hK hPc 0 rfl rfl) rfl rfl hl.1 rfl (lv_room (Nat.le_of_ble_eq_true rfl)) d_V_remove_29 ⟨Nat.zero_le _, Nat.zero_le _⟩) ?_
  refine lv_if_eq (tgt := 45) hx hb d_V_remove_32 (by decide) (fun hc => ?_) (fun hc => ?_)
  · have hf := jv_it hf hc
    refine lv_aload_n hx hb d_V_remove_45 rfl (lv_at hl 1 rfl) ?_
    refine va_get (D := (dC, dI)) (ci := kArea) (v := .ref (Q v3 7)) (C := R_Area) (T := T_Area) (N := 5) hx hb hts (fun w h => List.mem_cons_of_mem _ (in_Area w h)) hown hK (jv_open hP hj5) 1 rfl rfl 4 (by decide) (jv_w hts wa_421) (fun _ h9 => h9) rfl d_V_remove_46 ?_
    refine lv_iload hx hb d_V_remove_49 (lv_at hl 0 rfl) ?_
    obtain ⟨x18, g19, hf⟩ := jv_ob hf
    have hPj := jv_open hP hj5
    have hDj := jv_openD hD hj5
    have hPc := hPj.sub (ws' := (w_cont cI (Q v3 7) (Q v3 2) (Q v3 3) (Q v3 4) (Q v3 5) ((y3 v3).2.2.2.2.2.1) ((y3 v3).2.2.2.2.2.2.1) ((y3 v3).2.2.2.2.2.2.2) ((y3 v3).2.2.1) ((y3 v3).2.2.2.1) ((y3 v3).2.2.2.2.1))) [8, 3, 4, 5, 6] rfl
    have hDc := hDj.sub (ws' := (w_cont cI (Q v3 7) (Q v3 2) (Q v3 3) (Q v3 4) (Q v3 5) ((y3 v3).2.2.2.2.2.1) ((y3 v3).2.2.2.2.2.2.1) ((y3 v3).2.2.2.2.2.2.2) ((y3 v3).2.2.1) ((y3 v3).2.2.2.1) ((y3 v3).2.2.2.2.1))) [8, 3, 4, 5, 6] (by decide) rfl
    have hFc := va_free (wc := (w_cont cI (Q v3 7) (Q v3 2) (Q v3 3) (Q v3 4) (Q v3 5) ((y3 v3).2.2.2.2.2.1) ((y3 v3).2.2.2.2.2.2.1) ((y3 v3).2.2.2.2.2.2.2) ((y3 v3).2.2.1) ((y3 v3).2.2.2.1) ((y3 v3).2.2.2.2.1))) hDj hS hA [8, 3, 4, 5, 6] rfl
    refine jv_cwv (va_runV (As := [.int v14]) (rest := []) (b := (Q v3 7)) ⟨hx, hb, hml, hown, hts⟩ (c_C_releaseAll l dC dI cI cA cL (Q v3 7) (Q v3 2) (Q v3 3) (Q v3 4) (Q v3 5) ((y3 v3).2.2.2.2.2.1) ((y3 v3).2.2.2.2.2.2.1) ((y3 v3).2.2.2.2.2.2.2) ((y3 v3).2.2.1) ((y3 v3).2.2.2.1) ((y3 v3).2.2.2.2.1) v14 s.heap.size x18 g19) (jv_cwV hts wa_432 wa_129 wa_433 wa_434 wa_435 rfl rfl yd_C_releaseAll ⟨Nat.le_of_ble_eq_true rfl, Nat.le_of_ble_eq_true rfl⟩) (jv_preVW hK hPc hDc 0 rfl rfl) rfl rfl hl.1 rfl (lv_room (Nat.le_of_ble_eq_true rfl)) d_V_remove_51 ⟨Nat.zero_le _, Nat.zero_le _⟩) hS hFc (fun H1 locs hP1 hD1 hk1 hS => ?_)
    obtain ⟨hPk, hDk⟩ := va_join (wc := (w_cont cI (Q v3 7) (Q v3 2) (Q v3 3) (Q v3 4) (Q v3 5) ((y3 v3).2.2.2.2.2.1) ((y3 v3).2.2.2.2.2.2.1) ((y3 v3).2.2.2.2.2.2.2) ((y3 v3).2.2.1) ((y3 v3).2.2.2.1) ((y3 v3).2.2.2.2.1))) (wr := [(q_fu, .inr (kFuse, [.int y2])), (Q v3 0, .inr (kArea, [.int (y3 v3).1, .ref (Q v3 1), .ref (Q v3 2), .ref (Q v3 6), .ref (Q v3 7)])), (Q v3 1, .inl (cI, 4, .inl (y3 v3).2.1)), (Q v3 6, .inr (kTree, [.ref (Q v3 2)]))]) (w1 := (w_cont cI (Q v3 7) (Q v3 2) (Q v3 3) (Q v3 4) (Q v3 5) ((y3 v3).2.2.2.2.2.1) ((y3 v3).2.2.2.2.2.2.1) ((y3 v3).2.2.2.2.2.2.2) ((y3 v3).2.2.1) x18 ((y3 v3).2.2.2.2.1))) hPj hDj [8, 3, 4, 5, 6] [0, 1, 2, 7] rfl rfl (by decide) (by decide) hk1 hFc hP1 hD1
    have hPk : va_P (dC, dI) vwCl (w_focus cI q_fu Q v3 y2 ((y3 v3).1, (y3 v3).2.1, (y3 v3).2.2.1, x18, (y3 v3).2.2.2.2.1, (y3 v3).2.2.2.2.2.1, (y3 v3).2.2.2.2.2.2.1, (y3 v3).2.2.2.2.2.2.2)) H1 := hPk.sub [0, 1, 2, 5, 6, 7, 8, 3, 4] rfl
    have hkk := jv_out (ws := (w_focus cI q_fu Q v3 y2 (y3 v3))) (wc := (w_cont cI (Q v3 7) (Q v3 2) (Q v3 3) (Q v3 4) (Q v3 5) ((y3 v3).2.2.2.2.2.1) ((y3 v3).2.2.2.2.2.2.1) ((y3 v3).2.2.2.2.2.2.2) ((y3 v3).2.2.1) ((y3 v3).2.2.2.1) ((y3 v3).2.2.2.2.1))) [8, 3, 4, 5, 6] rfl hk1
    obtain ⟨hP, hD⟩ := jv_close hP hD hj5 hkk hPk
    obtain ⟨A20, e21, hf⟩ := jv_le hf
    rw [← e21] at hP hD
    have hP : va_P (dC, dI) vwCl (w_vault cI cA q_va q_aa q_cl q_fu Q vn vC y2 A20) H1 := hP
    have hD : va_D A (w_vault cI cA q_va q_aa q_cl q_fu Q vn vC y2 A20) := hD
    generalize H1 = H at hP hS ⊢
    refine lv_aload_n hx hb d_V_remove_54 rfl (lv_at hl 1 rfl) ?_
    refine va_get (D := (dC, dI)) (ci := kArea) (v := .ref (Q v3 6)) (C := R_Area) (T := T_Area) (N := 5) hx hb hts (fun w h => List.mem_cons_of_mem _ (in_Area w h)) hown hK (jv_open hP hj5) 1 rfl rfl 3 (by decide) (jv_w hts wa_315) (fun _ h9 => h9) rfl d_V_remove_55 ?_
    refine lv_iload hx hb d_V_remove_58 (lv_at hl 0 rfl) ?_
    obtain ⟨x22, g23, hf⟩ := jv_ob hf
    have hPj := jv_open hP hj5
    have hDj := jv_openD hD hj5
    have hPc := hPj.sub (ws' := (w_tree cI (Q v3 6) (Q v3 2) (Q v3 3) (Q v3 4) (Q v3 5) ((A20 v3).2.2.2.2.2.1) ((A20 v3).2.2.2.2.2.2.1) ((A20 v3).2.2.2.2.2.2.2) ((A20 v3).2.2.1) ((A20 v3).2.2.2.1) ((A20 v3).2.2.2.2.1))) [7, 3, 4, 5, 6] rfl
    have hDc := hDj.sub (ws' := (w_tree cI (Q v3 6) (Q v3 2) (Q v3 3) (Q v3 4) (Q v3 5) ((A20 v3).2.2.2.2.2.1) ((A20 v3).2.2.2.2.2.2.1) ((A20 v3).2.2.2.2.2.2.2) ((A20 v3).2.2.1) ((A20 v3).2.2.2.1) ((A20 v3).2.2.2.2.1))) [7, 3, 4, 5, 6] (by decide) rfl
    have hFc := va_free (wc := (w_tree cI (Q v3 6) (Q v3 2) (Q v3 3) (Q v3 4) (Q v3 5) ((A20 v3).2.2.2.2.2.1) ((A20 v3).2.2.2.2.2.2.1) ((A20 v3).2.2.2.2.2.2.2) ((A20 v3).2.2.1) ((A20 v3).2.2.2.1) ((A20 v3).2.2.2.2.1))) hDj hS hA [7, 3, 4, 5, 6] rfl
    refine jv_cwv (va_runV (As := [.int v14]) (rest := []) (b := (Q v3 6)) ⟨hx, hb, hml, hown, hts⟩ (c_T_erase l dC dI cI cA cL (Q v3 6) (Q v3 2) (Q v3 3) (Q v3 4) (Q v3 5) ((A20 v3).2.2.2.2.2.1) ((A20 v3).2.2.2.2.2.2.1) ((A20 v3).2.2.2.2.2.2.2) ((A20 v3).2.2.1) ((A20 v3).2.2.2.1) ((A20 v3).2.2.2.2.1) v14 H.size x22 g23) (jv_cwV hts wa_436 wa_78 wa_437 wa_438 wa_439 rfl rfl yd_T_erase ⟨Nat.le_of_ble_eq_true rfl, Nat.le_of_ble_eq_true rfl⟩) (jv_preVW hK hPc hDc 0 rfl rfl) rfl rfl hl.1 rfl (lv_room (Nat.le_of_ble_eq_true rfl)) d_V_remove_60 ⟨Nat.zero_le _, Nat.zero_le _⟩) hS hFc (fun H1 locs hP1 hD1 hk1 hS => ?_)
    obtain ⟨hPk, hDk⟩ := va_join (wc := (w_tree cI (Q v3 6) (Q v3 2) (Q v3 3) (Q v3 4) (Q v3 5) ((A20 v3).2.2.2.2.2.1) ((A20 v3).2.2.2.2.2.2.1) ((A20 v3).2.2.2.2.2.2.2) ((A20 v3).2.2.1) ((A20 v3).2.2.2.1) ((A20 v3).2.2.2.2.1))) (wr := [(q_fu, .inr (kFuse, [.int y2])), (Q v3 0, .inr (kArea, [.int (A20 v3).1, .ref (Q v3 1), .ref (Q v3 2), .ref (Q v3 6), .ref (Q v3 7)])), (Q v3 1, .inl (cI, 4, .inl (A20 v3).2.1)), (Q v3 7, .inr (kCont, [.ref (Q v3 2)]))]) (w1 := (w_tree cI (Q v3 6) (Q v3 2) (Q v3 3) (Q v3 4) (Q v3 5) ((A20 v3).2.2.2.2.2.1) ((A20 v3).2.2.2.2.2.2.1) ((A20 v3).2.2.2.2.2.2.2) ((A20 v3).2.2.1) x22 ((A20 v3).2.2.2.2.1))) hPj hDj [7, 3, 4, 5, 6] [0, 1, 2, 8] rfl rfl (by decide) (by decide) hk1 hFc hP1 hD1
    have hPk : va_P (dC, dI) vwCl (w_focus cI q_fu Q v3 y2 ((A20 v3).1, (A20 v3).2.1, (A20 v3).2.2.1, x22, (A20 v3).2.2.2.2.1, (A20 v3).2.2.2.2.2.1, (A20 v3).2.2.2.2.2.2.1, (A20 v3).2.2.2.2.2.2.2)) H1 := hPk.sub [0, 1, 2, 5, 6, 7, 8, 4, 3] rfl
    have hkk := jv_out (ws := (w_focus cI q_fu Q v3 y2 (A20 v3))) (wc := (w_tree cI (Q v3 6) (Q v3 2) (Q v3 3) (Q v3 4) (Q v3 5) ((A20 v3).2.2.2.2.2.1) ((A20 v3).2.2.2.2.2.2.1) ((A20 v3).2.2.2.2.2.2.2) ((A20 v3).2.2.1) ((A20 v3).2.2.2.1) ((A20 v3).2.2.2.2.1))) [7, 3, 4, 5, 6] rfl hk1
    obtain ⟨hP, hD⟩ := jv_close hP hD hj5 hkk hPk
    obtain ⟨A24, e25, hf⟩ := jv_le hf
    rw [← e25] at hP hD
    have hP : va_P (dC, dI) vwCl (w_vault cI cA q_va q_aa q_cl q_fu Q vn vC y2 A24) H1 := hP
    have hD : va_D A (w_vault cI cA q_va q_aa q_cl q_fu Q vn vC y2 A24) := hD
    generalize H1 = H at hP hS ⊢
    refine lv_aload_n hx hb d_V_remove_63 rfl (lv_at hl 2 rfl) ?_
    refine lv_aload_n hx hb d_V_remove_64 rfl (lv_at hl 1 rfl) ?_
    refine lv_iload hx hb d_V_remove_65 (lv_at hl 0 rfl) ?_
    obtain ⟨x26, g27, hf⟩ := jv_ob hf
    have hFc := jv_fr hD hS hA
    refine jv_cwi (va_runV (As := [.ref (Q v3 0), .int v14]) (rest := []) (b := q_va) ⟨hx, hb, hml, hown, hts⟩ (c_V_finish l dC dI cI cA cL q_va q_aa q_cl q_fu Q vn vC y2 A24 v3 v14 hj5 H.size x26 g27) (jv_cwV hts wa_409 wa_303 wa_410 wa_411 wa_412 rfl rfl yd_V_finish ⟨Nat.le_of_ble_eq_true rfl, Nat.le_of_ble_eq_true rfl⟩) (jv_preVW hK hP hD 0 rfl rfl) rfl rfl hl.1 rfl (lv_room (Nat.le_of_ble_eq_true rfl)) d_V_remove_67 ⟨Nat.zero_le _, Nat.zero_le _⟩) hS hFc (fun H1 locs hP hD1 hk1 hS => ?_)
    have hP : va_P (dC, dI) vwCl (w_vault cI cA q_va q_aa q_cl q_fu Q vn vC x26.2.1 x26.2.2) H1 := hP
    have hD : va_D A (w_vault cI cA q_va q_aa q_cl q_fu Q vn vC x26.2.1 x26.2.2) := hD1.weaken (fun _ q _ h => hFc q.1 h)
    generalize H1 = H at hP hS ⊢
    obtain rfl := Sum.inr.inj (Option.some.inj hf)
    exact W.iret hx hb hr (fun t ht hW => ⟨rfl, by rw [ht]; exact hP, hD, hS.F ht⟩) hS.2.2 d_V_remove_70
  · have hf := jv_if hf hc
    cases Option.some.inj hf
def f_V_remove (vn : Nat) (a0 : Int32) (a1 : Int32) (vat : Int32) (ars : Nat → jv_ar) : Option (Nat ⊕ (Int32 × Int32 × (Nat → jv_ar))) := f_V_remove_0 vn a0 a1 vat ars
set_option maxHeartbeats 4000000 in
set_option maxRecDepth 100000 in
theorem c_V_remove (l : Launch) (hl9 : l.stackTraces = false) (dC : Nat → ClassId) (dI : Nat → Nat → Nat) (cI cA cL : ClassId) (q_va q_aa q_cl q_fu : Nat) (Q : Nat → Nat → Nat) (vn : Nat) (vC : Nat → Int32) (vat : Int32) (ars : Nat → jv_ar) (a0 : Int32) (a1 : Int32) (sz : Nat) (r : Int32 × Int32 × (Nat → jv_ar)) (hf : f_V_remove vn a0 a1 vat ars = some (Sum.inr r)) : Met l y_V_remove ws_V_remove rm_V_remove (jv_Pwt [.ref q_va, .int a0, .int a1] (dC, dI) (jv_ty cI cA cL) (w_vault cI cA q_va q_aa q_cl q_fu Q vn vC vat ars) sz) (jv_Qi r.1 (dC, dI) (w_vault cI cA q_va q_aa q_cl q_fu Q vn vC r.2.1 r.2.2) (va_A (w_vault cI cA q_va q_aa q_cl q_fu Q vn vC vat ars) sz)) 0 0 (va_A (w_vault cI cA q_va q_aa q_cl q_fu Q vn vC vat ars) sz) := by
  refine Met.ofW (cc := cc_V_remove) (maxL := 5) (ret := (some .int)) (by decide) rfl ?_
  intro p e s m args below meth c s₁ B hml hv
  obtain ⟨rfl, hsz, hP, hK, hD0, hT⟩ := hv
  have cx : jv_cx p s m _ meth c cc_V_remove 5 R_Vault (some .int) ws_V_remove := ⟨B.exec, B.bytes, hml, findClass_of_methodNamed B.named, atoms_spec (ws := ws_V_remove) B.pre, B.returns, B.notSynchronized⟩
  have hout : c.exceptionTable.isEmpty = true := B.noHandlers (atoms_spec (ws := ws_V_remove) B.pre _ List.mem_cons_self)
  subst hsz
  have hD := hD0.self (sz := s.heap.size)
  generalize hAe : va_A (w_vault cI cA q_va q_aa q_cl q_fu Q vn vC vat ars) s.heap.size = A at hD ⊢
  have hA : ∀ q : Nat, s.heap.size ≤ q → A q := fun q h => by rw [← hAe]; exact Or.inr h
  have hS : va_S A s.heap s.heap [] := va_S.rf
  have hl := lv_entry ([.ref q_va, .int a0, .int a1]) (n := 5) (Nat.le_of_ble_eq_true rfl)
  rw [lg_entry_eq]
  generalize (lg_sl ([.ref q_va, .int a0, .int a1]) ++ List.replicate (5 - (lg_sl ([.ref q_va, .int a0, .int a1])).length) Slot.unset).toArray = ls at hl ⊢
  have hl : lv_has ls 5 [(0, .ref q_va), (1, .int a0), (2, .int a1)] := hl
  exact b_V_remove_0 (y0 := a0) (y1 := a1) (y2 := vat) (y3 := ars) cx hK hA hl9 hT hout (lv_sub hl [0, 1, 2] rfl) hP hD hf
set_option maxHeartbeats 4000000 in
set_option maxRecDepth 100000 in
theorem t_V_remove_0 {l : Launch} {dC : Nat → ClassId} {dI : Nat → Nat → Nat} {cI cA cL : ClassId} {q_va q_aa q_cl q_fu : Nat} {Q : Nat → Nat → Nat} {vn : Nat} {vC : Nat → Int32} {p : Program} {e : Env} {s : State} {m : MethodId} {args : Array Value} {below : List Frame} {meth : Method} {c : Code} (cx : jv_cx p s m args meth c cc_V_remove 5 R_Vault (some .int) ws_V_remove) (hK : va_K (dC, dI) vwCl (jv_ty cI cA cL) s) (hl9 : l.stackTraces = false) (hT : jv_th s) (hout : c.exceptionTable.isEmpty = true) {kx : Nat} {y0 : Int32} {y1 : Int32} {y2 : Int32} {y3 : Nat → jv_ar} {ls : Array Slot} (hl : lv_has ls 5 [(0, .ref q_va), (1, .int y0), (2, .int y1)]) (hP : va_P (dC, dI) vwCl (w_vault cI cA q_va q_aa q_cl q_fu Q vn vC y2 y3) s.heap) (hf : f_V_remove_0 vn y0 y1 y2 y3 = some (Sum.inl kx)) : W p l e rx_V_remove s m args below meth c s.heap [] 0 0 (jv_MQ below (jv_en kx) args s 1 6) (F0 m 0 ls []) := by
  unfold f_V_remove_0 at hf
  obtain ⟨hx, hb, hml, hown, hts, hr, hlocks⟩ := id cx
  refine lv_aload_n hx hb d_V_remove_0 rfl (lv_at hl 0 rfl) ?_
  refine lv_iload_n hx hb d_V_remove_1 rfl (lv_at hl 1 rfl) ?_
  obtain ⟨x1, g2, hf⟩ := jv_ob hf
  rcases x1 with k4 | v3
  · rw [jv_sl hf] at g2
    exact jv_xV (cells := 0) (slots := 0) (As := [.int y0]) (rest := []) (b := q_va) ⟨hx, hb, hml, hown, hts⟩ (x_V_areaOf l hl9 dC dI cI cA cL q_va q_aa q_cl q_fu Q vn vC y2 y3 y0 kx g2) (jv_cwV hts wa_389 wa_303 wa_390 wa_391 wa_392 rfl rfl yd_V_areaOf ⟨Nat.le_of_ble_eq_true rfl, Nat.le_of_ble_eq_true rfl⟩) (jv_preVt hT hK hP 0 rfl rfl) rfl rfl hl.1 rfl (lv_room (Nat.le_of_ble_eq_true rfl)) d_V_remove_2 ⟨Nat.le_of_ble_eq_true rfl, Nat.le_of_ble_eq_true rfl⟩ (fun x H1 hob => jv_leave hout hlocks hob)
  have hf := jv_sr hf
  obtain ⟨hj5, hf⟩ := jv_gd hf
  refine jv_csr (W.runV (As := [.int y0]) (rest := []) (b := q_va) ⟨hx, hb, hml, hown, hts⟩ (c_V_areaOf l hl9 dC dI cI cA cL q_va q_aa q_cl q_fu Q vn vC y2 y3 y0 v3 g2) (jv_cwV hts wa_389 wa_303 wa_390 wa_391 wa_392 rfl rfl yd_V_areaOf ⟨Nat.le_of_ble_eq_true rfl, Nat.le_of_ble_eq_true rfl⟩) (jv_preVt hT hK hP 0 rfl rfl) rfl rfl hl.1 rfl (lv_room (Nat.le_of_ble_eq_true rfl)) d_V_remove_2 ⟨Nat.zero_le _, Nat.zero_le _⟩) ?_
  refine lv_astore_n (lv' := [(3, .ref (Q v3 0)), (0, .ref q_va), (1, .int y0), (2, .int y1)]) hx hb d_V_remove_5 rfl hl (by decide) rfl (fun ls hl => ?_)
  refine lv_iload_n hx hb d_V_remove_6 rfl (lv_at hl 3 rfl) ?_
  obtain ⟨x6, g7, hf⟩ := jv_ob hf
  refine jv_cs (W.runS (As := [.int y1]) (rest := []) ⟨hx, hb, hml, hown, hts⟩ (c_P_isBelowRoot l y1 x6 g7) (jv_cwS hts wa_397 wa_8 wa_398 wa_399 rfl rfl yd_P_isBelowRoot ⟨Nat.le_of_ble_eq_true rfl, Nat.le_of_ble_eq_true rfl⟩) jv_pre0 rfl rfl hl.1 rfl (lv_room (Nat.le_of_ble_eq_true rfl)) d_V_remove_7 ⟨Nat.zero_le _, Nat.zero_le _⟩) ?_
  obtain ⟨x8, g9, hf⟩ := jv_ob hf
  rcases x8 with k11 | v10
  · rw [jv_sl hf] at g9
    exact jv_xS (cells := 0) (slots := 0) (As := [.int x6]) (rest := []) ⟨hx, hb, hml, hown, hts⟩ (x_V_demand l hl9 x6 kx g9) (jv_cwS hts wa_321 wa_303 wa_322 wa_323 rfl rfl yd_V_demand ⟨Nat.le_of_ble_eq_true rfl, Nat.le_of_ble_eq_true rfl⟩) (jv_pre0t hT) rfl rfl hl.1 rfl (lv_room (Nat.le_of_ble_eq_true rfl)) d_V_remove_10 ⟨Nat.le_of_ble_eq_true rfl, Nat.le_of_ble_eq_true rfl⟩ (fun x H1 hob => jv_leave hout hlocks hob)
  have hf := jv_sr hf
  refine jv_csv (W.runS (As := [.int x6]) (rest := []) ⟨hx, hb, hml, hown, hts⟩ (c_V_demand l hl9 x6 v10 g9) (jv_cwS hts wa_321 wa_303 wa_322 wa_323 rfl rfl yd_V_demand ⟨Nat.le_of_ble_eq_true rfl, Nat.le_of_ble_eq_true rfl⟩) (jv_pre0t hT) rfl rfl hl.1 rfl (lv_room (Nat.le_of_ble_eq_true rfl)) d_V_remove_10 ⟨Nat.zero_le _, Nat.zero_le _⟩) ?_
  refine lv_aload_n hx hb d_V_remove_13 rfl (lv_at hl 1 rfl) ?_
  refine lv_aload_n hx hb d_V_remove_14 rfl (lv_at hl 0 rfl) ?_
  refine lv_iload_n hx hb d_V_remove_15 rfl (lv_at hl 3 rfl) ?_
  obtain ⟨x12, g13, hf⟩ := jv_ob hf
  rcases x12 with k15 | v14
  · rw [jv_sl hf] at g13
    exact jv_xV (cells := 0) (slots := 0) (As := [.ref (Q v3 0), .int y1]) (rest := []) (b := q_va) ⟨hx, hb, hml, hown, hts⟩ (x_V_ownInode l hl9 dC dI cI cA cL q_va q_aa q_cl q_fu Q vn vC y2 y3 v3 y1 hj5 kx g13) (jv_cwV hts wa_417 wa_303 wa_418 wa_419 wa_420 rfl rfl yd_V_ownInode ⟨Nat.le_of_ble_eq_true rfl, Nat.le_of_ble_eq_true rfl⟩) (jv_preVt hT hK hP 0 rfl rfl) rfl rfl hl.1 rfl (lv_room (Nat.le_of_ble_eq_true rfl)) d_V_remove_16 ⟨Nat.le_of_ble_eq_true rfl, Nat.le_of_ble_eq_true rfl⟩ (fun x H1 hob => jv_leave hout hlocks hob)
  have hf := jv_sr hf
  refine jv_cs (W.runV (As := [.ref (Q v3 0), .int y1]) (rest := []) (b := q_va) ⟨hx, hb, hml, hown, hts⟩ (c_V_ownInode l hl9 dC dI cI cA cL q_va q_aa q_cl q_fu Q vn vC y2 y3 v3 y1 hj5 v14 g13) (jv_cwV hts wa_417 wa_303 wa_418 wa_419 wa_420 rfl rfl yd_V_ownInode ⟨Nat.le_of_ble_eq_true rfl, Nat.le_of_ble_eq_true rfl⟩) (jv_preVt hT hK hP 0 rfl rfl) rfl rfl hl.1 rfl (lv_room (Nat.le_of_ble_eq_true rfl)) d_V_remove_16 ⟨Nat.zero_le _, Nat.zero_le _⟩) ?_
  refine lv_istore (lv' := [(4, .int v14), (3, .ref (Q v3 0)), (0, .ref q_va), (1, .int y0), (2, .int y1)]) hx hb d_V_remove_19 hl (by decide) rfl (fun ls hl => ?_)
  refine lv_aload_n hx hb d_V_remove_21 rfl (lv_at hl 1 rfl) ?_
  refine va_get (D := (dC, dI)) (ci := kArea) (v := .ref (Q v3 6)) (C := R_Area) (T := T_Area) (N := 5) hx hb hts (fun w h => List.mem_cons_of_mem _ (in_Area w h)) hown hK (jv_open hP hj5) 1 rfl rfl 3 (by decide) (jv_w hts wa_315) (fun _ h9 => h9) rfl d_V_remove_22 ?_
  refine lv_iconst (v := (1 : Int32)) hx hb d_V_remove_25 (by decide) ?_
  refine lv_iload hx hb d_V_remove_26 (lv_at hl 0 rfl) ?_
  refine lv_ishl hx hb d_V_remove_28 ?_
  obtain ⟨x16, g17, hf⟩ := jv_ob hf
  have hPc := (jv_open hP hj5).sub (ws' := (w_tree cI (Q v3 6) (Q v3 2) (Q v3 3) (Q v3 4) (Q v3 5) ((y3 v3).2.2.2.2.2.1) ((y3 v3).2.2.2.2.2.2.1) ((y3 v3).2.2.2.2.2.2.2) ((y3 v3).2.2.1) ((y3 v3).2.2.2.1) ((y3 v3).2.2.2.2.1))) [7, 3, 4, 5, 6] rfl
  refine jv_cs (W.runV (As := [.int ((1 : Int32) <<< (v14 &&& 31))]) (rest := []) (b := (Q v3 6)) ⟨hx, hb, hml, hown, hts⟩ (c_T_childrenOf l dC dI cI cA cL (Q v3 6) (Q v3 2) (Q v3 3) (Q v3 4) (Q v3 5) ((y3 v3).2.2.2.2.2.1) ((y3 v3).2.2.2.2.2.2.1) ((y3 v3).2.2.2.2.2.2.2) ((y3 v3).2.2.1) ((y3 v3).2.2.2.1) ((y3 v3).2.2.2.2.1) ((1 : Int32) <<< (v14 &&& 31)) x16 g17) (jv_cwV hts wa_102 wa_78 wa_431 wa_104 wa_105 rfl rfl yd_T_childrenOf ⟨Nat.le_of_ble_eq_true rfl, Nat.le_of_ble_eq_true rfl⟩) (jv_preV hK hPc 0 rfl rfl) rfl rfl hl.1 rfl (lv_room (Nat.le_of_ble_eq_true rfl)) d_V_remove_29 ⟨Nat.zero_le _, Nat.zero_le _⟩) ?_
  refine lv_if_eq (tgt := 45) hx hb d_V_remove_32 (by decide) (fun hc => ?_) (fun hc => ?_)
  · have hf := jv_it hf hc
    refine lv_aload_n hx hb d_V_remove_45 rfl (lv_at hl 1 rfl) ?_
    refine va_get (D := (dC, dI)) (ci := kArea) (v := .ref (Q v3 7)) (C := R_Area) (T := T_Area) (N := 5) hx hb hts (fun w h => List.mem_cons_of_mem _ (in_Area w h)) hown hK (jv_open hP hj5) 1 rfl rfl 4 (by decide) (jv_w hts wa_421) (fun _ h9 => h9) rfl d_V_remove_46 ?_
    refine lv_iload hx hb d_V_remove_49 (lv_at hl 0 rfl) ?_
    obtain ⟨x18, g19, hf⟩ := jv_ob hf
    obtain ⟨A20, e21, hf⟩ := jv_le hf
    obtain ⟨x22, g23, hf⟩ := jv_ob hf
    obtain ⟨A24, e25, hf⟩ := jv_le hf
    obtain ⟨x26, g27, hf⟩ := jv_ob hf
    cases Option.some.inj hf
  · have hf := jv_if hf hc
    obtain rfl := Sum.inl.inj (Option.some.inj hf)
    refine W.newc hx hb hown (jv_w hts wa_340) (jv_w hts wa_341) (jv_w hts wa_342) rfl d_V_remove_35 (Nat.le_of_ble_eq_true rfl) (Nat.le_of_ble_eq_true rfl) (fun cC kC h1 h2 h3 h4 => ?_)
    refine W.eq (g2 := F0 m 38 ls (.ref s.heap.size :: [])) rfl ?_
    refine lv_dup hx hb d_V_remove_38 rfl ?_
    obtain ⟨sa, hsa⟩ := hT.2.2 (163, "the directory is not empty") (by decide +kernel)
    refine va_ldcS (own := R_Vault) hx hb hown hsa d_V_remove_39 ?_
    exact jv_throwS (names := ["java/lang/RuntimeException", "java/lang/Exception"]) hx hb hl9 hlocks (hl.1.trans hml.symm) hown (by decide +kernel) (by decide +kernel) (jv_own hts hT oa_115) hout h1 h2 jv_fresh (Nat.le_refl _) d_V_remove_41 d_V_remove_44 (Nat.le_of_ble_eq_true rfl) (Nat.le_of_ble_eq_true rfl)
set_option maxHeartbeats 4000000 in
set_option maxRecDepth 100000 in
theorem x_V_remove (l : Launch) (hl9 : l.stackTraces = false) (dC : Nat → ClassId) (dI : Nat → Nat → Nat) (cI cA cL : ClassId) (q_va q_aa q_cl q_fu : Nat) (Q : Nat → Nat → Nat) (vn : Nat) (vC : Nat → Int32) (vat : Int32) (ars : Nat → jv_ar) (a0 : Int32) (a1 : Int32) (kx : Nat) (hf : f_V_remove vn a0 a1 vat ars = some (Sum.inl kx)) : jv_MX l y_V_remove ws_V_remove rx_V_remove (jv_Prt [.ref q_va, .int a0, .int a1] (dC, dI) (jv_ty cI cA cL) (w_vault cI cA q_va q_aa q_cl q_fu Q vn vC vat ars)) (jv_en kx) 1 6 := by
  refine jv_MX.ofW (cc := cc_V_remove) (maxL := 5) (ret := (some .int)) (by decide) rfl ?_
  intro p e s m args below meth c s₁ B hml hv
  obtain ⟨rfl, hP, hK, hT⟩ := hv
  have cx : jv_cx p s m _ meth c cc_V_remove 5 R_Vault (some .int) ws_V_remove := ⟨B.exec, B.bytes, hml, findClass_of_methodNamed B.named, atoms_spec (ws := ws_V_remove) B.pre, B.returns, B.notSynchronized⟩
  have hout : c.exceptionTable.isEmpty = true := B.noHandlers (atoms_spec (ws := ws_V_remove) B.pre _ List.mem_cons_self)
  have hl := lv_entry ([.ref q_va, .int a0, .int a1]) (n := 5) (Nat.le_of_ble_eq_true rfl)
  rw [lg_entry_eq]
  generalize (lg_sl ([.ref q_va, .int a0, .int a1]) ++ List.replicate (5 - (lg_sl ([.ref q_va, .int a0, .int a1])).length) Slot.unset).toArray = ls at hl ⊢
  have hl : lv_has ls 5 [(0, .ref q_va), (1, .int a0), (2, .int a1)] := hl
  exact t_V_remove_0 (y0 := a0) (y1 := a1) (y2 := vat) (y3 := ars) cx hK hl9 hT hout (lv_sub hl [0, 1, 2] rfl) hP hf
theorem d_V_move_0 : decode cc_V_move 0 = .ok (.aload_n 0, 1) := by decide +kernel
theorem d_V_move_1 : decode cc_V_move 1 = .ok (.iload_n 1, 1) := by decide +kernel
theorem d_V_move_2 : decode cc_V_move 2 = .ok (.invokevirtual 79, 3) := by decide +kernel
theorem d_V_move_5 : decode cc_V_move 5 = .ok (.astore 4, 2) := by decide +kernel
theorem d_V_move_7 : decode cc_V_move 7 = .ok (.iload_n 2, 1) := by decide +kernel
theorem d_V_move_8 : decode cc_V_move 8 = .ok (.invokestatic 85, 3) := by decide +kernel
theorem d_V_move_11 : decode cc_V_move 11 = .ok (.ifCond .eq 14, 3) := by decide +kernel
theorem d_V_move_25 : decode cc_V_move 25 = .ok (.iconst 0, 1) := by decide +kernel
theorem d_V_move_14 : decode cc_V_move 14 = .ok (.iload_n 3, 1) := by decide +kernel
theorem d_V_move_15 : decode cc_V_move 15 = .ok (.invokestatic 85, 3) := by decide +kernel
theorem d_V_move_18 : decode cc_V_move 18 = .ok (.ifCond .eq 7, 3) := by decide +kernel
theorem d_V_move_21 : decode cc_V_move 21 = .ok (.iconst 1, 1) := by decide +kernel
theorem d_V_move_22 : decode cc_V_move 22 = .ok (.goto 4, 3) := by decide +kernel
theorem d_V_move_26 : decode cc_V_move 26 = .ok (.invokestatic 36, 3) := by decide +kernel
theorem d_V_move_29 : decode cc_V_move 29 = .ok (.aload_n 0, 1) := by decide +kernel
theorem d_V_move_30 : decode cc_V_move 30 = .ok (.aload 4, 2) := by decide +kernel
theorem d_V_move_32 : decode cc_V_move 32 = .ok (.iload_n 2, 1) := by decide +kernel
theorem d_V_move_33 : decode cc_V_move 33 = .ok (.invokevirtual 137, 3) := by decide +kernel
theorem d_V_move_36 : decode cc_V_move 36 = .ok (.istore 5, 2) := by decide +kernel
theorem d_V_move_38 : decode cc_V_move 38 = .ok (.aload 4, 2) := by decide +kernel
theorem d_V_move_40 : decode cc_V_move 40 = .ok (.getfield 102, 3) := by decide +kernel
theorem d_V_move_43 : decode cc_V_move 43 = .ok (.iload_n 3, 1) := by decide +kernel
theorem d_V_move_44 : decode cc_V_move 44 = .ok (.invokevirtual 116, 3) := by decide +kernel
theorem d_V_move_47 : decode cc_V_move 47 = .ok (.iconst (-1), 1) := by decide +kernel
theorem d_V_move_48 : decode cc_V_move 48 = .ok (.if_icmp .eq 13, 3) := by decide +kernel
theorem d_V_move_61 : decode cc_V_move 61 = .ok (.iload_n 3, 1) := by decide +kernel
theorem d_V_move_62 : decode cc_V_move 62 = .ok (.invokestatic 90, 3) := by decide +kernel
theorem d_V_move_65 : decode cc_V_move 65 = .ok (.istore 6, 2) := by decide +kernel
theorem d_V_move_67 : decode cc_V_move 67 = .ok (.aload 4, 2) := by decide +kernel
theorem d_V_move_69 : decode cc_V_move 69 = .ok (.getfield 102, 3) := by decide +kernel
theorem d_V_move_72 : decode cc_V_move 72 = .ok (.iload 6, 2) := by decide +kernel
theorem d_V_move_74 : decode cc_V_move 74 = .ok (.invokevirtual 174, 3) := by decide +kernel
theorem d_V_move_77 : decode cc_V_move 77 = .ok (.iconst 1, 1) := by decide +kernel
theorem d_V_move_78 : decode cc_V_move 78 = .ok (.if_icmp .ne 12, 3) := by decide +kernel
theorem d_V_move_90 : decode cc_V_move 90 = .ok (.new 111, 3) := by decide +kernel
theorem d_V_move_81 : decode cc_V_move 81 = .ok (.iload 6, 2) := by decide +kernel
theorem d_V_move_83 : decode cc_V_move 83 = .ok (.iload_n 2, 1) := by decide +kernel
theorem d_V_move_84 : decode cc_V_move 84 = .ok (.invokestatic 177, 3) := by decide +kernel
theorem d_V_move_87 : decode cc_V_move 87 = .ok (.ifCond .eq 13, 3) := by decide +kernel
theorem d_V_move_100 : decode cc_V_move 100 = .ok (.iload_n 3, 1) := by decide +kernel
theorem d_V_move_101 : decode cc_V_move 101 = .ok (.invokestatic 182, 3) := by decide +kernel
theorem d_V_move_104 : decode cc_V_move 104 = .ok (.aload 4, 2) := by decide +kernel
theorem d_V_move_106 : decode cc_V_move 106 = .ok (.getfield 102, 3) := by decide +kernel
theorem d_V_move_109 : decode cc_V_move 109 = .ok (.iload 5, 2) := by decide +kernel
theorem d_V_move_111 : decode cc_V_move 111 = .ok (.invokevirtual 185, 3) := by decide +kernel
theorem d_V_move_114 : decode cc_V_move 114 = .ok (.iadd, 1) := by decide +kernel
theorem d_V_move_115 : decode cc_V_move 115 = .ok (.iconst 4, 1) := by decide +kernel
theorem d_V_move_116 : decode cc_V_move 116 = .ok (.if_icmp .le 13, 3) := by decide +kernel
theorem d_V_move_129 : decode cc_V_move 129 = .ok (.aload 4, 2) := by decide +kernel
theorem d_V_move_131 : decode cc_V_move 131 = .ok (.getfield 102, 3) := by decide +kernel
theorem d_V_move_134 : decode cc_V_move 134 = .ok (.iload 5, 2) := by decide +kernel
theorem d_V_move_136 : decode cc_V_move 136 = .ok (.aload 4, 2) := by decide +kernel
theorem d_V_move_138 : decode cc_V_move 138 = .ok (.getfield 102, 3) := by decide +kernel
theorem d_V_move_141 : decode cc_V_move 141 = .ok (.iload 6, 2) := by decide +kernel
theorem d_V_move_143 : decode cc_V_move 143 = .ok (.invokevirtual 116, 3) := by decide +kernel
theorem d_V_move_146 : decode cc_V_move 146 = .ok (.iload_n 3, 1) := by decide +kernel
theorem d_V_move_147 : decode cc_V_move 147 = .ok (.invokestatic 190, 3) := by decide +kernel
theorem d_V_move_150 : decode cc_V_move 150 = .ok (.invokevirtual 193, 3) := by decide +kernel
theorem d_V_move_153 : decode cc_V_move 153 = .ok (.aload_n 0, 1) := by decide +kernel
theorem d_V_move_154 : decode cc_V_move 154 = .ok (.aload 4, 2) := by decide +kernel
theorem d_V_move_156 : decode cc_V_move 156 = .ok (.iload 5, 2) := by decide +kernel
theorem d_V_move_158 : decode cc_V_move 158 = .ok (.invokevirtual 128, 3) := by decide +kernel
theorem d_V_move_161 : decode cc_V_move 161 = .ok (.ireturn, 1) := by decide +kernel
theorem d_V_move_119 : decode cc_V_move 119 = .ok (.new 111, 3) := by decide +kernel
theorem d_V_move_51 : decode cc_V_move 51 = .ok (.new 43, 3) := by decide +kernel
theorem d_V_move_96 : decode cc_V_move 96 = .ok (.invokespecial 115, 3) := by decide +kernel
theorem d_V_move_99 : decode cc_V_move 99 = .ok (.athrow, 1) := by decide +kernel
theorem d_V_move_93 : decode cc_V_move 93 = .ok (.dup, 1) := by decide +kernel
theorem d_V_move_94 : decode cc_V_move 94 = .ok (.ldc 180, 2) := by decide +kernel
theorem d_V_move_125 : decode cc_V_move 125 = .ok (.invokespecial 115, 3) := by decide +kernel
theorem d_V_move_128 : decode cc_V_move 128 = .ok (.athrow, 1) := by decide +kernel
theorem d_V_move_122 : decode cc_V_move 122 = .ok (.dup, 1) := by decide +kernel
theorem d_V_move_123 : decode cc_V_move 123 = .ok (.ldc 188, 2) := by decide +kernel
theorem d_V_move_57 : decode cc_V_move 57 = .ok (.invokespecial 47, 3) := by decide +kernel
theorem d_V_move_60 : decode cc_V_move 60 = .ok (.athrow, 1) := by decide +kernel
theorem d_V_move_54 : decode cc_V_move 54 = .ok (.dup, 1) := by decide +kernel
theorem d_V_move_55 : decode cc_V_move 55 = .ok (.ldc 172, 2) := by decide +kernel
def f_V_move_26 (vn : Nat) (y0 : Int32) (y1 : Int32) (y2 : Int32) (y3 : Nat) (y4 : Int32) (y5 : Nat → jv_ar) : Option (Nat ⊕ (Int32 × Int32 × (Nat → jv_ar))) :=
  (f_V_demand y2).bind fun x10 => jv_se x10 fun v12 => (f_V_ownInode vn y5 y3 y0).bind fun x14 => jv_se x14 fun v16 => (f_T_find ((y5 y3).2.2.2.1) y1).bind fun x18 => if x18 = (-1 : Int32) then ((f_P_parentOf y1).bind fun x20 => (f_T_kindAt ((y5 y3).2.2.2.1) x20).bind fun x22 => if x22 = (1 : Int32) then ((f_P_startsWith x20 y0).bind fun x24 => if x24 = 0 then ((f_P_lengthOf y1).bind fun x26 => (f_T_heightOf ((y5 y3).2.2.2.1) v16).bind fun x28 => if (x26 + x28) ≤ (4 : Int32) then ((f_T_find ((y5 y3).2.2.2.1) x20).bind fun x30 => (f_P_lastName y1).bind fun x32 => (f_T_hang v16 x30 x32 ((y5 y3).2.2.2.1)).bind fun x34 => jv_lt (va_up y5 y3 ((y5 y3).1, (y5 y3).2.1, (y5 y3).2.2.1, x34, (y5 y3).2.2.2.2.1, (y5 y3).2.2.2.2.2.1, (y5 y3).2.2.2.2.2.2.1, (y5 y3).2.2.2.2.2.2.2)) fun A36 => (f_V_finish vn y3 v16 y4 A36).bind fun x38 => some (Sum.inr (x38.1, x38.2.1, x38.2.2))) else (some (Sum.inl 4))) else (some (Sum.inl 4))) else (some (Sum.inl 4))) else (some (Sum.inl 2))
set_option maxHeartbeats 4000000 in
set_option maxRecDepth 100000 in
theorem b_V_move_26 {l : Launch} {dC : Nat → ClassId} {dI : Nat → Nat → Nat} {cI cA cL : ClassId} {q_va q_aa q_cl q_fu : Nat} {Q : Nat → Nat → Nat} {vn : Nat} {vC : Nat → Int32} {p : Program} {e : Env} {s : State} {m : MethodId} {args : Array Value} {below : List Frame} {meth : Method} {c : Code} (cx : jv_cx p s m args meth c cc_V_move 7 R_Vault (some .int) ws_V_move) (hK : va_K (dC, dI) vwCl (jv_ty cI cA cL) s) {A : Nat → Prop} (hA : ∀ q : Nat, s.heap.size ≤ q → A q) (hl9 : l.stackTraces = false) (hT : jv_th s) (hout : c.exceptionTable.isEmpty = true) {r : Int32 × Int32 × (Nat → jv_ar)} {y0 : Int32} {y1 : Int32} {y2 : Int32} {y3 : Nat} {y4 : Int32} {y5 : Nat → jv_ar} (hy3 : y3 < vn) {ls : Array Slot} (hl : lv_has ls 7 [(0, .ref q_va), (2, .int y0), (3, .int y1), (4, .ref (Q y3 0))]) (hP : va_P (dC, dI) vwCl (w_vault cI cA q_va q_aa q_cl q_fu Q vn vC y4 y5) s.heap) (hD : va_D A (w_vault cI cA q_va q_aa q_cl q_fu Q vn vC y4 y5)) (hf : f_V_move_26 vn y0 y1 y2 y3 y4 y5 = some (Sum.inr r)) : W p l e rm_V_move s m args below meth c s.heap [] 0 0 (MQ below (jv_Qi r.1 (dC, dI) (w_vault cI cA q_va q_aa q_cl q_fu Q vn vC r.2.1 r.2.2) A) args s 0 0 A) (F0 m 26 ls [.int y2]) := by
  unfold f_V_move_26 at hf
  obtain ⟨hx, hb, hml, hown, hts, hr, hlocks⟩ := id cx
  have hS : va_S A s.heap s.heap [] := va_S.rf
  obtain ⟨x10, g11, hf⟩ := jv_ob hf
  rcases x10 with k13 | v12
  · exact jv_ci hf
  have hf := jv_sr hf
  refine jv_csv (W.runS (As := [.int y2]) (rest := []) ⟨hx, hb, hml, hown, hts⟩ (c_V_demand l hl9 y2 v12 g11) (jv_cwS hts wa_321 wa_303 wa_322 wa_323 rfl rfl yd_V_demand ⟨Nat.le_of_ble_eq_true rfl, Nat.le_of_ble_eq_true rfl⟩) (jv_pre0t hT) rfl rfl hl.1 rfl (lv_room (Nat.le_of_ble_eq_true rfl)) d_V_move_26 ⟨Nat.zero_le _, Nat.zero_le _⟩) ?_
  refine lv_aload_n hx hb d_V_move_29 rfl (lv_at hl 0 rfl) ?_
  refine lv_aload hx hb d_V_move_30 (lv_at hl 3 rfl) ?_
  refine lv_iload_n hx hb d_V_move_32 rfl (lv_at hl 1 rfl) ?_
  obtain ⟨x14, g15, hf⟩ := jv_ob hf
  rcases x14 with k17 | v16
  · exact jv_ci hf
  have hf := jv_sr hf
  refine jv_cs (W.runV (As := [.ref (Q y3 0), .int y0]) (rest := []) (b := q_va) ⟨hx, hb, hml, hown, hts⟩ (c_V_ownInode l hl9 dC dI cI cA cL q_va q_aa q_cl q_fu Q vn vC y4 y5 y3 y0 hy3 v16 g15) (jv_cwV hts wa_417 wa_303 wa_418 wa_419 wa_420 rfl rfl yd_V_ownInode ⟨Nat.le_of_ble_eq_true rfl, Nat.le_of_ble_eq_true rfl⟩) (jv_preVt hT hK hP 0 rfl rfl) rfl rfl hl.1 rfl (lv_room (Nat.le_of_ble_eq_true rfl)) d_V_move_33 ⟨Nat.zero_le _, Nat.zero_le _⟩) ?_
  refine lv_istore (lv' := [(5, .int v16), (0, .ref q_va), (2, .int y0), (3, .int y1), (4, .ref (Q y3 0))]) hx hb d_V_move_36 hl (by decide) rfl (fun ls hl => ?_)
  refine lv_aload hx hb d_V_move_38 (lv_at hl 4 rfl) ?_
  refine va_get (D := (dC, dI)) (ci := kArea) (v := .ref (Q y3 6)) (C := R_Area) (T := T_Area) (N := 5) hx hb hts (fun w h => List.mem_cons_of_mem _ (in_Area w h)) hown hK (jv_open hP hy3) 1 rfl rfl 3 (by decide) (jv_w hts wa_315) (fun _ h9 => h9) rfl d_V_move_40 ?_
  refine lv_iload_n hx hb d_V_move_43 rfl (lv_at hl 3 rfl) ?_
  obtain ⟨x18, g19, hf⟩ := jv_ob hf
  have hPc := (jv_open hP hy3).sub (ws' := (w_tree cI (Q y3 6) (Q y3 2) (Q y3 3) (Q y3 4) (Q y3 5) ((y5 y3).2.2.2.2.2.1) ((y5 y3).2.2.2.2.2.2.1) ((y5 y3).2.2.2.2.2.2.2) ((y5 y3).2.2.1) ((y5 y3).2.2.2.1) ((y5 y3).2.2.2.2.1))) [7, 3, 4, 5, 6] rfl
  refine jv_cs (W.runV (As := [.int y1]) (rest := []) (b := (Q y3 6)) ⟨hx, hb, hml, hown, hts⟩ (c_T_find l dC dI cI cA cL (Q y3 6) (Q y3 2) (Q y3 3) (Q y3 4) (Q y3 5) ((y5 y3).2.2.2.2.2.1) ((y5 y3).2.2.2.2.2.2.1) ((y5 y3).2.2.2.2.2.2.2) ((y5 y3).2.2.1) ((y5 y3).2.2.2.1) ((y5 y3).2.2.2.2.1) y1 x18 g19) (jv_cwV hts wa_82 wa_78 wa_332 wa_84 wa_85 rfl rfl yd_T_find ⟨Nat.le_of_ble_eq_true rfl, Nat.le_of_ble_eq_true rfl⟩) (jv_preV hK hPc 0 rfl rfl) rfl rfl hl.1 rfl (lv_room (Nat.le_of_ble_eq_true rfl)) d_V_move_44 ⟨Nat.zero_le _, Nat.zero_le _⟩) ?_
  refine lv_iconst (v := (-1 : Int32)) hx hb d_V_move_47 (by decide) ?_
  refine lv_icmp_eq (tgt := 61) hx hb d_V_move_48 (by decide) (fun hc => ?_) (fun hc => ?_)
  · have hf := jv_it hf hc
    refine lv_iload_n hx hb d_V_move_61 rfl (lv_at hl 3 rfl) ?_
    obtain ⟨x20, g21, hf⟩ := jv_ob hf
    refine jv_cs (W.runS (As := [.int y1]) (rest := []) ⟨hx, hb, hml, hown, hts⟩ (c_P_parentOf l y1 x20 g21) (jv_cwS hts wa_11 wa_8 wa_400 wa_13 rfl rfl yd_P_parentOf ⟨Nat.le_of_ble_eq_true rfl, Nat.le_of_ble_eq_true rfl⟩) jv_pre0 rfl rfl hl.1 rfl (lv_room (Nat.le_of_ble_eq_true rfl)) d_V_move_62 ⟨Nat.zero_le _, Nat.zero_le _⟩) ?_
    refine lv_istore (lv' := [(6, .int x20), (5, .int v16), (0, .ref q_va), (2, .int y0), (3, .int y1), (4, .ref (Q y3 0))]) hx hb d_V_move_65 hl (by decide) rfl (fun ls hl => ?_)
    refine lv_aload hx hb d_V_move_67 (lv_at hl 5 rfl) ?_
    refine va_get (D := (dC, dI)) (ci := kArea) (v := .ref (Q y3 6)) (C := R_Area) (T := T_Area) (N := 5) hx hb hts (fun w h => List.mem_cons_of_mem _ (in_Area w h)) hown hK (jv_open hP hy3) 1 rfl rfl 3 (by decide) (jv_w hts wa_315) (fun _ h9 => h9) rfl d_V_move_69 ?_
    refine lv_iload hx hb d_V_move_72 (lv_at hl 0 rfl) ?_
    obtain ⟨x22, g23, hf⟩ := jv_ob hf
    have hPc := (jv_open hP hy3).sub (ws' := (w_tree cI (Q y3 6) (Q y3 2) (Q y3 3) (Q y3 4) (Q y3 5) ((y5 y3).2.2.2.2.2.1) ((y5 y3).2.2.2.2.2.2.1) ((y5 y3).2.2.2.2.2.2.2) ((y5 y3).2.2.1) ((y5 y3).2.2.2.1) ((y5 y3).2.2.2.2.1))) [7, 3, 4, 5, 6] rfl
    refine jv_cs (W.runV (As := [.int x20]) (rest := []) (b := (Q y3 6)) ⟨hx, hb, hml, hown, hts⟩ (c_T_kindAt l dC dI cI cA cL (Q y3 6) (Q y3 2) (Q y3 3) (Q y3 4) (Q y3 5) ((y5 y3).2.2.2.2.2.1) ((y5 y3).2.2.2.2.2.2.1) ((y5 y3).2.2.2.2.2.2.2) ((y5 y3).2.2.1) ((y5 y3).2.2.2.1) ((y5 y3).2.2.2.2.1) x20 x22 g23) (jv_cwV hts wa_90 wa_78 wa_316 wa_92 wa_93 rfl rfl yd_T_kindAt ⟨Nat.le_of_ble_eq_true rfl, Nat.le_of_ble_eq_true rfl⟩) (jv_preV hK hPc 0 rfl rfl) rfl rfl hl.1 rfl (lv_room (Nat.le_of_ble_eq_true rfl)) d_V_move_74 ⟨Nat.zero_le _, Nat.zero_le _⟩) ?_
    refine lv_iconst (v := (1 : Int32)) hx hb d_V_move_77 (by decide) ?_
    refine lv_icmp_ne (tgt := 90) hx hb d_V_move_78 (by decide) (fun hc => ?_) (fun hc => ?_)
    · have hf := jv_if hf hc
      cases Option.some.inj hf
    · have hf := jv_it hf hc
      refine lv_iload hx hb d_V_move_81 (lv_at hl 0 rfl) ?_
      refine lv_iload_n hx hb d_V_move_83 rfl (lv_at hl 3 rfl) ?_
      obtain ⟨x24, g25, hf⟩ := jv_ob hf
      refine jv_cs (W.runS (As := [.int x20, .int y0]) (rest := []) ⟨hx, hb, hml, hown, hts⟩ (c_P_startsWith l x20 y0 x24 g25) (jv_cwS hts wa_440 wa_8 wa_441 wa_442 rfl rfl yd_P_startsWith ⟨Nat.le_of_ble_eq_true rfl, Nat.le_of_ble_eq_true rfl⟩) jv_pre0 rfl rfl hl.1 rfl (lv_room (Nat.le_of_ble_eq_true rfl)) d_V_move_84 ⟨Nat.zero_le _, Nat.zero_le _⟩) ?_
      refine lv_if_eq (tgt := 100) hx hb d_V_move_87 (by decide) (fun hc => ?_) (fun hc => ?_)
      · have hf := jv_it hf hc
        refine lv_iload_n hx hb d_V_move_100 rfl (lv_at hl 4 rfl) ?_
        obtain ⟨x26, g27, hf⟩ := jv_ob hf
        refine jv_cs (W.runS (As := [.int y1]) (rest := []) ⟨hx, hb, hml, hown, hts⟩ (c_P_lengthOf l y1 x26 g27) (jv_cwS hts wa_72 wa_8 wa_443 wa_74 rfl rfl yd_P_lengthOf ⟨Nat.le_of_ble_eq_true rfl, Nat.le_of_ble_eq_true rfl⟩) jv_pre0 rfl rfl hl.1 rfl (lv_room (Nat.le_of_ble_eq_true rfl)) d_V_move_101 ⟨Nat.zero_le _, Nat.zero_le _⟩) ?_
        refine lv_aload hx hb d_V_move_104 (lv_at hl 5 rfl) ?_
        refine va_get (D := (dC, dI)) (ci := kArea) (v := .ref (Q y3 6)) (C := R_Area) (T := T_Area) (N := 5) hx hb hts (fun w h => List.mem_cons_of_mem _ (in_Area w h)) hown hK (jv_open hP hy3) 1 rfl rfl 3 (by decide) (jv_w hts wa_315) (fun _ h9 => h9) rfl d_V_move_106 ?_
        refine lv_iload hx hb d_V_move_109 (lv_at hl 1 rfl) ?_
        obtain ⟨x28, g29, hf⟩ := jv_ob hf
        have hPc := (jv_open hP hy3).sub (ws' := (w_tree cI (Q y3 6) (Q y3 2) (Q y3 3) (Q y3 4) (Q y3 5) ((y5 y3).2.2.2.2.2.1) ((y5 y3).2.2.2.2.2.2.1) ((y5 y3).2.2.2.2.2.2.2) ((y5 y3).2.2.1) ((y5 y3).2.2.2.1) ((y5 y3).2.2.2.2.1))) [7, 3, 4, 5, 6] rfl
        refine jv_cs (W.runV (As := [.int v16]) (rest := [.int x26]) (b := (Q y3 6)) ⟨hx, hb, hml, hown, hts⟩ (c_T_heightOf l dC dI cI cA cL (Q y3 6) (Q y3 2) (Q y3 3) (Q y3 4) (Q y3 5) ((y5 y3).2.2.2.2.2.1) ((y5 y3).2.2.2.2.2.2.1) ((y5 y3).2.2.2.2.2.2.2) ((y5 y3).2.2.1) ((y5 y3).2.2.2.1) ((y5 y3).2.2.2.2.1) v16 x28 g29) (jv_cwV hts wa_444 wa_78 wa_445 wa_446 wa_447 rfl rfl yd_T_heightOf ⟨Nat.le_of_ble_eq_true rfl, Nat.le_of_ble_eq_true rfl⟩) (jv_preV hK hPc 0 rfl rfl) rfl rfl hl.1 rfl (lv_room (Nat.le_of_ble_eq_true rfl)) d_V_move_111 ⟨Nat.zero_le _, Nat.zero_le _⟩) ?_
        refine lv_iadd hx hb d_V_move_114 ?_
        refine lv_iconst (v := (4 : Int32)) hx hb d_V_move_115 (by decide) ?_
        refine lv_icmp_le (tgt := 129) hx hb d_V_move_116 (by decide) (fun hc => ?_) (fun hc => ?_)
        · have hf := jv_it hf hc
          refine lv_aload hx hb d_V_move_129 (lv_at hl 5 rfl) ?_
          refine va_get (D := (dC, dI)) (ci := kArea) (v := .ref (Q y3 6)) (C := R_Area) (T := T_Area) (N := 5) hx hb hts (fun w h => List.mem_cons_of_mem _ (in_Area w h)) hown hK (jv_open hP hy3) 1 rfl rfl 3 (by decide) (jv_w hts wa_315) (fun _ h9 => h9) rfl d_V_move_131 ?_
          refine lv_iload hx hb d_V_move_134 (lv_at hl 1 rfl) ?_
          refine lv_aload hx hb d_V_move_136 (lv_at hl 5 rfl) ?_
          refine va_get (D := (dC, dI)) (ci := kArea) (v := .ref (Q y3 6)) (C := R_Area) (T := T_Area) (N := 5) hx hb hts (fun w h => List.mem_cons_of_mem _ (in_Area w h)) hown hK (jv_open hP hy3) 1 rfl rfl 3 (by decide) (jv_w hts wa_315) (fun _ h9 => h9) rfl d_V_move_138 ?_
          refine lv_iload hx hb d_V_move_141 (lv_at hl 0 rfl) ?_
          obtain ⟨x30, g31, hf⟩ := jv_ob hf
          have hPc := (jv_open hP hy3).sub (ws' := (w_tree cI (Q y3 6) (Q y3 2) (Q y3 3) (Q y3 4) (Q y3 5) ((y5 y3).2.2.2.2.2.1) ((y5 y3).2.2.2.2.2.2.1) ((y5 y3).2.2.2.2.2.2.2) ((y5 y3).2.2.1) ((y5 y3).2.2.2.1) ((y5 y3).2.2.2.2.1))) [7, 3, 4, 5, 6] rfl
          refine jv_cs (W.runV (As := [.int x20]) (rest := [.int v16, .ref (Q y3 6)]) (b := (Q y3 6)) ⟨hx, hb, hml, hown, hts⟩ (c_T_find l dC dI cI cA cL (Q y3 6) (Q y3 2) (Q y3 3) (Q y3 4) (Q y3 5) ((y5 y3).2.2.2.2.2.1) ((y5 y3).2.2.2.2.2.2.1) ((y5 y3).2.2.2.2.2.2.2) ((y5 y3).2.2.1) ((y5 y3).2.2.2.1) ((y5 y3).2.2.2.2.1) x20 x30 g31) (jv_cwV hts wa_82 wa_78 wa_332 wa_84 wa_85 rfl rfl yd_T_find ⟨Nat.le_of_ble_eq_true rfl, Nat.le_of_ble_eq_true rfl⟩) (jv_preV hK hPc 0 rfl rfl) rfl rfl hl.1 rfl (lv_room (Nat.le_of_ble_eq_true rfl)) d_V_move_143 ⟨Nat.zero_le _, Nat.zero_le _⟩) ?_
          refine lv_iload_n hx hb d_V_move_146 rfl (lv_at hl 4 rfl) ?_
          obtain ⟨x32, g33, hf⟩ := jv_ob hf
          refine jv_cs (W.runS (As := [.int y1]) (rest := [.int x30, .int v16, .ref (Q y3 6)]) ⟨hx, hb, hml, hown, hts⟩ (c_P_lastName l y1 x32 g33) (jv_cwS hts wa_7 wa_8 wa_448 wa_10 rfl rfl yd_P_lastName ⟨Nat.le_of_ble_eq_true rfl, Nat.le_of_ble_eq_true rfl⟩) jv_pre0 rfl rfl hl.1 rfl (lv_room (Nat.le_of_ble_eq_true rfl)) d_V_move_147 ⟨Nat.zero_le _, Nat.zero_le _⟩) ?_
          obtain ⟨x34, g35, hf⟩ := jv_ob hf
          have hPj := jv_open hP hy3
          have hDj := jv_openD hD hy3
          have hPc := hPj.sub (ws' := (w_tree cI (Q y3 6) (Q y3 2) (Q y3 3) (Q y3 4) (Q y3 5) ((y5 y3).2.2.2.2.2.1) ((y5 y3).2.2.2.2.2.2.1) ((y5 y3).2.2.2.2.2.2.2) ((y5 y3).2.2.1) ((y5 y3).2.2.2.1) ((y5 y3).2.2.2.2.1))) [7, 3, 4, 5, 6] rfl
          have hDc := hDj.sub (ws' := (w_tree cI (Q y3 6) (Q y3 2) (Q y3 3) (Q y3 4) (Q y3 5) ((y5 y3).2.2.2.2.2.1) ((y5 y3).2.2.2.2.2.2.1) ((y5 y3).2.2.2.2.2.2.2) ((y5 y3).2.2.1) ((y5 y3).2.2.2.1) ((y5 y3).2.2.2.2.1))) [7, 3, 4, 5, 6] (by decide) rfl
          have hFc := va_free (wc := (w_tree cI (Q y3 6) (Q y3 2) (Q y3 3) (Q y3 4) (Q y3 5) ((y5 y3).2.2.2.2.2.1) ((y5 y3).2.2.2.2.2.2.1) ((y5 y3).2.2.2.2.2.2.2) ((y5 y3).2.2.1) ((y5 y3).2.2.2.1) ((y5 y3).2.2.2.2.1))) hDj hS hA [7, 3, 4, 5, 6] rfl
          refine jv_cwv (va_runV (As := [.int v16, .int x30, .int x32]) (rest := []) (b := (Q y3 6)) ⟨hx, hb, hml, hown, hts⟩ (c_T_hang l dC dI cI cA cL (Q y3 6) (Q y3 2) (Q y3 3) (Q y3 4) (Q y3 5) ((y5 y3).2.2.2.2.2.1) ((y5 y3).2.2.2.2.2.2.1) ((y5 y3).2.2.2.2.2.2.2) ((y5 y3).2.2.1) ((y5 y3).2.2.2.1) ((y5 y3).2.2.2.2.1) v16 x30 x32 s.heap.size x34 g35) (jv_cwV hts wa_114 wa_78 wa_449 wa_116 wa_117 rfl rfl yd_T_hang ⟨Nat.le_of_ble_eq_true rfl, Nat.le_of_ble_eq_true rfl⟩) (jv_preVW hK hPc hDc 0 rfl rfl) rfl rfl hl.1 rfl (lv_room (Nat.le_of_ble_eq_true rfl)) d_V_move_150 ⟨Nat.zero_le _, Nat.zero_le _⟩) hS hFc (fun H1 locs hP1 hD1 hk1 hS => ?_)
          obtain ⟨hPk, hDk⟩ := va_join (wc := (w_tree cI (Q y3 6) (Q y3 2) (Q y3 3) (Q y3 4) (Q y3 5) ((y5 y3).2.2.2.2.2.1) ((y5 y3).2.2.2.2.2.2.1) ((y5 y3).2.2.2.2.2.2.2) ((y5 y3).2.2.1) ((y5 y3).2.2.2.1) ((y5 y3).2.2.2.2.1))) (wr := [(q_fu, .inr (kFuse, [.int y4])), (Q y3 0, .inr (kArea, [.int (y5 y3).1, .ref (Q y3 1), .ref (Q y3 2), .ref (Q y3 6), .ref (Q y3 7)])), (Q y3 1, .inl (cI, 4, .inl (y5 y3).2.1)), (Q y3 7, .inr (kCont, [.ref (Q y3 2)]))]) (w1 := (w_tree cI (Q y3 6) (Q y3 2) (Q y3 3) (Q y3 4) (Q y3 5) ((y5 y3).2.2.2.2.2.1) ((y5 y3).2.2.2.2.2.2.1) ((y5 y3).2.2.2.2.2.2.2) ((y5 y3).2.2.1) x34 ((y5 y3).2.2.2.2.1))) hPj hDj [7, 3, 4, 5, 6] [0, 1, 2, 8] rfl rfl (by decide) (by decide) hk1 hFc hP1 hD1
          have hPk : va_P (dC, dI) vwCl (w_focus cI q_fu Q y3 y4 ((y5 y3).1, (y5 y3).2.1, (y5 y3).2.2.1, x34, (y5 y3).2.2.2.2.1, (y5 y3).2.2.2.2.2.1, (y5 y3).2.2.2.2.2.2.1, (y5 y3).2.2.2.2.2.2.2)) H1 := hPk.sub [0, 1, 2, 5, 6, 7, 8, 4, 3] rfl
          have hkk := jv_out (ws := (w_focus cI q_fu Q y3 y4 (y5 y3))) (wc := (w_tree cI (Q y3 6) (Q y3 2) (Q y3 3) (Q y3 4) (Q y3 5) ((y5 y3).2.2.2.2.2.1) ((y5 y3).2.2.2.2.2.2.1) ((y5 y3).2.2.2.2.2.2.2) ((y5 y3).2.2.1) ((y5 y3).2.2.2.1) ((y5 y3).2.2.2.2.1))) [7, 3, 4, 5, 6] rfl hk1
          obtain ⟨hP, hD⟩ := jv_close hP hD hy3 hkk hPk
          obtain ⟨A36, e37, hf⟩ := jv_le hf
          rw [← e37] at hP hD
          have hP : va_P (dC, dI) vwCl (w_vault cI cA q_va q_aa q_cl q_fu Q vn vC y4 A36) H1 := hP
          have hD : va_D A (w_vault cI cA q_va q_aa q_cl q_fu Q vn vC y4 A36) := hD
          generalize H1 = H at hP hS ⊢
          refine lv_aload_n hx hb d_V_move_153 rfl (lv_at hl 2 rfl) ?_
          refine lv_aload hx hb d_V_move_154 (lv_at hl 5 rfl) ?_
          refine lv_iload hx hb d_V_move_156 (lv_at hl 1 rfl) ?_
          obtain ⟨x38, g39, hf⟩ := jv_ob hf
          have hFc := jv_fr hD hS hA
          refine jv_cwi (va_runV (As := [.ref (Q y3 0), .int v16]) (rest := []) (b := q_va) ⟨hx, hb, hml, hown, hts⟩ (c_V_finish l dC dI cI cA cL q_va q_aa q_cl q_fu Q vn vC y4 A36 y3 v16 hy3 H.size x38 g39) (jv_cwV hts wa_409 wa_303 wa_410 wa_411 wa_412 rfl rfl yd_V_finish ⟨Nat.le_of_ble_eq_true rfl, Nat.le_of_ble_eq_true rfl⟩) (jv_preVW hK hP hD 0 rfl rfl) rfl rfl hl.1 rfl (lv_room (Nat.le_of_ble_eq_true rfl)) d_V_move_158 ⟨Nat.zero_le _, Nat.zero_le _⟩) hS hFc (fun H1 locs hP hD1 hk1 hS => ?_)
          have hP : va_P (dC, dI) vwCl (w_vault cI cA q_va q_aa q_cl q_fu Q vn vC x38.2.1 x38.2.2) H1 := hP
          have hD : va_D A (w_vault cI cA q_va q_aa q_cl q_fu Q vn vC x38.2.1 x38.2.2) := hD1.weaken (fun _ q _ h => hFc q.1 h)
          generalize H1 = H at hP hS ⊢
          obtain rfl := Sum.inr.inj (Option.some.inj hf)
          exact W.iret hx hb hr (fun t ht hW => ⟨rfl, by rw [ht]; exact hP, hD, hS.F ht⟩) hS.2.2 d_V_move_161
        · have hf := jv_if hf hc
          cases Option.some.inj hf
      · have hf := jv_if hf hc
        cases Option.some.inj hf
  · have hf := jv_if hf hc
    cases Option.some.inj hf
def f_V_move_0 (vn : Nat) (y0 : Int32) (y1 : Int32) (y2 : Int32) (y3 : Int32) (y4 : Nat → jv_ar) : Option (Nat ⊕ (Int32 × Int32 × (Nat → jv_ar))) :=
  (f_V_areaOf vn y4 y0).bind fun x1 => jv_se x1 fun v3 => if v3 < vn then ((f_P_isBelowRoot y1).bind fun x6 => if x6 = 0 then (f_V_move_26 vn y1 y2 (0 : Int32) v3 y3 y4) else ((f_P_isBelowRoot y2).bind fun x8 => if x8 = 0 then (f_V_move_26 vn y1 y2 (0 : Int32) v3 y3 y4) else (f_V_move_26 vn y1 y2 (1 : Int32) v3 y3 y4))) else none
set_option maxHeartbeats 4000000 in
set_option maxRecDepth 100000 in
theorem b_V_move_0 {l : Launch} {dC : Nat → ClassId} {dI : Nat → Nat → Nat} {cI cA cL : ClassId} {q_va q_aa q_cl q_fu : Nat} {Q : Nat → Nat → Nat} {vn : Nat} {vC : Nat → Int32} {p : Program} {e : Env} {s : State} {m : MethodId} {args : Array Value} {below : List Frame} {meth : Method} {c : Code} (cx : jv_cx p s m args meth c cc_V_move 7 R_Vault (some .int) ws_V_move) (hK : va_K (dC, dI) vwCl (jv_ty cI cA cL) s) {A : Nat → Prop} (hA : ∀ q : Nat, s.heap.size ≤ q → A q) (hl9 : l.stackTraces = false) (hT : jv_th s) (hout : c.exceptionTable.isEmpty = true) {r : Int32 × Int32 × (Nat → jv_ar)} {y0 : Int32} {y1 : Int32} {y2 : Int32} {y3 : Int32} {y4 : Nat → jv_ar} {ls : Array Slot} (hl : lv_has ls 7 [(0, .ref q_va), (1, .int y0), (2, .int y1), (3, .int y2)]) (hP : va_P (dC, dI) vwCl (w_vault cI cA q_va q_aa q_cl q_fu Q vn vC y3 y4) s.heap) (hD : va_D A (w_vault cI cA q_va q_aa q_cl q_fu Q vn vC y3 y4)) (hf : f_V_move_0 vn y0 y1 y2 y3 y4 = some (Sum.inr r)) : W p l e rm_V_move s m args below meth c s.heap [] 0 0 (MQ below (jv_Qi r.1 (dC, dI) (w_vault cI cA q_va q_aa q_cl q_fu Q vn vC r.2.1 r.2.2) A) args s 0 0 A) (F0 m 0 ls []) := by
  unfold f_V_move_0 at hf
  obtain ⟨hx, hb, hml, hown, hts, hr, hlocks⟩ := id cx
  have hS : va_S A s.heap s.heap [] := va_S.rf
  refine lv_aload_n hx hb d_V_move_0 rfl (lv_at hl 0 rfl) ?_
  refine lv_iload_n hx hb d_V_move_1 rfl (lv_at hl 1 rfl) ?_
  obtain ⟨x1, g2, hf⟩ := jv_ob hf
  rcases x1 with k4 | v3
  · exact jv_ci hf
  have hf := jv_sr hf
  obtain ⟨hj5, hf⟩ := jv_gd hf
  refine jv_csr (W.runV (As := [.int y0]) (rest := []) (b := q_va) ⟨hx, hb, hml, hown, hts⟩ (c_V_areaOf l hl9 dC dI cI cA cL q_va q_aa q_cl q_fu Q vn vC y3 y4 y0 v3 g2) (jv_cwV hts wa_389 wa_303 wa_390 wa_391 wa_392 rfl rfl yd_V_areaOf ⟨Nat.le_of_ble_eq_true rfl, Nat.le_of_ble_eq_true rfl⟩) (jv_preVt hT hK hP 0 rfl rfl) rfl rfl hl.1 rfl (lv_room (Nat.le_of_ble_eq_true rfl)) d_V_move_2 ⟨Nat.zero_le _, Nat.zero_le _⟩) ?_
  refine lv_astore (lv' := [(4, .ref (Q v3 0)), (0, .ref q_va), (1, .int y0), (2, .int y1), (3, .int y2)]) hx hb d_V_move_5 hl (by decide) rfl (fun ls hl => ?_)
  refine lv_iload_n hx hb d_V_move_7 rfl (lv_at hl 3 rfl) ?_
  obtain ⟨x6, g7, hf⟩ := jv_ob hf
  refine jv_cs (W.runS (As := [.int y1]) (rest := []) ⟨hx, hb, hml, hown, hts⟩ (c_P_isBelowRoot l y1 x6 g7) (jv_cwS hts wa_397 wa_8 wa_398 wa_399 rfl rfl yd_P_isBelowRoot ⟨Nat.le_of_ble_eq_true rfl, Nat.le_of_ble_eq_true rfl⟩) jv_pre0 rfl rfl hl.1 rfl (lv_room (Nat.le_of_ble_eq_true rfl)) d_V_move_8 ⟨Nat.zero_le _, Nat.zero_le _⟩) ?_
  refine lv_if_eq (tgt := 25) hx hb d_V_move_11 (by decide) (fun hc => ?_) (fun hc => ?_)
  · have hf := jv_it hf hc
    refine lv_iconst (v := (0 : Int32)) hx hb d_V_move_25 (by decide) ?_
    exact b_V_move_26 (y0 := y1) (y1 := y2) (y2 := (0 : Int32)) (y3 := v3) (y4 := y3) (y5 := y4) (hy3 := hj5) cx hK hA hl9 hT hout (lv_sub hl [1, 3, 4, 0] rfl) hP hD hf
  · have hf := jv_if hf hc
    refine lv_iload_n hx hb d_V_move_14 rfl (lv_at hl 4 rfl) ?_
    obtain ⟨x8, g9, hf⟩ := jv_ob hf
    refine jv_cs (W.runS (As := [.int y2]) (rest := []) ⟨hx, hb, hml, hown, hts⟩ (c_P_isBelowRoot l y2 x8 g9) (jv_cwS hts wa_397 wa_8 wa_398 wa_399 rfl rfl yd_P_isBelowRoot ⟨Nat.le_of_ble_eq_true rfl, Nat.le_of_ble_eq_true rfl⟩) jv_pre0 rfl rfl hl.1 rfl (lv_room (Nat.le_of_ble_eq_true rfl)) d_V_move_15 ⟨Nat.zero_le _, Nat.zero_le _⟩) ?_
    refine lv_if_eq (tgt := 25) hx hb d_V_move_18 (by decide) (fun hc => ?_) (fun hc => ?_)
    · have hf := jv_it hf hc
      refine lv_iconst (v := (0 : Int32)) hx hb d_V_move_25 (by decide) ?_
      exact b_V_move_26 (y0 := y1) (y1 := y2) (y2 := (0 : Int32)) (y3 := v3) (y4 := y3) (y5 := y4) (hy3 := hj5) cx hK hA hl9 hT hout (lv_sub hl [1, 3, 4, 0] rfl) hP hD hf
    · have hf := jv_if hf hc
      refine lv_iconst (v := (1 : Int32)) hx hb d_V_move_21 (by decide) ?_
      refine lv_goto (tgt := 26) hx hb d_V_move_22 (by decide) ?_
      exact b_V_move_26 (y0 := y1) (y1 := y2) (y2 := (1 : Int32)) (y3 := v3) (y4 := y3) (y5 := y4) (hy3 := hj5) cx hK hA hl9 hT hout (lv_sub hl [1, 3, 4, 0] rfl) hP hD hf
def f_V_move (vn : Nat) (a0 : Int32) (a1 : Int32) (a2 : Int32) (vat : Int32) (ars : Nat → jv_ar) : Option (Nat ⊕ (Int32 × Int32 × (Nat → jv_ar))) := f_V_move_0 vn a0 a1 a2 vat ars
set_option maxHeartbeats 4000000 in
set_option maxRecDepth 100000 in
theorem c_V_move (l : Launch) (hl9 : l.stackTraces = false) (dC : Nat → ClassId) (dI : Nat → Nat → Nat) (cI cA cL : ClassId) (q_va q_aa q_cl q_fu : Nat) (Q : Nat → Nat → Nat) (vn : Nat) (vC : Nat → Int32) (vat : Int32) (ars : Nat → jv_ar) (a0 : Int32) (a1 : Int32) (a2 : Int32) (sz : Nat) (r : Int32 × Int32 × (Nat → jv_ar)) (hf : f_V_move vn a0 a1 a2 vat ars = some (Sum.inr r)) : Met l y_V_move ws_V_move rm_V_move (jv_Pwt [.ref q_va, .int a0, .int a1, .int a2] (dC, dI) (jv_ty cI cA cL) (w_vault cI cA q_va q_aa q_cl q_fu Q vn vC vat ars) sz) (jv_Qi r.1 (dC, dI) (w_vault cI cA q_va q_aa q_cl q_fu Q vn vC r.2.1 r.2.2) (va_A (w_vault cI cA q_va q_aa q_cl q_fu Q vn vC vat ars) sz)) 0 0 (va_A (w_vault cI cA q_va q_aa q_cl q_fu Q vn vC vat ars) sz) := by
  refine Met.ofW (cc := cc_V_move) (maxL := 7) (ret := (some .int)) (by decide) rfl ?_
  intro p e s m args below meth c s₁ B hml hv
  obtain ⟨rfl, hsz, hP, hK, hD0, hT⟩ := hv
  have cx : jv_cx p s m _ meth c cc_V_move 7 R_Vault (some .int) ws_V_move := ⟨B.exec, B.bytes, hml, findClass_of_methodNamed B.named, atoms_spec (ws := ws_V_move) B.pre, B.returns, B.notSynchronized⟩
  have hout : c.exceptionTable.isEmpty = true := B.noHandlers (atoms_spec (ws := ws_V_move) B.pre _ List.mem_cons_self)
  subst hsz
  have hD := hD0.self (sz := s.heap.size)
  generalize hAe : va_A (w_vault cI cA q_va q_aa q_cl q_fu Q vn vC vat ars) s.heap.size = A at hD ⊢
  have hA : ∀ q : Nat, s.heap.size ≤ q → A q := fun q h => by rw [← hAe]; exact Or.inr h
  have hS : va_S A s.heap s.heap [] := va_S.rf
  have hl := lv_entry ([.ref q_va, .int a0, .int a1, .int a2]) (n := 7) (Nat.le_of_ble_eq_true rfl)
  rw [lg_entry_eq]
  generalize (lg_sl ([.ref q_va, .int a0, .int a1, .int a2]) ++ List.replicate (7 - (lg_sl ([.ref q_va, .int a0, .int a1, .int a2])).length) Slot.unset).toArray = ls at hl ⊢
  have hl : lv_has ls 7 [(0, .ref q_va), (1, .int a0), (2, .int a1), (3, .int a2)] := hl
  exact b_V_move_0 (y0 := a0) (y1 := a1) (y2 := a2) (y3 := vat) (y4 := ars) cx hK hA hl9 hT hout (lv_sub hl [0, 1, 2, 3] rfl) hP hD hf
set_option maxHeartbeats 4000000 in
set_option maxRecDepth 100000 in
theorem t_V_move_26 {l : Launch} {dC : Nat → ClassId} {dI : Nat → Nat → Nat} {cI cA cL : ClassId} {q_va q_aa q_cl q_fu : Nat} {Q : Nat → Nat → Nat} {vn : Nat} {vC : Nat → Int32} {p : Program} {e : Env} {s : State} {m : MethodId} {args : Array Value} {below : List Frame} {meth : Method} {c : Code} (cx : jv_cx p s m args meth c cc_V_move 7 R_Vault (some .int) ws_V_move) (hK : va_K (dC, dI) vwCl (jv_ty cI cA cL) s) (hl9 : l.stackTraces = false) (hT : jv_th s) (hout : c.exceptionTable.isEmpty = true) {kx : Nat} {y0 : Int32} {y1 : Int32} {y2 : Int32} {y3 : Nat} {y4 : Int32} {y5 : Nat → jv_ar} (hy3 : y3 < vn) {ls : Array Slot} (hl : lv_has ls 7 [(0, .ref q_va), (2, .int y0), (3, .int y1), (4, .ref (Q y3 0))]) (hP : va_P (dC, dI) vwCl (w_vault cI cA q_va q_aa q_cl q_fu Q vn vC y4 y5) s.heap) (hf : f_V_move_26 vn y0 y1 y2 y3 y4 y5 = some (Sum.inl kx)) : W p l e rx_V_move s m args below meth c s.heap [] 0 0 (jv_MQ below (jv_en kx) args s 1 6) (F0 m 26 ls [.int y2]) := by
  unfold f_V_move_26 at hf
  obtain ⟨hx, hb, hml, hown, hts, hr, hlocks⟩ := id cx
  obtain ⟨x10, g11, hf⟩ := jv_ob hf
  rcases x10 with k13 | v12
  · rw [jv_sl hf] at g11
    exact jv_xS (cells := 0) (slots := 0) (As := [.int y2]) (rest := []) ⟨hx, hb, hml, hown, hts⟩ (x_V_demand l hl9 y2 kx g11) (jv_cwS hts wa_321 wa_303 wa_322 wa_323 rfl rfl yd_V_demand ⟨Nat.le_of_ble_eq_true rfl, Nat.le_of_ble_eq_true rfl⟩) (jv_pre0t hT) rfl rfl hl.1 rfl (lv_room (Nat.le_of_ble_eq_true rfl)) d_V_move_26 ⟨Nat.le_of_ble_eq_true rfl, Nat.le_of_ble_eq_true rfl⟩ (fun x H1 hob => jv_leave hout hlocks hob)
  have hf := jv_sr hf
  refine jv_csv (W.runS (As := [.int y2]) (rest := []) ⟨hx, hb, hml, hown, hts⟩ (c_V_demand l hl9 y2 v12 g11) (jv_cwS hts wa_321 wa_303 wa_322 wa_323 rfl rfl yd_V_demand ⟨Nat.le_of_ble_eq_true rfl, Nat.le_of_ble_eq_true rfl⟩) (jv_pre0t hT) rfl rfl hl.1 rfl (lv_room (Nat.le_of_ble_eq_true rfl)) d_V_move_26 ⟨Nat.zero_le _, Nat.zero_le _⟩) ?_
  refine lv_aload_n hx hb d_V_move_29 rfl (lv_at hl 0 rfl) ?_
  refine lv_aload hx hb d_V_move_30 (lv_at hl 3 rfl) ?_
  refine lv_iload_n hx hb d_V_move_32 rfl (lv_at hl 1 rfl) ?_
  obtain ⟨x14, g15, hf⟩ := jv_ob hf
  rcases x14 with k17 | v16
  · rw [jv_sl hf] at g15
    exact jv_xV (cells := 0) (slots := 0) (As := [.ref (Q y3 0), .int y0]) (rest := []) (b := q_va) ⟨hx, hb, hml, hown, hts⟩ (x_V_ownInode l hl9 dC dI cI cA cL q_va q_aa q_cl q_fu Q vn vC y4 y5 y3 y0 hy3 kx g15) (jv_cwV hts wa_417 wa_303 wa_418 wa_419 wa_420 rfl rfl yd_V_ownInode ⟨Nat.le_of_ble_eq_true rfl, Nat.le_of_ble_eq_true rfl⟩) (jv_preVt hT hK hP 0 rfl rfl) rfl rfl hl.1 rfl (lv_room (Nat.le_of_ble_eq_true rfl)) d_V_move_33 ⟨Nat.le_of_ble_eq_true rfl, Nat.le_of_ble_eq_true rfl⟩ (fun x H1 hob => jv_leave hout hlocks hob)
  have hf := jv_sr hf
  refine jv_cs (W.runV (As := [.ref (Q y3 0), .int y0]) (rest := []) (b := q_va) ⟨hx, hb, hml, hown, hts⟩ (c_V_ownInode l hl9 dC dI cI cA cL q_va q_aa q_cl q_fu Q vn vC y4 y5 y3 y0 hy3 v16 g15) (jv_cwV hts wa_417 wa_303 wa_418 wa_419 wa_420 rfl rfl yd_V_ownInode ⟨Nat.le_of_ble_eq_true rfl, Nat.le_of_ble_eq_true rfl⟩) (jv_preVt hT hK hP 0 rfl rfl) rfl rfl hl.1 rfl (lv_room (Nat.le_of_ble_eq_true rfl)) d_V_move_33 ⟨Nat.zero_le _, Nat.zero_le _⟩) ?_
  refine lv_istore (lv' := [(5, .int v16), (0, .ref q_va), (2, .int y0), (3, .int y1), (4, .ref (Q y3 0))]) hx hb d_V_move_36 hl (by decide) rfl (fun ls hl => ?_)
  refine lv_aload hx hb d_V_move_38 (lv_at hl 4 rfl) ?_
  refine va_get (D := (dC, dI)) (ci := kArea) (v := .ref (Q y3 6)) (C := R_Area) (T := T_Area) (N := 5) hx hb hts (fun w h => List.mem_cons_of_mem _ (in_Area w h)) hown hK (jv_open hP hy3) 1 rfl rfl 3 (by decide) (jv_w hts wa_315) (fun _ h9 => h9) rfl d_V_move_40 ?_
  refine lv_iload_n hx hb d_V_move_43 rfl (lv_at hl 3 rfl) ?_
  obtain ⟨x18, g19, hf⟩ := jv_ob hf
  have hPc := (jv_open hP hy3).sub (ws' := (w_tree cI (Q y3 6) (Q y3 2) (Q y3 3) (Q y3 4) (Q y3 5) ((y5 y3).2.2.2.2.2.1) ((y5 y3).2.2.2.2.2.2.1) ((y5 y3).2.2.2.2.2.2.2) ((y5 y3).2.2.1) ((y5 y3).2.2.2.1) ((y5 y3).2.2.2.2.1))) [7, 3, 4, 5, 6] rfl
  refine jv_cs (W.runV (As := [.int y1]) (rest := []) (b := (Q y3 6)) ⟨hx, hb, hml, hown, hts⟩ (c_T_find l dC dI cI cA cL (Q y3 6) (Q y3 2) (Q y3 3) (Q y3 4) (Q y3 5) ((y5 y3).2.2.2.2.2.1) ((y5 y3).2.2.2.2.2.2.1) ((y5 y3).2.2.2.2.2.2.2) ((y5 y3).2.2.1) ((y5 y3).2.2.2.1) ((y5 y3).2.2.2.2.1) y1 x18 g19) (jv_cwV hts wa_82 wa_78 wa_332 wa_84 wa_85 rfl rfl yd_T_find ⟨Nat.le_of_ble_eq_true rfl, Nat.le_of_ble_eq_true rfl⟩) (jv_preV hK hPc 0 rfl rfl) rfl rfl hl.1 rfl (lv_room (Nat.le_of_ble_eq_true rfl)) d_V_move_44 ⟨Nat.zero_le _, Nat.zero_le _⟩) ?_
  refine lv_iconst (v := (-1 : Int32)) hx hb d_V_move_47 (by decide) ?_
  refine lv_icmp_eq (tgt := 61) hx hb d_V_move_48 (by decide) (fun hc => ?_) (fun hc => ?_)
  · have hf := jv_it hf hc
    refine lv_iload_n hx hb d_V_move_61 rfl (lv_at hl 3 rfl) ?_
    obtain ⟨x20, g21, hf⟩ := jv_ob hf
    refine jv_cs (W.runS (As := [.int y1]) (rest := []) ⟨hx, hb, hml, hown, hts⟩ (c_P_parentOf l y1 x20 g21) (jv_cwS hts wa_11 wa_8 wa_400 wa_13 rfl rfl yd_P_parentOf ⟨Nat.le_of_ble_eq_true rfl, Nat.le_of_ble_eq_true rfl⟩) jv_pre0 rfl rfl hl.1 rfl (lv_room (Nat.le_of_ble_eq_true rfl)) d_V_move_62 ⟨Nat.zero_le _, Nat.zero_le _⟩) ?_
    refine lv_istore (lv' := [(6, .int x20), (5, .int v16), (0, .ref q_va), (2, .int y0), (3, .int y1), (4, .ref (Q y3 0))]) hx hb d_V_move_65 hl (by decide) rfl (fun ls hl => ?_)
    refine lv_aload hx hb d_V_move_67 (lv_at hl 5 rfl) ?_
    refine va_get (D := (dC, dI)) (ci := kArea) (v := .ref (Q y3 6)) (C := R_Area) (T := T_Area) (N := 5) hx hb hts (fun w h => List.mem_cons_of_mem _ (in_Area w h)) hown hK (jv_open hP hy3) 1 rfl rfl 3 (by decide) (jv_w hts wa_315) (fun _ h9 => h9) rfl d_V_move_69 ?_
    refine lv_iload hx hb d_V_move_72 (lv_at hl 0 rfl) ?_
    obtain ⟨x22, g23, hf⟩ := jv_ob hf
    have hPc := (jv_open hP hy3).sub (ws' := (w_tree cI (Q y3 6) (Q y3 2) (Q y3 3) (Q y3 4) (Q y3 5) ((y5 y3).2.2.2.2.2.1) ((y5 y3).2.2.2.2.2.2.1) ((y5 y3).2.2.2.2.2.2.2) ((y5 y3).2.2.1) ((y5 y3).2.2.2.1) ((y5 y3).2.2.2.2.1))) [7, 3, 4, 5, 6] rfl
    refine jv_cs (W.runV (As := [.int x20]) (rest := []) (b := (Q y3 6)) ⟨hx, hb, hml, hown, hts⟩ (c_T_kindAt l dC dI cI cA cL (Q y3 6) (Q y3 2) (Q y3 3) (Q y3 4) (Q y3 5) ((y5 y3).2.2.2.2.2.1) ((y5 y3).2.2.2.2.2.2.1) ((y5 y3).2.2.2.2.2.2.2) ((y5 y3).2.2.1) ((y5 y3).2.2.2.1) ((y5 y3).2.2.2.2.1) x20 x22 g23) (jv_cwV hts wa_90 wa_78 wa_316 wa_92 wa_93 rfl rfl yd_T_kindAt ⟨Nat.le_of_ble_eq_true rfl, Nat.le_of_ble_eq_true rfl⟩) (jv_preV hK hPc 0 rfl rfl) rfl rfl hl.1 rfl (lv_room (Nat.le_of_ble_eq_true rfl)) d_V_move_74 ⟨Nat.zero_le _, Nat.zero_le _⟩) ?_
    refine lv_iconst (v := (1 : Int32)) hx hb d_V_move_77 (by decide) ?_
    refine lv_icmp_ne (tgt := 90) hx hb d_V_move_78 (by decide) (fun hc => ?_) (fun hc => ?_)
    · have hf := jv_if hf hc
      obtain rfl := Sum.inl.inj (Option.some.inj hf)
      refine W.newc hx hb hown (jv_w hts wa_340) (jv_w hts wa_341) (jv_w hts wa_342) rfl d_V_move_90 (Nat.le_of_ble_eq_true rfl) (Nat.le_of_ble_eq_true rfl) (fun cC kC h1 h2 h3 h4 => ?_)
      refine W.eq (g2 := F0 m 93 ls (.ref s.heap.size :: [])) rfl ?_
      refine lv_dup hx hb d_V_move_93 rfl ?_
      obtain ⟨sa, hsa⟩ := hT.2.2 (180, "the new parent is no directory in this area, or is moved itself") (by decide +kernel)
      refine va_ldcS (own := R_Vault) hx hb hown hsa d_V_move_94 ?_
      exact jv_throwS (names := ["java/lang/RuntimeException", "java/lang/Exception"]) hx hb hl9 hlocks (hl.1.trans hml.symm) hown (by decide +kernel) (by decide +kernel) (jv_own hts hT oa_115) hout h1 h2 jv_fresh (Nat.le_refl _) d_V_move_96 d_V_move_99 (Nat.le_of_ble_eq_true rfl) (Nat.le_of_ble_eq_true rfl)
    · have hf := jv_it hf hc
      refine lv_iload hx hb d_V_move_81 (lv_at hl 0 rfl) ?_
      refine lv_iload_n hx hb d_V_move_83 rfl (lv_at hl 3 rfl) ?_
      obtain ⟨x24, g25, hf⟩ := jv_ob hf
      refine jv_cs (W.runS (As := [.int x20, .int y0]) (rest := []) ⟨hx, hb, hml, hown, hts⟩ (c_P_startsWith l x20 y0 x24 g25) (jv_cwS hts wa_440 wa_8 wa_441 wa_442 rfl rfl yd_P_startsWith ⟨Nat.le_of_ble_eq_true rfl, Nat.le_of_ble_eq_true rfl⟩) jv_pre0 rfl rfl hl.1 rfl (lv_room (Nat.le_of_ble_eq_true rfl)) d_V_move_84 ⟨Nat.zero_le _, Nat.zero_le _⟩) ?_
      refine lv_if_eq (tgt := 100) hx hb d_V_move_87 (by decide) (fun hc => ?_) (fun hc => ?_)
      · have hf := jv_it hf hc
        refine lv_iload_n hx hb d_V_move_100 rfl (lv_at hl 4 rfl) ?_
        obtain ⟨x26, g27, hf⟩ := jv_ob hf
        refine jv_cs (W.runS (As := [.int y1]) (rest := []) ⟨hx, hb, hml, hown, hts⟩ (c_P_lengthOf l y1 x26 g27) (jv_cwS hts wa_72 wa_8 wa_443 wa_74 rfl rfl yd_P_lengthOf ⟨Nat.le_of_ble_eq_true rfl, Nat.le_of_ble_eq_true rfl⟩) jv_pre0 rfl rfl hl.1 rfl (lv_room (Nat.le_of_ble_eq_true rfl)) d_V_move_101 ⟨Nat.zero_le _, Nat.zero_le _⟩) ?_
        refine lv_aload hx hb d_V_move_104 (lv_at hl 5 rfl) ?_
        refine va_get (D := (dC, dI)) (ci := kArea) (v := .ref (Q y3 6)) (C := R_Area) (T := T_Area) (N := 5) hx hb hts (fun w h => List.mem_cons_of_mem _ (in_Area w h)) hown hK (jv_open hP hy3) 1 rfl rfl 3 (by decide) (jv_w hts wa_315) (fun _ h9 => h9) rfl d_V_move_106 ?_
        refine lv_iload hx hb d_V_move_109 (lv_at hl 1 rfl) ?_
        obtain ⟨x28, g29, hf⟩ := jv_ob hf
        have hPc := (jv_open hP hy3).sub (ws' := (w_tree cI (Q y3 6) (Q y3 2) (Q y3 3) (Q y3 4) (Q y3 5) ((y5 y3).2.2.2.2.2.1) ((y5 y3).2.2.2.2.2.2.1) ((y5 y3).2.2.2.2.2.2.2) ((y5 y3).2.2.1) ((y5 y3).2.2.2.1) ((y5 y3).2.2.2.2.1))) [7, 3, 4, 5, 6] rfl
        refine jv_cs (W.runV (As := [.int v16]) (rest := [.int x26]) (b := (Q y3 6)) ⟨hx, hb, hml, hown, hts⟩ (c_T_heightOf l dC dI cI cA cL (Q y3 6) (Q y3 2) (Q y3 3) (Q y3 4) (Q y3 5) ((y5 y3).2.2.2.2.2.1) ((y5 y3).2.2.2.2.2.2.1) ((y5 y3).2.2.2.2.2.2.2) ((y5 y3).2.2.1) ((y5 y3).2.2.2.1) ((y5 y3).2.2.2.2.1) v16 x28 g29) (jv_cwV hts wa_444 wa_78 wa_445 wa_446 wa_447 rfl rfl yd_T_heightOf ⟨Nat.le_of_ble_eq_true rfl, Nat.le_of_ble_eq_true rfl⟩) (jv_preV hK hPc 0 rfl rfl) rfl rfl hl.1 rfl (lv_room (Nat.le_of_ble_eq_true rfl)) d_V_move_111 ⟨Nat.zero_le _, Nat.zero_le _⟩) ?_
        refine lv_iadd hx hb d_V_move_114 ?_
        refine lv_iconst (v := (4 : Int32)) hx hb d_V_move_115 (by decide) ?_
        refine lv_icmp_le (tgt := 129) hx hb d_V_move_116 (by decide) (fun hc => ?_) (fun hc => ?_)
        · have hf := jv_it hf hc
          refine lv_aload hx hb d_V_move_129 (lv_at hl 5 rfl) ?_
          refine va_get (D := (dC, dI)) (ci := kArea) (v := .ref (Q y3 6)) (C := R_Area) (T := T_Area) (N := 5) hx hb hts (fun w h => List.mem_cons_of_mem _ (in_Area w h)) hown hK (jv_open hP hy3) 1 rfl rfl 3 (by decide) (jv_w hts wa_315) (fun _ h9 => h9) rfl d_V_move_131 ?_
          refine lv_iload hx hb d_V_move_134 (lv_at hl 1 rfl) ?_
          refine lv_aload hx hb d_V_move_136 (lv_at hl 5 rfl) ?_
          refine va_get (D := (dC, dI)) (ci := kArea) (v := .ref (Q y3 6)) (C := R_Area) (T := T_Area) (N := 5) hx hb hts (fun w h => List.mem_cons_of_mem _ (in_Area w h)) hown hK (jv_open hP hy3) 1 rfl rfl 3 (by decide) (jv_w hts wa_315) (fun _ h9 => h9) rfl d_V_move_138 ?_
          refine lv_iload hx hb d_V_move_141 (lv_at hl 0 rfl) ?_
          obtain ⟨x30, g31, hf⟩ := jv_ob hf
          have hPc := (jv_open hP hy3).sub (ws' := (w_tree cI (Q y3 6) (Q y3 2) (Q y3 3) (Q y3 4) (Q y3 5) ((y5 y3).2.2.2.2.2.1) ((y5 y3).2.2.2.2.2.2.1) ((y5 y3).2.2.2.2.2.2.2) ((y5 y3).2.2.1) ((y5 y3).2.2.2.1) ((y5 y3).2.2.2.2.1))) [7, 3, 4, 5, 6] rfl
          refine jv_cs (W.runV (As := [.int x20]) (rest := [.int v16, .ref (Q y3 6)]) (b := (Q y3 6)) ⟨hx, hb, hml, hown, hts⟩ (c_T_find l dC dI cI cA cL (Q y3 6) (Q y3 2) (Q y3 3) (Q y3 4) (Q y3 5) ((y5 y3).2.2.2.2.2.1) ((y5 y3).2.2.2.2.2.2.1) ((y5 y3).2.2.2.2.2.2.2) ((y5 y3).2.2.1) ((y5 y3).2.2.2.1) ((y5 y3).2.2.2.2.1) x20 x30 g31) (jv_cwV hts wa_82 wa_78 wa_332 wa_84 wa_85 rfl rfl yd_T_find ⟨Nat.le_of_ble_eq_true rfl, Nat.le_of_ble_eq_true rfl⟩) (jv_preV hK hPc 0 rfl rfl) rfl rfl hl.1 rfl (lv_room (Nat.le_of_ble_eq_true rfl)) d_V_move_143 ⟨Nat.zero_le _, Nat.zero_le _⟩) ?_
          refine lv_iload_n hx hb d_V_move_146 rfl (lv_at hl 4 rfl) ?_
          obtain ⟨x32, g33, hf⟩ := jv_ob hf
          refine jv_cs (W.runS (As := [.int y1]) (rest := [.int x30, .int v16, .ref (Q y3 6)]) ⟨hx, hb, hml, hown, hts⟩ (c_P_lastName l y1 x32 g33) (jv_cwS hts wa_7 wa_8 wa_448 wa_10 rfl rfl yd_P_lastName ⟨Nat.le_of_ble_eq_true rfl, Nat.le_of_ble_eq_true rfl⟩) jv_pre0 rfl rfl hl.1 rfl (lv_room (Nat.le_of_ble_eq_true rfl)) d_V_move_147 ⟨Nat.zero_le _, Nat.zero_le _⟩) ?_
          obtain ⟨x34, g35, hf⟩ := jv_ob hf
          obtain ⟨A36, e37, hf⟩ := jv_le hf
          obtain ⟨x38, g39, hf⟩ := jv_ob hf
          cases Option.some.inj hf
        · have hf := jv_if hf hc
          obtain rfl := Sum.inl.inj (Option.some.inj hf)
          refine W.newc hx hb hown (jv_w hts wa_340) (jv_w hts wa_341) (jv_w hts wa_342) rfl d_V_move_119 (Nat.le_of_ble_eq_true rfl) (Nat.le_of_ble_eq_true rfl) (fun cC kC h1 h2 h3 h4 => ?_)
          refine W.eq (g2 := F0 m 122 ls (.ref s.heap.size :: [])) rfl ?_
          refine lv_dup hx hb d_V_move_122 rfl ?_
          obtain ⟨sa, hsa⟩ := hT.2.2 (188, "something would be too deep") (by decide +kernel)
          refine va_ldcS (own := R_Vault) hx hb hown hsa d_V_move_123 ?_
          exact jv_throwS (names := ["java/lang/RuntimeException", "java/lang/Exception"]) hx hb hl9 hlocks (hl.1.trans hml.symm) hown (by decide +kernel) (by decide +kernel) (jv_own hts hT oa_115) hout h1 h2 jv_fresh (Nat.le_refl _) d_V_move_125 d_V_move_128 (Nat.le_of_ble_eq_true rfl) (Nat.le_of_ble_eq_true rfl)
      · have hf := jv_if hf hc
        obtain rfl := Sum.inl.inj (Option.some.inj hf)
        refine W.newc hx hb hown (jv_w hts wa_340) (jv_w hts wa_341) (jv_w hts wa_342) rfl d_V_move_90 (Nat.le_of_ble_eq_true rfl) (Nat.le_of_ble_eq_true rfl) (fun cC kC h1 h2 h3 h4 => ?_)
        refine W.eq (g2 := F0 m 93 ls (.ref s.heap.size :: [])) rfl ?_
        refine lv_dup hx hb d_V_move_93 rfl ?_
        obtain ⟨sa, hsa⟩ := hT.2.2 (180, "the new parent is no directory in this area, or is moved itself") (by decide +kernel)
        refine va_ldcS (own := R_Vault) hx hb hown hsa d_V_move_94 ?_
        exact jv_throwS (names := ["java/lang/RuntimeException", "java/lang/Exception"]) hx hb hl9 hlocks (hl.1.trans hml.symm) hown (by decide +kernel) (by decide +kernel) (jv_own hts hT oa_115) hout h1 h2 jv_fresh (Nat.le_refl _) d_V_move_96 d_V_move_99 (Nat.le_of_ble_eq_true rfl) (Nat.le_of_ble_eq_true rfl)
  · have hf := jv_if hf hc
    obtain rfl := Sum.inl.inj (Option.some.inj hf)
    refine W.newc hx hb hown (jv_w hts wa_333) (jv_w hts wa_334) (jv_w hts wa_335) rfl d_V_move_51 (Nat.le_of_ble_eq_true rfl) (Nat.le_of_ble_eq_true rfl) (fun cC kC h1 h2 h3 h4 => ?_)
    refine W.eq (g2 := F0 m 54 ls (.ref s.heap.size :: [])) rfl ?_
    refine lv_dup hx hb d_V_move_54 rfl ?_
    obtain ⟨sa, hsa⟩ := hT.2.2 (172, "the area has something there") (by decide +kernel)
    refine va_ldcS (own := R_Vault) hx hb hown hsa d_V_move_55 ?_
    exact jv_throwS (names := ["java/lang/RuntimeException", "java/lang/Exception"]) hx hb hl9 hlocks (hl.1.trans hml.symm) hown (by decide +kernel) (by decide +kernel) (jv_own hts hT oa_47) hout h1 h2 jv_fresh (Nat.le_refl _) d_V_move_57 d_V_move_60 (Nat.le_of_ble_eq_true rfl) (Nat.le_of_ble_eq_true rfl)
set_option maxHeartbeats 4000000 in
set_option maxRecDepth 100000 in
theorem t_V_move_0 {l : Launch} {dC : Nat → ClassId} {dI : Nat → Nat → Nat} {cI cA cL : ClassId} {q_va q_aa q_cl q_fu : Nat} {Q : Nat → Nat → Nat} {vn : Nat} {vC : Nat → Int32} {p : Program} {e : Env} {s : State} {m : MethodId} {args : Array Value} {below : List Frame} {meth : Method} {c : Code} (cx : jv_cx p s m args meth c cc_V_move 7 R_Vault (some .int) ws_V_move) (hK : va_K (dC, dI) vwCl (jv_ty cI cA cL) s) (hl9 : l.stackTraces = false) (hT : jv_th s) (hout : c.exceptionTable.isEmpty = true) {kx : Nat} {y0 : Int32} {y1 : Int32} {y2 : Int32} {y3 : Int32} {y4 : Nat → jv_ar} {ls : Array Slot} (hl : lv_has ls 7 [(0, .ref q_va), (1, .int y0), (2, .int y1), (3, .int y2)]) (hP : va_P (dC, dI) vwCl (w_vault cI cA q_va q_aa q_cl q_fu Q vn vC y3 y4) s.heap) (hf : f_V_move_0 vn y0 y1 y2 y3 y4 = some (Sum.inl kx)) : W p l e rx_V_move s m args below meth c s.heap [] 0 0 (jv_MQ below (jv_en kx) args s 1 6) (F0 m 0 ls []) := by
  unfold f_V_move_0 at hf
  obtain ⟨hx, hb, hml, hown, hts, hr, hlocks⟩ := id cx
  refine lv_aload_n hx hb d_V_move_0 rfl (lv_at hl 0 rfl) ?_
  refine lv_iload_n hx hb d_V_move_1 rfl (lv_at hl 1 rfl) ?_
  obtain ⟨x1, g2, hf⟩ := jv_ob hf
  rcases x1 with k4 | v3
  · rw [jv_sl hf] at g2
    exact jv_xV (cells := 0) (slots := 0) (As := [.int y0]) (rest := []) (b := q_va) ⟨hx, hb, hml, hown, hts⟩ (x_V_areaOf l hl9 dC dI cI cA cL q_va q_aa q_cl q_fu Q vn vC y3 y4 y0 kx g2) (jv_cwV hts wa_389 wa_303 wa_390 wa_391 wa_392 rfl rfl yd_V_areaOf ⟨Nat.le_of_ble_eq_true rfl, Nat.le_of_ble_eq_true rfl⟩) (jv_preVt hT hK hP 0 rfl rfl) rfl rfl hl.1 rfl (lv_room (Nat.le_of_ble_eq_true rfl)) d_V_move_2 ⟨Nat.le_of_ble_eq_true rfl, Nat.le_of_ble_eq_true rfl⟩ (fun x H1 hob => jv_leave hout hlocks hob)
  have hf := jv_sr hf
  obtain ⟨hj5, hf⟩ := jv_gd hf
  refine jv_csr (W.runV (As := [.int y0]) (rest := []) (b := q_va) ⟨hx, hb, hml, hown, hts⟩ (c_V_areaOf l hl9 dC dI cI cA cL q_va q_aa q_cl q_fu Q vn vC y3 y4 y0 v3 g2) (jv_cwV hts wa_389 wa_303 wa_390 wa_391 wa_392 rfl rfl yd_V_areaOf ⟨Nat.le_of_ble_eq_true rfl, Nat.le_of_ble_eq_true rfl⟩) (jv_preVt hT hK hP 0 rfl rfl) rfl rfl hl.1 rfl (lv_room (Nat.le_of_ble_eq_true rfl)) d_V_move_2 ⟨Nat.zero_le _, Nat.zero_le _⟩) ?_
  refine lv_astore (lv' := [(4, .ref (Q v3 0)), (0, .ref q_va), (1, .int y0), (2, .int y1), (3, .int y2)]) hx hb d_V_move_5 hl (by decide) rfl (fun ls hl => ?_)
  refine lv_iload_n hx hb d_V_move_7 rfl (lv_at hl 3 rfl) ?_
  obtain ⟨x6, g7, hf⟩ := jv_ob hf
  refine jv_cs (W.runS (As := [.int y1]) (rest := []) ⟨hx, hb, hml, hown, hts⟩ (c_P_isBelowRoot l y1 x6 g7) (jv_cwS hts wa_397 wa_8 wa_398 wa_399 rfl rfl yd_P_isBelowRoot ⟨Nat.le_of_ble_eq_true rfl, Nat.le_of_ble_eq_true rfl⟩) jv_pre0 rfl rfl hl.1 rfl (lv_room (Nat.le_of_ble_eq_true rfl)) d_V_move_8 ⟨Nat.zero_le _, Nat.zero_le _⟩) ?_
  refine lv_if_eq (tgt := 25) hx hb d_V_move_11 (by decide) (fun hc => ?_) (fun hc => ?_)
  · have hf := jv_it hf hc
    refine lv_iconst (v := (0 : Int32)) hx hb d_V_move_25 (by decide) ?_
    exact t_V_move_26 (y0 := y1) (y1 := y2) (y2 := (0 : Int32)) (y3 := v3) (y4 := y3) (y5 := y4) (hy3 := hj5) cx hK hl9 hT hout (lv_sub hl [1, 3, 4, 0] rfl) hP hf
  · have hf := jv_if hf hc
    refine lv_iload_n hx hb d_V_move_14 rfl (lv_at hl 4 rfl) ?_
    obtain ⟨x8, g9, hf⟩ := jv_ob hf
    refine jv_cs (W.runS (As := [.int y2]) (rest := []) ⟨hx, hb, hml, hown, hts⟩ (c_P_isBelowRoot l y2 x8 g9) (jv_cwS hts wa_397 wa_8 wa_398 wa_399 rfl rfl yd_P_isBelowRoot ⟨Nat.le_of_ble_eq_true rfl, Nat.le_of_ble_eq_true rfl⟩) jv_pre0 rfl rfl hl.1 rfl (lv_room (Nat.le_of_ble_eq_true rfl)) d_V_move_15 ⟨Nat.zero_le _, Nat.zero_le _⟩) ?_
    refine lv_if_eq (tgt := 25) hx hb d_V_move_18 (by decide) (fun hc => ?_) (fun hc => ?_)
    · have hf := jv_it hf hc
      refine lv_iconst (v := (0 : Int32)) hx hb d_V_move_25 (by decide) ?_
      exact t_V_move_26 (y0 := y1) (y1 := y2) (y2 := (0 : Int32)) (y3 := v3) (y4 := y3) (y5 := y4) (hy3 := hj5) cx hK hl9 hT hout (lv_sub hl [1, 3, 4, 0] rfl) hP hf
    · have hf := jv_if hf hc
      refine lv_iconst (v := (1 : Int32)) hx hb d_V_move_21 (by decide) ?_
      refine lv_goto (tgt := 26) hx hb d_V_move_22 (by decide) ?_
      exact t_V_move_26 (y0 := y1) (y1 := y2) (y2 := (1 : Int32)) (y3 := v3) (y4 := y3) (y5 := y4) (hy3 := hj5) cx hK hl9 hT hout (lv_sub hl [1, 3, 4, 0] rfl) hP hf
set_option maxHeartbeats 4000000 in
set_option maxRecDepth 100000 in
theorem x_V_move (l : Launch) (hl9 : l.stackTraces = false) (dC : Nat → ClassId) (dI : Nat → Nat → Nat) (cI cA cL : ClassId) (q_va q_aa q_cl q_fu : Nat) (Q : Nat → Nat → Nat) (vn : Nat) (vC : Nat → Int32) (vat : Int32) (ars : Nat → jv_ar) (a0 : Int32) (a1 : Int32) (a2 : Int32) (kx : Nat) (hf : f_V_move vn a0 a1 a2 vat ars = some (Sum.inl kx)) : jv_MX l y_V_move ws_V_move rx_V_move (jv_Prt [.ref q_va, .int a0, .int a1, .int a2] (dC, dI) (jv_ty cI cA cL) (w_vault cI cA q_va q_aa q_cl q_fu Q vn vC vat ars)) (jv_en kx) 1 6 := by
  refine jv_MX.ofW (cc := cc_V_move) (maxL := 7) (ret := (some .int)) (by decide) rfl ?_
  intro p e s m args below meth c s₁ B hml hv
  obtain ⟨rfl, hP, hK, hT⟩ := hv
  have cx : jv_cx p s m _ meth c cc_V_move 7 R_Vault (some .int) ws_V_move := ⟨B.exec, B.bytes, hml, findClass_of_methodNamed B.named, atoms_spec (ws := ws_V_move) B.pre, B.returns, B.notSynchronized⟩
  have hout : c.exceptionTable.isEmpty = true := B.noHandlers (atoms_spec (ws := ws_V_move) B.pre _ List.mem_cons_self)
  have hl := lv_entry ([.ref q_va, .int a0, .int a1, .int a2]) (n := 7) (Nat.le_of_ble_eq_true rfl)
  rw [lg_entry_eq]
  generalize (lg_sl ([.ref q_va, .int a0, .int a1, .int a2]) ++ List.replicate (7 - (lg_sl ([.ref q_va, .int a0, .int a1, .int a2])).length) Slot.unset).toArray = ls at hl ⊢
  have hl : lv_has ls 7 [(0, .ref q_va), (1, .int a0), (2, .int a1), (3, .int a2)] := hl
  exact t_V_move_0 (y0 := a0) (y1 := a1) (y2 := a2) (y3 := vat) (y4 := ars) cx hK hl9 hT hout (lv_sub hl [0, 1, 2, 3] rfl) hP hf
