abbrev cc_V_area : ByteArray := prog_1_method_2_code
def y_V_area : MethodName := ⟨R_Vault, "area", "(I)I"⟩
abbrev ws_V_area : List Cond := .code y_V_area cc_V_area 3 (some .int) :: jv_LT
abbrev rm_V_area : Room := { frames := 7, cells := 8, slots := 713, locals := 116 }
abbrev rx_V_area : Room := { frames := 7, cells := 1, slots := 6, locals := 116 }
theorem yd_V_area : y_V_area.cls ≠ "java/lang/invoke/MethodHandle" ∧ y_V_area.cls ≠ "java/lang/invoke/VarHandle" ∧ (parseMethodDescriptor y_V_area.desc).map (fun d => d.parameters.length) = some 1 := ⟨by decide +kernel, by decide +kernel, by decide +kernel⟩
theorem wa_507 : (Cond.code y_V_hasLabel prog_1_method_24_code 3 (some .boolean)) ∈ jv_LT := List.mem_filter.mpr ⟨List.mem_of_getElem? (i := 275) (by decide +kernel), by decide +kernel⟩
theorem wa_508 : (Cond.methodLink R_Vault 40 y_V_hasLabel) ∈ jv_LT := List.mem_filter.mpr ⟨List.mem_of_getElem? (i := 272) (by decide +kernel), by decide +kernel⟩
theorem wa_509 : (Cond.instanceMethod y_V_hasLabel) ∈ jv_LT := List.mem_filter.mpr ⟨List.mem_of_getElem? (i := 274) (by decide +kernel), by decide +kernel⟩
theorem wa_510 : (Cond.selects R_Vault y_V_hasLabel y_V_hasLabel) ∈ jv_LT := List.mem_filter.mpr ⟨List.mem_of_getElem? (i := 4) (by decide +kernel), by decide +kernel⟩
theorem wa_511 : (Cond.instantiable R_Area 5) ∈ jv_LT := List.mem_filter.mpr ⟨List.mem_of_getElem? (i := 292) (by decide +kernel), by decide +kernel⟩
theorem wa_512 : (Cond.classLink R_Vault 50 R_Disk) ∈ jv_LT := List.mem_filter.mpr ⟨List.mem_of_getElem? (i := 293) (by decide +kernel), by decide +kernel⟩
theorem wa_513 : (Cond.instantiable R_Disk 6) ∈ jv_LT := List.mem_filter.mpr ⟨List.mem_of_getElem? (i := 294) (by decide +kernel), by decide +kernel⟩
theorem wa_514 : (Cond.code y_D_init prog_4_method_1_code 1 none) ∈ jv_LT := List.mem_filter.mpr ⟨List.mem_of_getElem? (i := 297) (by decide +kernel), by decide +kernel⟩
theorem wa_515 : (Cond.methodLink R_Vault 52 y_D_init) ∈ jv_LT := List.mem_filter.mpr ⟨List.mem_of_getElem? (i := 295) (by decide +kernel), by decide +kernel⟩
theorem wa_516 : (Cond.instanceMethod y_D_init) ∈ jv_LT := List.mem_filter.mpr ⟨List.mem_of_getElem? (i := 296) (by decide +kernel), by decide +kernel⟩
theorem wa_517 : (Cond.code y_A_init prog_2_method_1_code 3 none) ∈ jv_LT := List.mem_filter.mpr ⟨List.mem_of_getElem? (i := 321) (by decide +kernel), by decide +kernel⟩
theorem wa_518 : (Cond.methodLink R_Vault 53 y_A_init) ∈ jv_LT := List.mem_filter.mpr ⟨List.mem_of_getElem? (i := 319) (by decide +kernel), by decide +kernel⟩
theorem wa_519 : (Cond.instanceMethod y_A_init) ∈ jv_LT := List.mem_filter.mpr ⟨List.mem_of_getElem? (i := 320) (by decide +kernel), by decide +kernel⟩
theorem d_V_area_0 : decode cc_V_area 0 = .ok (.iload_n 1, 1) := by decide +kernel
theorem d_V_area_1 : decode cc_V_area 1 = .ok (.invokestatic 30, 3) := by decide +kernel
theorem d_V_area_4 : decode cc_V_area 4 = .ok (.invokestatic 36, 3) := by decide +kernel
theorem d_V_area_7 : decode cc_V_area 7 = .ok (.aload_n 0, 1) := by decide +kernel
theorem d_V_area_8 : decode cc_V_area 8 = .ok (.getfield 15, 3) := by decide +kernel
theorem d_V_area_11 : decode cc_V_area 11 = .ok (.bipush 6, 2) := by decide +kernel
theorem d_V_area_13 : decode cc_V_area 13 = .ok (.if_icmp .ge 11, 3) := by decide +kernel
theorem d_V_area_24 : decode cc_V_area 24 = .ok (.new 43, 3) := by decide +kernel
theorem d_V_area_16 : decode cc_V_area 16 = .ok (.aload_n 0, 1) := by decide +kernel
theorem d_V_area_17 : decode cc_V_area 17 = .ok (.iload_n 1, 1) := by decide +kernel
theorem d_V_area_18 : decode cc_V_area 18 = .ok (.invokevirtual 40, 3) := by decide +kernel
theorem d_V_area_21 : decode cc_V_area 21 = .ok (.ifCond .eq 13, 3) := by decide +kernel
theorem d_V_area_34 : decode cc_V_area 34 = .ok (.aload_n 0, 1) := by decide +kernel
theorem d_V_area_35 : decode cc_V_area 35 = .ok (.getfield 15, 3) := by decide +kernel
theorem d_V_area_38 : decode cc_V_area 38 = .ok (.istore_n 2, 1) := by decide +kernel
theorem d_V_area_39 : decode cc_V_area 39 = .ok (.aload_n 0, 1) := by decide +kernel
theorem d_V_area_40 : decode cc_V_area 40 = .ok (.getfield 11, 3) := by decide +kernel
theorem d_V_area_43 : decode cc_V_area 43 = .ok (.iload_n 2, 1) := by decide +kernel
theorem d_V_area_44 : decode cc_V_area 44 = .ok (.new 9, 3) := by decide +kernel
theorem d_V_area_47 : decode cc_V_area 47 = .ok (.dup, 1) := by decide +kernel
theorem d_V_area_48 : decode cc_V_area 48 = .ok (.iload_n 1, 1) := by decide +kernel
theorem d_V_area_49 : decode cc_V_area 49 = .ok (.new 50, 3) := by decide +kernel
theorem d_V_area_52 : decode cc_V_area 52 = .ok (.dup, 1) := by decide +kernel
theorem d_V_area_53 : decode cc_V_area 53 = .ok (.invokespecial 52, 3) := by decide +kernel
theorem d_V_area_56 : decode cc_V_area 56 = .ok (.invokespecial 53, 3) := by decide +kernel
theorem d_V_area_59 : decode cc_V_area 59 = .ok (.aastore, 1) := by decide +kernel
theorem d_V_area_60 : decode cc_V_area 60 = .ok (.aload_n 0, 1) := by decide +kernel
theorem d_V_area_61 : decode cc_V_area 61 = .ok (.dup, 1) := by decide +kernel
theorem d_V_area_62 : decode cc_V_area 62 = .ok (.getfield 15, 3) := by decide +kernel
theorem d_V_area_65 : decode cc_V_area 65 = .ok (.iconst 1, 1) := by decide +kernel
theorem d_V_area_66 : decode cc_V_area 66 = .ok (.iadd, 1) := by decide +kernel
theorem d_V_area_67 : decode cc_V_area 67 = .ok (.putfield 15, 3) := by decide +kernel
theorem d_V_area_70 : decode cc_V_area 70 = .ok (.iload_n 2, 1) := by decide +kernel
theorem d_V_area_71 : decode cc_V_area 71 = .ok (.ireturn, 1) := by decide +kernel
theorem d_V_area_30 : decode cc_V_area 30 = .ok (.invokespecial 47, 3) := by decide +kernel
theorem d_V_area_33 : decode cc_V_area 33 = .ok (.athrow, 1) := by decide +kernel
theorem d_V_area_27 : decode cc_V_area 27 = .ok (.dup, 1) := by decide +kernel
theorem d_V_area_28 : decode cc_V_area 28 = .ok (.ldc 45, 2) := by decide +kernel
def f_V_area_0 (y0 : Int32) (y1 : Nat) (y2 : Nat → jv_ar) : Option (Nat ⊕ (Int32 × Nat × (Nat → jv_ar))) :=
  (f_L_isLabel y0).bind fun x1 => (f_V_demand x1).bind fun x3 => jv_se x3 fun v5 => if (6 : Int32) ≤ (nI y1) then (some (Sum.inl 2)) else ((f_V_hasLabel y1 y2 y0).bind fun x7 => if x7 = 0 then ((f_J_fill (-1 : Int32) (fun _ => (0 : Int32))).bind fun rF => (jv_gi 6 (nI y1)).bind fun jx => if jx = y1 then (some (Sum.inr (nI y1, y1 + 1, va_up y2 y1 (y0, rF, jv_F1, jv_F1, (fun _ => (0 : Int32)), (0 : Int32), (0 : Int32), (0 : Int32))))) else none) else (some (Sum.inl 2)))
set_option maxHeartbeats 4000000 in
set_option maxRecDepth 100000 in
theorem b_V_area_0 {l : Launch} {dC : Nat → ClassId} {dI : Nat → Nat → Nat} {cI cA cL : ClassId} {q_va q_aa q_cl q_fu : Nat} {Q : Nat → Nat → Nat} {vC : Nat → Int32} {vat : Int32} {p : Program} {e : Env} {s : State} {m : MethodId} {args : Array Value} {below : List Frame} {meth : Method} {c : Code} (cx : jv_cx p s m args meth c cc_V_area 3 R_Vault (some .int) ws_V_area) (hK : va_K (dC, dI) vwCl (jv_ty cI cA cL) s) {A : Nat → Prop} (hA : ∀ q : Nat, s.heap.size ≤ q → A q) (hl9 : l.stackTraces = false) (hT : jv_th s) (hout : c.exceptionTable.isEmpty = true) {r : Int32 × Nat × (Nat → jv_ar)} {y0 : Int32} {y1 : Nat} {y2 : Nat → jv_ar} {ls : Array Slot} (hl : lv_has ls 3 [(0, .ref q_va), (1, .int y0)]) (hP : va_P (dC, dI) vwCl (w_vault cI cA q_va q_aa q_cl q_fu Q y1 vC vat y2) s.heap) (hD : va_D A (w_vault cI cA q_va q_aa q_cl q_fu Q y1 vC vat y2)) (hf : f_V_area_0 y0 y1 y2 = some (Sum.inr r)) : W p l e rm_V_area s m args below meth c s.heap [] 0 0 (MQ below (jv_Qar r.1 (dC, dI) cI cA q_va q_aa q_cl q_fu Q y1 r.2.1 vC vat r.2.2 A) args s 8 713 A) (F0 m 0 ls []) := by
  unfold f_V_area_0 at hf
  obtain ⟨hx, hb, hml, hown, hts, hr, hlocks⟩ := id cx
  have hS : va_S A s.heap s.heap [] := va_S.rf
  refine lv_iload_n hx hb d_V_area_0 rfl (lv_at hl 1 rfl) ?_
  obtain ⟨x1, g2, hf⟩ := jv_ob hf
  refine jv_cs (W.runS (As := [.int y0]) (rest := []) ⟨hx, hb, hml, hown, hts⟩ (c_L_isLabel l y0 x1 g2) (jv_cwS hts wa_371 wa_1 wa_372 wa_373 rfl rfl yd_L_isLabel ⟨Nat.le_of_ble_eq_true rfl, Nat.le_of_ble_eq_true rfl⟩) jv_pre0 rfl rfl hl.1 rfl (lv_room (Nat.le_of_ble_eq_true rfl)) d_V_area_1 ⟨Nat.zero_le _, Nat.zero_le _⟩) ?_
  obtain ⟨x3, g4, hf⟩ := jv_ob hf
  rcases x3 with k6 | v5
  · exact jv_ci hf
  have hf := jv_sr hf
  refine jv_csv (W.runS (As := [.int x1]) (rest := []) ⟨hx, hb, hml, hown, hts⟩ (c_V_demand l hl9 x1 v5 g4) (jv_cwS hts wa_321 wa_303 wa_322 wa_323 rfl rfl yd_V_demand ⟨Nat.le_of_ble_eq_true rfl, Nat.le_of_ble_eq_true rfl⟩) (jv_pre0t hT) rfl rfl hl.1 rfl (lv_room (Nat.le_of_ble_eq_true rfl)) d_V_area_4 ⟨Nat.zero_le _, Nat.zero_le _⟩) ?_
  refine lv_aload_n hx hb d_V_area_7 rfl (lv_at hl 0 rfl) ?_
  refine va_get (D := (dC, dI)) (ci := kVault) (v := .int (nI y1)) (C := R_Vault) (T := T_Vault) (N := 4) hx hb hts (fun w h => List.mem_cons_of_mem _ (in_Vault w h)) hown hK hP 0 rfl rfl 1 (by decide) (jv_w hts wa_501) (fun _ h9 => h9) rfl d_V_area_8 ?_
  refine lv_bipush (v := (6 : Int32)) hx hb d_V_area_11 (by decide) ?_
  refine lv_icmp_ge (tgt := 24) hx hb d_V_area_13 (by decide) (fun hc => ?_) (fun hc => ?_)
  · have hf := jv_it hf hc
    cases Option.some.inj hf
  · have hf := jv_if hf hc
    refine lv_aload_n hx hb d_V_area_16 rfl (lv_at hl 0 rfl) ?_
    refine lv_iload_n hx hb d_V_area_17 rfl (lv_at hl 1 rfl) ?_
    obtain ⟨x7, g8, hf⟩ := jv_ob hf
    refine jv_cs (W.runV (As := [.int y0]) (rest := []) (b := q_va) ⟨hx, hb, hml, hown, hts⟩ (c_V_hasLabel l dC dI cI cA cL q_va q_aa q_cl q_fu Q y1 vC vat y2 y0 x7 g8) (jv_cwV hts wa_507 wa_303 wa_508 wa_509 wa_510 rfl rfl yd_V_hasLabel ⟨Nat.le_of_ble_eq_true rfl, Nat.le_of_ble_eq_true rfl⟩) (jv_preV hK hP 0 rfl rfl) rfl rfl hl.1 rfl (lv_room (Nat.le_of_ble_eq_true rfl)) d_V_area_18 ⟨Nat.zero_le _, Nat.zero_le _⟩) ?_
    refine lv_if_eq (tgt := 34) hx hb d_V_area_21 (by decide) (fun hc => ?_) (fun hc => ?_)
    · have hf := jv_it hf hc
      refine lv_aload_n hx hb d_V_area_34 rfl (lv_at hl 0 rfl) ?_
      refine va_get (D := (dC, dI)) (ci := kVault) (v := .int (nI y1)) (C := R_Vault) (T := T_Vault) (N := 4) hx hb hts (fun w h => List.mem_cons_of_mem _ (in_Vault w h)) hown hK hP 0 rfl rfl 1 (by decide) (jv_w hts wa_501) (fun _ h9 => h9) rfl d_V_area_35 ?_
      refine lv_istore_n (lv' := [(2, .int (nI y1)), (0, .ref q_va), (1, .int y0)]) hx hb d_V_area_38 rfl hl (by decide) rfl (fun ls hl => ?_)
      refine lv_aload_n hx hb d_V_area_39 rfl (lv_at hl 1 rfl) ?_
      refine va_get (D := (dC, dI)) (ci := kVault) (v := .ref q_aa) (C := R_Vault) (T := T_Vault) (N := 4) hx hb hts (fun w h => List.mem_cons_of_mem _ (in_Vault w h)) hown hK hP 0 rfl rfl 0 (by decide) (jv_w hts wa_300) (fun _ h9 => h9) rfl d_V_area_40 ?_
      refine lv_iload_n hx hb d_V_area_43 rfl (lv_at hl 0 rfl) ?_
      obtain ⟨rF, hF, hf⟩ := jv_ob hf
      obtain ⟨jx, gj, hf⟩ := jv_ob hf
      obtain ⟨hjx, hf⟩ := jv_gd hf
      obtain rfl := Sum.inr.inj (Option.some.inj hf)
      refine va_new (ci := kArea) (fs := [.int (0 : Int32), .null, .null, .null, .null]) (C := R_Area) (T := T_Area) (N := 5) hx hb hts (fun w h => List.mem_cons_of_mem _ (in_Area w h)) ty_Area tyok_Area hown (jv_w hts wa_500) (jv_w hts wa_511) (jv_w hts wa_351) hK hP hD hS hA rfl (fun j hj => by rcases j with _ | _ | _ | _ | _ | j <;> first | rfl | omega) (Nat.le_of_ble_eq_true rfl) (Nat.le_of_ble_eq_true rfl) d_V_area_44 (fun q0 H hP hD hS => ?_)
      have hP : va_P (dC, dI) vwCl ([(q0, .inr (kArea, [.int (0 : Int32), .null, .null, .null, .null]))] ++ (w_vault cI cA q_va q_aa q_cl q_fu Q y1 vC vat y2)) H := va_P.swap (a := []) hP
      have hD : va_D A ([(q0, .inr (kArea, [.int (0 : Int32), .null, .null, .null, .null]))] ++ (w_vault cI cA q_va q_aa q_cl q_fu Q y1 vC vat y2)) := va_D.swap (a := []) hD
      refine lv_dup hx hb d_V_area_47 rfl ?_
      refine lv_iload_n hx hb d_V_area_48 rfl (lv_at hl 2 rfl) ?_
      refine va_new (ci := kDisk) (fs := [.null, .null, .null, .int (0 : Int32), .int (0 : Int32), .int (0 : Int32)]) (C := R_Disk) (T := T_Disk) (N := 6) hx hb hts (fun w h => List.mem_cons_of_mem _ (in_Disk w h)) ty_Disk tyok_Disk hown (jv_w hts wa_512) (jv_w hts wa_513) (jv_w hts wa_29) hK hP hD hS hA rfl (fun j hj => by rcases j with _ | _ | _ | _ | _ | _ | j <;> first | rfl | omega) (Nat.le_of_ble_eq_true rfl) (Nat.le_of_ble_eq_true rfl) d_V_area_49 (fun q2 H hP hD hS => ?_)
      have hP : va_P (dC, dI) vwCl ([(q0, .inr (kArea, [.int (0 : Int32), .null, .null, .null, .null])), (q2, .inr (kDisk, [.null, .null, .null, .int (0 : Int32), .int (0 : Int32), .int (0 : Int32)]))] ++ (w_vault cI cA q_va q_aa q_cl q_fu Q y1 vC vat y2)) H := va_P.swap (a := [(q0, .inr (kArea, [.int (0 : Int32), .null, .null, .null, .null]))]) hP
      have hD : va_D A ([(q0, .inr (kArea, [.int (0 : Int32), .null, .null, .null, .null])), (q2, .inr (kDisk, [.null, .null, .null, .int (0 : Int32), .int (0 : Int32), .int (0 : Int32)]))] ++ (w_vault cI cA q_va q_aa q_cl q_fu Q y1 vC vat y2)) := va_D.swap (a := [(q0, .inr (kArea, [.int (0 : Int32), .null, .null, .null, .null]))]) hD
      refine lv_dup hx hb d_V_area_52 rfl ?_
      have hPc : va_P (dC, dI) vwCl [(q2, .inr (kDisk, [.null, .null, .null, .int (0 : Int32), .int (0 : Int32), .int (0 : Int32)]))] H := jv_PL (hP.part (cx := [(q2, .inr (kDisk, [.null, .null, .null, .int (0 : Int32), .int (0 : Int32), .int (0 : Int32)]))]) [1] rfl)
      have hDc : va_D A [(q2, .inr (kDisk, [.null, .null, .null, .int (0 : Int32), .int (0 : Int32), .int (0 : Int32)]))] := jv_DL (hD.part (cx := [(q2, .inr (kDisk, [.null, .null, .null, .int (0 : Int32), .int (0 : Int32), .int (0 : Int32)]))]) [1] (by decide) rfl)
      have hFc := jv_fr hDc hS hA
      refine jv_cwn (va_runI (As := []) (rest := [.ref q2, .int y0, .ref q0, .ref q0, .int (nI y1), .ref q_aa]) (b := q2) ⟨hx, hb, hml, hown, hts⟩ (c_D_init l dC dI cI cA cL q2 H.size) (jv_cwI hts wa_514 wa_29 wa_515 wa_516 rfl rfl yd_D_init ⟨Nat.le_of_ble_eq_true rfl, Nat.le_of_ble_eq_true rfl⟩) (jv_preSW hK hPc hDc) rfl rfl hl.1 rfl (lv_room (Nat.le_of_ble_eq_true rfl)) d_V_area_53 ⟨Nat.le_of_ble_eq_true rfl, Nat.le_of_ble_eq_true rfl⟩) hS hFc (fun H1 locs hB hz hk1 hS => ?_)
      obtain ⟨q3, q4, q5, hP1, hD1⟩ := hB
      obtain ⟨hP, hD⟩ := va_joinQ (cx := [(q2, .inr (kDisk, [.null, .null, .null, .int (0 : Int32), .int (0 : Int32), .int (0 : Int32)]))]) (wr := [(q0, .inr (kArea, [.int (0 : Int32), .null, .null, .null, .null]))]) (w1 := [(q2, .inr (kDisk, [.ref q3, .ref q4, .ref q5, .int (0 : Int32), .int (0 : Int32), .int (0 : Int32)])), (q3, .inl (cI, 232, .inl jv_F1)), (q4, .inl (cI, 232, .inl jv_F1)), (q5, .inl (cI, 232, .inl (fun _ => (0 : Int32))))]) hP hD [1] [0] rfl rfl (by decide) (by decide) hk1 hFc hP1 hD1
      generalize H1 = H at hP hS ⊢
      have hP : va_P (dC, dI) vwCl ([(q0, .inr (kArea, [.int (0 : Int32), .null, .null, .null, .null])), (q2, .inr (kDisk, [.ref q3, .ref q4, .ref q5, .int (0 : Int32), .int (0 : Int32), .int (0 : Int32)])), (q3, .inl (cI, 232, .inl jv_F1)), (q4, .inl (cI, 232, .inl jv_F1)), (q5, .inl (cI, 232, .inl (fun _ => (0 : Int32))))] ++ (w_vault cI cA q_va q_aa q_cl q_fu Q y1 vC vat y2)) H := hP
      have hD : va_D A ([(q0, .inr (kArea, [.int (0 : Int32), .null, .null, .null, .null])), (q2, .inr (kDisk, [.ref q3, .ref q4, .ref q5, .int (0 : Int32), .int (0 : Int32), .int (0 : Int32)])), (q3, .inl (cI, 232, .inl jv_F1)), (q4, .inl (cI, 232, .inl jv_F1)), (q5, .inl (cI, 232, .inl (fun _ => (0 : Int32))))] ++ (w_vault cI cA q_va q_aa q_cl q_fu Q y1 vC vat y2)) := hD
      have hPc : va_P (dC, dI) vwCl [(q0, .inr (kArea, [.int (0 : Int32), .null, .null, .null, .null]))] H := jv_PL (hP.part (cx := [(q0, .inr (kArea, [.int (0 : Int32), .null, .null, .null, .null]))]) [0] rfl)
      have hDc : va_D A [(q0, .inr (kArea, [.int (0 : Int32), .null, .null, .null, .null]))] := jv_DL (hD.part (cx := [(q0, .inr (kArea, [.int (0 : Int32), .null, .null, .null, .null]))]) [0] (by decide) rfl)
      have hFc := jv_fr hDc hS hA
      refine jv_cwn (va_runI (As := [.int y0, .ref q2]) (rest := [.ref q0, .int (nI y1), .ref q_aa]) (b := q0) ⟨hx, hb, hml, hown, hts⟩ (c_A_init l dC dI cI cA cL q0 q2 y0 H.size rF hF) (jv_cwI hts wa_517 wa_351 wa_518 wa_519 rfl rfl yd_A_init ⟨Nat.le_of_ble_eq_true rfl, Nat.le_of_ble_eq_true rfl⟩) (jv_preSW hK hPc hDc) rfl rfl hl.1 rfl (lv_room (Nat.le_of_ble_eq_true rfl)) d_V_area_56 ⟨Nat.le_of_ble_eq_true rfl, Nat.le_of_ble_eq_true rfl⟩) hS hFc (fun H1 locs hB hz hk1 hS => ?_)
      obtain ⟨q1, q6, q7, hP1, hD1⟩ := hB
      obtain ⟨hP, hD⟩ := va_joinQ (cx := [(q0, .inr (kArea, [.int (0 : Int32), .null, .null, .null, .null]))]) (wr := [(q2, .inr (kDisk, [.ref q3, .ref q4, .ref q5, .int (0 : Int32), .int (0 : Int32), .int (0 : Int32)])), (q3, .inl (cI, 232, .inl jv_F1)), (q4, .inl (cI, 232, .inl jv_F1)), (q5, .inl (cI, 232, .inl (fun _ => (0 : Int32))))]) (w1 := [(q0, .inr (kArea, [.int y0, .ref q1, .ref q2, .ref q6, .ref q7])), (q1, .inl (cI, 4, .inl rF)), (q6, .inr (kTree, [.ref q2])), (q7, .inr (kCont, [.ref q2]))]) hP hD [0] [1, 2, 3, 4] rfl rfl (by decide) (by decide) hk1 hFc hP1 hD1
      generalize H1 = H at hP hS ⊢
      have hP : va_P (dC, dI) vwCl ((w_area8 cI (jv_q8 q0 q1 q2 q3 q4 q5 q6 q7) (y0, rF, jv_F1, jv_F1, (fun _ => (0 : Int32)), (0 : Int32), (0 : Int32), (0 : Int32))) ++ (w_vault cI cA q_va q_aa q_cl q_fu Q y1 vC vat y2)) H := hP.part (cx := (w_area8 cI (jv_q8 q0 q1 q2 q3 q4 q5 q6 q7) (y0, rF, jv_F1, jv_F1, (fun _ => (0 : Int32)), (0 : Int32), (0 : Int32), (0 : Int32)))) [4, 5, 0, 1, 2, 3, 6, 7] rfl
      have hD : va_D A ((w_area8 cI (jv_q8 q0 q1 q2 q3 q4 q5 q6 q7) (y0, rF, jv_F1, jv_F1, (fun _ => (0 : Int32)), (0 : Int32), (0 : Int32), (0 : Int32))) ++ (w_vault cI cA q_va q_aa q_cl q_fu Q y1 vC vat y2)) := hD.part (cx := (w_area8 cI (jv_q8 q0 q1 q2 q3 q4 q5 q6 q7) (y0, rF, jv_F1, jv_F1, (fun _ => (0 : Int32)), (0 : Int32), (0 : Int32), (0 : Int32)))) [4, 5, 0, 1, 2, 3, 6, 7] (by decide) rfl
      refine va_astq (r := (R_Area, T_Area, 5)) hx hb hK hP hD hS 9 1 0 kArea rfl rfl rfl rfl (jv_inI gj).1 d_V_area_59 (fun H locs hP hD hS => ?_)
      have hP : va_P (dC, dI) vwCl ((w_area8 cI (jv_q8 q0 q1 q2 q3 q4 q5 q6 q7) (y0, rF, jv_F1, jv_F1, (fun _ => (0 : Int32)), (0 : Int32), (0 : Int32), (0 : Int32))) ++ ((q_va, .inr (kVault, [.ref q_aa, .int (nI y1), .ref q_cl, .ref q_fu])) :: (q_aa, .inl (cA, 6, .inr (.inr (.inr (.inr (va_up (fun j => if j < y1 then some (Q j 0) else none) (nI y1).toNatClampNeg (some q0))))))) :: (q_cl, .inl (cI, 4, .inl vC)) :: (q_fu, .inr (kFuse, [.int vat])) :: w_areas cI Q y1 y2)) H := hP
      have hD : va_D A ((w_area8 cI (jv_q8 q0 q1 q2 q3 q4 q5 q6 q7) (y0, rF, jv_F1, jv_F1, (fun _ => (0 : Int32)), (0 : Int32), (0 : Int32), (0 : Int32))) ++ ((q_va, .inr (kVault, [.ref q_aa, .int (nI y1), .ref q_cl, .ref q_fu])) :: (q_aa, .inl (cA, 6, .inr (.inr (.inr (.inr (va_up (fun j => if j < y1 then some (Q j 0) else none) (nI y1).toNatClampNeg (some q0))))))) :: (q_cl, .inl (cI, 4, .inl vC)) :: (q_fu, .inr (kFuse, [.int vat])) :: w_areas cI Q y1 y2)) := hD
      refine lv_aload_n hx hb d_V_area_60 rfl (lv_at hl 1 rfl) ?_
      refine lv_dup hx hb d_V_area_61 rfl ?_
      refine va_get (D := (dC, dI)) (ci := kVault) (v := .int (nI y1)) (C := R_Vault) (T := T_Vault) (N := 4) hx hb hts (fun w h => List.mem_cons_of_mem _ (in_Vault w h)) hown hK hP 8 rfl rfl 1 (by decide) (jv_w hts wa_501) (fun _ h9 => h9) rfl d_V_area_62 ?_
      refine lv_iconst (v := (1 : Int32)) hx hb d_V_area_65 (by decide) ?_
      refine lv_iadd hx hb d_V_area_66 ?_
      refine va_put (D := (dC, dI)) (ci := kVault) (v := .int (nI y1 + 1)) (ty := .int) (C := R_Vault) (T := T_Vault) (N := 4) hx hb hts (fun w h => List.mem_cons_of_mem _ (in_Vault w h)) ty_Vault tyok_Vault nm_Vault hown hK hP hD hS 8 rfl rfl 1 (by decide) (jv_w hts wa_501) (fun _ h9 => h9) rfl (by decide +kernel) rfl rfl (Nat.le_of_ble_eq_true rfl) d_V_area_67 (fun H locs hP hD hS => ?_)
      have hP : va_P (dC, dI) vwCl (((q_va, .inr (kVault, [.ref q_aa, .int (nI y1 + 1), .ref q_cl, .ref q_fu])) :: (q_aa, .inl (cA, 6, .inr (.inr (.inr (.inr (va_up (fun j => if j < y1 then some (Q j 0) else none) (nI y1).toNatClampNeg (some q0))))))) :: (q_cl, .inl (cI, 4, .inl vC)) :: (q_fu, .inr (kFuse, [.int vat])) :: w_areas cI Q y1 y2) ++ (w_area8 cI (jv_q8 q0 q1 q2 q3 q4 q5 q6 q7) (y0, rF, jv_F1, jv_F1, (fun _ => (0 : Int32)), (0 : Int32), (0 : Int32), (0 : Int32)))) H := va_P.swap (a := []) (b := (w_area8 cI (jv_q8 q0 q1 q2 q3 q4 q5 q6 q7) (y0, rF, jv_F1, jv_F1, (fun _ => (0 : Int32)), (0 : Int32), (0 : Int32), (0 : Int32)))) (c := (q_va, .inr (kVault, [.ref q_aa, .int (nI y1 + 1), .ref q_cl, .ref q_fu])) :: (q_aa, .inl (cA, 6, .inr (.inr (.inr (.inr (va_up (fun j => if j < y1 then some (Q j 0) else none) (nI y1).toNatClampNeg (some q0))))))) :: (q_cl, .inl (cI, 4, .inl vC)) :: (q_fu, .inr (kFuse, [.int vat])) :: w_areas cI Q y1 y2) hP
      have hD : va_D A (((q_va, .inr (kVault, [.ref q_aa, .int (nI y1 + 1), .ref q_cl, .ref q_fu])) :: (q_aa, .inl (cA, 6, .inr (.inr (.inr (.inr (va_up (fun j => if j < y1 then some (Q j 0) else none) (nI y1).toNatClampNeg (some q0))))))) :: (q_cl, .inl (cI, 4, .inl vC)) :: (q_fu, .inr (kFuse, [.int vat])) :: w_areas cI Q y1 y2) ++ (w_area8 cI (jv_q8 q0 q1 q2 q3 q4 q5 q6 q7) (y0, rF, jv_F1, jv_F1, (fun _ => (0 : Int32)), (0 : Int32), (0 : Int32), (0 : Int32)))) := va_D.swap (a := []) (b := (w_area8 cI (jv_q8 q0 q1 q2 q3 q4 q5 q6 q7) (y0, rF, jv_F1, jv_F1, (fun _ => (0 : Int32)), (0 : Int32), (0 : Int32), (0 : Int32)))) (c := (q_va, .inr (kVault, [.ref q_aa, .int (nI y1 + 1), .ref q_cl, .ref q_fu])) :: (q_aa, .inl (cA, 6, .inr (.inr (.inr (.inr (va_up (fun j => if j < y1 then some (Q j 0) else none) (nI y1).toNatClampNeg (some q0))))))) :: (q_cl, .inl (cI, 4, .inl vC)) :: (q_fu, .inr (kFuse, [.int vat])) :: w_areas cI Q y1 y2) hD
      have hj9 : (nI y1).toNatClampNeg = y1 := (jv_inI gj).2.trans hjx
      have hw := jv_wgrow (cI := cI) (cA := cA) (q_va := q_va) (q_aa := q_aa) (q_cl := q_cl) (q_fu := q_fu) (Q := Q) (vC := vC) (vat := vat) (ars := y2) hj9 (jv_q8 q0 q1 q2 q3 q4 q5 q6 q7) (y0, rF, jv_F1, jv_F1, (fun _ => (0 : Int32)), (0 : Int32), (0 : Int32), (0 : Int32))
      have hP := Eq.mp (congrArg (fun w => va_P (dC, dI) vwCl w H) hw) hP
      have hD := Eq.mp (congrArg (fun w => va_D A w) hw) hD
      refine lv_iload_n hx hb d_V_area_70 rfl (lv_at hl 0 rfl) ?_
      refine W.widen (k := 8) (n := 713) (Nat.le_of_ble_eq_true rfl) (Nat.le_of_ble_eq_true rfl) ?_
      exact W.iret hx hb hr (fun t ht hW => ⟨rfl, ⟨_, by rw [ht]; exact hP, hD⟩, hS.F ht⟩) hS.2.2 d_V_area_71
    · have hf := jv_if hf hc
      cases Option.some.inj hf
def f_V_area (a0 : Int32) (vn : Nat) (ars : Nat → jv_ar) : Option (Nat ⊕ (Int32 × Nat × (Nat → jv_ar))) := f_V_area_0 a0 vn ars
set_option maxHeartbeats 4000000 in
set_option maxRecDepth 100000 in
theorem c_V_area (l : Launch) (hl9 : l.stackTraces = false) (dC : Nat → ClassId) (dI : Nat → Nat → Nat) (cI cA cL : ClassId) (q_va q_aa q_cl q_fu : Nat) (Q : Nat → Nat → Nat) (vn : Nat) (vC : Nat → Int32) (vat : Int32) (ars : Nat → jv_ar) (a0 : Int32) (sz : Nat) (r : Int32 × Nat × (Nat → jv_ar)) (hf : f_V_area a0 vn ars = some (Sum.inr r)) : Met l y_V_area ws_V_area rm_V_area (jv_Pwt [.ref q_va, .int a0] (dC, dI) (jv_ty cI cA cL) (w_vault cI cA q_va q_aa q_cl q_fu Q vn vC vat ars) sz) (jv_Qar r.1 (dC, dI) cI cA q_va q_aa q_cl q_fu Q vn r.2.1 vC vat r.2.2 (va_A (w_vault cI cA q_va q_aa q_cl q_fu Q vn vC vat ars) sz)) 8 713 (va_A (w_vault cI cA q_va q_aa q_cl q_fu Q vn vC vat ars) sz) := by
  refine Met.ofW (cc := cc_V_area) (maxL := 3) (ret := (some .int)) (by decide) rfl ?_
  intro p e s m args below meth c s₁ B hml hv
  obtain ⟨rfl, hsz, hP, hK, hD0, hT⟩ := hv
  have cx : jv_cx p s m _ meth c cc_V_area 3 R_Vault (some .int) ws_V_area := ⟨B.exec, B.bytes, hml, findClass_of_methodNamed B.named, atoms_spec (ws := ws_V_area) B.pre, B.returns, B.notSynchronized⟩
  have hout : c.exceptionTable.isEmpty = true := B.noHandlers (atoms_spec (ws := ws_V_area) B.pre _ List.mem_cons_self)
  subst hsz
  have hD := hD0.self (sz := s.heap.size)
  generalize hAe : va_A (w_vault cI cA q_va q_aa q_cl q_fu Q vn vC vat ars) s.heap.size = A at hD ⊢
  have hA : ∀ q : Nat, s.heap.size ≤ q → A q := fun q h => by rw [← hAe]; exact Or.inr h
  have hS : va_S A s.heap s.heap [] := va_S.rf
  have hl := lv_entry ([.ref q_va, .int a0]) (n := 3) (Nat.le_of_ble_eq_true rfl)
  rw [lg_entry_eq]
  generalize (lg_sl ([.ref q_va, .int a0]) ++ List.replicate (3 - (lg_sl ([.ref q_va, .int a0])).length) Slot.unset).toArray = ls at hl ⊢
  have hl : lv_has ls 3 [(0, .ref q_va), (1, .int a0)] := hl
  exact b_V_area_0 (y0 := a0) (y1 := vn) (y2 := ars) cx hK hA hl9 hT hout (lv_sub hl [0, 1] rfl) hP hD hf
set_option maxHeartbeats 4000000 in
set_option maxRecDepth 100000 in
theorem t_V_area_0 {l : Launch} {dC : Nat → ClassId} {dI : Nat → Nat → Nat} {cI cA cL : ClassId} {q_va q_aa q_cl q_fu : Nat} {Q : Nat → Nat → Nat} {vC : Nat → Int32} {vat : Int32} {p : Program} {e : Env} {s : State} {m : MethodId} {args : Array Value} {below : List Frame} {meth : Method} {c : Code} (cx : jv_cx p s m args meth c cc_V_area 3 R_Vault (some .int) ws_V_area) (hK : va_K (dC, dI) vwCl (jv_ty cI cA cL) s) (hl9 : l.stackTraces = false) (hT : jv_th s) (hout : c.exceptionTable.isEmpty = true) {kx : Nat} {y0 : Int32} {y1 : Nat} {y2 : Nat → jv_ar} {ls : Array Slot} (hl : lv_has ls 3 [(0, .ref q_va), (1, .int y0)]) (hP : va_P (dC, dI) vwCl (w_vault cI cA q_va q_aa q_cl q_fu Q y1 vC vat y2) s.heap) (hf : f_V_area_0 y0 y1 y2 = some (Sum.inl kx)) : W p l e rx_V_area s m args below meth c s.heap [] 0 0 (jv_MQ below (jv_en kx) args s 1 6) (F0 m 0 ls []) := by
  unfold f_V_area_0 at hf
  obtain ⟨hx, hb, hml, hown, hts, hr, hlocks⟩ := id cx
  refine lv_iload_n hx hb d_V_area_0 rfl (lv_at hl 1 rfl) ?_
  obtain ⟨x1, g2, hf⟩ := jv_ob hf
  refine jv_cs (W.runS (As := [.int y0]) (rest := []) ⟨hx, hb, hml, hown, hts⟩ (c_L_isLabel l y0 x1 g2) (jv_cwS hts wa_371 wa_1 wa_372 wa_373 rfl rfl yd_L_isLabel ⟨Nat.le_of_ble_eq_true rfl, Nat.le_of_ble_eq_true rfl⟩) jv_pre0 rfl rfl hl.1 rfl (lv_room (Nat.le_of_ble_eq_true rfl)) d_V_area_1 ⟨Nat.zero_le _, Nat.zero_le _⟩) ?_
  obtain ⟨x3, g4, hf⟩ := jv_ob hf
  rcases x3 with k6 | v5
  · rw [jv_sl hf] at g4
    exact jv_xS (cells := 0) (slots := 0) (As := [.int x1]) (rest := []) ⟨hx, hb, hml, hown, hts⟩ (x_V_demand l hl9 x1 kx g4) (jv_cwS hts wa_321 wa_303 wa_322 wa_323 rfl rfl yd_V_demand ⟨Nat.le_of_ble_eq_true rfl, Nat.le_of_ble_eq_true rfl⟩) (jv_pre0t hT) rfl rfl hl.1 rfl (lv_room (Nat.le_of_ble_eq_true rfl)) d_V_area_4 ⟨Nat.le_of_ble_eq_true rfl, Nat.le_of_ble_eq_true rfl⟩ (fun x H1 hob => jv_leave hout hlocks hob)
  have hf := jv_sr hf
  refine jv_csv (W.runS (As := [.int x1]) (rest := []) ⟨hx, hb, hml, hown, hts⟩ (c_V_demand l hl9 x1 v5 g4) (jv_cwS hts wa_321 wa_303 wa_322 wa_323 rfl rfl yd_V_demand ⟨Nat.le_of_ble_eq_true rfl, Nat.le_of_ble_eq_true rfl⟩) (jv_pre0t hT) rfl rfl hl.1 rfl (lv_room (Nat.le_of_ble_eq_true rfl)) d_V_area_4 ⟨Nat.zero_le _, Nat.zero_le _⟩) ?_
  refine lv_aload_n hx hb d_V_area_7 rfl (lv_at hl 0 rfl) ?_
  refine va_get (D := (dC, dI)) (ci := kVault) (v := .int (nI y1)) (C := R_Vault) (T := T_Vault) (N := 4) hx hb hts (fun w h => List.mem_cons_of_mem _ (in_Vault w h)) hown hK hP 0 rfl rfl 1 (by decide) (jv_w hts wa_501) (fun _ h9 => h9) rfl d_V_area_8 ?_
  refine lv_bipush (v := (6 : Int32)) hx hb d_V_area_11 (by decide) ?_
  refine lv_icmp_ge (tgt := 24) hx hb d_V_area_13 (by decide) (fun hc => ?_) (fun hc => ?_)
  · have hf := jv_it hf hc
    obtain rfl := Sum.inl.inj (Option.some.inj hf)
    refine W.newc hx hb hown (jv_w hts wa_333) (jv_w hts wa_334) (jv_w hts wa_335) rfl d_V_area_24 (Nat.le_of_ble_eq_true rfl) (Nat.le_of_ble_eq_true rfl) (fun cC kC h1 h2 h3 h4 => ?_)
    refine W.eq (g2 := F0 m 27 ls (.ref s.heap.size :: [])) rfl ?_
    refine lv_dup hx hb d_V_area_27 rfl ?_
    obtain ⟨sa, hsa⟩ := hT.2.2 (45, "no more areas, or this label has one") (by decide +kernel)
    refine va_ldcS (own := R_Vault) hx hb hown hsa d_V_area_28 ?_
    exact jv_throwS (names := ["java/lang/RuntimeException", "java/lang/Exception"]) hx hb hl9 hlocks (hl.1.trans hml.symm) hown (by decide +kernel) (by decide +kernel) (jv_own hts hT oa_47) hout h1 h2 jv_fresh (Nat.le_refl _) d_V_area_30 d_V_area_33 (Nat.le_of_ble_eq_true rfl) (Nat.le_of_ble_eq_true rfl)
  · have hf := jv_if hf hc
    refine lv_aload_n hx hb d_V_area_16 rfl (lv_at hl 0 rfl) ?_
    refine lv_iload_n hx hb d_V_area_17 rfl (lv_at hl 1 rfl) ?_
    obtain ⟨x7, g8, hf⟩ := jv_ob hf
    refine jv_cs (W.runV (As := [.int y0]) (rest := []) (b := q_va) ⟨hx, hb, hml, hown, hts⟩ (c_V_hasLabel l dC dI cI cA cL q_va q_aa q_cl q_fu Q y1 vC vat y2 y0 x7 g8) (jv_cwV hts wa_507 wa_303 wa_508 wa_509 wa_510 rfl rfl yd_V_hasLabel ⟨Nat.le_of_ble_eq_true rfl, Nat.le_of_ble_eq_true rfl⟩) (jv_preV hK hP 0 rfl rfl) rfl rfl hl.1 rfl (lv_room (Nat.le_of_ble_eq_true rfl)) d_V_area_18 ⟨Nat.zero_le _, Nat.zero_le _⟩) ?_
    refine lv_if_eq (tgt := 34) hx hb d_V_area_21 (by decide) (fun hc => ?_) (fun hc => ?_)
    · have hf := jv_it hf hc
      refine lv_aload_n hx hb d_V_area_34 rfl (lv_at hl 0 rfl) ?_
      refine va_get (D := (dC, dI)) (ci := kVault) (v := .int (nI y1)) (C := R_Vault) (T := T_Vault) (N := 4) hx hb hts (fun w h => List.mem_cons_of_mem _ (in_Vault w h)) hown hK hP 0 rfl rfl 1 (by decide) (jv_w hts wa_501) (fun _ h9 => h9) rfl d_V_area_35 ?_
      refine lv_istore_n (lv' := [(2, .int (nI y1)), (0, .ref q_va), (1, .int y0)]) hx hb d_V_area_38 rfl hl (by decide) rfl (fun ls hl => ?_)
      refine lv_aload_n hx hb d_V_area_39 rfl (lv_at hl 1 rfl) ?_
      refine va_get (D := (dC, dI)) (ci := kVault) (v := .ref q_aa) (C := R_Vault) (T := T_Vault) (N := 4) hx hb hts (fun w h => List.mem_cons_of_mem _ (in_Vault w h)) hown hK hP 0 rfl rfl 0 (by decide) (jv_w hts wa_300) (fun _ h9 => h9) rfl d_V_area_40 ?_
      refine lv_iload_n hx hb d_V_area_43 rfl (lv_at hl 0 rfl) ?_
      obtain ⟨rF, hF, hf⟩ := jv_ob hf
      obtain ⟨jx, gj, hf⟩ := jv_ob hf
      obtain ⟨hjx, hf⟩ := jv_gd hf
      cases Option.some.inj hf
    · have hf := jv_if hf hc
      obtain rfl := Sum.inl.inj (Option.some.inj hf)
      refine W.newc hx hb hown (jv_w hts wa_333) (jv_w hts wa_334) (jv_w hts wa_335) rfl d_V_area_24 (Nat.le_of_ble_eq_true rfl) (Nat.le_of_ble_eq_true rfl) (fun cC kC h1 h2 h3 h4 => ?_)
      refine W.eq (g2 := F0 m 27 ls (.ref s.heap.size :: [])) rfl ?_
      refine lv_dup hx hb d_V_area_27 rfl ?_
      obtain ⟨sa, hsa⟩ := hT.2.2 (45, "no more areas, or this label has one") (by decide +kernel)
      refine va_ldcS (own := R_Vault) hx hb hown hsa d_V_area_28 ?_
      exact jv_throwS (names := ["java/lang/RuntimeException", "java/lang/Exception"]) hx hb hl9 hlocks (hl.1.trans hml.symm) hown (by decide +kernel) (by decide +kernel) (jv_own hts hT oa_47) hout h1 h2 jv_fresh (Nat.le_refl _) d_V_area_30 d_V_area_33 (Nat.le_of_ble_eq_true rfl) (Nat.le_of_ble_eq_true rfl)
set_option maxHeartbeats 4000000 in
set_option maxRecDepth 100000 in
theorem x_V_area (l : Launch) (hl9 : l.stackTraces = false) (dC : Nat → ClassId) (dI : Nat → Nat → Nat) (cI cA cL : ClassId) (q_va q_aa q_cl q_fu : Nat) (Q : Nat → Nat → Nat) (vn : Nat) (vC : Nat → Int32) (vat : Int32) (ars : Nat → jv_ar) (a0 : Int32) (kx : Nat) (hf : f_V_area a0 vn ars = some (Sum.inl kx)) : jv_MX l y_V_area ws_V_area rx_V_area (jv_Prt [.ref q_va, .int a0] (dC, dI) (jv_ty cI cA cL) (w_vault cI cA q_va q_aa q_cl q_fu Q vn vC vat ars)) (jv_en kx) 1 6 := by
  refine jv_MX.ofW (cc := cc_V_area) (maxL := 3) (ret := (some .int)) (by decide) rfl ?_
  intro p e s m args below meth c s₁ B hml hv
  obtain ⟨rfl, hP, hK, hT⟩ := hv
  have cx : jv_cx p s m _ meth c cc_V_area 3 R_Vault (some .int) ws_V_area := ⟨B.exec, B.bytes, hml, findClass_of_methodNamed B.named, atoms_spec (ws := ws_V_area) B.pre, B.returns, B.notSynchronized⟩
  have hout : c.exceptionTable.isEmpty = true := B.noHandlers (atoms_spec (ws := ws_V_area) B.pre _ List.mem_cons_self)
  have hl := lv_entry ([.ref q_va, .int a0]) (n := 3) (Nat.le_of_ble_eq_true rfl)
  rw [lg_entry_eq]
  generalize (lg_sl ([.ref q_va, .int a0]) ++ List.replicate (3 - (lg_sl ([.ref q_va, .int a0])).length) Slot.unset).toArray = ls at hl ⊢
  have hl : lv_has ls 3 [(0, .ref q_va), (1, .int a0)] := hl
  exact t_V_area_0 (y0 := a0) (y1 := vn) (y2 := ars) cx hK hl9 hT hout (lv_sub hl [0, 1] rfl) hP hf
