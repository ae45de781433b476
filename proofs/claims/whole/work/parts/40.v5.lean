theorem d_V_read_0 : decode cc_V_read 0 = .ok (.aload_n 0, 1) := by decide +kernel
theorem d_V_read_1 : decode cc_V_read 1 = .ok (.iload_n 1, 1) := by decide +kernel
theorem d_V_read_2 : decode cc_V_read 2 = .ok (.invokevirtual 79, 3) := by decide +kernel
theorem d_V_read_5 : decode cc_V_read 5 = .ok (.astore 5, 2) := by decide +kernel
theorem d_V_read_7 : decode cc_V_read 7 = .ok (.iload_n 2, 1) := by decide +kernel
theorem d_V_read_8 : decode cc_V_read 8 = .ok (.invokestatic 132, 3) := by decide +kernel
theorem d_V_read_11 : decode cc_V_read 11 = .ok (.invokestatic 36, 3) := by decide +kernel
theorem d_V_read_14 : decode cc_V_read 14 = .ok (.aload_n 0, 1) := by decide +kernel
theorem d_V_read_15 : decode cc_V_read 15 = .ok (.iload_n 3, 1) := by decide +kernel
theorem d_V_read_16 : decode cc_V_read 16 = .ok (.invokevirtual 63, 3) := by decide +kernel
theorem d_V_read_19 : decode cc_V_read 19 = .ok (.astore 6, 2) := by decide +kernel
theorem d_V_read_21 : decode cc_V_read 21 = .ok (.aload 5, 2) := by decide +kernel
theorem d_V_read_23 : decode cc_V_read 23 = .ok (.aload 6, 2) := by decide +kernel
theorem d_V_read_25 : decode cc_V_read 25 = .ok (.iload_n 2, 1) := by decide +kernel
theorem d_V_read_26 : decode cc_V_read 26 = .ok (.invokestatic 197, 3) := by decide +kernel
theorem d_V_read_29 : decode cc_V_read 29 = .ok (.istore 7, 2) := by decide +kernel
theorem d_V_read_31 : decode cc_V_read 31 = .ok (.iload 4, 2) := by decide +kernel
theorem d_V_read_33 : decode cc_V_read 33 = .ok (.ifCond .lt 18, 3) := by decide +kernel
theorem d_V_read_51 : decode cc_V_read 51 = .ok (.new 201, 3) := by decide +kernel
theorem d_V_read_36 : decode cc_V_read 36 = .ok (.iload 4, 2) := by decide +kernel
theorem d_V_read_38 : decode cc_V_read 38 = .ok (.aload 6, 2) := by decide +kernel
theorem d_V_read_40 : decode cc_V_read 40 = .ok (.getfield 144, 3) := by decide +kernel
theorem d_V_read_43 : decode cc_V_read 43 = .ok (.iload 7, 2) := by decide +kernel
theorem d_V_read_45 : decode cc_V_read 45 = .ok (.invokevirtual 152, 3) := by decide +kernel
theorem d_V_read_48 : decode cc_V_read 48 = .ok (.if_icmp .lt 13, 3) := by decide +kernel
theorem d_V_read_61 : decode cc_V_read 61 = .ok (.aload 6, 2) := by decide +kernel
theorem d_V_read_63 : decode cc_V_read 63 = .ok (.getfield 144, 3) := by decide +kernel
theorem d_V_read_66 : decode cc_V_read 66 = .ok (.iload 7, 2) := by decide +kernel
theorem d_V_read_68 : decode cc_V_read 68 = .ok (.iload 4, 2) := by decide +kernel
theorem d_V_read_70 : decode cc_V_read 70 = .ok (.invokevirtual 206, 3) := by decide +kernel
theorem d_V_read_73 : decode cc_V_read 73 = .ok (.ireturn, 1) := by decide +kernel
theorem d_V_read_57 : decode cc_V_read 57 = .ok (.invokespecial 205, 3) := by decide +kernel
theorem d_V_read_60 : decode cc_V_read 60 = .ok (.athrow, 1) := by decide +kernel
theorem d_V_read_54 : decode cc_V_read 54 = .ok (.dup, 1) := by decide +kernel
theorem d_V_read_55 : decode cc_V_read 55 = .ok (.ldc 203, 2) := by decide +kernel
def f_V_read_0 (vn : Nat) (ars : Nat → jv_ar) (y0 : Int32) (y1 : Int32) (y2 : Int32) (y3 : Int32) : Option (Nat ⊕ (Int32)) :=
  (f_V_areaOf vn ars y0).bind fun x1 => jv_se x1 fun v3 => if v3 < vn then ((f_P_isPath y1).bind fun x6 => (f_V_demand x6).bind fun x8 => jv_se x8 fun v10 => (f_V_areaNumbered vn y2).bind fun x12 => jv_se x12 fun v14 => if v14 < vn then ((f_V_readableFile ars v3 v14 y1).bind fun x17 => jv_se x17 fun v19 => if y3 < 0 then (some (Sum.inl 5)) else ((f_C_sizeOf ((ars v14).2.2.2.1) v19).bind fun x21 => if y3 < x21 then ((f_C_wordOf ((ars v14).2.2.2.1) v19 y3).bind fun x23 => some (Sum.inr x23)) else (some (Sum.inl 5)))) else none) else none
set_option maxHeartbeats 4000000 in
set_option maxRecDepth 100000 in
theorem b_V_read_0 {l : Launch} {dC : Nat → ClassId} {dI : Nat → Nat → Nat} {cI cA cL : ClassId} {q_va q_aa q_cl q_fu : Nat} {Q : Nat → Nat → Nat} {vn : Nat} {vC : Nat → Int32} {vat : Int32} {ars : Nat → jv_ar} {p : Program} {e : Env} {s : State} {m : MethodId} {args : Array Value} {below : List Frame} {meth : Method} {c : Code} (cx : jv_cx p s m args meth c cc_V_read 8 R_Vault (some .int) ws_V_read) (hK : va_K (dC, dI) vwCl (jv_ty cI cA cL) s) (hP : va_P (dC, dI) vwCl (w_vault cI cA q_va q_aa q_cl q_fu Q vn vC vat ars) s.heap) (hl9 : l.stackTraces = false) (hT : jv_th s) (hout : c.exceptionTable.isEmpty = true) {r : Int32} {y0 : Int32} {y1 : Int32} {y2 : Int32} {y3 : Int32} {ls : Array Slot} (hl : lv_has ls 8 [(0, .ref q_va), (1, .int y0), (2, .int y1), (3, .int y2), (4, .int y3)]) (hf : f_V_read_0 vn ars y0 y1 y2 y3 = some (Sum.inr r)) : W p l e rm_V_read s m args below meth c s.heap [] 0 0 (MQ below (QcRead r) args s 0 0 (fun _ => False)) (F0 m 0 ls []) := by
  unfold f_V_read_0 at hf
  obtain ⟨hx, hb, hml, hown, hts, hr, hlocks⟩ := id cx
  refine lv_aload_n hx hb d_V_read_0 rfl (lv_at hl 0 rfl) ?_
  refine lv_iload_n hx hb d_V_read_1 rfl (lv_at hl 1 rfl) ?_
  obtain ⟨x1, g2, hf⟩ := jv_ob hf
  rcases x1 with k4 | v3
  · exact jv_ci hf
  have hf := jv_sr hf
  obtain ⟨hj5, hf⟩ := jv_gd hf
  refine jv_csr (W.runV (As := [.int y0]) (rest := []) (b := q_va) ⟨hx, hb, hml, hown, hts⟩ (c_V_areaOf l hl9 dC dI cI cA cL q_va q_aa q_cl q_fu Q vn vC vat ars y0 v3 g2) (jv_cwV hts wa_389 wa_303 wa_390 wa_391 wa_392 rfl rfl yd_V_areaOf ⟨Nat.le_of_ble_eq_true rfl, Nat.le_of_ble_eq_true rfl⟩) (jv_preVt hT hK hP 0 rfl rfl) rfl rfl hl.1 rfl (lv_room (Nat.le_of_ble_eq_true rfl)) d_V_read_2 ⟨Nat.zero_le _, Nat.zero_le _⟩) ?_
  refine lv_astore (lv' := [(5, .ref (Q v3 0)), (0, .ref q_va), (1, .int y0), (2, .int y1), (3, .int y2), (4, .int y3)]) hx hb d_V_read_5 hl (by decide) rfl (fun ls hl => ?_)
  refine lv_iload_n hx hb d_V_read_7 rfl (lv_at hl 3 rfl) ?_
  obtain ⟨x6, g7, hf⟩ := jv_ob hf
  refine jv_cs (W.runS (As := [.int y1]) (rest := []) ⟨hx, hb, hml, hown, hts⟩ (c_P_isPath l y1 x6 g7) (jv_cwS hts wa_14 wa_8 wa_416 wa_16 rfl rfl yd_P_isPath ⟨Nat.le_of_ble_eq_true rfl, Nat.le_of_ble_eq_true rfl⟩) jv_pre0 rfl rfl hl.1 rfl (lv_room (Nat.le_of_ble_eq_true rfl)) d_V_read_8 ⟨Nat.zero_le _, Nat.zero_le _⟩) ?_
  obtain ⟨x8, g9, hf⟩ := jv_ob hf
  rcases x8 with k11 | v10
  · exact jv_ci hf
  have hf := jv_sr hf
  refine jv_csv (W.runS (As := [.int x6]) (rest := []) ⟨hx, hb, hml, hown, hts⟩ (c_V_demand l hl9 x6 v10 g9) (jv_cwS hts wa_321 wa_303 wa_322 wa_323 rfl rfl yd_V_demand ⟨Nat.le_of_ble_eq_true rfl, Nat.le_of_ble_eq_true rfl⟩) (jv_pre0t hT) rfl rfl hl.1 rfl (lv_room (Nat.le_of_ble_eq_true rfl)) d_V_read_11 ⟨Nat.zero_le _, Nat.zero_le _⟩) ?_
  refine lv_aload_n hx hb d_V_read_14 rfl (lv_at hl 1 rfl) ?_
  refine lv_iload_n hx hb d_V_read_15 rfl (lv_at hl 4 rfl) ?_
  obtain ⟨x12, g13, hf⟩ := jv_ob hf
  rcases x12 with k15 | v14
  · exact jv_ci hf
  have hf := jv_sr hf
  obtain ⟨hj16, hf⟩ := jv_gd hf
  refine jv_csr (W.runV (As := [.int y2]) (rest := []) (b := q_va) ⟨hx, hb, hml, hown, hts⟩ (c_V_areaNumbered l hl9 dC dI cI cA cL q_va q_aa q_cl q_fu Q vn vC vat ars y2 v14 g13) (jv_cwV hts wa_378 wa_303 wa_379 wa_380 wa_381 rfl rfl yd_V_areaNumbered ⟨Nat.le_of_ble_eq_true rfl, Nat.le_of_ble_eq_true rfl⟩) (jv_preVt hT hK hP 0 rfl rfl) rfl rfl hl.1 rfl (lv_room (Nat.le_of_ble_eq_true rfl)) d_V_read_16 ⟨Nat.zero_le _, Nat.zero_le _⟩) ?_
  refine lv_astore (lv' := [(6, .ref (Q v14 0)), (5, .ref (Q v3 0)), (0, .ref q_va), (1, .int y0), (2, .int y1), (3, .int y2), (4, .int y3)]) hx hb d_V_read_19 hl (by decide) rfl (fun ls hl => ?_)
  refine lv_aload hx hb d_V_read_21 (lv_at hl 1 rfl) ?_
  refine lv_aload hx hb d_V_read_23 (lv_at hl 0 rfl) ?_
  refine lv_iload_n hx hb d_V_read_25 rfl (lv_at hl 4 rfl) ?_
  obtain ⟨x17, g18, hf⟩ := jv_ob hf
  rcases x17 with k20 | v19
  · exact jv_ci hf
  have hf := jv_sr hf
  refine jv_cs (W.runS (As := [.ref (Q v3 0), .ref (Q v14 0), .int y1]) (rest := []) ⟨hx, hb, hml, hown, hts⟩ (c_V_readableFile l hl9 dC dI cI cA cL q_va q_aa q_cl q_fu Q vn vC vat ars v3 v14 y1 hj5 hj16 v19 g18) (jv_cwS hts wa_450 wa_303 wa_451 wa_452 rfl rfl yd_V_readableFile ⟨Nat.le_of_ble_eq_true rfl, Nat.le_of_ble_eq_true rfl⟩) (jv_preSt hT hK hP) rfl rfl hl.1 rfl (lv_room (Nat.le_of_ble_eq_true rfl)) d_V_read_26 ⟨Nat.zero_le _, Nat.zero_le _⟩) ?_
  refine lv_istore (lv' := [(7, .int v19), (6, .ref (Q v14 0)), (5, .ref (Q v3 0)), (0, .ref q_va), (1, .int y0), (2, .int y1), (3, .int y2), (4, .int y3)]) hx hb d_V_read_29 hl (by decide) rfl (fun ls hl => ?_)
  refine lv_iload hx hb d_V_read_31 (lv_at hl 7 rfl) ?_
  refine lv_if_lt (tgt := 51) hx hb d_V_read_33 (by decide) (fun hc => ?_) (fun hc => ?_)
  · have hf := jv_it hf hc
    cases Option.some.inj hf
  · have hf := jv_if hf hc
    refine lv_iload hx hb d_V_read_36 (lv_at hl 7 rfl) ?_
    refine lv_aload hx hb d_V_read_38 (lv_at hl 1 rfl) ?_
    refine va_get (D := (dC, dI)) (ci := kArea) (v := .ref (Q v14 7)) (C := R_Area) (T := T_Area) (N := 5) hx hb hts (fun w h => List.mem_cons_of_mem _ (in_Area w h)) hown hK (jv_open hP hj16) 1 rfl rfl 4 (by decide) (jv_w hts wa_421) (fun _ h9 => h9) rfl d_V_read_40 ?_
    refine lv_iload hx hb d_V_read_43 (lv_at hl 0 rfl) ?_
    obtain ⟨x21, g22, hf⟩ := jv_ob hf
    have hPc := (jv_open hP hj16).sub (ws' := (w_cont cI (Q v14 7) (Q v14 2) (Q v14 3) (Q v14 4) (Q v14 5) ((ars v14).2.2.2.2.2.1) ((ars v14).2.2.2.2.2.2.1) ((ars v14).2.2.2.2.2.2.2) ((ars v14).2.2.1) ((ars v14).2.2.2.1) ((ars v14).2.2.2.2.1))) [8, 3, 4, 5, 6] rfl
    refine jv_cs (W.runV (As := [.int v19]) (rest := [.int y3]) (b := (Q v14 7)) ⟨hx, hb, hml, hown, hts⟩ (c_C_sizeOf l dC dI cI cA cL (Q v14 7) (Q v14 2) (Q v14 3) (Q v14 4) (Q v14 5) ((ars v14).2.2.2.2.2.1) ((ars v14).2.2.2.2.2.2.1) ((ars v14).2.2.2.2.2.2.2) ((ars v14).2.2.1) ((ars v14).2.2.2.1) ((ars v14).2.2.2.2.1) v19 x21 g22) (jv_cwV hts wa_160 wa_129 wa_426 wa_162 wa_163 rfl rfl yd_C_sizeOf ⟨Nat.le_of_ble_eq_true rfl, Nat.le_of_ble_eq_true rfl⟩) (jv_preV hK hPc 0 rfl rfl) rfl rfl hl.1 rfl (lv_room (Nat.le_of_ble_eq_true rfl)) d_V_read_45 ⟨Nat.zero_le _, Nat.zero_le _⟩) ?_
    refine lv_icmp_lt (tgt := 61) hx hb d_V_read_48 (by decide) (fun hc => ?_) (fun hc => ?_)
    · have hf := jv_it hf hc
      refine lv_aload hx hb d_V_read_61 (lv_at hl 1 rfl) ?_
      refine va_get (D := (dC, dI)) (ci := kArea) (v := .ref (Q v14 7)) (C := R_Area) (T := T_Area) (N := 5) hx hb hts (fun w h => List.mem_cons_of_mem _ (in_Area w h)) hown hK (jv_open hP hj16) 1 rfl rfl 4 (by decide) (jv_w hts wa_421) (fun _ h9 => h9) rfl d_V_read_63 ?_
      refine lv_iload hx hb d_V_read_66 (lv_at hl 0 rfl) ?_
      refine lv_iload hx hb d_V_read_68 (lv_at hl 7 rfl) ?_
      obtain ⟨x23, g24, hf⟩ := jv_ob hf
      have hPc := (jv_open hP hj16).sub (ws' := (w_cont cI (Q v14 7) (Q v14 2) (Q v14 3) (Q v14 4) (Q v14 5) ((ars v14).2.2.2.2.2.1) ((ars v14).2.2.2.2.2.2.1) ((ars v14).2.2.2.2.2.2.2) ((ars v14).2.2.1) ((ars v14).2.2.2.1) ((ars v14).2.2.2.2.1))) [8, 3, 4, 5, 6] rfl
      refine jv_cs (W.runV (As := [.int v19, .int y3]) (rest := []) (b := (Q v14 7)) ⟨hx, hb, hml, hown, hts⟩ (c_C_wordOf l dC dI cI cA cL (Q v14 7) (Q v14 2) (Q v14 3) (Q v14 4) (Q v14 5) ((ars v14).2.2.2.2.2.1) ((ars v14).2.2.2.2.2.2.1) ((ars v14).2.2.2.2.2.2.2) ((ars v14).2.2.1) ((ars v14).2.2.2.1) ((ars v14).2.2.2.2.1) v19 y3 x23 g24) (jv_cwV hts wa_453 wa_129 wa_454 wa_455 wa_456 rfl rfl yd_C_wordOf ⟨Nat.le_of_ble_eq_true rfl, Nat.le_of_ble_eq_true rfl⟩) (jv_preV hK hPc 0 rfl rfl) rfl rfl hl.1 rfl (lv_room (Nat.le_of_ble_eq_true rfl)) d_V_read_70 ⟨Nat.zero_le _, Nat.zero_le _⟩) ?_
      obtain rfl := Sum.inr.inj (Option.some.inj hf)
      exact W.iret hx hb hr (fun t ht hW => ⟨rfl, ht⟩) (fun q h => by cases h) d_V_read_73
    · have hf := jv_if hf hc
      cases Option.some.inj hf
def f_V_read (vn : Nat) (ars : Nat → jv_ar) (a0 : Int32) (a1 : Int32) (a2 : Int32) (a3 : Int32) : Option (Nat ⊕ (Int32)) := f_V_read_0 vn ars a0 a1 a2 a3
set_option maxHeartbeats 4000000 in
set_option maxRecDepth 100000 in
theorem c_V_read (l : Launch) (hl9 : l.stackTraces = false) (dC : Nat → ClassId) (dI : Nat → Nat → Nat) (cI cA cL : ClassId) (q_va q_aa q_cl q_fu : Nat) (Q : Nat → Nat → Nat) (vn : Nat) (vC : Nat → Int32) (vat : Int32) (ars : Nat → jv_ar) (a0 : Int32) (a1 : Int32) (a2 : Int32) (a3 : Int32) (r : Int32) (hf : f_V_read vn ars a0 a1 a2 a3 = some (Sum.inr r)) : Met l y_V_read ws_V_read rm_V_read (jv_Prt [.ref q_va, .int a0, .int a1, .int a2, .int a3] (dC, dI) (jv_ty cI cA cL) (w_vault cI cA q_va q_aa q_cl q_fu Q vn vC vat ars)) (QcRead r) 0 0 (fun _ => False) := by
  refine Met.ofW (cc := cc_V_read) (maxL := 8) (ret := (some .int)) (by decide) rfl ?_
  intro p e s m args below meth c s₁ B hml hv
  obtain ⟨rfl, hP, hK, hT⟩ := hv
  have cx : jv_cx p s m _ meth c cc_V_read 8 R_Vault (some .int) ws_V_read := ⟨B.exec, B.bytes, hml, findClass_of_methodNamed B.named, atoms_spec (ws := ws_V_read) B.pre, B.returns, B.notSynchronized⟩
  have hout : c.exceptionTable.isEmpty = true := B.noHandlers (atoms_spec (ws := ws_V_read) B.pre _ List.mem_cons_self)
  have hl := lv_entry ([.ref q_va, .int a0, .int a1, .int a2, .int a3]) (n := 8) (Nat.le_of_ble_eq_true rfl)
  rw [lg_entry_eq]
  generalize (lg_sl ([.ref q_va, .int a0, .int a1, .int a2, .int a3]) ++ List.replicate (8 - (lg_sl ([.ref q_va, .int a0, .int a1, .int a2, .int a3])).length) Slot.unset).toArray = ls at hl ⊢
  have hl : lv_has ls 8 [(0, .ref q_va), (1, .int a0), (2, .int a1), (3, .int a2), (4, .int a3)] := hl
  exact b_V_read_0 (y0 := a0) (y1 := a1) (y2 := a2) (y3 := a3) cx hK hP hl9 hT hout (lv_sub hl [0, 1, 2, 3, 4] rfl) hf
set_option maxHeartbeats 4000000 in
set_option maxRecDepth 100000 in
theorem t_V_read_0 {l : Launch} {dC : Nat → ClassId} {dI : Nat → Nat → Nat} {cI cA cL : ClassId} {q_va q_aa q_cl q_fu : Nat} {Q : Nat → Nat → Nat} {vn : Nat} {vC : Nat → Int32} {vat : Int32} {ars : Nat → jv_ar} {p : Program} {e : Env} {s : State} {m : MethodId} {args : Array Value} {below : List Frame} {meth : Method} {c : Code} (cx : jv_cx p s m args meth c cc_V_read 8 R_Vault (some .int) ws_V_read) (hK : va_K (dC, dI) vwCl (jv_ty cI cA cL) s) (hP : va_P (dC, dI) vwCl (w_vault cI cA q_va q_aa q_cl q_fu Q vn vC vat ars) s.heap) (hl9 : l.stackTraces = false) (hT : jv_th s) (hout : c.exceptionTable.isEmpty = true) {kx : Nat} {y0 : Int32} {y1 : Int32} {y2 : Int32} {y3 : Int32} {ls : Array Slot} (hl : lv_has ls 8 [(0, .ref q_va), (1, .int y0), (2, .int y1), (3, .int y2), (4, .int y3)]) (hf : f_V_read_0 vn ars y0 y1 y2 y3 = some (Sum.inl kx)) : W p l e rx_V_read s m args below meth c s.heap [] 0 0 (jv_MQ below (jv_en kx) args s 1 6) (F0 m 0 ls []) := by
  unfold f_V_read_0 at hf
  obtain ⟨hx, hb, hml, hown, hts, hr, hlocks⟩ := id cx
  refine lv_aload_n hx hb d_V_read_0 rfl (lv_at hl 0 rfl) ?_
  refine lv_iload_n hx hb d_V_read_1 rfl (lv_at hl 1 rfl) ?_
  obtain ⟨x1, g2, hf⟩ := jv_ob hf
  rcases x1 with k4 | v3
  · rw [jv_sl hf] at g2
    exact jv_xV (cells := 0) (slots := 0) (As := [.int y0]) (rest := []) (b := q_va) ⟨hx, hb, hml, hown, hts⟩ (x_V_areaOf l hl9 dC dI cI cA cL q_va q_aa q_cl q_fu Q vn vC vat ars y0 kx g2) (jv_cwV hts wa_389 wa_303 wa_390 wa_391 wa_392 rfl rfl yd_V_areaOf ⟨Nat.le_of_ble_eq_true rfl, Nat.le_of_ble_eq_true rfl⟩) (jv_preVt hT hK hP 0 rfl rfl) rfl rfl hl.1 rfl (lv_room (Nat.le_of_ble_eq_true rfl)) d_V_read_2 ⟨Nat.le_of_ble_eq_true rfl, Nat.le_of_ble_eq_true rfl⟩ (fun x H1 hob => jv_leave hout hlocks hob)
  have hf := jv_sr hf
  obtain ⟨hj5, hf⟩ := jv_gd hf
  refine jv_csr (W.runV (As := [.int y0]) (rest := []) (b := q_va) ⟨hx, hb, hml, hown, hts⟩ (c_V_areaOf l hl9 dC dI cI cA cL q_va q_aa q_cl q_fu Q vn vC vat ars y0 v3 g2) (jv_cwV hts wa_389 wa_303 wa_390 wa_391 wa_392 rfl rfl yd_V_areaOf ⟨Nat.le_of_ble_eq_true rfl, Nat.le_of_ble_eq_true rfl⟩) (jv_preVt hT hK hP 0 rfl rfl) rfl rfl hl.1 rfl (lv_room (Nat.le_of_ble_eq_true rfl)) d_V_read_2 ⟨Nat.zero_le _, Nat.zero_le _⟩) ?_
  refine lv_astore (lv' := [(5, .ref (Q v3 0)), (0, .ref q_va), (1, .int y0), (2, .int y1), (3, .int y2), (4, .int y3)]) hx hb d_V_read_5 hl (by decide) rfl (fun ls hl => ?_)
  refine lv_iload_n hx hb d_V_read_7 rfl (lv_at hl 3 rfl) ?_
  obtain ⟨x6, g7, hf⟩ := jv_ob hf
  refine jv_cs (W.runS (As := [.int y1]) (rest := []) ⟨hx, hb, hml, hown, hts⟩ (c_P_isPath l y1 x6 g7) (jv_cwS hts wa_14 wa_8 wa_416 wa_16 rfl rfl yd_P_isPath ⟨Nat.le_of_ble_eq_true rfl, Nat.le_of_ble_eq_true rfl⟩) jv_pre0 rfl rfl hl.1 rfl (lv_room (Nat.le_of_ble_eq_true rfl)) d_V_read_8 ⟨Nat.zero_le _, Nat.zero_le _⟩) ?_
  obtain ⟨x8, g9, hf⟩ := jv_ob hf
  rcases x8 with k11 | v10
  · rw [jv_sl hf] at g9
    exact jv_xS (cells := 0) (slots := 0) (As := [.int x6]) (rest := []) ⟨hx, hb, hml, hown, hts⟩ (x_V_demand l hl9 x6 kx g9) (jv_cwS hts wa_321 wa_303 wa_322 wa_323 rfl rfl yd_V_demand ⟨Nat.le_of_ble_eq_true rfl, Nat.le_of_ble_eq_true rfl⟩) (jv_pre0t hT) rfl rfl hl.1 rfl (lv_room (Nat.le_of_ble_eq_true rfl)) d_V_read_11 ⟨Nat.le_of_ble_eq_true rfl, Nat.le_of_ble_eq_true rfl⟩ (fun x H1 hob => jv_leave hout hlocks hob)
  have hf := jv_sr hf
  refine jv_csv (W.runS (As := [.int x6]) (rest := []) ⟨hx, hb, hml, hown, hts⟩ (c_V_demand l hl9 x6 v10 g9) (jv_cwS hts wa_321 wa_303 wa_322 wa_323 rfl rfl yd_V_demand ⟨Nat.le_of_ble_eq_true rfl, Nat.le_of_ble_eq_true rfl⟩) (jv_pre0t hT) rfl rfl hl.1 rfl (lv_room (Nat.le_of_ble_eq_true rfl)) d_V_read_11 ⟨Nat.zero_le _, Nat.zero_le _⟩) ?_
  refine lv_aload_n hx hb d_V_read_14 rfl (lv_at hl 1 rfl) ?_
  refine lv_iload_n hx hb d_V_read_15 rfl (lv_at hl 4 rfl) ?_
  obtain ⟨x12, g13, hf⟩ := jv_ob hf
  rcases x12 with k15 | v14
  · rw [jv_sl hf] at g13
    exact jv_xV (cells := 0) (slots := 0) (As := [.int y2]) (rest := []) (b := q_va) ⟨hx, hb, hml, hown, hts⟩ (x_V_areaNumbered l hl9 dC dI cI cA cL q_va q_aa q_cl q_fu Q vn vC vat ars y2 kx g13) (jv_cwV hts wa_378 wa_303 wa_379 wa_380 wa_381 rfl rfl yd_V_areaNumbered ⟨Nat.le_of_ble_eq_true rfl, Nat.le_of_ble_eq_true rfl⟩) (jv_preVt hT hK hP 0 rfl rfl) rfl rfl hl.1 rfl (lv_room (Nat.le_of_ble_eq_true rfl)) d_V_read_16 ⟨Nat.le_of_ble_eq_true rfl, Nat.le_of_ble_eq_true rfl⟩ (fun x H1 hob => jv_leave hout hlocks hob)
  have hf := jv_sr hf
  obtain ⟨hj16, hf⟩ := jv_gd hf
  refine jv_csr (W.runV (As := [.int y2]) (rest := []) (b := q_va) ⟨hx, hb, hml, hown, hts⟩ (c_V_areaNumbered l hl9 dC dI cI cA cL q_va q_aa q_cl q_fu Q vn vC vat ars y2 v14 g13) (jv_cwV hts wa_378 wa_303 wa_379 wa_380 wa_381 rfl rfl yd_V_areaNumbered ⟨Nat.le_of_ble_eq_true rfl, Nat.le_of_ble_eq_true rfl⟩) (jv_preVt hT hK hP 0 rfl rfl) rfl rfl hl.1 rfl (lv_room (Nat.le_of_ble_eq_true rfl)) d_V_read_16 ⟨Nat.zero_le _, Nat.zero_le _⟩) ?_
  refine lv_astore (lv' := [(6, .ref (Q v14 0)), (5, .ref (Q v3 0)), (0, .ref q_va), (1, .int y0), (2, .int y1), (3, .int y2), (4, .int y3)]) hx hb d_V_read_19 hl (by decide) rfl (fun ls hl => ?_)
  refine lv_aload hx hb d_V_read_21 (lv_at hl 1 rfl) ?_
  refine lv_aload hx hb d_V_read_23 (lv_at hl 0 rfl) ?_
  refine lv_iload_n hx hb d_V_read_25 rfl (lv_at hl 4 rfl) ?_
  obtain ⟨x17, g18, hf⟩ := jv_ob hf
  rcases x17 with k20 | v19
  · rw [jv_sl hf] at g18
    exact jv_xS (cells := 0) (slots := 0) (As := [.ref (Q v3 0), .ref (Q v14 0), .int y1]) (rest := []) ⟨hx, hb, hml, hown, hts⟩ (x_V_readableFile l hl9 dC dI cI cA cL q_va q_aa q_cl q_fu Q vn vC vat ars v3 v14 y1 hj5 hj16 kx g18) (jv_cwS hts wa_450 wa_303 wa_451 wa_452 rfl rfl yd_V_readableFile ⟨Nat.le_of_ble_eq_true rfl, Nat.le_of_ble_eq_true rfl⟩) (jv_preSt hT hK hP) rfl rfl hl.1 rfl (lv_room (Nat.le_of_ble_eq_true rfl)) d_V_read_26 ⟨Nat.le_of_ble_eq_true rfl, Nat.le_of_ble_eq_true rfl⟩ (fun x H1 hob => jv_leave hout hlocks hob)
  have hf := jv_sr hf
  refine jv_cs (W.runS (As := [.ref (Q v3 0), .ref (Q v14 0), .int y1]) (rest := []) ⟨hx, hb, hml, hown, hts⟩ (c_V_readableFile l hl9 dC dI cI cA cL q_va q_aa q_cl q_fu Q vn vC vat ars v3 v14 y1 hj5 hj16 v19 g18) (jv_cwS hts wa_450 wa_303 wa_451 wa_452 rfl rfl yd_V_readableFile ⟨Nat.le_of_ble_eq_true rfl, Nat.le_of_ble_eq_true rfl⟩) (jv_preSt hT hK hP) rfl rfl hl.1 rfl (lv_room (Nat.le_of_ble_eq_true rfl)) d_V_read_26 ⟨Nat.zero_le _, Nat.zero_le _⟩) ?_
  refine lv_istore (lv' := [(7, .int v19), (6, .ref (Q v14 0)), (5, .ref (Q v3 0)), (0, .ref q_va), (1, .int y0), (2, .int y1), (3, .int y2), (4, .int y3)]) hx hb d_V_read_29 hl (by decide) rfl (fun ls hl => ?_)
  refine lv_iload hx hb d_V_read_31 (lv_at hl 7 rfl) ?_
  refine lv_if_lt (tgt := 51) hx hb d_V_read_33 (by decide) (fun hc => ?_) (fun hc => ?_)
  · have hf := jv_it hf hc
    obtain rfl := Sum.inl.inj (Option.some.inj hf)
    refine W.newc hx hb hown (jv_w hts wa_457) (jv_w hts wa_458) (jv_w hts wa_459) rfl d_V_read_51 (Nat.le_of_ble_eq_true rfl) (Nat.le_of_ble_eq_true rfl) (fun cC kC h1 h2 h3 h4 => ?_)
    refine W.eq (g2 := F0 m 54 ls (.ref s.heap.size :: [])) rfl ?_
    refine lv_dup hx hb d_V_read_54 rfl ?_
    obtain ⟨sa, hsa⟩ := hT.2.2 (203, "the file has no such word") (by decide +kernel)
    refine va_ldcS (own := R_Vault) hx hb hown hsa d_V_read_55 ?_
    exact jv_throwS (names := ["java/lang/RuntimeException", "java/lang/Exception"]) hx hb hl9 hlocks (hl.1.trans hml.symm) hown (by decide +kernel) (by decide +kernel) (jv_own hts hT oa_205) hout h1 h2 jv_fresh (Nat.le_refl _) d_V_read_57 d_V_read_60 (Nat.le_of_ble_eq_true rfl) (Nat.le_of_ble_eq_true rfl)
  · have hf := jv_if hf hc
    refine lv_iload hx hb d_V_read_36 (lv_at hl 7 rfl) ?_
    refine lv_aload hx hb d_V_read_38 (lv_at hl 1 rfl) ?_
    refine va_get (D := (dC, dI)) (ci := kArea) (v := .ref (Q v14 7)) (C := R_Area) (T := T_Area) (N := 5) hx hb hts (fun w h => List.mem_cons_of_mem _ (in_Area w h)) hown hK (jv_open hP hj16) 1 rfl rfl 4 (by decide) (jv_w hts wa_421) (fun _ h9 => h9) rfl d_V_read_40 ?_
    refine lv_iload hx hb d_V_read_43 (lv_at hl 0 rfl) ?_
    obtain ⟨x21, g22, hf⟩ := jv_ob hf
    have hPc := (jv_open hP hj16).sub (ws' := (w_cont cI (Q v14 7) (Q v14 2) (Q v14 3) (Q v14 4) (Q v14 5) ((ars v14).2.2.2.2.2.1) ((ars v14).2.2.2.2.2.2.1) ((ars v14).2.2.2.2.2.2.2) ((ars v14).2.2.1) ((ars v14).2.2.2.1) ((ars v14).2.2.2.2.1))) [8, 3, 4, 5, 6] rfl
    refine jv_cs (W.runV (As := [.int v19]) (rest := [.int y3]) (b := (Q v14 7)) ⟨hx, hb, hml, hown, hts⟩ (c_C_sizeOf l dC dI cI cA cL (Q v14 7) (Q v14 2) (Q v14 3) (Q v14 4) (Q v14 5) ((ars v14).2.2.2.2.2.1) ((ars v14).2.2.2.2.2.2.1) ((ars v14).2.2.2.2.2.2.2) ((ars v14).2.2.1) ((ars v14).2.2.2.1) ((ars v14).2.2.2.2.1) v19 x21 g22) (jv_cwV hts wa_160 wa_129 wa_426 wa_162 wa_163 rfl rfl yd_C_sizeOf ⟨Nat.le_of_ble_eq_true rfl, Nat.le_of_ble_eq_true rfl⟩) (jv_preV hK hPc 0 rfl rfl) rfl rfl hl.1 rfl (lv_room (Nat.le_of_ble_eq_true rfl)) d_V_read_45 ⟨Nat.zero_le _, Nat.zero_le _⟩) ?_
    refine lv_icmp_lt (tgt := 61) hx hb d_V_read_48 (by decide) (fun hc => ?_) (fun hc => ?_)
    · have hf := jv_it hf hc
      refine lv_aload hx hb d_V_read_61 (lv_at hl 1 rfl) ?_
      refine va_get (D := (dC, dI)) (ci := kArea) (v := .ref (Q v14 7)) (C := R_Area) (T := T_Area) (N := 5) hx hb hts (fun w h => List.mem_cons_of_mem _ (in_Area w h)) hown hK (jv_open hP hj16) 1 rfl rfl 4 (by decide) (jv_w hts wa_421) (fun _ h9 => h9) rfl d_V_read_63 ?_
      refine lv_iload hx hb d_V_read_66 (lv_at hl 0 rfl) ?_
      refine lv_iload hx hb d_V_read_68 (lv_at hl 7 rfl) ?_
      obtain ⟨x23, g24, hf⟩ := jv_ob hf
      have hPc := (jv_open hP hj16).sub (ws' := (w_cont cI (Q v14 7) (Q v14 2) (Q v14 3) (Q v14 4) (Q v14 5) ((ars v14).2.2.2.2.2.1) ((ars v14).2.2.2.2.2.2.1) ((ars v14).2.2.2.2.2.2.2) ((ars v14).2.2.1) ((ars v14).2.2.2.1) ((ars v14).2.2.2.2.1))) [8, 3, 4, 5, 6] rfl
      refine jv_cs (W.runV (As := [.int v19, .int y3]) (rest := []) (b := (Q v14 7)) ⟨hx, hb, hml, hown, hts⟩ (c_C_wordOf l dC dI cI cA cL (Q v14 7) (Q v14 2) (Q v14 3) (Q v14 4) (Q v14 5) ((ars v14).2.2.2.2.2.1) ((ars v14).2.2.2.2.2.2.1) ((ars v14).2.2.2.2.2.2.2) ((ars v14).2.2.1) ((ars v14).2.2.2.1) ((ars v14).2.2.2.2.1) v19 y3 x23 g24) (jv_cwV hts wa_453 wa_129 wa_454 wa_455 wa_456 rfl rfl yd_C_wordOf ⟨Nat.le_of_ble_eq_true rfl, Nat.le_of_ble_eq_true rfl⟩) (jv_preV hK hPc 0 rfl rfl) rfl rfl hl.1 rfl (lv_room (Nat.le_of_ble_eq_true rfl)) d_V_read_70 ⟨Nat.zero_le _, Nat.zero_le _⟩) ?_
      cases Option.some.inj hf
    · have hf := jv_if hf hc
      obtain rfl := Sum.inl.inj (Option.some.inj hf)
      refine W.newc hx hb hown (jv_w hts wa_457) (jv_w hts wa_458) (jv_w hts wa_459) rfl d_V_read_51 (Nat.le_of_ble_eq_true rfl) (Nat.le_of_ble_eq_true rfl) (fun cC kC h1 h2 h3 h4 => ?_)
      refine W.eq (g2 := F0 m 54 ls (.ref s.heap.size :: [])) rfl ?_
      refine lv_dup hx hb d_V_read_54 rfl ?_
      obtain ⟨sa, hsa⟩ := hT.2.2 (203, "the file has no such word") (by decide +kernel)
      refine va_ldcS (own := R_Vault) hx hb hown hsa d_V_read_55 ?_
      exact jv_throwS (names := ["java/lang/RuntimeException", "java/lang/Exception"]) hx hb hl9 hlocks (hl.1.trans hml.symm) hown (by decide +kernel) (by decide +kernel) (jv_own hts hT oa_205) hout h1 h2 jv_fresh (Nat.le_refl _) d_V_read_57 d_V_read_60 (Nat.le_of_ble_eq_true rfl) (Nat.le_of_ble_eq_true rfl)
set_option maxHeartbeats 4000000 in
set_option maxRecDepth 100000 in
theorem x_V_read (l : Launch) (hl9 : l.stackTraces = false) (dC : Nat → ClassId) (dI : Nat → Nat → Nat) (cI cA cL : ClassId) (q_va q_aa q_cl q_fu : Nat) (Q : Nat → Nat → Nat) (vn : Nat) (vC : Nat → Int32) (vat : Int32) (ars : Nat → jv_ar) (a0 : Int32) (a1 : Int32) (a2 : Int32) (a3 : Int32) (kx : Nat) (hf : f_V_read vn ars a0 a1 a2 a3 = some (Sum.inl kx)) : jv_MX l y_V_read ws_V_read rx_V_read (jv_Prt [.ref q_va, .int a0, .int a1, .int a2, .int a3] (dC, dI) (jv_ty cI cA cL) (w_vault cI cA q_va q_aa q_cl q_fu Q vn vC vat ars)) (jv_en kx) 1 6 := by
  refine jv_MX.ofW (cc := cc_V_read) (maxL := 8) (ret := (some .int)) (by decide) rfl ?_
  intro p e s m args below meth c s₁ B hml hv
  obtain ⟨rfl, hP, hK, hT⟩ := hv
  have cx : jv_cx p s m _ meth c cc_V_read 8 R_Vault (some .int) ws_V_read := ⟨B.exec, B.bytes, hml, findClass_of_methodNamed B.named, atoms_spec (ws := ws_V_read) B.pre, B.returns, B.notSynchronized⟩
  have hout : c.exceptionTable.isEmpty = true := B.noHandlers (atoms_spec (ws := ws_V_read) B.pre _ List.mem_cons_self)
  have hl := lv_entry ([.ref q_va, .int a0, .int a1, .int a2, .int a3]) (n := 8) (Nat.le_of_ble_eq_true rfl)
  rw [lg_entry_eq]
  generalize (lg_sl ([.ref q_va, .int a0, .int a1, .int a2, .int a3]) ++ List.replicate (8 - (lg_sl ([.ref q_va, .int a0, .int a1, .int a2, .int a3])).length) Slot.unset).toArray = ls at hl ⊢
  have hl : lv_has ls 8 [(0, .ref q_va), (1, .int a0), (2, .int a1), (3, .int a2), (4, .int a3)] := hl
  exact t_V_read_0 (y0 := a0) (y1 := a1) (y2 := a2) (y3 := a3) cx hK hP hl9 hT hout (lv_sub hl [0, 1, 2, 3, 4] rfl) hf
theorem d_V_list_0 : decode cc_V_list 0 = .ok (.aload_n 0, 1) := by decide +kernel
theorem d_V_list_1 : decode cc_V_list 1 = .ok (.iload_n 1, 1) := by decide +kernel
theorem d_V_list_2 : decode cc_V_list 2 = .ok (.invokevirtual 79, 3) := by decide +kernel
theorem d_V_list_5 : decode cc_V_list 5 = .ok (.astore_n 3, 1) := by decide +kernel
theorem d_V_list_6 : decode cc_V_list 6 = .ok (.iload_n 2, 1) := by decide +kernel
theorem d_V_list_7 : decode cc_V_list 7 = .ok (.invokestatic 132, 3) := by decide +kernel
theorem d_V_list_10 : decode cc_V_list 10 = .ok (.invokestatic 36, 3) := by decide +kernel
theorem d_V_list_13 : decode cc_V_list 13 = .ok (.aload_n 0, 1) := by decide +kernel
theorem d_V_list_14 : decode cc_V_list 14 = .ok (.aload_n 3, 1) := by decide +kernel
theorem d_V_list_15 : decode cc_V_list 15 = .ok (.getfield 67, 3) := by decide +kernel
theorem d_V_list_18 : decode cc_V_list 18 = .ok (.iload_n 2, 1) := by decide +kernel
theorem d_V_list_19 : decode cc_V_list 19 = .ok (.invokevirtual 93, 3) := by decide +kernel
theorem d_V_list_22 : decode cc_V_list 22 = .ok (.istore 4, 2) := by decide +kernel
theorem d_V_list_24 : decode cc_V_list 24 = .ok (.iload 4, 2) := by decide +kernel
theorem d_V_list_26 : decode cc_V_list 26 = .ok (.ifCond .ne 13, 3) := by decide +kernel
theorem d_V_list_39 : decode cc_V_list 39 = .ok (.iload 4, 2) := by decide +kernel
theorem d_V_list_41 : decode cc_V_list 41 = .ok (.iconst 1, 1) := by decide +kernel
theorem d_V_list_42 : decode cc_V_list 42 = .ok (.iand, 1) := by decide +kernel
theorem d_V_list_43 : decode cc_V_list 43 = .ok (.ifCond .ne 13, 3) := by decide +kernel
theorem d_V_list_56 : decode cc_V_list 56 = .ok (.aload_n 0, 1) := by decide +kernel
theorem d_V_list_57 : decode cc_V_list 57 = .ok (.aload_n 3, 1) := by decide +kernel
theorem d_V_list_58 : decode cc_V_list 58 = .ok (.getfield 67, 3) := by decide +kernel
theorem d_V_list_61 : decode cc_V_list 61 = .ok (.iload_n 2, 1) := by decide +kernel
theorem d_V_list_62 : decode cc_V_list 62 = .ok (.invokevirtual 213, 3) := by decide +kernel
theorem d_V_list_65 : decode cc_V_list 65 = .ok (.ireturn, 1) := by decide +kernel
theorem d_V_list_46 : decode cc_V_list 46 = .ok (.new 111, 3) := by decide +kernel
theorem d_V_list_29 : decode cc_V_list 29 = .ok (.new 97, 3) := by decide +kernel
theorem d_V_list_52 : decode cc_V_list 52 = .ok (.invokespecial 115, 3) := by decide +kernel
theorem d_V_list_55 : decode cc_V_list 55 = .ok (.athrow, 1) := by decide +kernel
theorem d_V_list_49 : decode cc_V_list 49 = .ok (.dup, 1) := by decide +kernel
theorem d_V_list_50 : decode cc_V_list 50 = .ok (.ldc 211, 2) := by decide +kernel
theorem d_V_list_35 : decode cc_V_list 35 = .ok (.invokespecial 101, 3) := by decide +kernel
theorem d_V_list_38 : decode cc_V_list 38 = .ok (.athrow, 1) := by decide +kernel
theorem d_V_list_32 : decode cc_V_list 32 = .ok (.dup, 1) := by decide +kernel
theorem d_V_list_33 : decode cc_V_list 33 = .ok (.ldc 209, 2) := by decide +kernel
def f_V_list_0 (vn : Nat) (ars : Nat → jv_ar) (y0 : Int32) (y1 : Int32) : Option (Nat ⊕ (Int32)) :=
  (f_V_areaOf vn ars y0).bind fun x1 => jv_se x1 fun v3 => if v3 < vn then ((f_P_isPath y1).bind fun x6 => (f_V_demand x6).bind fun x8 => jv_se x8 fun v10 => (f_V_kindsSeen vn ars ((ars v3).1) y1).bind fun x12 => if x12 = 0 then (some (Sum.inl 3)) else (if (x12 &&& (1 : Int32)) = 0 then (some (Sum.inl 4)) else ((f_V_namesSeen vn ars ((ars v3).1) y1).bind fun x14 => some (Sum.inr x14)))) else none
set_option maxHeartbeats 4000000 in
set_option maxRecDepth 100000 in
theorem b_V_list_0 {l : Launch} {dC : Nat → ClassId} {dI : Nat → Nat → Nat} {cI cA cL : ClassId} {q_va q_aa q_cl q_fu : Nat} {Q : Nat → Nat → Nat} {vn : Nat} {vC : Nat → Int32} {vat : Int32} {ars : Nat → jv_ar} {p : Program} {e : Env} {s : State} {m : MethodId} {args : Array Value} {below : List Frame} {meth : Method} {c : Code} (cx : jv_cx p s m args meth c cc_V_list 5 R_Vault (some .int) ws_V_list) (hK : va_K (dC, dI) vwCl (jv_ty cI cA cL) s) (hP : va_P (dC, dI) vwCl (w_vault cI cA q_va q_aa q_cl q_fu Q vn vC vat ars) s.heap) (hl9 : l.stackTraces = false) (hT : jv_th s) (hout : c.exceptionTable.isEmpty = true) {r : Int32} {y0 : Int32} {y1 : Int32} {ls : Array Slot} (hl : lv_has ls 5 [(0, .ref q_va), (1, .int y0), (2, .int y1)]) (hf : f_V_list_0 vn ars y0 y1 = some (Sum.inr r)) : W p l e rm_V_list s m args below meth c s.heap [] 0 0 (MQ below (QcRead r) args s 0 0 (fun _ => False)) (F0 m 0 ls []) := by
  unfold f_V_list_0 at hf
  obtain ⟨hx, hb, hml, hown, hts, hr, hlocks⟩ := id cx
  refine lv_aload_n hx hb d_V_list_0 rfl (lv_at hl 0 rfl) ?_
  refine lv_iload_n hx hb d_V_list_1 rfl (lv_at hl 1 rfl) ?_
  obtain ⟨x1, g2, hf⟩ := jv_ob hf
  rcases x1 with k4 | v3
  · exact jv_ci hf
  have hf := jv_sr hf
  obtain ⟨hj5, hf⟩ := jv_gd hf
  refine jv_csr (W.runV (As := [.int y0]) (rest := []) (b := q_va) ⟨hx, hb, hml, hown, hts⟩ (c_V_areaOf l hl9 dC dI cI cA cL q_va q_aa q_cl q_fu Q vn vC vat ars y0 v3 g2) (jv_cwV hts wa_389 wa_303 wa_390 wa_391 wa_392 rfl rfl yd_V_areaOf ⟨Nat.le_of_ble_eq_true rfl, Nat.le_of_ble_eq_true rfl⟩) (jv_preVt hT hK hP 0 rfl rfl) rfl rfl hl.1 rfl (lv_room (Nat.le_of_ble_eq_true rfl)) d_V_list_2 ⟨Nat.zero_le _, Nat.zero_le _⟩) ?_
  refine lv_astore_n (lv' := [(3, .ref (Q v3 0)), (0, .ref q_va), (1, .int y0), (2, .int y1)]) hx hb d_V_list_5 rfl hl (by decide) rfl (fun ls hl => ?_)
  refine lv_iload_n hx hb d_V_list_6 rfl (lv_at hl 3 rfl) ?_
  obtain ⟨x6, g7, hf⟩ := jv_ob hf
  refine jv_cs (W.runS (As := [.int y1]) (rest := []) ⟨hx, hb, hml, hown, hts⟩ (c_P_isPath l y1 x6 g7) (jv_cwS hts wa_14 wa_8 wa_416 wa_16 rfl rfl yd_P_isPath ⟨Nat.le_of_ble_eq_true rfl, Nat.le_of_ble_eq_true rfl⟩) jv_pre0 rfl rfl hl.1 rfl (lv_room (Nat.le_of_ble_eq_true rfl)) d_V_list_7 ⟨Nat.zero_le _, Nat.zero_le _⟩) ?_
  obtain ⟨x8, g9, hf⟩ := jv_ob hf
  rcases x8 with k11 | v10
  · exact jv_ci hf
  have hf := jv_sr hf
  refine jv_csv (W.runS (As := [.int x6]) (rest := []) ⟨hx, hb, hml, hown, hts⟩ (c_V_demand l hl9 x6 v10 g9) (jv_cwS hts wa_321 wa_303 wa_322 wa_323 rfl rfl yd_V_demand ⟨Nat.le_of_ble_eq_true rfl, Nat.le_of_ble_eq_true rfl⟩) (jv_pre0t hT) rfl rfl hl.1 rfl (lv_room (Nat.le_of_ble_eq_true rfl)) d_V_list_10 ⟨Nat.zero_le _, Nat.zero_le _⟩) ?_
  refine lv_aload_n hx hb d_V_list_13 rfl (lv_at hl 1 rfl) ?_
  refine lv_aload_n hx hb d_V_list_14 rfl (lv_at hl 0 rfl) ?_
  refine va_get (D := (dC, dI)) (ci := kArea) (v := .int ((ars v3).1)) (C := R_Area) (T := T_Area) (N := 5) hx hb hts (fun w h => List.mem_cons_of_mem _ (in_Area w h)) hown hK (jv_open hP hj5) 1 rfl rfl 0 (by decide) (jv_w hts wa_301) (fun _ h9 => h9) rfl d_V_list_15 ?_
  refine lv_iload_n hx hb d_V_list_18 rfl (lv_at hl 3 rfl) ?_
  obtain ⟨x12, g13, hf⟩ := jv_ob hf
  refine jv_cs (W.runV (As := [.int ((ars v3).1), .int y1]) (rest := []) (b := q_va) ⟨hx, hb, hml, hown, hts⟩ (c_V_kindsSeen l dC dI cI cA cL q_va q_aa q_cl q_fu Q vn vC vat ars ((ars v3).1) y1 x12 g13) (jv_cwV hts wa_328 wa_303 wa_329 wa_330 wa_331 rfl rfl yd_V_kindsSeen ⟨Nat.le_of_ble_eq_true rfl, Nat.le_of_ble_eq_true rfl⟩) (jv_preV hK hP 0 rfl rfl) rfl rfl hl.1 rfl (lv_room (Nat.le_of_ble_eq_true rfl)) d_V_list_19 ⟨Nat.zero_le _, Nat.zero_le _⟩) ?_
  refine lv_istore (lv' := [(4, .int x12), (3, .ref (Q v3 0)), (0, .ref q_va), (1, .int y0), (2, .int y1)]) hx hb d_V_list_22 hl (by decide) rfl (fun ls hl => ?_)
  refine lv_iload hx hb d_V_list_24 (lv_at hl 0 rfl) ?_
  refine lv_if_ne (tgt := 39) hx hb d_V_list_26 (by decide) (fun hc => ?_) (fun hc => ?_)
  · have hf := jv_if hf hc
    refine lv_iload hx hb d_V_list_39 (lv_at hl 0 rfl) ?_
    refine lv_iconst (v := (1 : Int32)) hx hb d_V_list_41 (by decide) ?_
    refine lv_iand hx hb d_V_list_42 ?_
    refine lv_if_ne (tgt := 56) hx hb d_V_list_43 (by decide) (fun hc => ?_) (fun hc => ?_)
    · have hf := jv_if hf hc
      refine lv_aload_n hx hb d_V_list_56 rfl (lv_at hl 2 rfl) ?_
      refine lv_aload_n hx hb d_V_list_57 rfl (lv_at hl 1 rfl) ?_
      refine va_get (D := (dC, dI)) (ci := kArea) (v := .int ((ars v3).1)) (C := R_Area) (T := T_Area) (N := 5) hx hb hts (fun w h => List.mem_cons_of_mem _ (in_Area w h)) hown hK (jv_open hP hj5) 1 rfl rfl 0 (by decide) (jv_w hts wa_301) (fun _ h9 => h9) rfl d_V_list_58 ?_
      refine lv_iload_n hx hb d_V_list_61 rfl (lv_at hl 4 rfl) ?_
      obtain ⟨x14, g15, hf⟩ := jv_ob hf
      refine jv_cs (W.runV (As := [.int ((ars v3).1), .int y1]) (rest := []) (b := q_va) ⟨hx, hb, hml, hown, hts⟩ (c_V_namesSeen l dC dI cI cA cL q_va q_aa q_cl q_fu Q vn vC vat ars ((ars v3).1) y1 x14 g15) (jv_cwV hts wa_460 wa_303 wa_461 wa_462 wa_463 rfl rfl yd_V_namesSeen ⟨Nat.le_of_ble_eq_true rfl, Nat.le_of_ble_eq_true rfl⟩) (jv_preV hK hP 0 rfl rfl) rfl rfl hl.1 rfl (lv_room (Nat.le_of_ble_eq_true rfl)) d_V_list_62 ⟨Nat.zero_le _, Nat.zero_le _⟩) ?_
      obtain rfl := Sum.inr.inj (Option.some.inj hf)
      exact W.iret hx hb hr (fun t ht hW => ⟨rfl, ht⟩) (fun q h => by cases h) d_V_list_65
    · have hf := jv_it hf hc
      cases Option.some.inj hf
  · have hf := jv_it hf hc
    cases Option.some.inj hf
def f_V_list (vn : Nat) (ars : Nat → jv_ar) (a0 : Int32) (a1 : Int32) : Option (Nat ⊕ (Int32)) := f_V_list_0 vn ars a0 a1
set_option maxHeartbeats 4000000 in
set_option maxRecDepth 100000 in
theorem c_V_list (l : Launch) (hl9 : l.stackTraces = false) (dC : Nat → ClassId) (dI : Nat → Nat → Nat) (cI cA cL : ClassId) (q_va q_aa q_cl q_fu : Nat) (Q : Nat → Nat → Nat) (vn : Nat) (vC : Nat → Int32) (vat : Int32) (ars : Nat → jv_ar) (a0 : Int32) (a1 : Int32) (r : Int32) (hf : f_V_list vn ars a0 a1 = some (Sum.inr r)) : Met l y_V_list ws_V_list rm_V_list (jv_Prt [.ref q_va, .int a0, .int a1] (dC, dI) (jv_ty cI cA cL) (w_vault cI cA q_va q_aa q_cl q_fu Q vn vC vat ars)) (QcRead r) 0 0 (fun _ => False) := by
  refine Met.ofW (cc := cc_V_list) (maxL := 5) (ret := (some .int)) (by decide) rfl ?_
  intro p e s m args below meth c s₁ B hml hv
  obtain ⟨rfl, hP, hK, hT⟩ := hv
  have cx : jv_cx p s m _ meth c cc_V_list 5 R_Vault (some .int) ws_V_list := ⟨B.exec, B.bytes, hml, findClass_of_methodNamed B.named, atoms_spec (ws := ws_V_list) B.pre, B.returns, B.notSynchronized⟩
  have hout : c.exceptionTable.isEmpty = true := B.noHandlers (atoms_spec (ws := ws_V_list) B.pre _ List.mem_cons_self)
  have hl := lv_entry ([.ref q_va, .int a0, .int a1]) (n := 5) (Nat.le_of_ble_eq_true rfl)
  rw [lg_entry_eq]
  generalize (lg_sl ([.ref q_va, .int a0, .int a1]) ++ List.replicate (5 - (lg_sl ([.ref q_va, .int a0, .int a1])).length) Slot.unset).toArray = ls at hl ⊢
  have hl : lv_has ls 5 [(0, .ref q_va), (1, .int a0), (2, .int a1)] := hl
  exact b_V_list_0 (y0 := a0) (y1 := a1) cx hK hP hl9 hT hout (lv_sub hl [0, 1, 2] rfl) hf
set_option maxHeartbeats 4000000 in
set_option maxRecDepth 100000 in
theorem t_V_list_0 {l : Launch} {dC : Nat → ClassId} {dI : Nat → Nat → Nat} {cI cA cL : ClassId} {q_va q_aa q_cl q_fu : Nat} {Q : Nat → Nat → Nat} {vn : Nat} {vC : Nat → Int32} {vat : Int32} {ars : Nat → jv_ar} {p : Program} {e : Env} {s : State} {m : MethodId} {args : Array Value} {below : List Frame} {meth : Method} {c : Code} (cx : jv_cx p s m args meth c cc_V_list 5 R_Vault (some .int) ws_V_list) (hK : va_K (dC, dI) vwCl (jv_ty cI cA cL) s) (hP : va_P (dC, dI) vwCl (w_vault cI cA q_va q_aa q_cl q_fu Q vn vC vat ars) s.heap) (hl9 : l.stackTraces = false) (hT : jv_th s) (hout : c.exceptionTable.isEmpty = true) {kx : Nat} {y0 : Int32} {y1 : Int32} {ls : Array Slot} (hl : lv_has ls 5 [(0, .ref q_va), (1, .int y0), (2, .int y1)]) (hf : f_V_list_0 vn ars y0 y1 = some (Sum.inl kx)) : W p l e rx_V_list s m args below meth c s.heap [] 0 0 (jv_MQ below (jv_en kx) args s 1 6) (F0 m 0 ls []) := by
  unfold f_V_list_0 at hf
  obtain ⟨hx, hb, hml, hown, hts, hr, hlocks⟩ := id cx
  refine lv_aload_n hx hb d_V_list_0 rfl (lv_at hl 0 rfl) ?_
  refine lv_iload_n hx hb d_V_list_1 rfl (lv_at hl 1 rfl) ?_
  obtain ⟨x1, g2, hf⟩ := jv_ob hf
  rcases x1 with k4 | v3
  · rw [jv_sl hf] at g2
    exact jv_xV (cells := 0) (slots := 0) (As := [.int y0]) (rest := []) (b := q_va) ⟨hx, hb, hml, hown, hts⟩ (x_V_areaOf l hl9 dC dI cI cA cL q_va q_aa q_cl q_fu Q vn vC vat ars y0 kx g2) (jv_cwV hts wa_389 wa_303 wa_390 wa_391 wa_392 rfl rfl yd_V_areaOf ⟨Nat.le_of_ble_eq_true rfl, Nat.le_of_ble_eq_true rfl⟩) (jv_preVt hT hK hP 0 rfl rfl) rfl rfl hl.1 rfl (lv_room (Nat.le_of_ble_eq_true rfl)) d_V_list_2 ⟨Nat.le_of_ble_eq_true rfl, Nat.le_of_ble_eq_true rfl⟩ (fun x H1 hob => jv_leave hout hlocks hob)
  have hf := jv_sr hf
  obtain ⟨hj5, hf⟩ := jv_gd hf
  refine jv_csr (W.runV (As := [.int y0]) (rest := []) (b := q_va) ⟨hx, hb, hml, hown, hts⟩ (c_V_areaOf l hl9 dC dI cI cA cL q_va q_aa q_cl q_fu Q vn vC vat ars y0 v3 g2) (jv_cwV hts wa_389 wa_303 wa_390 wa_391 wa_392 rfl rfl yd_V_areaOf ⟨Nat.le_of_ble_eq_true rfl, Nat.le_of_ble_eq_true rfl⟩) (jv_preVt hT hK hP 0 rfl rfl) rfl rfl hl.1 rfl (lv_room (Nat.le_of_ble_eq_true rfl)) d_V_list_2 ⟨Nat.zero_le _, Nat.zero_le _⟩) ?_
  refine lv_astore_n (lv' := [(3, .ref (Q v3 0)), (0, .ref q_va), (1, .int y0), (2, .int y1)]) hx hb d_V_list_5 rfl hl (by decide) rfl (fun ls hl => ?_)
  refine lv_iload_n hx hb d_V_list_6 rfl (lv_at hl 3 rfl) ?_
  obtain ⟨x6, g7, hf⟩ := jv_ob hf
  refine jv_cs (W.runS (As := [.int y1]) (rest := []) ⟨hx, hb, hml, hown, hts⟩ (c_P_isPath l y1 x6 g7) (jv_cwS hts wa_14 wa_8 wa_416 wa_16 rfl rfl yd_P_isPath ⟨Nat.le_of_ble_eq_true rfl, Nat.le_of_ble_eq_true rfl⟩) jv_pre0 rfl rfl hl.1 rfl (lv_room (Nat.le_of_ble_eq_true rfl)) d_V_list_7 ⟨Nat.zero_le _, Nat.zero_le _⟩) ?_
  obtain ⟨x8, g9, hf⟩ := jv_ob hf
  rcases x8 with k11 | v10
  · rw [jv_sl hf] at g9
    exact jv_xS (cells := 0) (slots := 0) (As := [.int x6]) (rest := []) ⟨hx, hb, hml, hown, hts⟩ (x_V_demand l hl9 x6 kx g9) (jv_cwS hts wa_321 wa_303 wa_322 wa_323 rfl rfl yd_V_demand ⟨Nat.le_of_ble_eq_true rfl, Nat.le_of_ble_eq_true rfl⟩) (jv_pre0t hT) rfl rfl hl.1 rfl (lv_room (Nat.le_of_ble_eq_true rfl)) d_V_list_10 ⟨Nat.le_of_ble_eq_true rfl, Nat.le_of_ble_eq_true rfl⟩ (fun x H1 hob => jv_leave hout hlocks hob)
  have hf := jv_sr hf
  refine jv_csv (W.runS (As := [.int x6]) (rest := []) ⟨hx, hb, hml, hown, hts⟩ (c_V_demand l hl9 x6 v10 g9) (jv_cwS hts wa_321 wa_303 wa_322 wa_323 rfl rfl yd_V_demand ⟨Nat.le_of_ble_eq_true rfl, Nat.le_of_ble_eq_true rfl⟩) (jv_pre0t hT) rfl rfl hl.1 rfl (lv_room (Nat.le_of_ble_eq_true rfl)) d_V_list_10 ⟨Nat.zero_le _, Nat.zero_le _⟩) ?_
  refine lv_aload_n hx hb d_V_list_13 rfl (lv_at hl 1 rfl) ?_
  refine lv_aload_n hx hb d_V_list_14 rfl (lv_at hl 0 rfl) ?_
  refine va_get (D := (dC, dI)) (ci := kArea) (v := .int ((ars v3).1)) (C := R_Area) (T := T_Area) (N := 5) hx hb hts (fun w h => List.mem_cons_of_mem _ (in_Area w h)) hown hK (jv_open hP hj5) 1 rfl rfl 0 (by decide) (jv_w hts wa_301) (fun _ h9 => h9) rfl d_V_list_15 ?_
  refine lv_iload_n hx hb d_V_list_18 rfl (lv_at hl 3 rfl) ?_
  obtain ⟨x12, g13, hf⟩ := jv_ob hf
  refine jv_cs (W.runV (As := [.int ((ars v3).1), .int y1]) (rest := []) (b := q_va) ⟨hx, hb, hml, hown, hts⟩ (c_V_kindsSeen l dC dI cI cA cL q_va q_aa q_cl q_fu Q vn vC vat ars ((ars v3).1) y1 x12 g13) (jv_cwV hts wa_328 wa_303 wa_329 wa_330 wa_331 rfl rfl yd_V_kindsSeen ⟨Nat.le_of_ble_eq_true rfl, Nat.le_of_ble_eq_true rfl⟩) (jv_preV hK hP 0 rfl rfl) rfl rfl hl.1 rfl (lv_room (Nat.le_of_ble_eq_true rfl)) d_V_list_19 ⟨Nat.zero_le _, Nat.zero_le _⟩) ?_
  refine lv_istore (lv' := [(4, .int x12), (3, .ref (Q v3 0)), (0, .ref q_va), (1, .int y0), (2, .int y1)]) hx hb d_V_list_22 hl (by decide) rfl (fun ls hl => ?_)
  refine lv_iload hx hb d_V_list_24 (lv_at hl 0 rfl) ?_
  refine lv_if_ne (tgt := 39) hx hb d_V_list_26 (by decide) (fun hc => ?_) (fun hc => ?_)
  · have hf := jv_if hf hc
    refine lv_iload hx hb d_V_list_39 (lv_at hl 0 rfl) ?_
    refine lv_iconst (v := (1 : Int32)) hx hb d_V_list_41 (by decide) ?_
    refine lv_iand hx hb d_V_list_42 ?_
    refine lv_if_ne (tgt := 56) hx hb d_V_list_43 (by decide) (fun hc => ?_) (fun hc => ?_)
    · have hf := jv_if hf hc
      refine lv_aload_n hx hb d_V_list_56 rfl (lv_at hl 2 rfl) ?_
      refine lv_aload_n hx hb d_V_list_57 rfl (lv_at hl 1 rfl) ?_
      refine va_get (D := (dC, dI)) (ci := kArea) (v := .int ((ars v3).1)) (C := R_Area) (T := T_Area) (N := 5) hx hb hts (fun w h => List.mem_cons_of_mem _ (in_Area w h)) hown hK (jv_open hP hj5) 1 rfl rfl 0 (by decide) (jv_w hts wa_301) (fun _ h9 => h9) rfl d_V_list_58 ?_
      refine lv_iload_n hx hb d_V_list_61 rfl (lv_at hl 4 rfl) ?_
      obtain ⟨x14, g15, hf⟩ := jv_ob hf
      refine jv_cs (W.runV (As := [.int ((ars v3).1), .int y1]) (rest := []) (b := q_va) ⟨hx, hb, hml, hown, hts⟩ (c_V_namesSeen l dC dI cI cA cL q_va q_aa q_cl q_fu Q vn vC vat ars ((ars v3).1) y1 x14 g15) (jv_cwV hts wa_460 wa_303 wa_461 wa_462 wa_463 rfl rfl yd_V_namesSeen ⟨Nat.le_of_ble_eq_true rfl, Nat.le_of_ble_eq_true rfl⟩) (jv_preV hK hP 0 rfl rfl) rfl rfl hl.1 rfl (lv_room (Nat.le_of_ble_eq_true rfl)) d_V_list_62 ⟨Nat.zero_le _, Nat.zero_le _⟩) ?_
      cases Option.some.inj hf
    · have hf := jv_it hf hc
      obtain rfl := Sum.inl.inj (Option.some.inj hf)
      refine W.newc hx hb hown (jv_w hts wa_340) (jv_w hts wa_341) (jv_w hts wa_342) rfl d_V_list_46 (Nat.le_of_ble_eq_true rfl) (Nat.le_of_ble_eq_true rfl) (fun cC kC h1 h2 h3 h4 => ?_)
      refine W.eq (g2 := F0 m 49 ls (.ref s.heap.size :: [])) rfl ?_
      refine lv_dup hx hb d_V_list_49 rfl ?_
      obtain ⟨sa, hsa⟩ := hT.2.2 (211, "it is a file") (by decide +kernel)
      refine va_ldcS (own := R_Vault) hx hb hown hsa d_V_list_50 ?_
      exact jv_throwS (names := ["java/lang/RuntimeException", "java/lang/Exception"]) hx hb hl9 hlocks (hl.1.trans hml.symm) hown (by decide +kernel) (by decide +kernel) (jv_own hts hT oa_115) hout h1 h2 jv_fresh (Nat.le_refl _) d_V_list_52 d_V_list_55 (Nat.le_of_ble_eq_true rfl) (Nat.le_of_ble_eq_true rfl)
  · have hf := jv_it hf hc
    obtain rfl := Sum.inl.inj (Option.some.inj hf)
    refine W.newc hx hb hown (jv_w hts wa_336) (jv_w hts wa_337) (jv_w hts wa_338) rfl d_V_list_29 (Nat.le_of_ble_eq_true rfl) (Nat.le_of_ble_eq_true rfl) (fun cC kC h1 h2 h3 h4 => ?_)
    refine W.eq (g2 := F0 m 32 ls (.ref s.heap.size :: [])) rfl ?_
    refine lv_dup hx hb d_V_list_32 rfl ?_
    obtain ⟨sa, hsa⟩ := hT.2.2 (209, "the path is not visible") (by decide +kernel)
    refine va_ldcS (own := R_Vault) hx hb hown hsa d_V_list_33 ?_
    exact jv_throwN (Y := "java/lang/RuntimeException") (names := ["java/lang/Exception"]) (idx := 13) hx hb hl9 hlocks (hl.1.trans hml.symm) hown (by decide +kernel) (by decide +kernel) (by decide +kernel) (by decide +kernel) (jv_ownN hts hT oa_101) hout h1 h2 jv_fresh (Nat.le_refl _) d_V_list_35 d_V_list_38 (Nat.le_of_ble_eq_true rfl) (Nat.le_of_ble_eq_true rfl)
set_option maxHeartbeats 4000000 in
set_option maxRecDepth 100000 in
theorem x_V_list (l : Launch) (hl9 : l.stackTraces = false) (dC : Nat → ClassId) (dI : Nat → Nat → Nat) (cI cA cL : ClassId) (q_va q_aa q_cl q_fu : Nat) (Q : Nat → Nat → Nat) (vn : Nat) (vC : Nat → Int32) (vat : Int32) (ars : Nat → jv_ar) (a0 : Int32) (a1 : Int32) (kx : Nat) (hf : f_V_list vn ars a0 a1 = some (Sum.inl kx)) : jv_MX l y_V_list ws_V_list rx_V_list (jv_Prt [.ref q_va, .int a0, .int a1] (dC, dI) (jv_ty cI cA cL) (w_vault cI cA q_va q_aa q_cl q_fu Q vn vC vat ars)) (jv_en kx) 1 6 := by
  refine jv_MX.ofW (cc := cc_V_list) (maxL := 5) (ret := (some .int)) (by decide) rfl ?_
  intro p e s m args below meth c s₁ B hml hv
  obtain ⟨rfl, hP, hK, hT⟩ := hv
  have cx : jv_cx p s m _ meth c cc_V_list 5 R_Vault (some .int) ws_V_list := ⟨B.exec, B.bytes, hml, findClass_of_methodNamed B.named, atoms_spec (ws := ws_V_list) B.pre, B.returns, B.notSynchronized⟩
  have hout : c.exceptionTable.isEmpty = true := B.noHandlers (atoms_spec (ws := ws_V_list) B.pre _ List.mem_cons_self)
  have hl := lv_entry ([.ref q_va, .int a0, .int a1]) (n := 5) (Nat.le_of_ble_eq_true rfl)
  rw [lg_entry_eq]
  generalize (lg_sl ([.ref q_va, .int a0, .int a1]) ++ List.replicate (5 - (lg_sl ([.ref q_va, .int a0, .int a1])).length) Slot.unset).toArray = ls at hl ⊢
  have hl : lv_has ls 5 [(0, .ref q_va), (1, .int a0), (2, .int a1)] := hl
  exact t_V_list_0 (y0 := a0) (y1 := a1) cx hK hP hl9 hT hout (lv_sub hl [0, 1, 2] rfl) hf
theorem d_V_look_0 : decode cc_V_look 0 = .ok (.aload_n 0, 1) := by decide +kernel
theorem d_V_look_1 : decode cc_V_look 1 = .ok (.iload_n 1, 1) := by decide +kernel
theorem d_V_look_2 : decode cc_V_look 2 = .ok (.invokevirtual 79, 3) := by decide +kernel
theorem d_V_look_5 : decode cc_V_look 5 = .ok (.astore_n 3, 1) := by decide +kernel
theorem d_V_look_6 : decode cc_V_look 6 = .ok (.iload_n 2, 1) := by decide +kernel
theorem d_V_look_7 : decode cc_V_look 7 = .ok (.invokestatic 132, 3) := by decide +kernel
theorem d_V_look_10 : decode cc_V_look 10 = .ok (.invokestatic 36, 3) := by decide +kernel
theorem d_V_look_13 : decode cc_V_look 13 = .ok (.iconst 0, 1) := by decide +kernel
theorem d_V_look_14 : decode cc_V_look 14 = .ok (.istore 4, 2) := by decide +kernel
theorem d_V_look_16 : decode cc_V_look 16 = .ok (.iconst 0, 1) := by decide +kernel
theorem d_V_look_17 : decode cc_V_look 17 = .ok (.istore 5, 2) := by decide +kernel
theorem d_V_look_19 : decode cc_V_look 19 = .ok (.iload 5, 2) := by decide +kernel
theorem d_V_look_21 : decode cc_V_look 21 = .ok (.bipush 6, 2) := by decide +kernel
theorem d_V_look_23 : decode cc_V_look 23 = .ok (.if_icmp .ge 46, 3) := by decide +kernel
theorem d_V_look_69 : decode cc_V_look 69 = .ok (.iload 4, 2) := by decide +kernel
theorem d_V_look_71 : decode cc_V_look 71 = .ok (.ireturn, 1) := by decide +kernel
theorem d_V_look_26 : decode cc_V_look 26 = .ok (.aload_n 0, 1) := by decide +kernel
theorem d_V_look_27 : decode cc_V_look 27 = .ok (.aload_n 3, 1) := by decide +kernel
theorem d_V_look_28 : decode cc_V_look 28 = .ok (.getfield 67, 3) := by decide +kernel
theorem d_V_look_31 : decode cc_V_look 31 = .ok (.iload 5, 2) := by decide +kernel
theorem d_V_look_33 : decode cc_V_look 33 = .ok (.invokevirtual 216, 3) := by decide +kernel
theorem d_V_look_36 : decode cc_V_look 36 = .ok (.ifCond .eq 27, 3) := by decide +kernel
theorem d_V_look_63 : decode cc_V_look 63 = .ok (.iinc 5 1, 3) := by decide +kernel
theorem d_V_look_66 : decode cc_V_look 66 = .ok (.goto (-47), 3) := by decide +kernel
theorem d_V_look_39 : decode cc_V_look 39 = .ok (.iload 4, 2) := by decide +kernel
theorem d_V_look_41 : decode cc_V_look 41 = .ok (.aload_n 0, 1) := by decide +kernel
theorem d_V_look_42 : decode cc_V_look 42 = .ok (.getfield 11, 3) := by decide +kernel
theorem d_V_look_45 : decode cc_V_look 45 = .ok (.iload 5, 2) := by decide +kernel
theorem d_V_look_47 : decode cc_V_look 47 = .ok (.aaload, 1) := by decide +kernel
theorem d_V_look_48 : decode cc_V_look 48 = .ok (.getfield 102, 3) := by decide +kernel
theorem d_V_look_51 : decode cc_V_look 51 = .ok (.iload_n 2, 1) := by decide +kernel
theorem d_V_look_52 : decode cc_V_look 52 = .ok (.invokevirtual 174, 3) := by decide +kernel
theorem d_V_look_55 : decode cc_V_look 55 = .ok (.iconst 2, 1) := by decide +kernel
theorem d_V_look_56 : decode cc_V_look 56 = .ok (.iload 5, 2) := by decide +kernel
theorem d_V_look_58 : decode cc_V_look 58 = .ok (.imul, 1) := by decide +kernel
theorem d_V_look_59 : decode cc_V_look 59 = .ok (.ishl, 1) := by decide +kernel
theorem d_V_look_60 : decode cc_V_look 60 = .ok (.ior, 1) := by decide +kernel
theorem d_V_look_61 : decode cc_V_look 61 = .ok (.istore 4, 2) := by decide +kernel
def f_V_look_19 (vn : Nat) (ars : Nat → jv_ar) (y0 : Int32) (y1 : Nat) (k19 : (Int32 × Int32) → Option (Nat ⊕ (Int32))) (a : Int32 × Int32) : Option (Nat ⊕ (Int32)) :=
  if (6 : Int32) ≤ a.2 then (some (Sum.inr a.1)) else ((f_V_isOpenTo vn ars ((ars y1).1) a.2).bind fun x12 => if x12 = 0 then (k19 (a.1, a.2 + (1 : Int32))) else ((jv_gi 6 a.2).bind fun j14 => if j14 < vn then ((f_T_kindAt ((ars j14).2.2.2.1) y0).bind fun x17 => k19 (a.1 ||| (x17 <<< (((2 : Int32) * a.2) &&& 31)), a.2 + (1 : Int32))) else (none)))
set_option maxHeartbeats 4000000 in
set_option maxRecDepth 100000 in
theorem b_V_look_19 {l : Launch} {dC : Nat → ClassId} {dI : Nat → Nat → Nat} {cI cA cL : ClassId} {q_va q_aa q_cl q_fu : Nat} {Q : Nat → Nat → Nat} {vn : Nat} {vC : Nat → Int32} {vat : Int32} {ars : Nat → jv_ar} {p : Program} {e : Env} {s : State} {m : MethodId} {args : Array Value} {below : List Frame} {meth : Method} {c : Code} (cx : jv_cx p s m args meth c cc_V_look 6 R_Vault (some .int) ws_V_look) (hK : va_K (dC, dI) vwCl (jv_ty cI cA cL) s) (hP : va_P (dC, dI) vwCl (w_vault cI cA q_va q_aa q_cl q_fu Q vn vC vat ars) s.heap) (hl9 : l.stackTraces = false) (hT : jv_th s) (hout : c.exceptionTable.isEmpty = true) {r : Int32} {y0 : Int32} {y1 : Nat} (hy1 : y1 < vn) {k19 : (Int32 × Int32) → Option (Nat ⊕ (Int32))} (hk19 : ∀ (b0 : Int32) (b1 : Int32) (ls : Array Slot), lv_has ls 6 [(0, .ref q_va), (2, .int y0), (3, .ref (Q y1 0)), (4, .int b0), (5, .int b1)] → k19 (b0, b1) = some (Sum.inr r) → W p l e rm_V_look s m args below meth c s.heap [] 0 0 (MQ below (QcRead r) args s 0 0 (fun _ => False)) (F0 m 19 ls [])) {a : Int32 × Int32} {ls : Array Slot} (hl : lv_has ls 6 [(0, .ref q_va), (2, .int y0), (3, .ref (Q y1 0)), (4, .int a.1), (5, .int a.2)]) (hf : f_V_look_19 vn ars y0 y1 k19 a = some (Sum.inr r)) : W p l e rm_V_look s m args below meth c s.heap [] 0 0 (MQ below (QcRead r) args s 0 0 (fun _ => False)) (F0 m 19 ls []) := by
  unfold f_V_look_19 at hf
  obtain ⟨hx, hb, hml, hown, hts, hr, hlocks⟩ := id cx
  refine lv_iload hx hb d_V_look_19 (lv_at hl 4 rfl) ?_
  refine lv_bipush (v := (6 : Int32)) hx hb d_V_look_21 (by decide) ?_
  refine lv_icmp_ge (tgt := 69) hx hb d_V_look_23 (by decide) (fun hc => ?_) (fun hc => ?_)
  · have hf := jv_it hf hc
    refine lv_iload hx hb d_V_look_69 (lv_at hl 3 rfl) ?_
    obtain rfl := Sum.inr.inj (Option.some.inj hf)
    exact W.iret hx hb hr (fun t ht hW => ⟨rfl, ht⟩) (fun q h => by cases h) d_V_look_71
  · have hf := jv_if hf hc
    refine lv_aload_n hx hb d_V_look_26 rfl (lv_at hl 0 rfl) ?_
    refine lv_aload_n hx hb d_V_look_27 rfl (lv_at hl 2 rfl) ?_
    refine va_get (D := (dC, dI)) (ci := kArea) (v := .int ((ars y1).1)) (C := R_Area) (T := T_Area) (N := 5) hx hb hts (fun w h => List.mem_cons_of_mem _ (in_Area w h)) hown hK (jv_open hP hy1) 1 rfl rfl 0 (by decide) (jv_w hts wa_301) (fun _ h9 => h9) rfl d_V_look_28 ?_
    refine lv_iload hx hb d_V_look_31 (lv_at hl 4 rfl) ?_
    obtain ⟨x12, g13, hf⟩ := jv_ob hf
    refine jv_cs (W.runV (As := [.int ((ars y1).1), .int a.2]) (rest := []) (b := q_va) ⟨hx, hb, hml, hown, hts⟩ (c_V_isOpenTo l dC dI cI cA cL q_va q_aa q_cl q_fu Q vn vC vat ars ((ars y1).1) a.2 x12 g13) (jv_cwV hts wa_311 wa_303 wa_312 wa_313 wa_314 rfl rfl yd_V_isOpenTo ⟨Nat.le_of_ble_eq_true rfl, Nat.le_of_ble_eq_true rfl⟩) (jv_preV hK hP 0 rfl rfl) rfl rfl hl.1 rfl (lv_room (Nat.le_of_ble_eq_true rfl)) d_V_look_33 ⟨Nat.zero_le _, Nat.zero_le _⟩) ?_
    refine lv_if_eq (tgt := 63) hx hb d_V_look_36 (by decide) (fun hc => ?_) (fun hc => ?_)
    · have hf := jv_it hf hc
      refine lv_iinc (k := 4) (v := a.2 + (1 : Int32)) (lv' := [(5, .int (a.2 + (1 : Int32))), (0, .ref q_va), (2, .int y0), (3, .ref (Q y1 0)), (4, .int a.1)]) hx hb d_V_look_63 hl rfl (jv_inc _) (by decide) rfl (fun ls hl => ?_)
      refine lv_goto (tgt := 19) hx hb d_V_look_66 (by decide) ?_
      exact hk19 a.1 (a.2 + (1 : Int32)) _ (lv_sub hl [1, 2, 3, 4, 0] rfl) hf
    · have hf := jv_if hf hc
      refine lv_iload hx hb d_V_look_39 (lv_at hl 3 rfl) ?_
      refine lv_aload_n hx hb d_V_look_41 rfl (lv_at hl 0 rfl) ?_
      refine va_get (D := (dC, dI)) (ci := kVault) (v := .ref q_aa) (C := R_Vault) (T := T_Vault) (N := 4) hx hb hts (fun w h => List.mem_cons_of_mem _ (in_Vault w h)) hown hK hP 0 rfl rfl 0 (by decide) (jv_w hts wa_300) (fun _ h9 => h9) rfl d_V_look_42 ?_
      refine lv_iload hx hb d_V_look_45 (lv_at hl 4 rfl) ?_
      obtain ⟨j14, g15, hf⟩ := jv_ob hf
      refine jv_aald hx hb hK hP g15 d_V_look_47 (fun hj16 => ?_) (fun hj16 => ?_)
      · have hf := jv_it hf hj16
        refine va_get (D := (dC, dI)) (ci := kArea) (v := .ref (Q j14 6)) (C := R_Area) (T := T_Area) (N := 5) hx hb hts (fun w h => List.mem_cons_of_mem _ (in_Area w h)) hown hK (jv_open hP hj16) 1 rfl rfl 3 (by decide) (jv_w hts wa_315) (fun _ h9 => h9) rfl d_V_look_48 ?_
        refine lv_iload_n hx hb d_V_look_51 rfl (lv_at hl 1 rfl) ?_
        obtain ⟨x17, g18, hf⟩ := jv_ob hf
        have hPc := (jv_open hP hj16).sub (ws' := (w_tree cI (Q j14 6) (Q j14 2) (Q j14 3) (Q j14 4) (Q j14 5) ((ars j14).2.2.2.2.2.1) ((ars j14).2.2.2.2.2.2.1) ((ars j14).2.2.2.2.2.2.2) ((ars j14).2.2.1) ((ars j14).2.2.2.1) ((ars j14).2.2.2.2.1))) [7, 3, 4, 5, 6] rfl
        refine jv_cs (W.runV (As := [.int y0]) (rest := [.int a.1]) (b := (Q j14 6)) ⟨hx, hb, hml, hown, hts⟩ (c_T_kindAt l dC dI cI cA cL (Q j14 6) (Q j14 2) (Q j14 3) (Q j14 4) (Q j14 5) ((ars j14).2.2.2.2.2.1) ((ars j14).2.2.2.2.2.2.1) ((ars j14).2.2.2.2.2.2.2) ((ars j14).2.2.1) ((ars j14).2.2.2.1) ((ars j14).2.2.2.2.1) y0 x17 g18) (jv_cwV hts wa_90 wa_78 wa_316 wa_92 wa_93 rfl rfl yd_T_kindAt ⟨Nat.le_of_ble_eq_true rfl, Nat.le_of_ble_eq_true rfl⟩) (jv_preV hK hPc 0 rfl rfl) rfl rfl hl.1 rfl (lv_room (Nat.le_of_ble_eq_true rfl)) d_V_look_52 ⟨Nat.zero_le _, Nat.zero_le _⟩) ?_
        refine lv_iconst (v := (2 : Int32)) hx hb d_V_look_55 (by decide) ?_
        refine lv_iload hx hb d_V_look_56 (lv_at hl 4 rfl) ?_
        refine lv_imul hx hb d_V_look_58 ?_
        refine lv_ishl hx hb d_V_look_59 ?_
        refine lv_ior hx hb d_V_look_60 ?_
        refine lv_istore (lv' := [(4, .int (a.1 ||| (x17 <<< (((2 : Int32) * a.2) &&& 31)))), (0, .ref q_va), (2, .int y0), (3, .ref (Q y1 0)), (5, .int a.2)]) hx hb d_V_look_61 hl (by decide) rfl (fun ls hl => ?_)
        refine lv_iinc (k := 4) (v := a.2 + (1 : Int32)) (lv' := [(5, .int (a.2 + (1 : Int32))), (4, .int (a.1 ||| (x17 <<< (((2 : Int32) * a.2) &&& 31)))), (0, .ref q_va), (2, .int y0), (3, .ref (Q y1 0))]) hx hb d_V_look_63 hl rfl (jv_inc _) (by decide) rfl (fun ls hl => ?_)
        refine lv_goto (tgt := 19) hx hb d_V_look_66 (by decide) ?_
        exact hk19 (a.1 ||| (x17 <<< (((2 : Int32) * a.2) &&& 31))) (a.2 + (1 : Int32)) _ (lv_sub hl [2, 3, 4, 1, 0] rfl) hf
      · cases jv_if hf hj16
set_option maxHeartbeats 4000000 in
set_option maxRecDepth 100000 in
theorem l_V_look_19 {l : Launch} {dC : Nat → ClassId} {dI : Nat → Nat → Nat} {cI cA cL : ClassId} {q_va q_aa q_cl q_fu : Nat} {Q : Nat → Nat → Nat} {vn : Nat} {vC : Nat → Int32} {vat : Int32} {ars : Nat → jv_ar} {p : Program} {e : Env} {s : State} {m : MethodId} {args : Array Value} {below : List Frame} {meth : Method} {c : Code} (cx : jv_cx p s m args meth c cc_V_look 6 R_Vault (some .int) ws_V_look) (hK : va_K (dC, dI) vwCl (jv_ty cI cA cL) s) (hP : va_P (dC, dI) vwCl (w_vault cI cA q_va q_aa q_cl q_fu Q vn vC vat ars) s.heap) (hl9 : l.stackTraces = false) (hT : jv_th s) (hout : c.exceptionTable.isEmpty = true) {r : Int32} {y0 : Int32} {y1 : Nat} (hy1 : y1 < vn) : ∀ n : Nat, ∀ (b0 : Int32) (b1 : Int32) (ls : Array Slot), lv_has ls 6 [(0, .ref q_va), (2, .int y0), (3, .ref (Q y1 0)), (4, .int b0), (5, .int b1)] → jv_fx (f_V_look_19 vn ars y0 y1) n (b0, b1) = some (Sum.inr r) → W p l e rm_V_look s m args below meth c s.heap [] 0 0 (MQ below (QcRead r) args s 0 0 (fun _ => False)) (F0 m 19 ls []) := by
  intro n
  induction n with
  | zero => intro b0 b1 ls hl hf; exact jv_no hf
  | succ n ih => intro b0 b1 ls hl hf; exact b_V_look_19 (a := (b0, b1)) (hy1 := hy1) cx hK hP hl9 hT hout ih hl hf
def f_V_look_0 (vn : Nat) (ars : Nat → jv_ar) (y0 : Int32) (y1 : Int32) : Option (Nat ⊕ (Int32)) :=
  (f_V_areaOf vn ars y0).bind fun x1 => jv_se x1 fun v3 => if v3 < vn then ((f_P_isPath y1).bind fun x6 => (f_V_demand x6).bind fun x8 => jv_se x8 fun v10 => jv_fx (f_V_look_19 vn ars y1 v3) 300 ((0 : Int32), (0 : Int32))) else none
set_option maxHeartbeats 4000000 in
set_option maxRecDepth 100000 in
theorem b_V_look_0 {l : Launch} {dC : Nat → ClassId} {dI : Nat → Nat → Nat} {cI cA cL : ClassId} {q_va q_aa q_cl q_fu : Nat} {Q : Nat → Nat → Nat} {vn : Nat} {vC : Nat → Int32} {vat : Int32} {ars : Nat → jv_ar} {p : Program} {e : Env} {s : State} {m : MethodId} {args : Array Value} {below : List Frame} {meth : Method} {c : Code} (cx : jv_cx p s m args meth c cc_V_look 6 R_Vault (some .int) ws_V_look) (hK : va_K (dC, dI) vwCl (jv_ty cI cA cL) s) (hP : va_P (dC, dI) vwCl (w_vault cI cA q_va q_aa q_cl q_fu Q vn vC vat ars) s.heap) (hl9 : l.stackTraces = false) (hT : jv_th s) (hout : c.exceptionTable.isEmpty = true) {r : Int32} {y0 : Int32} {y1 : Int32} {ls : Array Slot} (hl : lv_has ls 6 [(0, .ref q_va), (1, .int y0), (2, .int y1)]) (hf : f_V_look_0 vn ars y0 y1 = some (Sum.inr r)) : W p l e rm_V_look s m args below meth c s.heap [] 0 0 (MQ below (QcRead r) args s 0 0 (fun _ => False)) (F0 m 0 ls []) := by
  unfold f_V_look_0 at hf
  obtain ⟨hx, hb, hml, hown, hts, hr, hlocks⟩ := id cx
  refine lv_aload_n hx hb d_V_look_0 rfl (lv_at hl 0 rfl) ?_
  refine lv_iload_n hx hb d_V_look_1 rfl (lv_at hl 1 rfl) ?_
  obtain ⟨x1, g2, hf⟩ := jv_ob hf
  rcases x1 with k4 | v3
  · exact jv_ci hf
  have hf := jv_sr hf
  obtain ⟨hj5, hf⟩ := jv_gd hf
  refine jv_csr (W.runV (As := [.int y0]) (rest := []) (b := q_va) ⟨hx, hb, hml, hown, hts⟩ (c_V_areaOf l hl9 dC dI cI cA cL q_va q_aa q_cl q_fu Q vn vC vat ars y0 v3 g2) (jv_cwV hts wa_389 wa_303 wa_390 wa_391 wa_392 rfl rfl yd_V_areaOf ⟨Nat.le_of_ble_eq_true rfl, Nat.le_of_ble_eq_true rfl⟩) (jv_preVt hT hK hP 0 rfl rfl) rfl rfl hl.1 rfl (lv_room (Nat.le_of_ble_eq_true rfl)) d_V_look_2 ⟨Nat.zero_le _, Nat.zero_le _⟩) ?_
  refine lv_astore_n (lv' := [(3, .ref (Q v3 0)), (0, .ref q_va), (1, .int y0), (2, .int y1)]) hx hb d_V_look_5 rfl hl (by decide) rfl (fun ls hl => ?_)
  refine lv_iload_n hx hb d_V_look_6 rfl (lv_at hl 3 rfl) ?_
  obtain ⟨x6, g7, hf⟩ := jv_ob hf
  refine jv_cs (W.runS (As := [.int y1]) (rest := []) ⟨hx, hb, hml, hown, hts⟩ (c_P_isPath l y1 x6 g7) (jv_cwS hts wa_14 wa_8 wa_416 wa_16 rfl rfl yd_P_isPath ⟨Nat.le_of_ble_eq_true rfl, Nat.le_of_ble_eq_true rfl⟩) jv_pre0 rfl rfl hl.1 rfl (lv_room (Nat.le_of_ble_eq_true rfl)) d_V_look_7 ⟨Nat.zero_le _, Nat.zero_le _⟩) ?_
  obtain ⟨x8, g9, hf⟩ := jv_ob hf
  rcases x8 with k11 | v10
  · exact jv_ci hf
  have hf := jv_sr hf
  refine jv_csv (W.runS (As := [.int x6]) (rest := []) ⟨hx, hb, hml, hown, hts⟩ (c_V_demand l hl9 x6 v10 g9) (jv_cwS hts wa_321 wa_303 wa_322 wa_323 rfl rfl yd_V_demand ⟨Nat.le_of_ble_eq_true rfl, Nat.le_of_ble_eq_true rfl⟩) (jv_pre0t hT) rfl rfl hl.1 rfl (lv_room (Nat.le_of_ble_eq_true rfl)) d_V_look_10 ⟨Nat.zero_le _, Nat.zero_le _⟩) ?_
  refine lv_iconst (v := (0 : Int32)) hx hb d_V_look_13 (by decide) ?_
  refine lv_istore (lv' := [(4, .int (0 : Int32)), (3, .ref (Q v3 0)), (0, .ref q_va), (1, .int y0), (2, .int y1)]) hx hb d_V_look_14 hl (by decide) rfl (fun ls hl => ?_)
  refine lv_iconst (v := (0 : Int32)) hx hb d_V_look_16 (by decide) ?_
  refine lv_istore (lv' := [(5, .int (0 : Int32)), (4, .int (0 : Int32)), (3, .ref (Q v3 0)), (0, .ref q_va), (1, .int y0), (2, .int y1)]) hx hb d_V_look_17 hl (by decide) rfl (fun ls hl => ?_)
  exact l_V_look_19 (y0 := y1) (y1 := v3) (hy1 := hj5) cx hK hP hl9 hT hout 300 (0 : Int32) (0 : Int32) _ (lv_sub hl [3, 5, 2, 1, 0] rfl) hf
def f_V_look (vn : Nat) (ars : Nat → jv_ar) (a0 : Int32) (a1 : Int32) : Option (Nat ⊕ (Int32)) := f_V_look_0 vn ars a0 a1
set_option maxHeartbeats 4000000 in
set_option maxRecDepth 100000 in
theorem c_V_look (l : Launch) (hl9 : l.stackTraces = false) (dC : Nat → ClassId) (dI : Nat → Nat → Nat) (cI cA cL : ClassId) (q_va q_aa q_cl q_fu : Nat) (Q : Nat → Nat → Nat) (vn : Nat) (vC : Nat → Int32) (vat : Int32) (ars : Nat → jv_ar) (a0 : Int32) (a1 : Int32) (r : Int32) (hf : f_V_look vn ars a0 a1 = some (Sum.inr r)) : Met l y_V_look ws_V_look rm_V_look (jv_Prt [.ref q_va, .int a0, .int a1] (dC, dI) (jv_ty cI cA cL) (w_vault cI cA q_va q_aa q_cl q_fu Q vn vC vat ars)) (QcRead r) 0 0 (fun _ => False) := by
  refine Met.ofW (cc := cc_V_look) (maxL := 6) (ret := (some .int)) (by decide) rfl ?_
  intro p e s m args below meth c s₁ B hml hv
  obtain ⟨rfl, hP, hK, hT⟩ := hv
  have cx : jv_cx p s m _ meth c cc_V_look 6 R_Vault (some .int) ws_V_look := ⟨B.exec, B.bytes, hml, findClass_of_methodNamed B.named, atoms_spec (ws := ws_V_look) B.pre, B.returns, B.notSynchronized⟩
  have hout : c.exceptionTable.isEmpty = true := B.noHandlers (atoms_spec (ws := ws_V_look) B.pre _ List.mem_cons_self)
  have hl := lv_entry ([.ref q_va, .int a0, .int a1]) (n := 6) (Nat.le_of_ble_eq_true rfl)
  rw [lg_entry_eq]
  generalize (lg_sl ([.ref q_va, .int a0, .int a1]) ++ List.replicate (6 - (lg_sl ([.ref q_va, .int a0, .int a1])).length) Slot.unset).toArray = ls at hl ⊢
  have hl : lv_has ls 6 [(0, .ref q_va), (1, .int a0), (2, .int a1)] := hl
  exact b_V_look_0 (y0 := a0) (y1 := a1) cx hK hP hl9 hT hout (lv_sub hl [0, 1, 2] rfl) hf
set_option maxHeartbeats 4000000 in
set_option maxRecDepth 100000 in
theorem t_V_look_19 {l : Launch} {dC : Nat → ClassId} {dI : Nat → Nat → Nat} {cI cA cL : ClassId} {q_va q_aa q_cl q_fu : Nat} {Q : Nat → Nat → Nat} {vn : Nat} {vC : Nat → Int32} {vat : Int32} {ars : Nat → jv_ar} {p : Program} {e : Env} {s : State} {m : MethodId} {args : Array Value} {below : List Frame} {meth : Method} {c : Code} (cx : jv_cx p s m args meth c cc_V_look 6 R_Vault (some .int) ws_V_look) (hK : va_K (dC, dI) vwCl (jv_ty cI cA cL) s) (hP : va_P (dC, dI) vwCl (w_vault cI cA q_va q_aa q_cl q_fu Q vn vC vat ars) s.heap) (hl9 : l.stackTraces = false) (hT : jv_th s) (hout : c.exceptionTable.isEmpty = true) {kx : Nat} {y0 : Int32} {y1 : Nat} (hy1 : y1 < vn) {k19 : (Int32 × Int32) → Option (Nat ⊕ (Int32))} (hk19 : ∀ (b0 : Int32) (b1 : Int32) (ls : Array Slot), lv_has ls 6 [(0, .ref q_va), (2, .int y0), (3, .ref (Q y1 0)), (4, .int b0), (5, .int b1)] → k19 (b0, b1) = some (Sum.inl kx) → W p l e rx_V_look s m args below meth c s.heap [] 0 0 (jv_MQ below (jv_en kx) args s 1 6) (F0 m 19 ls [])) {a : Int32 × Int32} {ls : Array Slot} (hl : lv_has ls 6 [(0, .ref q_va), (2, .int y0), (3, .ref (Q y1 0)), (4, .int a.1), (5, .int a.2)]) (hf : f_V_look_19 vn ars y0 y1 k19 a = some (Sum.inl kx)) : W p l e rx_V_look s m args below meth c s.heap [] 0 0 (jv_MQ below (jv_en kx) args s 1 6) (F0 m 19 ls []) := by
  unfold f_V_look_19 at hf
  obtain ⟨hx, hb, hml, hown, hts, hr, hlocks⟩ := id cx
  refine lv_iload hx hb d_V_look_19 (lv_at hl 4 rfl) ?_
  refine lv_bipush (v := (6 : Int32)) hx hb d_V_look_21 (by decide) ?_
  refine lv_icmp_ge (tgt := 69) hx hb d_V_look_23 (by decide) (fun hc => ?_) (fun hc => ?_)
  · have hf := jv_it hf hc
    refine lv_iload hx hb d_V_look_69 (lv_at hl 3 rfl) ?_
    cases Option.some.inj hf
  · have hf := jv_if hf hc
    refine lv_aload_n hx hb d_V_look_26 rfl (lv_at hl 0 rfl) ?_
    refine lv_aload_n hx hb d_V_look_27 rfl (lv_at hl 2 rfl) ?_
    refine va_get (D := (dC, dI)) (ci := kArea) (v := .int ((ars y1).1)) (C := R_Area) (T := T_Area) (N := 5) hx hb hts (fun w h => List.mem_cons_of_mem _ (in_Area w h)) hown hK (jv_open hP hy1) 1 rfl rfl 0 (by decide) (jv_w hts wa_301) (fun _ h9 => h9) rfl d_V_look_28 ?_
    refine lv_iload hx hb d_V_look_31 (lv_at hl 4 rfl) ?_
    obtain ⟨x12, g13, hf⟩ := jv_ob hf
    refine jv_cs (W.runV (As := [.int ((ars y1).1), .int a.2]) (rest := []) (b := q_va) ⟨hx, hb, hml, hown, hts⟩ (c_V_isOpenTo l dC dI cI cA cL q_va q_aa q_cl q_fu Q vn vC vat ars ((ars y1).1) a.2 x12 g13) (jv_cwV hts wa_311 wa_303 wa_312 wa_313 wa_314 rfl rfl yd_V_isOpenTo ⟨Nat.le_of_ble_eq_true rfl, Nat.le_of_ble_eq_true rfl⟩) (jv_preV hK hP 0 rfl rfl) rfl rfl hl.1 rfl (lv_room (Nat.le_of_ble_eq_true rfl)) d_V_look_33 ⟨Nat.zero_le _, Nat.zero_le _⟩) ?_
    refine lv_if_eq (tgt := 63) hx hb d_V_look_36 (by decide) (fun hc => ?_) (fun hc => ?_)
    · have hf := jv_it hf hc
      refine lv_iinc (k := 4) (v := a.2 + (1 : Int32)) (lv' := [(5, .int (a.2 + (1 : Int32))), (0, .ref q_va), (2, .int y0), (3, .ref (Q y1 0)), (4, .int a.1)]) hx hb d_V_look_63 hl rfl (jv_inc _) (by decide) rfl (fun ls hl => ?_)
      refine lv_goto (tgt := 19) hx hb d_V_look_66 (by decide) ?_
      exact hk19 a.1 (a.2 + (1 : Int32)) _ (lv_sub hl [1, 2, 3, 4, 0] rfl) hf
    · have hf := jv_if hf hc
      refine lv_iload hx hb d_V_look_39 (lv_at hl 3 rfl) ?_
      refine lv_aload_n hx hb d_V_look_41 rfl (lv_at hl 0 rfl) ?_
      refine va_get (D := (dC, dI)) (ci := kVault) (v := .ref q_aa) (C := R_Vault) (T := T_Vault) (N := 4) hx hb hts (fun w h => List.mem_cons_of_mem _ (in_Vault w h)) hown hK hP 0 rfl rfl 0 (by decide) (jv_w hts wa_300) (fun _ h9 => h9) rfl d_V_look_42 ?_
      refine lv_iload hx hb d_V_look_45 (lv_at hl 4 rfl) ?_
      obtain ⟨j14, g15, hf⟩ := jv_ob hf
      refine jv_aald hx hb hK hP g15 d_V_look_47 (fun hj16 => ?_) (fun hj16 => ?_)
      · have hf := jv_it hf hj16
        refine va_get (D := (dC, dI)) (ci := kArea) (v := .ref (Q j14 6)) (C := R_Area) (T := T_Area) (N := 5) hx hb hts (fun w h => List.mem_cons_of_mem _ (in_Area w h)) hown hK (jv_open hP hj16) 1 rfl rfl 3 (by decide) (jv_w hts wa_315) (fun _ h9 => h9) rfl d_V_look_48 ?_
        refine lv_iload_n hx hb d_V_look_51 rfl (lv_at hl 1 rfl) ?_
        obtain ⟨x17, g18, hf⟩ := jv_ob hf
        have hPc := (jv_open hP hj16).sub (ws' := (w_tree cI (Q j14 6) (Q j14 2) (Q j14 3) (Q j14 4) (Q j14 5) ((ars j14).2.2.2.2.2.1) ((ars j14).2.2.2.2.2.2.1) ((ars j14).2.2.2.2.2.2.2) ((ars j14).2.2.1) ((ars j14).2.2.2.1) ((ars j14).2.2.2.2.1))) [7, 3, 4, 5, 6] rfl
        refine jv_cs (W.runV (As := [.int y0]) (rest := [.int a.1]) (b := (Q j14 6)) ⟨hx, hb, hml, hown, hts⟩ (c_T_kindAt l dC dI cI cA cL (Q j14 6) (Q j14 2) (Q j14 3) (Q j14 4) (Q j14 5) ((ars j14).2.2.2.2.2.1) ((ars j14).2.2.2.2.2.2.1) ((ars j14).2.2.2.2.2.2.2) ((ars j14).2.2.1) ((ars j14).2.2.2.1) ((ars j14).2.2.2.2.1) y0 x17 g18) (jv_cwV hts wa_90 wa_78 wa_316 wa_92 wa_93 rfl rfl yd_T_kindAt ⟨Nat.le_of_ble_eq_true rfl, Nat.le_of_ble_eq_true rfl⟩) (jv_preV hK hPc 0 rfl rfl) rfl rfl hl.1 rfl (lv_room (Nat.le_of_ble_eq_true rfl)) d_V_look_52 ⟨Nat.zero_le _, Nat.zero_le _⟩) ?_
        refine lv_iconst (v := (2 : Int32)) hx hb d_V_look_55 (by decide) ?_
        refine lv_iload hx hb d_V_look_56 (lv_at hl 4 rfl) ?_
        refine lv_imul hx hb d_V_look_58 ?_
        refine lv_ishl hx hb d_V_look_59 ?_
        refine lv_ior hx hb d_V_look_60 ?_
        refine lv_istore (lv' := [(4, .int (a.1 ||| (x17 <<< (((2 : Int32) * a.2) &&& 31)))), (0, .ref q_va), (2, .int y0), (3, .ref (Q y1 0)), (5, .int a.2)]) hx hb d_V_look_61 hl (by decide) rfl (fun ls hl => ?_)
        refine lv_iinc (k := 4) (v := a.2 + (1 : Int32)) (lv' := [(5, .int (a.2 + (1 : Int32))), (4, .int (a.1 ||| (x17 <<< (((2 : Int32) * a.2) &&& 31)))), (0, .ref q_va), (2, .int y0), (3, .ref (Q y1 0))]) hx hb d_V_look_63 hl rfl (jv_inc _) (by decide) rfl (fun ls hl => ?_)
        refine lv_goto (tgt := 19) hx hb d_V_look_66 (by decide) ?_
        exact hk19 (a.1 ||| (x17 <<< (((2 : Int32) * a.2) &&& 31))) (a.2 + (1 : Int32)) _ (lv_sub hl [2, 3, 4, 1, 0] rfl) hf
      · cases jv_if hf hj16
set_option maxHeartbeats 4000000 in
set_option maxRecDepth 100000 in
theorem u_V_look_19 {l : Launch} {dC : Nat → ClassId} {dI : Nat → Nat → Nat} {cI cA cL : ClassId} {q_va q_aa q_cl q_fu : Nat} {Q : Nat → Nat → Nat} {vn : Nat} {vC : Nat → Int32} {vat : Int32} {ars : Nat → jv_ar} {p : Program} {e : Env} {s : State} {m : MethodId} {args : Array Value} {below : List Frame} {meth : Method} {c : Code} (cx : jv_cx p s m args meth c cc_V_look 6 R_Vault (some .int) ws_V_look) (hK : va_K (dC, dI) vwCl (jv_ty cI cA cL) s) (hP : va_P (dC, dI) vwCl (w_vault cI cA q_va q_aa q_cl q_fu Q vn vC vat ars) s.heap) (hl9 : l.stackTraces = false) (hT : jv_th s) (hout : c.exceptionTable.isEmpty = true) {kx : Nat} {y0 : Int32} {y1 : Nat} (hy1 : y1 < vn) : ∀ n : Nat, ∀ (b0 : Int32) (b1 : Int32) (ls : Array Slot), lv_has ls 6 [(0, .ref q_va), (2, .int y0), (3, .ref (Q y1 0)), (4, .int b0), (5, .int b1)] → jv_fx (f_V_look_19 vn ars y0 y1) n (b0, b1) = some (Sum.inl kx) → W p l e rx_V_look s m args below meth c s.heap [] 0 0 (jv_MQ below (jv_en kx) args s 1 6) (F0 m 19 ls []) := by
  intro n
  induction n with
  | zero => intro b0 b1 ls hl hf; exact jv_no hf
  | succ n ih => intro b0 b1 ls hl hf; exact t_V_look_19 (a := (b0, b1)) (hy1 := hy1) cx hK hP hl9 hT hout ih hl hf
set_option maxHeartbeats 4000000 in
set_option maxRecDepth 100000 in
theorem t_V_look_0 {l : Launch} {dC : Nat → ClassId} {dI : Nat → Nat → Nat} {cI cA cL : ClassId} {q_va q_aa q_cl q_fu : Nat} {Q : Nat → Nat → Nat} {vn : Nat} {vC : Nat → Int32} {vat : Int32} {ars : Nat → jv_ar} {p : Program} {e : Env} {s : State} {m : MethodId} {args : Array Value} {below : List Frame} {meth : Method} {c : Code} (cx : jv_cx p s m args meth c cc_V_look 6 R_Vault (some .int) ws_V_look) (hK : va_K (dC, dI) vwCl (jv_ty cI cA cL) s) (hP : va_P (dC, dI) vwCl (w_vault cI cA q_va q_aa q_cl q_fu Q vn vC vat ars) s.heap) (hl9 : l.stackTraces = false) (hT : jv_th s) (hout : c.exceptionTable.isEmpty = true) {kx : Nat} {y0 : Int32} {y1 : Int32} {ls : Array Slot} (hl : lv_has ls 6 [(0, .ref q_va), (1, .int y0), (2, .int y1)]) (hf : f_V_look_0 vn ars y0 y1 = some (Sum.inl kx)) : W p l e rx_V_look s m args below meth c s.heap [] 0 0 (jv_MQ below (jv_en kx) args s 1 6) (F0 m 0 ls []) := by
  unfold f_V_look_0 at hf
  obtain ⟨hx, hb, hml, hown, hts, hr, hlocks⟩ := id cx
  refine lv_aload_n hx hb d_V_look_0 rfl (lv_at hl 0 rfl) ?_
  refine lv_iload_n hx hb d_V_look_1 rfl (lv_at hl 1 rfl) ?_
  obtain ⟨x1, g2, hf⟩ := jv_ob hf
  rcases x1 with k4 | v3
  · rw [jv_sl hf] at g2
    exact jv_xV (cells := 0) (slots := 0) (As := [.int y0]) (rest := []) (b := q_va) ⟨hx, hb, hml, hown, hts⟩ (x_V_areaOf l hl9 dC dI cI cA cL q_va q_aa q_cl q_fu Q vn vC vat ars y0 kx g2) (jv_cwV hts wa_389 wa_303 wa_390 wa_391 wa_392 rfl rfl yd_V_areaOf ⟨Nat.le_of_ble_eq_true rfl, Nat.le_of_ble_eq_true rfl⟩) (jv_preVt hT hK hP 0 rfl rfl) rfl rfl hl.1 rfl (lv_room (Nat.le_of_ble_eq_true rfl)) d_V_look_2 ⟨Nat.le_of_ble_eq_true rfl, Nat.le_of_ble_eq_true rfl⟩ (fun x H1 hob => jv_leave hout hlocks hob)
  have hf := jv_sr hf
  obtain ⟨hj5, hf⟩ := jv_gd hf
  refine jv_csr (W.runV (As := [.int y0]) (rest := []) (b := q_va) ⟨hx, hb, hml, hown, hts⟩ (c_V_areaOf l hl9 dC dI cI cA cL q_va q_aa q_cl q_fu Q vn vC vat ars y0 v3 g2) (jv_cwV hts wa_389 wa_303 wa_390 wa_391 wa_392 rfl rfl yd_V_areaOf ⟨Nat.le_of_ble_eq_true rfl, Nat.le_of_ble_eq_true rfl⟩) (jv_preVt hT hK hP 0 rfl rfl) rfl rfl hl.1 rfl (lv_room (Nat.le_of_ble_eq_true rfl)) d_V_look_2 ⟨Nat.zero_le _, Nat.zero_le _⟩) ?_
  refine lv_astore_n (lv' := [(3, .ref (Q v3 0)), (0, .ref q_va), (1, .int y0), (2, .int y1)]) hx hb d_V_look_5 rfl hl (by decide) rfl (fun ls hl => ?_)
  refine lv_iload_n hx hb d_V_look_6 rfl (lv_at hl 3 rfl) ?_
  obtain ⟨x6, g7, hf⟩ := jv_ob hf
  refine jv_cs (W.runS (As := [.int y1]) (rest := []) ⟨hx, hb, hml, hown, hts⟩ (c_P_isPath l y1 x6 g7) (jv_cwS hts wa_14 wa_8 wa_416 wa_16 rfl rfl yd_P_isPath ⟨Nat.le_of_ble_eq_true rfl, Nat.le_of_ble_eq_true rfl⟩) jv_pre0 rfl rfl hl.1 rfl (lv_room (Nat.le_of_ble_eq_true rfl)) d_V_look_7 ⟨Nat.zero_le _, Nat.zero_le _⟩) ?_
  obtain ⟨x8, g9, hf⟩ := jv_ob hf
  rcases x8 with k11 | v10
  · rw [jv_sl hf] at g9
    exact jv_xS (cells := 0) (slots := 0) (As := [.int x6]) (rest := []) ⟨hx, hb, hml, hown, hts⟩ (x_V_demand l hl9 x6 kx g9) (jv_cwS hts wa_321 wa_303 wa_322 wa_323 rfl rfl yd_V_demand ⟨Nat.le_of_ble_eq_true rfl, Nat.le_of_ble_eq_true rfl⟩) (jv_pre0t hT) rfl rfl hl.1 rfl (lv_room (Nat.le_of_ble_eq_true rfl)) d_V_look_10 ⟨Nat.le_of_ble_eq_true rfl, Nat.le_of_ble_eq_true rfl⟩ (fun x H1 hob => jv_leave hout hlocks hob)
  have hf := jv_sr hf
  refine jv_csv (W.runS (As := [.int x6]) (rest := []) ⟨hx, hb, hml, hown, hts⟩ (c_V_demand l hl9 x6 v10 g9) (jv_cwS hts wa_321 wa_303 wa_322 wa_323 rfl rfl yd_V_demand ⟨Nat.le_of_ble_eq_true rfl, Nat.le_of_ble_eq_true rfl⟩) (jv_pre0t hT) rfl rfl hl.1 rfl (lv_room (Nat.le_of_ble_eq_true rfl)) d_V_look_10 ⟨Nat.zero_le _, Nat.zero_le _⟩) ?_
  refine lv_iconst (v := (0 : Int32)) hx hb d_V_look_13 (by decide) ?_
  refine lv_istore (lv' := [(4, .int (0 : Int32)), (3, .ref (Q v3 0)), (0, .ref q_va), (1, .int y0), (2, .int y1)]) hx hb d_V_look_14 hl (by decide) rfl (fun ls hl => ?_)
  refine lv_iconst (v := (0 : Int32)) hx hb d_V_look_16 (by decide) ?_
  refine lv_istore (lv' := [(5, .int (0 : Int32)), (4, .int (0 : Int32)), (3, .ref (Q v3 0)), (0, .ref q_va), (1, .int y0), (2, .int y1)]) hx hb d_V_look_17 hl (by decide) rfl (fun ls hl => ?_)
  exact u_V_look_19 (y0 := y1) (y1 := v3) (hy1 := hj5) cx hK hP hl9 hT hout 300 (0 : Int32) (0 : Int32) _ (lv_sub hl [3, 5, 2, 1, 0] rfl) hf
set_option maxHeartbeats 4000000 in
set_option maxRecDepth 100000 in
theorem x_V_look (l : Launch) (hl9 : l.stackTraces = false) (dC : Nat → ClassId) (dI : Nat → Nat → Nat) (cI cA cL : ClassId) (q_va q_aa q_cl q_fu : Nat) (Q : Nat → Nat → Nat) (vn : Nat) (vC : Nat → Int32) (vat : Int32) (ars : Nat → jv_ar) (a0 : Int32) (a1 : Int32) (kx : Nat) (hf : f_V_look vn ars a0 a1 = some (Sum.inl kx)) : jv_MX l y_V_look ws_V_look rx_V_look (jv_Prt [.ref q_va, .int a0, .int a1] (dC, dI) (jv_ty cI cA cL) (w_vault cI cA q_va q_aa q_cl q_fu Q vn vC vat ars)) (jv_en kx) 1 6 := by
  refine jv_MX.ofW (cc := cc_V_look) (maxL := 6) (ret := (some .int)) (by decide) rfl ?_
  intro p e s m args below meth c s₁ B hml hv
  obtain ⟨rfl, hP, hK, hT⟩ := hv
  have cx : jv_cx p s m _ meth c cc_V_look 6 R_Vault (some .int) ws_V_look := ⟨B.exec, B.bytes, hml, findClass_of_methodNamed B.named, atoms_spec (ws := ws_V_look) B.pre, B.returns, B.notSynchronized⟩
  have hout : c.exceptionTable.isEmpty = true := B.noHandlers (atoms_spec (ws := ws_V_look) B.pre _ List.mem_cons_self)
  have hl := lv_entry ([.ref q_va, .int a0, .int a1]) (n := 6) (Nat.le_of_ble_eq_true rfl)
  rw [lg_entry_eq]
  generalize (lg_sl ([.ref q_va, .int a0, .int a1]) ++ List.replicate (6 - (lg_sl ([.ref q_va, .int a0, .int a1])).length) Slot.unset).toArray = ls at hl ⊢
  have hl : lv_has ls 6 [(0, .ref q_va), (1, .int a0), (2, .int a1)] := hl
  exact t_V_look_0 (y0 := a0) (y1 := a1) cx hK hP hl9 hT hout (lv_sub hl [0, 1, 2] rfl) hf
theorem d_V_size_0 : decode cc_V_size 0 = .ok (.aload_n 0, 1) := by decide +kernel
theorem d_V_size_1 : decode cc_V_size 1 = .ok (.iload_n 1, 1) := by decide +kernel
theorem d_V_size_2 : decode cc_V_size 2 = .ok (.invokevirtual 79, 3) := by decide +kernel
theorem d_V_size_5 : decode cc_V_size 5 = .ok (.astore 4, 2) := by decide +kernel
theorem d_V_size_7 : decode cc_V_size 7 = .ok (.iload_n 2, 1) := by decide +kernel
theorem d_V_size_8 : decode cc_V_size 8 = .ok (.invokestatic 132, 3) := by decide +kernel
theorem d_V_size_11 : decode cc_V_size 11 = .ok (.invokestatic 36, 3) := by decide +kernel
theorem d_V_size_14 : decode cc_V_size 14 = .ok (.aload_n 0, 1) := by decide +kernel
theorem d_V_size_15 : decode cc_V_size 15 = .ok (.iload_n 3, 1) := by decide +kernel
theorem d_V_size_16 : decode cc_V_size 16 = .ok (.invokevirtual 63, 3) := by decide +kernel
theorem d_V_size_19 : decode cc_V_size 19 = .ok (.astore 5, 2) := by decide +kernel
theorem d_V_size_21 : decode cc_V_size 21 = .ok (.aload 5, 2) := by decide +kernel
theorem d_V_size_23 : decode cc_V_size 23 = .ok (.getfield 144, 3) := by decide +kernel
theorem d_V_size_26 : decode cc_V_size 26 = .ok (.aload 4, 2) := by decide +kernel
theorem d_V_size_28 : decode cc_V_size 28 = .ok (.aload 5, 2) := by decide +kernel
theorem d_V_size_30 : decode cc_V_size 30 = .ok (.iload_n 2, 1) := by decide +kernel
theorem d_V_size_31 : decode cc_V_size 31 = .ok (.invokestatic 197, 3) := by decide +kernel
theorem d_V_size_34 : decode cc_V_size 34 = .ok (.invokevirtual 152, 3) := by decide +kernel
theorem d_V_size_37 : decode cc_V_size 37 = .ok (.ireturn, 1) := by decide +kernel
def f_V_size_0 (vn : Nat) (ars : Nat → jv_ar) (y0 : Int32) (y1 : Int32) (y2 : Int32) : Option (Nat ⊕ (Int32)) :=
  (f_V_areaOf vn ars y0).bind fun x1 => jv_se x1 fun v3 => if v3 < vn then ((f_P_isPath y1).bind fun x6 => (f_V_demand x6).bind fun x8 => jv_se x8 fun v10 => (f_V_areaNumbered vn y2).bind fun x12 => jv_se x12 fun v14 => if v14 < vn then ((f_V_readableFile ars v3 v14 y1).bind fun x17 => jv_se x17 fun v19 => (f_C_sizeOf ((ars v14).2.2.2.1) v19).bind fun x21 => some (Sum.inr x21)) else none) else none
set_option maxHeartbeats 4000000 in
set_option maxRecDepth 100000 in
theorem b_V_size_0 {l : Launch} {dC : Nat → ClassId} {dI : Nat → Nat → Nat} {cI cA cL : ClassId} {q_va q_aa q_cl q_fu : Nat} {Q : Nat → Nat → Nat} {vn : Nat} {vC : Nat → Int32} {vat : Int32} {ars : Nat → jv_ar} {p : Program} {e : Env} {s : State} {m : MethodId} {args : Array Value} {below : List Frame} {meth : Method} {c : Code} (cx : jv_cx p s m args meth c cc_V_size 6 R_Vault (some .int) ws_V_size) (hK : va_K (dC, dI) vwCl (jv_ty cI cA cL) s) (hP : va_P (dC, dI) vwCl (w_vault cI cA q_va q_aa q_cl q_fu Q vn vC vat ars) s.heap) (hl9 : l.stackTraces = false) (hT : jv_th s) (hout : c.exceptionTable.isEmpty = true) {r : Int32} {y0 : Int32} {y1 : Int32} {y2 : Int32} {ls : Array Slot} (hl : lv_has ls 6 [(0, .ref q_va), (1, .int y0), (2, .int y1), (3, .int y2)]) (hf : f_V_size_0 vn ars y0 y1 y2 = some (Sum.inr r)) : W p l e rm_V_size s m args below meth c s.heap [] 0 0 (MQ below (QcRead r) args s 0 0 (fun _ => False)) (F0 m 0 ls []) := by
  unfold f_V_size_0 at hf
  obtain ⟨hx, hb, hml, hown, hts, hr, hlocks⟩ := id cx
  refine lv_aload_n hx hb d_V_size_0 rfl (lv_at hl 0 rfl) ?_
  refine lv_iload_n hx hb d_V_size_1 rfl (lv_at hl 1 rfl) ?_
  obtain ⟨x1, g2, hf⟩ := jv_ob hf
  rcases x1 with k4 | v3
  · exact jv_ci hf
  have hf := jv_sr hf
  obtain ⟨hj5, hf⟩ := jv_gd hf
  refine jv_csr (W.runV (As := [.int y0]) (rest := []) (b := q_va) ⟨hx, hb, hml, hown, hts⟩ (c_V_areaOf l hl9 dC dI cI cA cL q_va q_aa q_cl q_fu Q vn vC vat ars y0 v3 g2) (jv_cwV hts wa_389 wa_303 wa_390 wa_391 wa_392 rfl rfl yd_V_areaOf ⟨Nat.le_of_ble_eq_true rfl, Nat.le_of_ble_eq_true rfl⟩) (jv_preVt hT hK hP 0 rfl rfl) rfl rfl hl.1 rfl (lv_room (Nat.le_of_ble_eq_true rfl)) d_V_size_2 ⟨Nat.zero_le _, Nat.zero_le _⟩) ?_
  refine lv_astore (lv' := [(4, .ref (Q v3 0)), (0, .ref q_va), (1, .int y0), (2, .int y1), (3, .int y2)]) hx hb d_V_size_5 hl (by decide) rfl (fun ls hl => ?_)
  refine lv_iload_n hx hb d_V_size_7 rfl (lv_at hl 3 rfl) ?_
  obtain ⟨x6, g7, hf⟩ := jv_ob hf
  refine jv_cs (W.runS (As := [.int y1]) (rest := []) ⟨hx, hb, hml, hown, hts⟩ (c_P_isPath l y1 x6 g7) (jv_cwS hts wa_14 wa_8 wa_416 wa_16 rfl rfl yd_P_isPath ⟨Nat.le_of_ble_eq_true rfl, Nat.le_of_ble_eq_true rfl⟩) jv_pre0 rfl rfl hl.1 rfl (lv_room (Nat.le_of_ble_eq_true rfl)) d_V_size_8 ⟨Nat.zero_le _, Nat.zero_le _⟩) ?_
  obtain ⟨x8, g9, hf⟩ := jv_ob hf
  rcases x8 with k11 | v10
  · exact jv_ci hf
  have hf := jv_sr hf
  refine jv_csv (W.runS (As := [.int x6]) (rest := []) ⟨hx, hb, hml, hown, hts⟩ (c_V_demand l hl9 x6 v10 g9) (jv_cwS hts wa_321 wa_303 wa_322 wa_323 rfl rfl yd_V_demand ⟨Nat.le_of_ble_eq_true rfl, Nat.le_of_ble_eq_true rfl⟩) (jv_pre0t hT) rfl rfl hl.1 rfl (lv_room (Nat.le_of_ble_eq_true rfl)) d_V_size_11 ⟨Nat.zero_le _, Nat.zero_le _⟩) ?_
  refine lv_aload_n hx hb d_V_size_14 rfl (lv_at hl 1 rfl) ?_
  refine lv_iload_n hx hb d_V_size_15 rfl (lv_at hl 4 rfl) ?_
  obtain ⟨x12, g13, hf⟩ := jv_ob hf
  rcases x12 with k15 | v14
  · exact jv_ci hf
  have hf := jv_sr hf
  obtain ⟨hj16, hf⟩ := jv_gd hf
  refine jv_csr (W.runV (As := [.int y2]) (rest := []) (b := q_va) ⟨hx, hb, hml, hown, hts⟩ (c_V_areaNumbered l hl9 dC dI cI cA cL q_va q_aa q_cl q_fu Q vn vC vat ars y2 v14 g13) (jv_cwV hts wa_378 wa_303 wa_379 wa_380 wa_381 rfl rfl yd_V_areaNumbered ⟨Nat.le_of_ble_eq_true rfl, Nat.le_of_ble_eq_true rfl⟩) (jv_preVt hT hK hP 0 rfl rfl) rfl rfl hl.1 rfl (lv_room (Nat.le_of_ble_eq_true rfl)) d_V_size_16 ⟨Nat.zero_le _, Nat.zero_le _⟩) ?_
  refine lv_astore (lv' := [(5, .ref (Q v14 0)), (4, .ref (Q v3 0)), (0, .ref q_va), (1, .int y0), (2, .int y1), (3, .int y2)]) hx hb d_V_size_19 hl (by decide) rfl (fun ls hl => ?_)
  refine lv_aload hx hb d_V_size_21 (lv_at hl 0 rfl) ?_
  refine va_get (D := (dC, dI)) (ci := kArea) (v := .ref (Q v14 7)) (C := R_Area) (T := T_Area) (N := 5) hx hb hts (fun w h => List.mem_cons_of_mem _ (in_Area w h)) hown hK (jv_open hP hj16) 1 rfl rfl 4 (by decide) (jv_w hts wa_421) (fun _ h9 => h9) rfl d_V_size_23 ?_
  refine lv_aload hx hb d_V_size_26 (lv_at hl 1 rfl) ?_
  refine lv_aload hx hb d_V_size_28 (lv_at hl 0 rfl) ?_
  refine lv_iload_n hx hb d_V_size_30 rfl (lv_at hl 4 rfl) ?_
  obtain ⟨x17, g18, hf⟩ := jv_ob hf
  rcases x17 with k20 | v19
  · exact jv_ci hf
  have hf := jv_sr hf
  refine jv_cs (W.runS (As := [.ref (Q v3 0), .ref (Q v14 0), .int y1]) (rest := [.ref (Q v14 7)]) ⟨hx, hb, hml, hown, hts⟩ (c_V_readableFile l hl9 dC dI cI cA cL q_va q_aa q_cl q_fu Q vn vC vat ars v3 v14 y1 hj5 hj16 v19 g18) (jv_cwS hts wa_450 wa_303 wa_451 wa_452 rfl rfl yd_V_readableFile ⟨Nat.le_of_ble_eq_true rfl, Nat.le_of_ble_eq_true rfl⟩) (jv_preSt hT hK hP) rfl rfl hl.1 rfl (lv_room (Nat.le_of_ble_eq_true rfl)) d_V_size_31 ⟨Nat.zero_le _, Nat.zero_le _⟩) ?_
  obtain ⟨x21, g22, hf⟩ := jv_ob hf
  have hPc := (jv_open hP hj16).sub (ws' := (w_cont cI (Q v14 7) (Q v14 2) (Q v14 3) (Q v14 4) (Q v14 5) ((ars v14).2.2.2.2.2.1) ((ars v14).2.2.2.2.2.2.1) ((ars v14).2.2.2.2.2.2.2) ((ars v14).2.2.1) ((ars v14).2.2.2.1) ((ars v14).2.2.2.2.1))) [8, 3, 4, 5, 6] rfl
  refine jv_cs (W.runV (As := [.int v19]) (rest := []) (b := (Q v14 7)) ⟨hx, hb, hml, hown, hts⟩ (c_C_sizeOf l dC dI cI cA cL (Q v14 7) (Q v14 2) (Q v14 3) (Q v14 4) (Q v14 5) ((ars v14).2.2.2.2.2.1) ((ars v14).2.2.2.2.2.2.1) ((ars v14).2.2.2.2.2.2.2) ((ars v14).2.2.1) ((ars v14).2.2.2.1) ((ars v14).2.2.2.2.1) v19 x21 g22) (jv_cwV hts wa_160 wa_129 wa_426 wa_162 wa_163 rfl rfl yd_C_sizeOf ⟨Nat.le_of_ble_eq_true rfl, Nat.le_of_ble_eq_true rfl⟩) (jv_preV hK hPc 0 rfl rfl) rfl rfl hl.1 rfl (lv_room (Nat.le_of_ble_eq_true rfl)) d_V_size_34 ⟨Nat.zero_le _, Nat.zero_le _⟩) ?_
  obtain rfl := Sum.inr.inj (Option.some.inj hf)
  exact W.iret hx hb hr (fun t ht hW => ⟨rfl, ht⟩) (fun q h => by cases h) d_V_size_37
def f_V_size (vn : Nat) (ars : Nat → jv_ar) (a0 : Int32) (a1 : Int32) (a2 : Int32) : Option (Nat ⊕ (Int32)) := f_V_size_0 vn ars a0 a1 a2
set_option maxHeartbeats 4000000 in
set_option maxRecDepth 100000 in
theorem c_V_size (l : Launch) (hl9 : l.stackTraces = false) (dC : Nat → ClassId) (dI : Nat → Nat → Nat) (cI cA cL : ClassId) (q_va q_aa q_cl q_fu : Nat) (Q : Nat → Nat → Nat) (vn : Nat) (vC : Nat → Int32) (vat : Int32) (ars : Nat → jv_ar) (a0 : Int32) (a1 : Int32) (a2 : Int32) (r : Int32) (hf : f_V_size vn ars a0 a1 a2 = some (Sum.inr r)) : Met l y_V_size ws_V_size rm_V_size (jv_Prt [.ref q_va, .int a0, .int a1, .int a2] (dC, dI) (jv_ty cI cA cL) (w_vault cI cA q_va q_aa q_cl q_fu Q vn vC vat ars)) (QcRead r) 0 0 (fun _ => False) := by
  refine Met.ofW (cc := cc_V_size) (maxL := 6) (ret := (some .int)) (by decide) rfl ?_
  intro p e s m args below meth c s₁ B hml hv
  obtain ⟨rfl, hP, hK, hT⟩ := hv
  have cx : jv_cx p s m _ meth c cc_V_size 6 R_Vault (some .int) ws_V_size := ⟨B.exec, B.bytes, hml, findClass_of_methodNamed B.named, atoms_spec (ws := ws_V_size) B.pre, B.returns, B.notSynchronized⟩
  have hout : c.exceptionTable.isEmpty = true := B.noHandlers (atoms_spec (ws := ws_V_size) B.pre _ List.mem_cons_self)
  have hl := lv_entry ([.ref q_va, .int a0, .int a1, .int a2]) (n := 6) (Nat.le_of_ble_eq_true rfl)
  rw [lg_entry_eq]
  generalize (lg_sl ([.ref q_va, .int a0, .int a1, .int a2]) ++ List.replicate (6 - (lg_sl ([.ref q_va, .int a0, .int a1, .int a2])).length) Slot.unset).toArray = ls at hl ⊢
  have hl : lv_has ls 6 [(0, .ref q_va), (1, .int a0), (2, .int a1), (3, .int a2)] := hl
  exact b_V_size_0 (y0 := a0) (y1 := a1) (y2 := a2) cx hK hP hl9 hT hout (lv_sub hl [0, 1, 2, 3] rfl) hf
set_option maxHeartbeats 4000000 in
set_option maxRecDepth 100000 in
theorem t_V_size_0 {l : Launch} {dC : Nat → ClassId} {dI : Nat → Nat → Nat} {cI cA cL : ClassId} {q_va q_aa q_cl q_fu : Nat} {Q : Nat → Nat → Nat} {vn : Nat} {vC : Nat → Int32} {vat : Int32} {ars : Nat → jv_ar} {p : Program} {e : Env} {s : State} {m : MethodId} {args : Array Value} {below : List Frame} {meth : Method} {c : Code} (cx : jv_cx p s m args meth c cc_V_size 6 R_Vault (some .int) ws_V_size) (hK : va_K (dC, dI) vwCl (jv_ty cI cA cL) s) (hP : va_P (dC, dI) vwCl (w_vault cI cA q_va q_aa q_cl q_fu Q vn vC vat ars) s.heap) (hl9 : l.stackTraces = false) (hT : jv_th s) (hout : c.exceptionTable.isEmpty = true) {kx : Nat} {y0 : Int32} {y1 : Int32} {y2 : Int32} {ls : Array Slot} (hl : lv_has ls 6 [(0, .ref q_va), (1, .int y0), (2, .int y1), (3, .int y2)]) (hf : f_V_size_0 vn ars y0 y1 y2 = some (Sum.inl kx)) : W p l e rx_V_size s m args below meth c s.heap [] 0 0 (jv_MQ below (jv_en kx) args s 1 6) (F0 m 0 ls []) := by
  unfold f_V_size_0 at hf
  obtain ⟨hx, hb, hml, hown, hts, hr, hlocks⟩ := id cx
  refine lv_aload_n hx hb d_V_size_0 rfl (lv_at hl 0 rfl) ?_
  refine lv_iload_n hx hb d_V_size_1 rfl (lv_at hl 1 rfl) ?_
  obtain ⟨x1, g2, hf⟩ := jv_ob hf
  rcases x1 with k4 | v3
  · rw [jv_sl hf] at g2
    exact jv_xV (cells := 0) (slots := 0) (As := [.int y0]) (rest := []) (b := q_va) ⟨hx, hb, hml, hown, hts⟩ (x_V_areaOf l hl9 dC dI cI cA cL q_va q_aa q_cl q_fu Q vn vC vat ars y0 kx g2) (jv_cwV hts wa_389 wa_303 wa_390 wa_391 wa_392 rfl rfl yd_V_areaOf ⟨Nat.le_of_ble_eq_true rfl, Nat.le_of_ble_eq_true rfl⟩) (jv_preVt hT hK hP 0 rfl rfl) rfl rfl hl.1 rfl (lv_room (Nat.le_of_ble_eq_true rfl)) d_V_size_2 ⟨Nat.le_of_ble_eq_true rfl, Nat.le_of_ble_eq_true rfl⟩ (fun x H1 hob => jv_leave hout hlocks hob)
  have hf := jv_sr hf
  obtain ⟨hj5, hf⟩ := jv_gd hf
  refine jv_csr (W.runV (As := [.int y0]) (rest := []) (b := q_va) ⟨hx, hb, hml, hown, hts⟩ (c_V_areaOf l hl9 dC dI cI cA cL q_va q_aa q_cl q_fu Q vn vC vat ars y0 v3 g2) (jv_cwV hts wa_389 wa_303 wa_390 wa_391 wa_392 rfl rfl yd_V_areaOf ⟨Nat.le_of_ble_eq_true rfl, Nat.le_of_ble_eq_true rfl⟩) (jv_preVt hT hK hP 0 rfl rfl) rfl rfl hl.1 rfl (lv_room (Nat.le_of_ble_eq_true rfl)) d_V_size_2 ⟨Nat.zero_le _, Nat.zero_le _⟩) ?_
  refine lv_astore (lv' := [(4, .ref (Q v3 0)), (0, .ref q_va), (1, .int y0), (2, .int y1), (3, .int y2)]) hx hb d_V_size_5 hl (by decide) rfl (fun ls hl => ?_)
  refine lv_iload_n hx hb d_V_size_7 rfl (lv_at hl 3 rfl) ?_
  obtain ⟨x6, g7, hf⟩ := jv_ob hf
  refine jv_cs (W.runS (As := [.int y1]) (rest := []) ⟨hx, hb, hml, hown, hts⟩ (c_P_isPath l y1 x6 g7) (jv_cwS hts wa_14 wa_8 wa_416 wa_16 rfl rfl yd_P_isPath ⟨Nat.le_of_ble_eq_true rfl, Nat.le_of_ble_eq_true rfl⟩) jv_pre0 rfl rfl hl.1 rfl (lv_room (Nat.le_of_ble_eq_true rfl)) d_V_size_8 ⟨Nat.zero_le _, Nat.zero_le _⟩) ?_
  obtain ⟨x8, g9, hf⟩ := jv_ob hf
  rcases x8 with k11 | v10
  · rw [jv_sl hf] at g9
    exact jv_xS (cells := 0) (slots := 0) (As := [.int x6]) (rest := []) ⟨hx, hb, hml, hown, hts⟩ (x_V_demand l hl9 x6 kx g9) (jv_cwS hts wa_321 wa_303 wa_322 wa_323 rfl rfl yd_V_demand ⟨Nat.le_of_ble_eq_true rfl, Nat.le_of_ble_eq_true rfl⟩) (jv_pre0t hT) rfl rfl hl.1 rfl (lv_room (Nat.le_of_ble_eq_true rfl)) d_V_size_11 ⟨Nat.le_of_ble_eq_true rfl, Nat.le_of_ble_eq_true rfl⟩ (fun x H1 hob => jv_leave hout hlocks hob)
  have hf := jv_sr hf
  refine jv_csv (W.runS (As := [.int x6]) (rest := []) ⟨hx, hb, hml, hown, hts⟩ (c_V_demand l hl9 x6 v10 g9) (jv_cwS hts wa_321 wa_303 wa_322 wa_323 rfl rfl yd_V_demand ⟨Nat.le_of_ble_eq_true rfl, Nat.le_of_ble_eq_true rfl⟩) (jv_pre0t hT) rfl rfl hl.1 rfl (lv_room (Nat.le_of_ble_eq_true rfl)) d_V_size_11 ⟨Nat.zero_le _, Nat.zero_le _⟩) ?_
  refine lv_aload_n hx hb d_V_size_14 rfl (lv_at hl 1 rfl) ?_
  refine lv_iload_n hx hb d_V_size_15 rfl (lv_at hl 4 rfl) ?_
  obtain ⟨x12, g13, hf⟩ := jv_ob hf
  rcases x12 with k15 | v14
  · rw [jv_sl hf] at g13
    exact jv_xV (cells := 0) (slots := 0) (As := [.int y2]) (rest := []) (b := q_va) ⟨hx, hb, hml, hown, hts⟩ (x_V_areaNumbered l hl9 dC dI cI cA cL q_va q_aa q_cl q_fu Q vn vC vat ars y2 kx g13) (jv_cwV hts wa_378 wa_303 wa_379 wa_380 wa_381 rfl rfl yd_V_areaNumbered ⟨Nat.le_of_ble_eq_true rfl, Nat.le_of_ble_eq_true rfl⟩) (jv_preVt hT hK hP 0 rfl rfl) rfl rfl hl.1 rfl (lv_room (Nat.le_of_ble_eq_true rfl)) d_V_size_16 ⟨Nat.le_of_ble_eq_true rfl, Nat.le_of_ble_eq_true rfl⟩ (fun x H1 hob => jv_leave hout hlocks hob)
  have hf := jv_sr hf
  obtain ⟨hj16, hf⟩ := jv_gd hf
  refine jv_csr (W.runV (As := [.int y2]) (rest := []) (b := q_va) ⟨hx, hb, hml, hown, hts⟩ (c_V_areaNumbered l hl9 dC dI cI cA cL q_va q_aa q_cl q_fu Q vn vC vat ars y2 v14 g13) (jv_cwV hts wa_378 wa_303 wa_379 wa_380 wa_381 rfl rfl yd_V_areaNumbered ⟨Nat.le_of_ble_eq_true rfl, Nat.le_of_ble_eq_true rfl⟩) (jv_preVt hT hK hP 0 rfl rfl) rfl rfl hl.1 rfl (lv_room (Nat.le_of_ble_eq_true rfl)) d_V_size_16 ⟨Nat.zero_le _, Nat.zero_le _⟩) ?_
  refine lv_astore (lv' := [(5, .ref (Q v14 0)), (4, .ref (Q v3 0)), (0, .ref q_va), (1, .int y0), (2, .int y1), (3, .int y2)]) hx hb d_V_size_19 hl (by decide) rfl (fun ls hl => ?_)
  refine lv_aload hx hb d_V_size_21 (lv_at hl 0 rfl) ?_
  refine va_get (D := (dC, dI)) (ci := kArea) (v := .ref (Q v14 7)) (C := R_Area) (T := T_Area) (N := 5) hx hb hts (fun w h => List.mem_cons_of_mem _ (in_Area w h)) hown hK (jv_open hP hj16) 1 rfl rfl 4 (by decide) (jv_w hts wa_421) (fun _ h9 => h9) rfl d_V_size_23 ?_
  refine lv_aload hx hb d_V_size_26 (lv_at hl 1 rfl) ?_
  refine lv_aload hx hb d_V_size_28 (lv_at hl 0 rfl) ?_
  refine lv_iload_n hx hb d_V_size_30 rfl (lv_at hl 4 rfl) ?_
  obtain ⟨x17, g18, hf⟩ := jv_ob hf
  rcases x17 with k20 | v19
  · rw [jv_sl hf] at g18
    exact jv_xS (cells := 0) (slots := 0) (As := [.ref (Q v3 0), .ref (Q v14 0), .int y1]) (rest := [.ref (Q v14 7)]) ⟨hx, hb, hml, hown, hts⟩ (x_V_readableFile l hl9 dC dI cI cA cL q_va q_aa q_cl q_fu Q vn vC vat ars v3 v14 y1 hj5 hj16 kx g18) (jv_cwS hts wa_450 wa_303 wa_451 wa_452 rfl rfl yd_V_readableFile ⟨Nat.le_of_ble_eq_true rfl, Nat.le_of_ble_eq_true rfl⟩) (jv_preSt hT hK hP) rfl rfl hl.1 rfl (lv_room (Nat.le_of_ble_eq_true rfl)) d_V_size_31 ⟨Nat.le_of_ble_eq_true rfl, Nat.le_of_ble_eq_true rfl⟩ (fun x H1 hob => jv_leave hout hlocks hob)
  have hf := jv_sr hf
  refine jv_cs (W.runS (As := [.ref (Q v3 0), .ref (Q v14 0), .int y1]) (rest := [.ref (Q v14 7)]) ⟨hx, hb, hml, hown, hts⟩ (c_V_readableFile l hl9 dC dI cI cA cL q_va q_aa q_cl q_fu Q vn vC vat ars v3 v14 y1 hj5 hj16 v19 g18) (jv_cwS hts wa_450 wa_303 wa_451 wa_452 rfl rfl yd_V_readableFile ⟨Nat.le_of_ble_eq_true rfl, Nat.le_of_ble_eq_true rfl⟩) (jv_preSt hT hK hP) rfl rfl hl.1 rfl (lv_room (Nat.le_of_ble_eq_true rfl)) d_V_size_31 ⟨Nat.zero_le _, Nat.zero_le _⟩) ?_
  obtain ⟨x21, g22, hf⟩ := jv_ob hf
  have hPc := (jv_open hP hj16).sub (ws' := (w_cont cI (Q v14 7) (Q v14 2) (Q v14 3) (Q v14 4) (Q v14 5) ((ars v14).2.2.2.2.2.1) ((ars v14).2.2.2.2.2.2.1) ((ars v14).2.2.2.2.2.2.2) ((ars v14).2.2.1) ((ars v14).2.2.2.1) ((ars v14).2.2.2.2.1))) [8, 3, 4, 5, 6] rfl
  refine jv_cs (W.runV (As := [.int v19]) (rest := []) (b := (Q v14 7)) ⟨hx, hb, hml, hown, hts⟩ (c_C_sizeOf l dC dI cI cA cL (Q v14 7) (Q v14 2) (Q v14 3) (Q v14 4) (Q v14 5) ((ars v14).2.2.2.2.2.1) ((ars v14).2.2.2.2.2.2.1) ((ars v14).2.2.2.2.2.2.2) ((ars v14).2.2.1) ((ars v14).2.2.2.1) ((ars v14).2.2.2.2.1) v19 x21 g22) (jv_cwV hts wa_160 wa_129 wa_426 wa_162 wa_163 rfl rfl yd_C_sizeOf ⟨Nat.le_of_ble_eq_true rfl, Nat.le_of_ble_eq_true rfl⟩) (jv_preV hK hPc 0 rfl rfl) rfl rfl hl.1 rfl (lv_room (Nat.le_of_ble_eq_true rfl)) d_V_size_34 ⟨Nat.zero_le _, Nat.zero_le _⟩) ?_
  cases Option.some.inj hf
set_option maxHeartbeats 4000000 in
set_option maxRecDepth 100000 in
theorem x_V_size (l : Launch) (hl9 : l.stackTraces = false) (dC : Nat → ClassId) (dI : Nat → Nat → Nat) (cI cA cL : ClassId) (q_va q_aa q_cl q_fu : Nat) (Q : Nat → Nat → Nat) (vn : Nat) (vC : Nat → Int32) (vat : Int32) (ars : Nat → jv_ar) (a0 : Int32) (a1 : Int32) (a2 : Int32) (kx : Nat) (hf : f_V_size vn ars a0 a1 a2 = some (Sum.inl kx)) : jv_MX l y_V_size ws_V_size rx_V_size (jv_Prt [.ref q_va, .int a0, .int a1, .int a2] (dC, dI) (jv_ty cI cA cL) (w_vault cI cA q_va q_aa q_cl q_fu Q vn vC vat ars)) (jv_en kx) 1 6 := by
  refine jv_MX.ofW (cc := cc_V_size) (maxL := 6) (ret := (some .int)) (by decide) rfl ?_
  intro p e s m args below meth c s₁ B hml hv
  obtain ⟨rfl, hP, hK, hT⟩ := hv
  have cx : jv_cx p s m _ meth c cc_V_size 6 R_Vault (some .int) ws_V_size := ⟨B.exec, B.bytes, hml, findClass_of_methodNamed B.named, atoms_spec (ws := ws_V_size) B.pre, B.returns, B.notSynchronized⟩
  have hout : c.exceptionTable.isEmpty = true := B.noHandlers (atoms_spec (ws := ws_V_size) B.pre _ List.mem_cons_self)
  have hl := lv_entry ([.ref q_va, .int a0, .int a1, .int a2]) (n := 6) (Nat.le_of_ble_eq_true rfl)
  rw [lg_entry_eq]
  generalize (lg_sl ([.ref q_va, .int a0, .int a1, .int a2]) ++ List.replicate (6 - (lg_sl ([.ref q_va, .int a0, .int a1, .int a2])).length) Slot.unset).toArray = ls at hl ⊢
  have hl : lv_has ls 6 [(0, .ref q_va), (1, .int a0), (2, .int a1), (3, .int a2)] := hl
  exact t_V_size_0 (y0 := a0) (y1 := a1) (y2 := a2) cx hK hP hl9 hT hout (lv_sub hl [0, 1, 2, 3] rfl) hf
theorem d_V_disk_0 : decode cc_V_disk 0 = .ok (.aload_n 0, 1) := by decide +kernel
theorem d_V_disk_1 : decode cc_V_disk 1 = .ok (.iload_n 1, 1) := by decide +kernel
theorem d_V_disk_2 : decode cc_V_disk 2 = .ok (.invokevirtual 63, 3) := by decide +kernel
theorem d_V_disk_5 : decode cc_V_disk 5 = .ok (.astore 4, 2) := by decide +kernel
theorem d_V_disk_7 : decode cc_V_disk 7 = .ok (.iload_n 2, 1) := by decide +kernel
theorem d_V_disk_8 : decode cc_V_disk 8 = .ok (.ifCond .lt 23, 3) := by decide +kernel
theorem d_V_disk_31 : decode cc_V_disk 31 = .ok (.iconst 0, 1) := by decide +kernel
theorem d_V_disk_32 : decode cc_V_disk 32 = .ok (.invokestatic 36, 3) := by decide +kernel
theorem d_V_disk_35 : decode cc_V_disk 35 = .ok (.aload 4, 2) := by decide +kernel
theorem d_V_disk_37 : decode cc_V_disk 37 = .ok (.getfield 226, 3) := by decide +kernel
theorem d_V_disk_40 : decode cc_V_disk 40 = .ok (.iload_n 2, 1) := by decide +kernel
theorem d_V_disk_41 : decode cc_V_disk 41 = .ok (.iload_n 3, 1) := by decide +kernel
theorem d_V_disk_42 : decode cc_V_disk 42 = .ok (.invokevirtual 230, 3) := by decide +kernel
theorem d_V_disk_45 : decode cc_V_disk 45 = .ok (.ireturn, 1) := by decide +kernel
theorem d_V_disk_11 : decode cc_V_disk 11 = .ok (.iload_n 2, 1) := by decide +kernel
theorem d_V_disk_12 : decode cc_V_disk 12 = .ok (.bipush 29, 2) := by decide +kernel
theorem d_V_disk_14 : decode cc_V_disk 14 = .ok (.if_icmp .ge 17, 3) := by decide +kernel
theorem d_V_disk_17 : decode cc_V_disk 17 = .ok (.iload_n 3, 1) := by decide +kernel
theorem d_V_disk_18 : decode cc_V_disk 18 = .ok (.ifCond .lt 13, 3) := by decide +kernel
theorem d_V_disk_21 : decode cc_V_disk 21 = .ok (.iload_n 3, 1) := by decide +kernel
theorem d_V_disk_22 : decode cc_V_disk 22 = .ok (.bipush 8, 2) := by decide +kernel
theorem d_V_disk_24 : decode cc_V_disk 24 = .ok (.if_icmp .ge 7, 3) := by decide +kernel
theorem d_V_disk_27 : decode cc_V_disk 27 = .ok (.iconst 1, 1) := by decide +kernel
theorem d_V_disk_28 : decode cc_V_disk 28 = .ok (.goto 4, 3) := by decide +kernel
def f_V_disk_0 (vn : Nat) (ars : Nat → jv_ar) (y0 : Int32) (y1 : Int32) (y2 : Int32) : Option (Nat ⊕ (Int32)) :=
  (f_V_areaNumbered vn y0).bind fun x1 => jv_se x1 fun v3 => if v3 < vn then (if y1 < 0 then ((f_V_demand (0 : Int32)).bind fun x6 => jv_se x6 fun v8 => (f_D_wordInPlace ((ars v3).2.2.1) y1 y2).bind fun x10 => some (Sum.inr x10)) else (if (29 : Int32) ≤ y1 then ((f_V_demand (0 : Int32)).bind fun x12 => jv_se x12 fun v14 => (f_D_wordInPlace ((ars v3).2.2.1) y1 y2).bind fun x16 => some (Sum.inr x16)) else (if y2 < 0 then ((f_V_demand (0 : Int32)).bind fun x18 => jv_se x18 fun v20 => (f_D_wordInPlace ((ars v3).2.2.1) y1 y2).bind fun x22 => some (Sum.inr x22)) else (if (8 : Int32) ≤ y2 then ((f_V_demand (0 : Int32)).bind fun x24 => jv_se x24 fun v26 => (f_D_wordInPlace ((ars v3).2.2.1) y1 y2).bind fun x28 => some (Sum.inr x28)) else ((f_V_demand (1 : Int32)).bind fun x30 => jv_se x30 fun v32 => (f_D_wordInPlace ((ars v3).2.2.1) y1 y2).bind fun x34 => some (Sum.inr x34)))))) else none
set_option maxHeartbeats 4000000 in
set_option maxRecDepth 100000 in
theorem b_V_disk_0 {l : Launch} {dC : Nat → ClassId} {dI : Nat → Nat → Nat} {cI cA cL : ClassId} {q_va q_aa q_cl q_fu : Nat} {Q : Nat → Nat → Nat} {vn : Nat} {vC : Nat → Int32} {vat : Int32} {ars : Nat → jv_ar} {p : Program} {e : Env} {s : State} {m : MethodId} {args : Array Value} {below : List Frame} {meth : Method} {c : Code} (cx : jv_cx p s m args meth c cc_V_disk 5 R_Vault (some .int) ws_V_disk) (hK : va_K (dC, dI) vwCl (jv_ty cI cA cL) s) (hP : va_P (dC, dI) vwCl (w_vault cI cA q_va q_aa q_cl q_fu Q vn vC vat ars) s.heap) (hl9 : l.stackTraces = false) (hT : jv_th s) (hout : c.exceptionTable.isEmpty = true) {r : Int32} {y0 : Int32} {y1 : Int32} {y2 : Int32} {ls : Array Slot} (hl : lv_has ls 5 [(0, .ref q_va), (1, .int y0), (2, .int y1), (3, .int y2)]) (hf : f_V_disk_0 vn ars y0 y1 y2 = some (Sum.inr r)) : W p l e rm_V_disk s m args below meth c s.heap [] 0 0 (MQ below (QcRead r) args s 0 0 (fun _ => False)) (F0 m 0 ls []) := by
  unfold f_V_disk_0 at hf
  obtain ⟨hx, hb, hml, hown, hts, hr, hlocks⟩ := id cx
  refine lv_aload_n hx hb d_V_disk_0 rfl (lv_at hl 0 rfl) ?_
  refine lv_iload_n hx hb d_V_disk_1 rfl (lv_at hl 1 rfl) ?_
  obtain ⟨x1, g2, hf⟩ := jv_ob hf
  rcases x1 with k4 | v3
  · exact jv_ci hf
  have hf := jv_sr hf
  obtain ⟨hj5, hf⟩ := jv_gd hf
  refine jv_csr (W.runV (As := [.int y0]) (rest := []) (b := q_va) ⟨hx, hb, hml, hown, hts⟩ (c_V_areaNumbered l hl9 dC dI cI cA cL q_va q_aa q_cl q_fu Q vn vC vat ars y0 v3 g2) (jv_cwV hts wa_378 wa_303 wa_379 wa_380 wa_381 rfl rfl yd_V_areaNumbered ⟨Nat.le_of_ble_eq_true rfl, Nat.le_of_ble_eq_true rfl⟩) (jv_preVt hT hK hP 0 rfl rfl) rfl rfl hl.1 rfl (lv_room (Nat.le_of_ble_eq_true rfl)) d_V_disk_2 ⟨Nat.zero_le _, Nat.zero_le _⟩) ?_
  refine lv_astore (lv' := [(4, .ref (Q v3 0)), (0, .ref q_va), (1, .int y0), (2, .int y1), (3, .int y2)]) hx hb d_V_disk_5 hl (by decide) rfl (fun ls hl => ?_)
  refine lv_iload_n hx hb d_V_disk_7 rfl (lv_at hl 3 rfl) ?_
  refine lv_if_lt (tgt := 31) hx hb d_V_disk_8 (by decide) (fun hc => ?_) (fun hc => ?_)
  · have hf := jv_it hf hc
    refine lv_iconst (v := (0 : Int32)) hx hb d_V_disk_31 (by decide) ?_
    obtain ⟨x6, g7, hf⟩ := jv_ob hf
    rcases x6 with k9 | v8
    · exact jv_ci hf
    have hf := jv_sr hf
    refine jv_csv (W.runS (As := [.int (0 : Int32)]) (rest := []) ⟨hx, hb, hml, hown, hts⟩ (c_V_demand l hl9 (0 : Int32) v8 g7) (jv_cwS hts wa_321 wa_303 wa_322 wa_323 rfl rfl yd_V_demand ⟨Nat.le_of_ble_eq_true rfl, Nat.le_of_ble_eq_true rfl⟩) (jv_pre0t hT) rfl rfl hl.1 rfl (lv_room (Nat.le_of_ble_eq_true rfl)) d_V_disk_32 ⟨Nat.zero_le _, Nat.zero_le _⟩) ?_
    refine lv_aload hx hb d_V_disk_35 (lv_at hl 0 rfl) ?_
    refine va_get (D := (dC, dI)) (ci := kArea) (v := .ref (Q v3 2)) (C := R_Area) (T := T_Area) (N := 5) hx hb hts (fun w h => List.mem_cons_of_mem _ (in_Area w h)) hown hK (jv_open hP hj5) 1 rfl rfl 2 (by decide) (jv_w hts wa_346) (fun _ h9 => h9) rfl d_V_disk_37 ?_
    refine lv_iload_n hx hb d_V_disk_40 rfl (lv_at hl 3 rfl) ?_
    refine lv_iload_n hx hb d_V_disk_41 rfl (lv_at hl 4 rfl) ?_
    obtain ⟨x10, g11, hf⟩ := jv_ob hf
    have hPc := (jv_open hP hj5).sub (ws' := (w_disk cI (Q v3 2) (Q v3 3) (Q v3 4) (Q v3 5) ((ars v3).2.2.2.2.2.1) ((ars v3).2.2.2.2.2.2.1) ((ars v3).2.2.2.2.2.2.2) ((ars v3).2.2.1) ((ars v3).2.2.2.1) ((ars v3).2.2.2.2.1))) [3, 4, 5, 6] rfl
    refine jv_cs (W.runV (As := [.int y1, .int y2]) (rest := []) (b := (Q v3 2)) ⟨hx, hb, hml, hown, hts⟩ (c_D_wordInPlace l dC dI cI cA cL (Q v3 2) (Q v3 3) (Q v3 4) (Q v3 5) ((ars v3).2.2.2.2.2.1) ((ars v3).2.2.2.2.2.2.1) ((ars v3).2.2.2.2.2.2.2) ((ars v3).2.2.1) ((ars v3).2.2.2.1) ((ars v3).2.2.2.2.1) y1 y2 x10 g11) (jv_cwV hts wa_464 wa_29 wa_465 wa_466 wa_467 rfl rfl yd_D_wordInPlace ⟨Nat.le_of_ble_eq_true rfl, Nat.le_of_ble_eq_true rfl⟩) (jv_preV hK hPc 0 rfl rfl) rfl rfl hl.1 rfl (lv_room (Nat.le_of_ble_eq_true rfl)) d_V_disk_42 ⟨Nat.zero_le _, Nat.zero_le _⟩) ?_
    obtain rfl := Sum.inr.inj (Option.some.inj hf)
    exact W.iret hx hb hr (fun t ht hW => ⟨rfl, ht⟩) (fun q h => by cases h) d_V_disk_45
  · have hf := jv_if hf hc
    refine lv_iload_n hx hb d_V_disk_11 rfl (lv_at hl 3 rfl) ?_
    refine lv_bipush (v := (29 : Int32)) hx hb d_V_disk_12 (by decide) ?_
    refine lv_icmp_ge (tgt := 31) hx hb d_V_disk_14 (by decide) (fun hc => ?_) (fun hc => ?_)
    · have hf := jv_it hf hc
      refine lv_iconst (v := (0 : Int32)) hx hb d_V_disk_31 (by decide) ?_
      obtain ⟨x12, g13, hf⟩ := jv_ob hf
      rcases x12 with k15 | v14
      · exact jv_ci hf
      have hf := jv_sr hf
      refine jv_csv (W.runS (As := [.int (0 : Int32)]) (rest := []) ⟨hx, hb, hml, hown, hts⟩ (c_V_demand l hl9 (0 : Int32) v14 g13) (jv_cwS hts wa_321 wa_303 wa_322 wa_323 rfl rfl yd_V_demand ⟨Nat.le_of_ble_eq_true rfl, Nat.le_of_ble_eq_true rfl⟩) (jv_pre0t hT) rfl rfl hl.1 rfl (lv_room (Nat.le_of_ble_eq_true rfl)) d_V_disk_32 ⟨Nat.zero_le _, Nat.zero_le _⟩) ?_
      refine lv_aload hx hb d_V_disk_35 (lv_at hl 0 rfl) ?_
      refine va_get (D := (dC, dI)) (ci := kArea) (v := .ref (Q v3 2)) (C := R_Area) (T := T_Area) (N := 5) hx hb hts (fun w h => List.mem_cons_of_mem _ (in_Area w h)) hown hK (jv_open hP hj5) 1 rfl rfl 2 (by decide) (jv_w hts wa_346) (fun _ h9 => h9) rfl d_V_disk_37 ?_
      refine lv_iload_n hx hb d_V_disk_40 rfl (lv_at hl 3 rfl) ?_
      refine lv_iload_n hx hb d_V_disk_41 rfl (lv_at hl 4 rfl) ?_
      obtain ⟨x16, g17, hf⟩ := jv_ob hf
      have hPc := (jv_open hP hj5).sub (ws' := (w_disk cI (Q v3 2) (Q v3 3) (Q v3 4) (Q v3 5) ((ars v3).2.2.2.2.2.1) ((ars v3).2.2.2.2.2.2.1) ((ars v3).2.2.2.2.2.2.2) ((ars v3).2.2.1) ((ars v3).2.2.2.1) ((ars v3).2.2.2.2.1))) [3, 4, 5, 6] rfl
      refine jv_cs (W.runV (As := [.int y1, .int y2]) (rest := []) (b := (Q v3 2)) ⟨hx, hb, hml, hown, hts⟩ (c_D_wordInPlace l dC dI cI cA cL (Q v3 2) (Q v3 3) (Q v3 4) (Q v3 5) ((ars v3).2.2.2.2.2.1) ((ars v3).2.2.2.2.2.2.1) ((ars v3).2.2.2.2.2.2.2) ((ars v3).2.2.1) ((ars v3).2.2.2.1) ((ars v3).2.2.2.2.1) y1 y2 x16 g17) (jv_cwV hts wa_464 wa_29 wa_465 wa_466 wa_467 rfl rfl yd_D_wordInPlace ⟨Nat.le_of_ble_eq_true rfl, Nat.le_of_ble_eq_true rfl⟩) (jv_preV hK hPc 0 rfl rfl) rfl rfl hl.1 rfl (lv_room (Nat.le_of_ble_eq_true rfl)) d_V_disk_42 ⟨Nat.zero_le _, Nat.zero_le _⟩) ?_
      obtain rfl := Sum.inr.inj (Option.some.inj hf)
      exact W.iret hx hb hr (fun t ht hW => ⟨rfl, ht⟩) (fun q h => by cases h) d_V_disk_45
    · have hf := jv_if hf hc
      refine lv_iload_n hx hb d_V_disk_17 rfl (lv_at hl 4 rfl) ?_
      refine lv_if_lt (tgt := 31) hx hb d_V_disk_18 (by decide) (fun hc => ?_) (fun hc => ?_)
      · have hf := jv_it hf hc
        refine lv_iconst (v := (0 : Int32)) hx hb d_V_disk_31 (by decide) ?_
        obtain ⟨x18, g19, hf⟩ := jv_ob hf
        rcases x18 with k21 | v20
        · exact jv_ci hf
        have hf := jv_sr hf
        refine jv_csv (W.runS (As := [.int (0 : Int32)]) (rest := []) ⟨hx, hb, hml, hown, hts⟩ (c_V_demand l hl9 (0 : Int32) v20 g19) (jv_cwS hts wa_321 wa_303 wa_322 wa_323 rfl rfl yd_V_demand ⟨Nat.le_of_ble_eq_true rfl, Nat.le_of_ble_eq_true rfl⟩) (jv_pre0t hT) rfl rfl hl.1 rfl (lv_room (Nat.le_of_ble_eq_true rfl)) d_V_disk_32 ⟨Nat.zero_le _, Nat.zero_le _⟩) ?_
        refine lv_aload hx hb d_V_disk_35 (lv_at hl 0 rfl) ?_
        refine va_get (D := (dC, dI)) (ci := kArea) (v := .ref (Q v3 2)) (C := R_Area) (T := T_Area) (N := 5) hx hb hts (fun w h => List.mem_cons_of_mem _ (in_Area w h)) hown hK (jv_open hP hj5) 1 rfl rfl 2 (by decide) (jv_w hts wa_346) (fun _ h9 => h9) rfl d_V_disk_37 ?_
        refine lv_iload_n hx hb d_V_disk_40 rfl (lv_at hl 3 rfl) ?_
        refine lv_iload_n hx hb d_V_disk_41 rfl (lv_at hl 4 rfl) ?_
        obtain ⟨x22, g23, hf⟩ := jv_ob hf
        have hPc := (jv_open hP hj5).sub (ws' := (w_disk cI (Q v3 2) (Q v3 3) (Q v3 4) (Q v3 5) ((ars v3).2.2.2.2.2.1) ((ars v3).2.2.2.2.2.2.1) ((ars v3).2.2.2.2.2.2.2) ((ars v3).2.2.1) ((ars v3).2.2.2.1) ((ars v3).2.2.2.2.1))) [3, 4, 5, 6] rfl
        refine jv_cs (W.runV (As := [.int y1, .int y2]) (rest := []) (b := (Q v3 2)) ⟨hx, hb, hml, hown, hts⟩ (c_D_wordInPlace l dC dI cI cA cL (Q v3 2) (Q v3 3) (Q v3 4) (Q v3 5) ((ars v3).2.2.2.2.2.1) ((ars v3).2.2.2.2.2.2.1) ((ars v3).2.2.2.2.2.2.2) ((ars v3).2.2.1) ((ars v3).2.2.2.1) ((ars v3).2.2.2.2.1) y1 y2 x22 g23) (jv_cwV hts wa_464 wa_29 wa_465 wa_466 wa_467 rfl rfl yd_D_wordInPlace ⟨Nat.le_of_ble_eq_true rfl, Nat.le_of_ble_eq_true rfl⟩) (jv_preV hK hPc 0 rfl rfl) rfl rfl hl.1 rfl (lv_room (Nat.le_of_ble_eq_true rfl)) d_V_disk_42 ⟨Nat.zero_le _, Nat.zero_le _⟩) ?_
        obtain rfl := Sum.inr.inj (Option.some.inj hf)
        exact W.iret hx hb hr (fun t ht hW => ⟨rfl, ht⟩) (fun q h => by cases h) d_V_disk_45
      · have hf := jv_if hf hc
        refine lv_iload_n hx hb d_V_disk_21 rfl (lv_at hl 4 rfl) ?_
        refine lv_bipush (v := (8 : Int32)) hx hb d_V_disk_22 (by decide) ?_
        refine lv_icmp_ge (tgt := 31) hx hb d_V_disk_24 (by decide) (fun hc => ?_) (fun hc => ?_)
        · have hf := jv_it hf hc
          refine lv_iconst (v := (0 : Int32)) hx hb d_V_disk_31 (by decide) ?_
          obtain ⟨x24, g25, hf⟩ := jv_ob hf
          rcases x24 with k27 | v26
          · exact jv_ci hf
          have hf := jv_sr hf
          refine jv_csv (W.runS (As := [.int (0 : Int32)]) (rest := []) ⟨hx, hb, hml, hown, hts⟩ (c_V_demand l hl9 (0 : Int32) v26 g25) (jv_cwS hts wa_321 wa_303 wa_322 wa_323 rfl rfl yd_V_demand ⟨Nat.le_of_ble_eq_true rfl, Nat.le_of_ble_eq_true rfl⟩) (jv_pre0t hT) rfl rfl hl.1 rfl (lv_room (Nat.le_of_ble_eq_true rfl)) d_V_disk_32 ⟨Nat.zero_le _, Nat.zero_le _⟩) ?_
          refine lv_aload hx hb d_V_disk_35 (lv_at hl 0 rfl) ?_
          refine va_get (D := (dC, dI)) (ci := kArea) (v := .ref (Q v3 2)) (C := R_Area) (T := T_Area) (N := 5) hx hb hts (fun w h => List.mem_cons_of_mem _ (in_Area w h)) hown hK (jv_open hP hj5) 1 rfl rfl 2 (by decide) (jv_w hts wa_346) (fun _ h9 => h9) rfl d_V_disk_37 ?_
          refine lv_iload_n hx hb d_V_disk_40 rfl (lv_at hl 3 rfl) ?_
          refine lv_iload_n hx hb d_V_disk_41 rfl (lv_at hl 4 rfl) ?_
          obtain ⟨x28, g29, hf⟩ := jv_ob hf
          have hPc := (jv_open hP hj5).sub (ws' := (w_disk cI (Q v3 2) (Q v3 3) (Q v3 4) (Q v3 5) ((ars v3).2.2.2.2.2.1) ((ars v3).2.2.2.2.2.2.1) ((ars v3).2.2.2.2.2.2.2) ((ars v3).2.2.1) ((ars v3).2.2.2.1) ((ars v3).2.2.2.2.1))) [3, 4, 5, 6] rfl
          refine jv_cs (W.runV (As := [.int y1, .int y2]) (rest := []) (b := (Q v3 2)) ⟨hx, hb, hml, hown, hts⟩ (c_D_wordInPlace l dC dI cI cA cL (Q v3 2) (Q v3 3) (Q v3 4) (Q v3 5) ((ars v3).2.2.2.2.2.1) ((ars v3).2.2.2.2.2.2.1) ((ars v3).2.2.2.2.2.2.2) ((ars v3).2.2.1) ((ars v3).2.2.2.1) ((ars v3).2.2.2.2.1) y1 y2 x28 g29) (jv_cwV hts wa_464 wa_29 wa_465 wa_466 wa_467 rfl rfl yd_D_wordInPlace ⟨Nat.le_of_ble_eq_true rfl, Nat.le_of_ble_eq_true rfl⟩) (jv_preV hK hPc 0 rfl rfl) rfl rfl hl.1 rfl (lv_room (Nat.le_of_ble_eq_true rfl)) d_V_disk_42 ⟨Nat.zero_le _, Nat.zero_le _⟩) ?_
          obtain rfl := Sum.inr.inj (Option.some.inj hf)
          exact W.iret hx hb hr (fun t ht hW => ⟨rfl, ht⟩) (fun q h => by cases h) d_V_disk_45
        · have hf := jv_if hf hc
          refine lv_iconst (v := (1 : Int32)) hx hb d_V_disk_27 (by decide) ?_
          refine lv_goto (tgt := 32) hx hb d_V_disk_28 (by decide) ?_
          obtain ⟨x30, g31, hf⟩ := jv_ob hf
          rcases x30 with k33 | v32
          · exact jv_ci hf
          have hf := jv_sr hf
          refine jv_csv (W.runS (As := [.int (1 : Int32)]) (rest := []) ⟨hx, hb, hml, hown, hts⟩ (c_V_demand l hl9 (1 : Int32) v32 g31) (jv_cwS hts wa_321 wa_303 wa_322 wa_323 rfl rfl yd_V_demand ⟨Nat.le_of_ble_eq_true rfl, Nat.le_of_ble_eq_true rfl⟩) (jv_pre0t hT) rfl rfl hl.1 rfl (lv_room (Nat.le_of_ble_eq_true rfl)) d_V_disk_32 ⟨Nat.zero_le _, Nat.zero_le _⟩) ?_
          refine lv_aload hx hb d_V_disk_35 (lv_at hl 0 rfl) ?_
          refine va_get (D := (dC, dI)) (ci := kArea) (v := .ref (Q v3 2)) (C := R_Area) (T := T_Area) (N := 5) hx hb hts (fun w h => List.mem_cons_of_mem _ (in_Area w h)) hown hK (jv_open hP hj5) 1 rfl rfl 2 (by decide) (jv_w hts wa_346) (fun _ h9 => h9) rfl d_V_disk_37 ?_
          refine lv_iload_n hx hb d_V_disk_40 rfl (lv_at hl 3 rfl) ?_
          refine lv_iload_n hx hb d_V_disk_41 rfl (lv_at hl 4 rfl) ?_
          obtain ⟨x34, g35, hf⟩ := jv_ob hf
          have hPc := (jv_open hP hj5).sub (ws' := (w_disk cI (Q v3 2) (Q v3 3) (Q v3 4) (Q v3 5) ((ars v3).2.2.2.2.2.1) ((ars v3).2.2.2.2.2.2.1) ((ars v3).2.2.2.2.2.2.2) ((ars v3).2.2.1) ((ars v3).2.2.2.1) ((ars v3).2.2.2.2.1))) [3, 4, 5, 6] rfl
          refine jv_cs (W.runV (As := [.int y1, .int y2]) (rest := []) (b := (Q v3 2)) ⟨hx, hb, hml, hown, hts⟩ (c_D_wordInPlace l dC dI cI cA cL (Q v3 2) (Q v3 3) (Q v3 4) (Q v3 5) ((ars v3).2.2.2.2.2.1) ((ars v3).2.2.2.2.2.2.1) ((ars v3).2.2.2.2.2.2.2) ((ars v3).2.2.1) ((ars v3).2.2.2.1) ((ars v3).2.2.2.2.1) y1 y2 x34 g35) (jv_cwV hts wa_464 wa_29 wa_465 wa_466 wa_467 rfl rfl yd_D_wordInPlace ⟨Nat.le_of_ble_eq_true rfl, Nat.le_of_ble_eq_true rfl⟩) (jv_preV hK hPc 0 rfl rfl) rfl rfl hl.1 rfl (lv_room (Nat.le_of_ble_eq_true rfl)) d_V_disk_42 ⟨Nat.zero_le _, Nat.zero_le _⟩) ?_
          obtain rfl := Sum.inr.inj (Option.some.inj hf)
          exact W.iret hx hb hr (fun t ht hW => ⟨rfl, ht⟩) (fun q h => by cases h) d_V_disk_45
def f_V_disk (vn : Nat) (ars : Nat → jv_ar) (a0 : Int32) (a1 : Int32) (a2 : Int32) : Option (Nat ⊕ (Int32)) := f_V_disk_0 vn ars a0 a1 a2
set_option maxHeartbeats 4000000 in
set_option maxRecDepth 100000 in
theorem c_V_disk (l : Launch) (hl9 : l.stackTraces = false) (dC : Nat → ClassId) (dI : Nat → Nat → Nat) (cI cA cL : ClassId) (q_va q_aa q_cl q_fu : Nat) (Q : Nat → Nat → Nat) (vn : Nat) (vC : Nat → Int32) (vat : Int32) (ars : Nat → jv_ar) (a0 : Int32) (a1 : Int32) (a2 : Int32) (r : Int32) (hf : f_V_disk vn ars a0 a1 a2 = some (Sum.inr r)) : Met l y_V_disk ws_V_disk rm_V_disk (jv_Prt [.ref q_va, .int a0, .int a1, .int a2] (dC, dI) (jv_ty cI cA cL) (w_vault cI cA q_va q_aa q_cl q_fu Q vn vC vat ars)) (QcRead r) 0 0 (fun _ => False) := by
  refine Met.ofW (cc := cc_V_disk) (maxL := 5) (ret := (some .int)) (by decide) rfl ?_
  intro p e s m args below meth c s₁ B hml hv
  obtain ⟨rfl, hP, hK, hT⟩ := hv
  have cx : jv_cx p s m _ meth c cc_V_disk 5 R_Vault (some .int) ws_V_disk := ⟨B.exec, B.bytes, hml, findClass_of_methodNamed B.named, atoms_spec (ws := ws_V_disk) B.pre, B.returns, B.notSynchronized⟩
  have hout : c.exceptionTable.isEmpty = true := B.noHandlers (atoms_spec (ws := ws_V_disk) B.pre _ List.mem_cons_self)
  have hl := lv_entry ([.ref q_va, .int a0, .int a1, .int a2]) (n := 5) (Nat.le_of_ble_eq_true rfl)
  rw [lg_entry_eq]
  generalize (lg_sl ([.ref q_va, .int a0, .int a1, .int a2]) ++ List.replicate (5 - (lg_sl ([.ref q_va, .int a0, .int a1, .int a2])).length) Slot.unset).toArray = ls at hl ⊢
  have hl : lv_has ls 5 [(0, .ref q_va), (1, .int a0), (2, .int a1), (3, .int a2)] := hl
  exact b_V_disk_0 (y0 := a0) (y1 := a1) (y2 := a2) cx hK hP hl9 hT hout (lv_sub hl [0, 1, 2, 3] rfl) hf
set_option maxHeartbeats 4000000 in
set_option maxRecDepth 100000 in
theorem t_V_disk_0 {l : Launch} {dC : Nat → ClassId} {dI : Nat → Nat → Nat} {cI cA cL : ClassId} {q_va q_aa q_cl q_fu : Nat} {Q : Nat → Nat → Nat} {vn : Nat} {vC : Nat → Int32} {vat : Int32} {ars : Nat → jv_ar} {p : Program} {e : Env} {s : State} {m : MethodId} {args : Array Value} {below : List Frame} {meth : Method} {c : Code} (cx : jv_cx p s m args meth c cc_V_disk 5 R_Vault (some .int) ws_V_disk) (hK : va_K (dC, dI) vwCl (jv_ty cI cA cL) s) (hP : va_P (dC, dI) vwCl (w_vault cI cA q_va q_aa q_cl q_fu Q vn vC vat ars) s.heap) (hl9 : l.stackTraces = false) (hT : jv_th s) (hout : c.exceptionTable.isEmpty = true) {kx : Nat} {y0 : Int32} {y1 : Int32} {y2 : Int32} {ls : Array Slot} (hl : lv_has ls 5 [(0, .ref q_va), (1, .int y0), (2, .int y1), (3, .int y2)]) (hf : f_V_disk_0 vn ars y0 y1 y2 = some (Sum.inl kx)) : W p l e rx_V_disk s m args below meth c s.heap [] 0 0 (jv_MQ below (jv_en kx) args s 1 6) (F0 m 0 ls []) := by
  unfold f_V_disk_0 at hf
  obtain ⟨hx, hb, hml, hown, hts, hr, hlocks⟩ := id cx
  refine lv_aload_n hx hb d_V_disk_0 rfl (lv_at hl 0 rfl) ?_
  refine lv_iload_n hx hb d_V_disk_1 rfl (lv_at hl 1 rfl) ?_
  obtain ⟨x1, g2, hf⟩ := jv_ob hf
  rcases x1 with k4 | v3
  · rw [jv_sl hf] at g2
    exact jv_xV (cells := 0) (slots := 0) (As := [.int y0]) (rest := []) (b := q_va) ⟨hx, hb, hml, hown, hts⟩ (x_V_areaNumbered l hl9 dC dI cI cA cL q_va q_aa q_cl q_fu Q vn vC vat ars y0 kx g2) (jv_cwV hts wa_378 wa_303 wa_379 wa_380 wa_381 rfl rfl yd_V_areaNumbered ⟨Nat.le_of_ble_eq_true rfl, Nat.le_of_ble_eq_true rfl⟩) (jv_preVt hT hK hP 0 rfl rfl) rfl rfl hl.1 rfl (lv_room (Nat.le_of_ble_eq_true rfl)) d_V_disk_2 ⟨Nat.le_of_ble_eq_true rfl, Nat.le_of_ble_eq_true rfl⟩ (fun x H1 hob => jv_leave hout hlocks hob)
  have hf := jv_sr hf
  obtain ⟨hj5, hf⟩ := jv_gd hf
  refine jv_csr (W.runV (As := [.int y0]) (rest := []) (b := q_va) ⟨hx, hb, hml, hown, hts⟩ (c_V_areaNumbered l hl9 dC dI cI cA cL q_va q_aa q_cl q_fu Q vn vC vat ars y0 v3 g2) (jv_cwV hts wa_378 wa_303 wa_379 wa_380 wa_381 rfl rfl yd_V_areaNumbered ⟨Nat.le_of_ble_eq_true rfl, Nat.le_of_ble_eq_true rfl⟩) (jv_preVt hT hK hP 0 rfl rfl) rfl rfl hl.1 rfl (lv_room (Nat.le_of_ble_eq_true rfl)) d_V_disk_2 ⟨Nat.zero_le _, Nat.zero_le _⟩) ?_
  refine lv_astore (lv' := [(4, .ref (Q v3 0)), (0, .ref q_va), (1, .int y0), (2, .int y1), (3, .int y2)]) hx hb d_V_disk_5 hl (by decide) rfl (fun ls hl => ?_)
  refine lv_iload_n hx hb d_V_disk_7 rfl (lv_at hl 3 rfl) ?_
  refine lv_if_lt (tgt := 31) hx hb d_V_disk_8 (by decide) (fun hc => ?_) (fun hc => ?_)
  · have hf := jv_it hf hc
    refine lv_iconst (v := (0 : Int32)) hx hb d_V_disk_31 (by decide) ?_
    obtain ⟨x6, g7, hf⟩ := jv_ob hf
    rcases x6 with k9 | v8
    · rw [jv_sl hf] at g7
      exact jv_xS (cells := 0) (slots := 0) (As := [.int (0 : Int32)]) (rest := []) ⟨hx, hb, hml, hown, hts⟩ (x_V_demand l hl9 (0 : Int32) kx g7) (jv_cwS hts wa_321 wa_303 wa_322 wa_323 rfl rfl yd_V_demand ⟨Nat.le_of_ble_eq_true rfl, Nat.le_of_ble_eq_true rfl⟩) (jv_pre0t hT) rfl rfl hl.1 rfl (lv_room (Nat.le_of_ble_eq_true rfl)) d_V_disk_32 ⟨Nat.le_of_ble_eq_true rfl, Nat.le_of_ble_eq_true rfl⟩ (fun x H1 hob => jv_leave hout hlocks hob)
    have hf := jv_sr hf
    refine jv_csv (W.runS (As := [.int (0 : Int32)]) (rest := []) ⟨hx, hb, hml, hown, hts⟩ (c_V_demand l hl9 (0 : Int32) v8 g7) (jv_cwS hts wa_321 wa_303 wa_322 wa_323 rfl rfl yd_V_demand ⟨Nat.le_of_ble_eq_true rfl, Nat.le_of_ble_eq_true rfl⟩) (jv_pre0t hT) rfl rfl hl.1 rfl (lv_room (Nat.le_of_ble_eq_true rfl)) d_V_disk_32 ⟨Nat.zero_le _, Nat.zero_le _⟩) ?_
    refine lv_aload hx hb d_V_disk_35 (lv_at hl 0 rfl) ?_
    refine va_get (D := (dC, dI)) (ci := kArea) (v := .ref (Q v3 2)) (C := R_Area) (T := T_Area) (N := 5) hx hb hts (fun w h => List.mem_cons_of_mem _ (in_Area w h)) hown hK (jv_open hP hj5) 1 rfl rfl 2 (by decide) (jv_w hts wa_346) (fun _ h9 => h9) rfl d_V_disk_37 ?_
    refine lv_iload_n hx hb d_V_disk_40 rfl (lv_at hl 3 rfl) ?_
    refine lv_iload_n hx hb d_V_disk_41 rfl (lv_at hl 4 rfl) ?_
    obtain ⟨x10, g11, hf⟩ := jv_ob hf
    have hPc := (jv_open hP hj5).sub (ws' := (w_disk cI (Q v3 2) (Q v3 3) (Q v3 4) (Q v3 5) ((ars v3).2.2.2.2.2.1) ((ars v3).2.2.2.2.2.2.1) ((ars v3).2.2.2.2.2.2.2) ((ars v3).2.2.1) ((ars v3).2.2.2.1) ((ars v3).2.2.2.2.1))) [3, 4, 5, 6] rfl
    refine jv_cs (W.runV (As := [.int y1, .int y2]) (rest := []) (b := (Q v3 2)) ⟨hx, hb, hml, hown, hts⟩ (c_D_wordInPlace l dC dI cI cA cL (Q v3 2) (Q v3 3) (Q v3 4) (Q v3 5) ((ars v3).2.2.2.2.2.1) ((ars v3).2.2.2.2.2.2.1) ((ars v3).2.2.2.2.2.2.2) ((ars v3).2.2.1) ((ars v3).2.2.2.1) ((ars v3).2.2.2.2.1) y1 y2 x10 g11) (jv_cwV hts wa_464 wa_29 wa_465 wa_466 wa_467 rfl rfl yd_D_wordInPlace ⟨Nat.le_of_ble_eq_true rfl, Nat.le_of_ble_eq_true rfl⟩) (jv_preV hK hPc 0 rfl rfl) rfl rfl hl.1 rfl (lv_room (Nat.le_of_ble_eq_true rfl)) d_V_disk_42 ⟨Nat.zero_le _, Nat.zero_le _⟩) ?_
    cases Option.some.inj hf
  · have hf := jv_if hf hc
    refine lv_iload_n hx hb d_V_disk_11 rfl (lv_at hl 3 rfl) ?_
    refine lv_bipush (v := (29 : Int32)) hx hb d_V_disk_12 (by decide) ?_
    refine lv_icmp_ge (tgt := 31) hx hb d_V_disk_14 (by decide) (fun hc => ?_) (fun hc => ?_)
    · have hf := jv_it hf hc
      refine lv_iconst (v := (0 : Int32)) hx hb d_V_disk_31 (by decide) ?_
      obtain ⟨x12, g13, hf⟩ := jv_ob hf
      rcases x12 with k15 | v14
      · rw [jv_sl hf] at g13
        exact jv_xS (cells := 0) (slots := 0) (As := [.int (0 : Int32)]) (rest := []) ⟨hx, hb, hml, hown, hts⟩ (x_V_demand l hl9 (0 : Int32) kx g13) (jv_cwS hts wa_321 wa_303 wa_322 wa_323 rfl rfl yd_V_demand ⟨Nat.le_of_ble_eq_true rfl, Nat.le_of_ble_eq_true rfl⟩) (jv_pre0t hT) rfl rfl hl.1 rfl (lv_room (Nat.le_of_ble_eq_true rfl)) d_V_disk_32 ⟨Nat.le_of_ble_eq_true rfl, Nat.le_of_ble_eq_true rfl⟩ (fun x H1 hob => jv_leave hout hlocks hob)
      have hf := jv_sr hf
      refine jv_csv (W.runS (As := [.int (0 : Int32)]) (rest := []) ⟨hx, hb, hml, hown, hts⟩ (c_V_demand l hl9 (0 : Int32) v14 g13) (jv_cwS hts wa_321 wa_303 wa_322 wa_323 rfl rfl yd_V_demand ⟨Nat.le_of_ble_eq_true rfl, Nat.le_of_ble_eq_true rfl⟩) (jv_pre0t hT) rfl rfl hl.1 rfl (lv_room (Nat.le_of_ble_eq_true rfl)) d_V_disk_32 ⟨Nat.zero_le _, Nat.zero_le _⟩) ?_
      refine lv_aload hx hb d_V_disk_35 (lv_at hl 0 rfl) ?_
      refine va_get (D := (dC, dI)) (ci := kArea) (v := .ref (Q v3 2)) (C := R_Area) (T := T_Area) (N := 5) hx hb hts (fun w h => List.mem_cons_of_mem _ (in_Area w h)) hown hK (jv_open hP hj5) 1 rfl rfl 2 (by decide) (jv_w hts wa_346) (fun _ h9 => h9) rfl d_V_disk_37 ?_
      refine lv_iload_n hx hb d_V_disk_40 rfl (lv_at hl 3 rfl) ?_
      refine lv_iload_n hx hb d_V_disk_41 rfl (lv_at hl 4 rfl) ?_
      obtain ⟨x16, g17, hf⟩ := jv_ob hf
      have hPc := (jv_open hP hj5).sub (ws' := (w_disk cI (Q v3 2) (Q v3 3) (Q v3 4) (Q v3 5) ((ars v3).2.2.2.2.2.1) ((ars v3).2.2.2.2.2.2.1) ((ars v3).2.2.2.2.2.2.2) ((ars v3).2.2.1) ((ars v3).2.2.2.1) ((ars v3).2.2.2.2.1))) [3, 4, 5, 6] rfl
      refine jv_cs (W.runV (As := [.int y1, .int y2]) (rest := []) (b := (Q v3 2)) ⟨hx, hb, hml, hown, hts⟩ (c_D_wordInPlace l dC dI cI cA cL (Q v3 2) (Q v3 3) (Q v3 4) (Q v3 5) ((ars v3).2.2.2.2.2.1) ((ars v3).2.2.2.2.2.2.1) ((ars v3).2.2.2.2.2.2.2) ((ars v3).2.2.1) ((ars v3).2.2.2.1) ((ars v3).2.2.2.2.1) y1 y2 x16 g17) (jv_cwV hts wa_464 wa_29 wa_465 wa_466 wa_467 rfl rfl yd_D_wordInPlace ⟨Nat.le_of_ble_eq_true rfl, Nat.le_of_ble_eq_true rfl⟩) (jv_preV hK hPc 0 rfl rfl) rfl rfl hl.1 rfl (lv_room (Nat.le_of_ble_eq_true rfl)) d_V_disk_42 ⟨Nat.zero_le _, Nat.zero_le _⟩) ?_
      cases Option.some.inj hf
    · have hf := jv_if hf hc
      refine lv_iload_n hx hb d_V_disk_17 rfl (lv_at hl 4 rfl) ?_
      refine lv_if_lt (tgt := 31) hx hb d_V_disk_18 (by decide) (fun hc => ?_) (fun hc => ?_)
      · have hf := jv_it hf hc
        refine lv_iconst (v := (0 : Int32)) hx hb d_V_disk_31 (by decide) ?_
        obtain ⟨x18, g19, hf⟩ := jv_ob hf
        rcases x18 with k21 | v20
        · rw [jv_sl hf] at g19
          exact jv_xS (cells := 0) (slots := 0) (As := [.int (0 : Int32)]) (rest := []) ⟨hx, hb, hml, hown, hts⟩ (x_V_demand l hl9 (0 : Int32) kx g19) (jv_cwS hts wa_321 wa_303 wa_322 wa_323 rfl rfl yd_V_demand ⟨Nat.le_of_ble_eq_true rfl, Nat.le_of_ble_eq_true rfl⟩) (jv_pre0t hT) rfl rfl hl.1 rfl (lv_room (Nat.le_of_ble_eq_true rfl)) d_V_disk_32 ⟨Nat.le_of_ble_eq_true rfl, Nat.le_of_ble_eq_true rfl⟩ (fun x H1 hob => jv_leave hout hlocks hob)
        have hf := jv_sr hf
        refine jv_csv (W.runS (As := [.int (0 : Int32)]) (rest := []) ⟨hx, hb, hml, hown, hts⟩ (c_V_demand l hl9 (0 : Int32) v20 g19) (jv_cwS hts wa_321 wa_303 wa_322 wa_323 rfl rfl yd_V_demand ⟨Nat.le_of_ble_eq_true rfl, Nat.le_of_ble_eq_true rfl⟩) (jv_pre0t hT) rfl rfl hl.1 rfl (lv_room (Nat.le_of_ble_eq_true rfl)) d_V_disk_32 ⟨Nat.zero_le _, Nat.zero_le _⟩) ?_
        refine lv_aload hx hb d_V_disk_35 (lv_at hl 0 rfl) ?_
        refine va_get (D := (dC, dI)) (ci := kArea) (v := .ref (Q v3 2)) (C := R_Area) (T := T_Area) (N := 5) hx hb hts (fun w h => List.mem_cons_of_mem _ (in_Area w h)) hown hK (jv_open hP hj5) 1 rfl rfl 2 (by decide) (jv_w hts wa_346) (fun _ h9 => h9) rfl d_V_disk_37 ?_
        refine lv_iload_n hx hb d_V_disk_40 rfl (lv_at hl 3 rfl) ?_
        refine lv_iload_n hx hb d_V_disk_41 rfl (lv_at hl 4 rfl) ?_
        obtain ⟨x22, g23, hf⟩ := jv_ob hf
        have hPc := (jv_open hP hj5).sub (ws' := (w_disk cI (Q v3 2) (Q v3 3) (Q v3 4) (Q v3 5) ((ars v3).2.2.2.2.2.1) ((ars v3).2.2.2.2.2.2.1) ((ars v3).2.2.2.2.2.2.2) ((ars v3).2.2.1) ((ars v3).2.2.2.1) ((ars v3).2.2.2.2.1))) [3, 4, 5, 6] rfl
        refine jv_cs (W.runV (As := [.int y1, .int y2]) (rest := []) (b := (Q v3 2)) ⟨hx, hb, hml, hown, hts⟩ (c_D_wordInPlace l dC dI cI cA cL (Q v3 2) (Q v3 3) (Q v3 4) (Q v3 5) ((ars v3).2.2.2.2.2.1) ((ars v3).2.2.2.2.2.2.1) ((ars v3).2.2.2.2.2.2.2) ((ars v3).2.2.1) ((ars v3).2.2.2.1) ((ars v3).2.2.2.2.1) y1 y2 x22 g23) (jv_cwV hts wa_464 wa_29 wa_465 wa_466 wa_467 rfl rfl yd_D_wordInPlace ⟨Nat.le_of_ble_eq_true rfl, Nat.le_of_ble_eq_true rfl⟩) (jv_preV hK hPc 0 rfl rfl) rfl rfl hl.1 rfl (lv_room (Nat.le_of_ble_eq_true rfl)) d_V_disk_42 ⟨Nat.zero_le _, Nat.zero_le _⟩) ?_
        cases Option.some.inj hf
      · have hf := jv_if hf hc
        refine lv_iload_n hx hb d_V_disk_21 rfl (lv_at hl 4 rfl) ?_
        refine lv_bipush (v := (8 : Int32)) hx hb d_V_disk_22 (by decide) ?_
        refine lv_icmp_ge (tgt := 31) hx hb d_V_disk_24 (by decide) (fun hc => ?_) (fun hc => ?_)
        · have hf := jv_it hf hc
          refine lv_iconst (v := (0 : Int32)) hx hb d_V_disk_31 (by decide) ?_
          obtain ⟨x24, g25, hf⟩ := jv_ob hf
          rcases x24 with k27 | v26
          · rw [jv_sl hf] at g25
            exact jv_xS (cells := 0) (slots := 0) (As := [.int (0 : Int32)]) (rest := []) ⟨hx, hb, hml, hown, hts⟩ (x_V_demand l hl9 (0 : Int32) kx g25) (jv_cwS hts wa_321 wa_303 wa_322 wa_323 rfl rfl yd_V_demand ⟨Nat.le_of_ble_eq_true rfl, Nat.le_of_ble_eq_true rfl⟩) (jv_pre0t hT) rfl rfl hl.1 rfl (lv_room (Nat.le_of_ble_eq_true rfl)) d_V_disk_32 ⟨Nat.le_of_ble_eq_true rfl, Nat.le_of_ble_eq_true rfl⟩ (fun x H1 hob => jv_leave hout hlocks hob)
          have hf := jv_sr hf
          refine jv_csv (W.runS (As := [.int (0 : Int32)]) (rest := []) ⟨hx, hb, hml, hown, hts⟩ (c_V_demand l hl9 (0 : Int32) v26 g25) (jv_cwS hts wa_321 wa_303 wa_322 wa_323 rfl rfl yd_V_demand ⟨Nat.le_of_ble_eq_true rfl, Nat.le_of_ble_eq_true rfl⟩) (jv_pre0t hT) rfl rfl hl.1 rfl (lv_room (Nat.le_of_ble_eq_true rfl)) d_V_disk_32 ⟨Nat.zero_le _, Nat.zero_le _⟩) ?_
          refine lv_aload hx hb d_V_disk_35 (lv_at hl 0 rfl) ?_
          refine va_get (D := (dC, dI)) (ci := kArea) (v := .ref (Q v3 2)) (C := R_Area) (T := T_Area) (N := 5) hx hb hts (fun w h => List.mem_cons_of_mem _ (in_Area w h)) hown hK (jv_open hP hj5) 1 rfl rfl 2 (by decide) (jv_w hts wa_346) (fun _ h9 => h9) rfl d_V_disk_37 ?_
          refine lv_iload_n hx hb d_V_disk_40 rfl (lv_at hl 3 rfl) ?_
          refine lv_iload_n hx hb d_V_disk_41 rfl (lv_at hl 4 rfl) ?_
          obtain ⟨x28, g29, hf⟩ := jv_ob hf
          have hPc := (jv_open hP hj5).sub (ws' := (w_disk cI (Q v3 2) (Q v3 3) (Q v3 4) (Q v3 5) ((ars v3).2.2.2.2.2.1) ((ars v3).2.2.2.2.2.2.1) ((ars v3).2.2.2.2.2.2.2) ((ars v3).2.2.1) ((ars v3).2.2.2.1) ((ars v3).2.2.2.2.1))) [3, 4, 5, 6] rfl
          refine jv_cs (W.runV (As := [.int y1, .int y2]) (rest := []) (b := (Q v3 2)) ⟨hx, hb, hml, hown, hts⟩ (c_D_wordInPlace l dC dI cI cA cL (Q v3 2) (Q v3 3) (Q v3 4) (Q v3 5) ((ars v3).2.2.2.2.2.1) ((ars v3).2.2.2.2.2.2.1) ((ars v3).2.2.2.2.2.2.2) ((ars v3).2.2.1) ((ars v3).2.2.2.1) ((ars v3).2.2.2.2.1) y1 y2 x28 g29) (jv_cwV hts wa_464 wa_29 wa_465 wa_466 wa_467 rfl rfl yd_D_wordInPlace ⟨Nat.le_of_ble_eq_true rfl, Nat.le_of_ble_eq_true rfl⟩) (jv_preV hK hPc 0 rfl rfl) rfl rfl hl.1 rfl (lv_room (Nat.le_of_ble_eq_true rfl)) d_V_disk_42 ⟨Nat.zero_le _, Nat.zero_le _⟩) ?_
          cases Option.some.inj hf
        · have hf := jv_if hf hc
          refine lv_iconst (v := (1 : Int32)) hx hb d_V_disk_27 (by decide) ?_
          refine lv_goto (tgt := 32) hx hb d_V_disk_28 (by decide) ?_
          obtain ⟨x30, g31, hf⟩ := jv_ob hf
          rcases x30 with k33 | v32
          · rw [jv_sl hf] at g31
            exact jv_xS (cells := 0) (slots := 0) (As := [.int (1 : Int32)]) (rest := []) ⟨hx, hb, hml, hown, hts⟩ (x_V_demand l hl9 (1 : Int32) kx g31) (jv_cwS hts wa_321 wa_303 wa_322 wa_323 rfl rfl yd_V_demand ⟨Nat.le_of_ble_eq_true rfl, Nat.le_of_ble_eq_true rfl⟩) (jv_pre0t hT) rfl rfl hl.1 rfl (lv_room (Nat.le_of_ble_eq_true rfl)) d_V_disk_32 ⟨Nat.le_of_ble_eq_true rfl, Nat.le_of_ble_eq_true rfl⟩ (fun x H1 hob => jv_leave hout hlocks hob)
          have hf := jv_sr hf
          refine jv_csv (W.runS (As := [.int (1 : Int32)]) (rest := []) ⟨hx, hb, hml, hown, hts⟩ (c_V_demand l hl9 (1 : Int32) v32 g31) (jv_cwS hts wa_321 wa_303 wa_322 wa_323 rfl rfl yd_V_demand ⟨Nat.le_of_ble_eq_true rfl, Nat.le_of_ble_eq_true rfl⟩) (jv_pre0t hT) rfl rfl hl.1 rfl (lv_room (Nat.le_of_ble_eq_true rfl)) d_V_disk_32 ⟨Nat.zero_le _, Nat.zero_le _⟩) ?_
          refine lv_aload hx hb d_V_disk_35 (lv_at hl 0 rfl) ?_
          refine va_get (D := (dC, dI)) (ci := kArea) (v := .ref (Q v3 2)) (C := R_Area) (T := T_Area) (N := 5) hx hb hts (fun w h => List.mem_cons_of_mem _ (in_Area w h)) hown hK (jv_open hP hj5) 1 rfl rfl 2 (by decide) (jv_w hts wa_346) (fun _ h9 => h9) rfl d_V_disk_37 ?_
          refine lv_iload_n hx hb d_V_disk_40 rfl (lv_at hl 3 rfl) ?_
          refine lv_iload_n hx hb d_V_disk_41 rfl (lv_at hl 4 rfl) ?_
          obtain ⟨x34, g35, hf⟩ := jv_ob hf
          have hPc := (jv_open hP hj5).sub (ws' := (w_disk cI (Q v3 2) (Q v3 3) (Q v3 4) (Q v3 5) ((ars v3).2.2.2.2.2.1) ((ars v3).2.2.2.2.2.2.1) ((ars v3).2.2.2.2.2.2.2) ((ars v3).2.2.1) ((ars v3).2.2.2.1) ((ars v3).2.2.2.2.1))) [3, 4, 5, 6] rfl
          refine jv_cs (W.runV (As := [.int y1, .int y2]) (rest := []) (b := (Q v3 2)) ⟨hx, hb, hml, hown, hts⟩ (c_D_wordInPlace l dC dI cI cA cL (Q v3 2) (Q v3 3) (Q v3 4) (Q v3 5) ((ars v3).2.2.2.2.2.1) ((ars v3).2.2.2.2.2.2.1) ((ars v3).2.2.2.2.2.2.2) ((ars v3).2.2.1) ((ars v3).2.2.2.1) ((ars v3).2.2.2.2.1) y1 y2 x34 g35) (jv_cwV hts wa_464 wa_29 wa_465 wa_466 wa_467 rfl rfl yd_D_wordInPlace ⟨Nat.le_of_ble_eq_true rfl, Nat.le_of_ble_eq_true rfl⟩) (jv_preV hK hPc 0 rfl rfl) rfl rfl hl.1 rfl (lv_room (Nat.le_of_ble_eq_true rfl)) d_V_disk_42 ⟨Nat.zero_le _, Nat.zero_le _⟩) ?_
          cases Option.some.inj hf
set_option maxHeartbeats 4000000 in
set_option maxRecDepth 100000 in
theorem x_V_disk (l : Launch) (hl9 : l.stackTraces = false) (dC : Nat → ClassId) (dI : Nat → Nat → Nat) (cI cA cL : ClassId) (q_va q_aa q_cl q_fu : Nat) (Q : Nat → Nat → Nat) (vn : Nat) (vC : Nat → Int32) (vat : Int32) (ars : Nat → jv_ar) (a0 : Int32) (a1 : Int32) (a2 : Int32) (kx : Nat) (hf : f_V_disk vn ars a0 a1 a2 = some (Sum.inl kx)) : jv_MX l y_V_disk ws_V_disk rx_V_disk (jv_Prt [.ref q_va, .int a0, .int a1, .int a2] (dC, dI) (jv_ty cI cA cL) (w_vault cI cA q_va q_aa q_cl q_fu Q vn vC vat ars)) (jv_en kx) 1 6 := by
  refine jv_MX.ofW (cc := cc_V_disk) (maxL := 5) (ret := (some .int)) (by decide) rfl ?_
  intro p e s m args below meth c s₁ B hml hv
  obtain ⟨rfl, hP, hK, hT⟩ := hv
  have cx : jv_cx p s m _ meth c cc_V_disk 5 R_Vault (some .int) ws_V_disk := ⟨B.exec, B.bytes, hml, findClass_of_methodNamed B.named, atoms_spec (ws := ws_V_disk) B.pre, B.returns, B.notSynchronized⟩
  have hout : c.exceptionTable.isEmpty = true := B.noHandlers (atoms_spec (ws := ws_V_disk) B.pre _ List.mem_cons_self)
  have hl := lv_entry ([.ref q_va, .int a0, .int a1, .int a2]) (n := 5) (Nat.le_of_ble_eq_true rfl)
  rw [lg_entry_eq]
  generalize (lg_sl ([.ref q_va, .int a0, .int a1, .int a2]) ++ List.replicate (5 - (lg_sl ([.ref q_va, .int a0, .int a1, .int a2])).length) Slot.unset).toArray = ls at hl ⊢
  have hl : lv_has ls 5 [(0, .ref q_va), (1, .int a0), (2, .int a1), (3, .int a2)] := hl
  exact t_V_disk_0 (y0 := a0) (y1 := a1) (y2 := a2) cx hK hP hl9 hT hout (lv_sub hl [0, 1, 2, 3] rfl) hf
theorem d_V_crash_0 : decode cc_V_crash 0 = .ok (.aload_n 0, 1) := by decide +kernel
theorem d_V_crash_1 : decode cc_V_crash 1 = .ok (.invokevirtual 219, 3) := by decide +kernel
theorem d_V_crash_4 : decode cc_V_crash 4 = .ok (.ireturn, 1) := by decide +kernel
def f_V_crash_0 (vn : Nat) (y0 : Int32) (y1 : Nat → jv_ar) : Option (Int32 × Int32 × (Nat → jv_ar)) :=
  (f_V_breakDown vn y0 y1).bind fun x1 => some (x1.1, x1.2.1, x1.2.2)
set_option maxHeartbeats 4000000 in
set_option maxRecDepth 100000 in
theorem b_V_crash_0 {l : Launch} {dC : Nat → ClassId} {dI : Nat → Nat → Nat} {cI cA cL : ClassId} {q_va q_aa q_cl q_fu : Nat} {Q : Nat → Nat → Nat} {vn : Nat} {vC : Nat → Int32} {p : Program} {e : Env} {s : State} {m : MethodId} {args : Array Value} {below : List Frame} {meth : Method} {c : Code} (cx : jv_cx p s m args meth c cc_V_crash 1 R_Vault (some .int) ws_V_crash) (hK : va_K (dC, dI) vwCl (jv_ty cI cA cL) s) {A : Nat → Prop} (hA : ∀ q : Nat, s.heap.size ≤ q → A q) {r : Int32 × Int32 × (Nat → jv_ar)} {y0 : Int32} {y1 : Nat → jv_ar} {ls : Array Slot} (hl : lv_has ls 1 [(0, .ref q_va)]) {H : Heap} {locs : List Loc} (hP : va_P (dC, dI) vwCl (w_vault cI cA q_va q_aa q_cl q_fu Q vn vC y0 y1) H) (hD : va_D A (w_vault cI cA q_va q_aa q_cl q_fu Q vn vC y0 y1)) (hS : va_S A s.heap H locs) (hf : f_V_crash_0 vn y0 y1 = some r) : W p l e rm_V_crash s m args below meth c H locs 0 0 (MQ below (jv_Qi r.1 (dC, dI) (w_vault cI cA q_va q_aa q_cl q_fu Q vn vC r.2.1 r.2.2) A) args s 0 0 A) (F0 m 0 ls []) := by
  unfold f_V_crash_0 at hf
  obtain ⟨hx, hb, hml, hown, hts, hr, hlocks⟩ := id cx
  refine lv_aload_n hx hb d_V_crash_0 rfl (lv_at hl 0 rfl) ?_
  obtain ⟨x1, g2, hf⟩ := jv_ob hf
  have hFc := jv_fr hD hS hA
  refine jv_cwi (va_runV (As := []) (rest := []) (b := q_va) ⟨hx, hb, hml, hown, hts⟩ (c_V_breakDown l dC dI cI cA cL q_va q_aa q_cl q_fu Q vn vC y0 y1 H.size x1 g2) (jv_cwV hts wa_367 wa_303 wa_368 wa_369 wa_370 rfl rfl yd_V_breakDown ⟨Nat.le_of_ble_eq_true rfl, Nat.le_of_ble_eq_true rfl⟩) (jv_preVW hK hP hD 0 rfl rfl) rfl rfl hl.1 rfl (lv_room (Nat.le_of_ble_eq_true rfl)) d_V_crash_1 ⟨Nat.zero_le _, Nat.zero_le _⟩) hS hFc (fun H1 locs hP hD1 hk1 hS => ?_)
  have hP : va_P (dC, dI) vwCl (w_vault cI cA q_va q_aa q_cl q_fu Q vn vC x1.2.1 x1.2.2) H1 := hP
  have hD : va_D A (w_vault cI cA q_va q_aa q_cl q_fu Q vn vC x1.2.1 x1.2.2) := hD1.weaken (fun _ q _ h => hFc q.1 h)
  generalize H1 = H at hP hS ⊢
  obtain rfl := Option.some.inj hf
  exact W.iret hx hb hr (fun t ht hW => ⟨rfl, by rw [ht]; exact hP, hD, hS.F ht⟩) hS.2.2 d_V_crash_4
def f_V_crash (vn : Nat) (vat : Int32) (ars : Nat → jv_ar) : Option (Int32 × Int32 × (Nat → jv_ar)) := f_V_crash_0 vn vat ars
set_option maxHeartbeats 4000000 in
set_option maxRecDepth 100000 in
theorem c_V_crash (l : Launch) (dC : Nat → ClassId) (dI : Nat → Nat → Nat) (cI cA cL : ClassId) (q_va q_aa q_cl q_fu : Nat) (Q : Nat → Nat → Nat) (vn : Nat) (vC : Nat → Int32) (vat : Int32) (ars : Nat → jv_ar) (sz : Nat) (r : Int32 × Int32 × (Nat → jv_ar)) (hf : f_V_crash vn vat ars = some r) : Met l y_V_crash ws_V_crash rm_V_crash (jv_Pw [.ref q_va] (dC, dI) (jv_ty cI cA cL) (w_vault cI cA q_va q_aa q_cl q_fu Q vn vC vat ars) sz) (jv_Qi r.1 (dC, dI) (w_vault cI cA q_va q_aa q_cl q_fu Q vn vC r.2.1 r.2.2) (va_A (w_vault cI cA q_va q_aa q_cl q_fu Q vn vC vat ars) sz)) 0 0 (va_A (w_vault cI cA q_va q_aa q_cl q_fu Q vn vC vat ars) sz) := by
  refine Met.ofW (cc := cc_V_crash) (maxL := 1) (ret := (some .int)) (by decide) rfl ?_
  intro p e s m args below meth c s₁ B hml hv
  obtain ⟨rfl, hsz, hP, hK, hD0⟩ := hv
  have cx : jv_cx p s m _ meth c cc_V_crash 1 R_Vault (some .int) ws_V_crash := ⟨B.exec, B.bytes, hml, findClass_of_methodNamed B.named, atoms_spec (ws := ws_V_crash) B.pre, B.returns, B.notSynchronized⟩
  subst hsz
  have hD := hD0.self (sz := s.heap.size)
  generalize hAe : va_A (w_vault cI cA q_va q_aa q_cl q_fu Q vn vC vat ars) s.heap.size = A at hD ⊢
  have hA : ∀ q : Nat, s.heap.size ≤ q → A q := fun q h => by rw [← hAe]; exact Or.inr h
  have hS : va_S A s.heap s.heap [] := va_S.rf
  have hl := lv_entry ([.ref q_va]) (n := 1) (Nat.le_of_ble_eq_true rfl)
  rw [lg_entry_eq]
  generalize (lg_sl ([.ref q_va]) ++ List.replicate (1 - (lg_sl ([.ref q_va])).length) Slot.unset).toArray = ls at hl ⊢
  have hl : lv_has ls 1 [(0, .ref q_va)] := hl
  exact b_V_crash_0 (y0 := vat) (y1 := ars) cx hK hA (lv_sub hl [0] rfl) hP hD hS hf
theorem d_V_tear_0 : decode cc_V_tear 0 = .ok (.iload_n 1, 1) := by decide +kernel
theorem d_V_tear_1 : decode cc_V_tear 1 = .ok (.ifCond .lt 14, 3) := by decide +kernel
theorem d_V_tear_15 : decode cc_V_tear 15 = .ok (.iconst 0, 1) := by decide +kernel
theorem d_V_tear_16 : decode cc_V_tear 16 = .ok (.invokestatic 36, 3) := by decide +kernel
theorem d_V_tear_19 : decode cc_V_tear 19 = .ok (.aload_n 0, 1) := by decide +kernel
theorem d_V_tear_20 : decode cc_V_tear 20 = .ok (.getfield 26, 3) := by decide +kernel
theorem d_V_tear_23 : decode cc_V_tear 23 = .ok (.iload_n 1, 1) := by decide +kernel
theorem d_V_tear_24 : decode cc_V_tear 24 = .ok (.putfield 223, 3) := by decide +kernel
theorem d_V_tear_27 : decode cc_V_tear 27 = .ok (.iconst 1, 1) := by decide +kernel
theorem d_V_tear_28 : decode cc_V_tear 28 = .ok (.ireturn, 1) := by decide +kernel
theorem d_V_tear_4 : decode cc_V_tear 4 = .ok (.iload_n 1, 1) := by decide +kernel
theorem d_V_tear_5 : decode cc_V_tear 5 = .ok (.sipush 1000, 3) := by decide +kernel
theorem d_V_tear_8 : decode cc_V_tear 8 = .ok (.if_icmp .gt 7, 3) := by decide +kernel
theorem d_V_tear_11 : decode cc_V_tear 11 = .ok (.iconst 1, 1) := by decide +kernel
theorem d_V_tear_12 : decode cc_V_tear 12 = .ok (.goto 4, 3) := by decide +kernel
def f_V_tear_0 (y0 : Int32) (y1 : Int32) : Option (Nat ⊕ (Int32 × Int32)) :=
  if y0 < 0 then ((f_V_demand (0 : Int32)).bind fun x1 => jv_se x1 fun v3 => some (Sum.inr ((1 : Int32), y0))) else (if (1000 : Int32) < y0 then ((f_V_demand (0 : Int32)).bind fun x5 => jv_se x5 fun v7 => some (Sum.inr ((1 : Int32), y0))) else ((f_V_demand (1 : Int32)).bind fun x9 => jv_se x9 fun v11 => some (Sum.inr ((1 : Int32), y0))))
set_option maxHeartbeats 4000000 in
set_option maxRecDepth 100000 in
theorem b_V_tear_0 {l : Launch} {dC : Nat → ClassId} {dI : Nat → Nat → Nat} {cI cA cL : ClassId} {q_va q_aa q_cl q_fu : Nat} {Q : Nat → Nat → Nat} {vn : Nat} {vC : Nat → Int32} {ars : Nat → jv_ar} {p : Program} {e : Env} {s : State} {m : MethodId} {args : Array Value} {below : List Frame} {meth : Method} {c : Code} (cx : jv_cx p s m args meth c cc_V_tear 2 R_Vault (some .boolean) ws_V_tear) (hK : va_K (dC, dI) vwCl (jv_ty cI cA cL) s) {A : Nat → Prop} (hA : ∀ q : Nat, s.heap.size ≤ q → A q) (hl9 : l.stackTraces = false) (hT : jv_th s) (hout : c.exceptionTable.isEmpty = true) {r : Int32 × Int32} {y0 : Int32} {y1 : Int32} {ls : Array Slot} (hl : lv_has ls 2 [(0, .ref q_va), (1, .int y0)]) (hP : va_P (dC, dI) vwCl (w_vault cI cA q_va q_aa q_cl q_fu Q vn vC y1 ars) s.heap) (hD : va_D A (w_vault cI cA q_va q_aa q_cl q_fu Q vn vC y1 ars)) (hf : f_V_tear_0 y0 y1 = some (Sum.inr r)) : W p l e rm_V_tear s m args below meth c s.heap [] 0 0 (MQ below (jv_Qi r.1 (dC, dI) (w_vault cI cA q_va q_aa q_cl q_fu Q vn vC r.2 ars) A) args s 0 0 A) (F0 m 0 ls []) := by
  unfold f_V_tear_0 at hf
  obtain ⟨hx, hb, hml, hown, hts, hr, hlocks⟩ := id cx
  have hS : va_S A s.heap s.heap [] := va_S.rf
  refine lv_iload_n hx hb d_V_tear_0 rfl (lv_at hl 1 rfl) ?_
  refine lv_if_lt (tgt := 15) hx hb d_V_tear_1 (by decide) (fun hc => ?_) (fun hc => ?_)
  · have hf := jv_it hf hc
    refine lv_iconst (v := (0 : Int32)) hx hb d_V_tear_15 (by decide) ?_
    obtain ⟨x1, g2, hf⟩ := jv_ob hf
    rcases x1 with k4 | v3
    · exact jv_ci hf
    have hf := jv_sr hf
    refine jv_csv (W.runS (As := [.int (0 : Int32)]) (rest := []) ⟨hx, hb, hml, hown, hts⟩ (c_V_demand l hl9 (0 : Int32) v3 g2) (jv_cwS hts wa_321 wa_303 wa_322 wa_323 rfl rfl yd_V_demand ⟨Nat.le_of_ble_eq_true rfl, Nat.le_of_ble_eq_true rfl⟩) (jv_pre0t hT) rfl rfl hl.1 rfl (lv_room (Nat.le_of_ble_eq_true rfl)) d_V_tear_16 ⟨Nat.zero_le _, Nat.zero_le _⟩) ?_
    refine lv_aload_n hx hb d_V_tear_19 rfl (lv_at hl 0 rfl) ?_
    refine va_get (D := (dC, dI)) (ci := kVault) (v := .ref q_fu) (C := R_Vault) (T := T_Vault) (N := 4) hx hb hts (fun w h => List.mem_cons_of_mem _ (in_Vault w h)) hown hK hP 0 rfl rfl 3 (by decide) (jv_w hts wa_348) (fun _ h9 => h9) rfl d_V_tear_20 ?_
    refine lv_iload_n hx hb d_V_tear_23 rfl (lv_at hl 1 rfl) ?_
    refine va_put (D := (dC, dI)) (ci := kFuse) (v := .int y0) (ty := .int) (C := R_Fuse) (T := T_Fuse) (N := 1) hx hb hts (fun w h => List.mem_cons_of_mem _ (in_Fuse w h)) ty_Fuse tyok_Fuse nm_Fuse hown hK hP hD hS 3 rfl rfl 0 (by decide) (jv_w hts wa_349) (fun _ h9 => h9) rfl (by decide +kernel) rfl rfl (Nat.le_of_ble_eq_true rfl) d_V_tear_24 (fun H locs hP hD hS => ?_)
    have hP : va_P (dC, dI) vwCl (w_vault cI cA q_va q_aa q_cl q_fu Q vn vC y0 ars) H := hP
    have hD : va_D A (w_vault cI cA q_va q_aa q_cl q_fu Q vn vC y0 ars) := hD
    refine lv_iconst (v := (1 : Int32)) hx hb d_V_tear_27 (by decide) ?_
    obtain rfl := Sum.inr.inj (Option.some.inj hf)
    exact W.zret hx hb hr rfl (fun t ht hW => ⟨rfl, by rw [ht]; exact hP, hD, hS.F ht⟩) hS.2.2 d_V_tear_28
  · have hf := jv_if hf hc
    refine lv_iload_n hx hb d_V_tear_4 rfl (lv_at hl 1 rfl) ?_
    refine lv_sipush (v := (1000 : Int32)) hx hb d_V_tear_5 (by decide) ?_
    refine lv_icmp_gt (tgt := 15) hx hb d_V_tear_8 (by decide) (fun hc => ?_) (fun hc => ?_)
    · have hf := jv_it hf hc
      refine lv_iconst (v := (0 : Int32)) hx hb d_V_tear_15 (by decide) ?_
      obtain ⟨x5, g6, hf⟩ := jv_ob hf
      rcases x5 with k8 | v7
      · exact jv_ci hf
      have hf := jv_sr hf
      refine jv_csv (W.runS (As := [.int (0 : Int32)]) (rest := []) ⟨hx, hb, hml, hown, hts⟩ (c_V_demand l hl9 (0 : Int32) v7 g6) (jv_cwS hts wa_321 wa_303 wa_322 wa_323 rfl rfl yd_V_demand ⟨Nat.le_of_ble_eq_true rfl, Nat.le_of_ble_eq_true rfl⟩) (jv_pre0t hT) rfl rfl hl.1 rfl (lv_room (Nat.le_of_ble_eq_true rfl)) d_V_tear_16 ⟨Nat.zero_le _, Nat.zero_le _⟩) ?_
      refine lv_aload_n hx hb d_V_tear_19 rfl (lv_at hl 0 rfl) ?_
      refine va_get (D := (dC, dI)) (ci := kVault) (v := .ref q_fu) (C := R_Vault) (T := T_Vault) (N := 4) hx hb hts (fun w h => List.mem_cons_of_mem _ (in_Vault w h)) hown hK hP 0 rfl rfl 3 (by decide) (jv_w hts wa_348) (fun _ h9 => h9) rfl d_V_tear_20 ?_
      refine lv_iload_n hx hb d_V_tear_23 rfl (lv_at hl 1 rfl) ?_
      refine va_put (D := (dC, dI)) (ci := kFuse) (v := .int y0) (ty := .int) (C := R_Fuse) (T := T_Fuse) (N := 1) hx hb hts (fun w h => List.mem_cons_of_mem _ (in_Fuse w h)) ty_Fuse tyok_Fuse nm_Fuse hown hK hP hD hS 3 rfl rfl 0 (by decide) (jv_w hts wa_349) (fun _ h9 => h9) rfl (by decide +kernel) rfl rfl (Nat.le_of_ble_eq_true rfl) d_V_tear_24 (fun H locs hP hD hS => ?_)
      have hP : va_P (dC, dI) vwCl (w_vault cI cA q_va q_aa q_cl q_fu Q vn vC y0 ars) H := hP
      have hD : va_D A (w_vault cI cA q_va q_aa q_cl q_fu Q vn vC y0 ars) := hD
      refine lv_iconst (v := (1 : Int32)) hx hb d_V_tear_27 (by decide) ?_
      obtain rfl := Sum.inr.inj (Option.some.inj hf)
      exact W.zret hx hb hr rfl (fun t ht hW => ⟨rfl, by rw [ht]; exact hP, hD, hS.F ht⟩) hS.2.2 d_V_tear_28
    · have hf := jv_if hf hc
      refine lv_iconst (v := (1 : Int32)) hx hb d_V_tear_11 (by decide) ?_
      refine lv_goto (tgt := 16) hx hb d_V_tear_12 (by decide) ?_
      obtain ⟨x9, g10, hf⟩ := jv_ob hf
      rcases x9 with k12 | v11
      · exact jv_ci hf
      have hf := jv_sr hf
      refine jv_csv (W.runS (As := [.int (1 : Int32)]) (rest := []) ⟨hx, hb, hml, hown, hts⟩ (c_V_demand l hl9 (1 : Int32) v11 g10) (jv_cwS hts wa_321 wa_303 wa_322 wa_323 rfl rfl yd_V_demand ⟨Nat.le_of_ble_eq_true rfl, Nat.le_of_ble_eq_true rfl⟩) (jv_pre0t hT) rfl rfl hl.1 rfl (lv_room (Nat.le_of_ble_eq_true rfl)) d_V_tear_16 ⟨Nat.zero_le _, Nat.zero_le _⟩) ?_
      refine lv_aload_n hx hb d_V_tear_19 rfl (lv_at hl 0 rfl) ?_
      refine va_get (D := (dC, dI)) (ci := kVault) (v := .ref q_fu) (C := R_Vault) (T := T_Vault) (N := 4) hx hb hts (fun w h => List.mem_cons_of_mem _ (in_Vault w h)) hown hK hP 0 rfl rfl 3 (by decide) (jv_w hts wa_348) (fun _ h9 => h9) rfl d_V_tear_20 ?_
      refine lv_iload_n hx hb d_V_tear_23 rfl (lv_at hl 1 rfl) ?_
      refine va_put (D := (dC, dI)) (ci := kFuse) (v := .int y0) (ty := .int) (C := R_Fuse) (T := T_Fuse) (N := 1) hx hb hts (fun w h => List.mem_cons_of_mem _ (in_Fuse w h)) ty_Fuse tyok_Fuse nm_Fuse hown hK hP hD hS 3 rfl rfl 0 (by decide) (jv_w hts wa_349) (fun _ h9 => h9) rfl (by decide +kernel) rfl rfl (Nat.le_of_ble_eq_true rfl) d_V_tear_24 (fun H locs hP hD hS => ?_)
      have hP : va_P (dC, dI) vwCl (w_vault cI cA q_va q_aa q_cl q_fu Q vn vC y0 ars) H := hP
      have hD : va_D A (w_vault cI cA q_va q_aa q_cl q_fu Q vn vC y0 ars) := hD
      refine lv_iconst (v := (1 : Int32)) hx hb d_V_tear_27 (by decide) ?_
      obtain rfl := Sum.inr.inj (Option.some.inj hf)
      exact W.zret hx hb hr rfl (fun t ht hW => ⟨rfl, by rw [ht]; exact hP, hD, hS.F ht⟩) hS.2.2 d_V_tear_28
def f_V_tear (a0 : Int32) (vat : Int32) : Option (Nat ⊕ (Int32 × Int32)) := f_V_tear_0 a0 vat
set_option maxHeartbeats 4000000 in
set_option maxRecDepth 100000 in
theorem c_V_tear (l : Launch) (hl9 : l.stackTraces = false) (dC : Nat → ClassId) (dI : Nat → Nat → Nat) (cI cA cL : ClassId) (q_va q_aa q_cl q_fu : Nat) (Q : Nat → Nat → Nat) (vn : Nat) (vC : Nat → Int32) (vat : Int32) (ars : Nat → jv_ar) (a0 : Int32) (sz : Nat) (r : Int32 × Int32) (hf : f_V_tear a0 vat = some (Sum.inr r)) : Met l y_V_tear ws_V_tear rm_V_tear (jv_Pwt [.ref q_va, .int a0] (dC, dI) (jv_ty cI cA cL) (w_vault cI cA q_va q_aa q_cl q_fu Q vn vC vat ars) sz) (jv_Qi r.1 (dC, dI) (w_vault cI cA q_va q_aa q_cl q_fu Q vn vC r.2 ars) (va_A (w_vault cI cA q_va q_aa q_cl q_fu Q vn vC vat ars) sz)) 0 0 (va_A (w_vault cI cA q_va q_aa q_cl q_fu Q vn vC vat ars) sz) := by
  refine Met.ofW (cc := cc_V_tear) (maxL := 2) (ret := (some .boolean)) (by decide) rfl ?_
  intro p e s m args below meth c s₁ B hml hv
  obtain ⟨rfl, hsz, hP, hK, hD0, hT⟩ := hv
  have cx : jv_cx p s m _ meth c cc_V_tear 2 R_Vault (some .boolean) ws_V_tear := ⟨B.exec, B.bytes, hml, findClass_of_methodNamed B.named, atoms_spec (ws := ws_V_tear) B.pre, B.returns, B.notSynchronized⟩
  have hout : c.exceptionTable.isEmpty = true := B.noHandlers (atoms_spec (ws := ws_V_tear) B.pre _ List.mem_cons_self)
  subst hsz
  have hD := hD0.self (sz := s.heap.size)
  generalize hAe : va_A (w_vault cI cA q_va q_aa q_cl q_fu Q vn vC vat ars) s.heap.size = A at hD ⊢
  have hA : ∀ q : Nat, s.heap.size ≤ q → A q := fun q h => by rw [← hAe]; exact Or.inr h
  have hS : va_S A s.heap s.heap [] := va_S.rf
  have hl := lv_entry ([.ref q_va, .int a0]) (n := 2) (Nat.le_of_ble_eq_true rfl)
  rw [lg_entry_eq]
  generalize (lg_sl ([.ref q_va, .int a0]) ++ List.replicate (2 - (lg_sl ([.ref q_va, .int a0])).length) Slot.unset).toArray = ls at hl ⊢
  have hl : lv_has ls 2 [(0, .ref q_va), (1, .int a0)] := hl
  exact b_V_tear_0 (y0 := a0) (y1 := vat) cx hK hA hl9 hT hout (lv_sub hl [0, 1] rfl) hP hD hf
set_option maxHeartbeats 4000000 in
set_option maxRecDepth 100000 in
theorem t_V_tear_0 {l : Launch} {dC : Nat → ClassId} {dI : Nat → Nat → Nat} {cI cA cL : ClassId} {q_va q_aa q_cl q_fu : Nat} {Q : Nat → Nat → Nat} {vn : Nat} {vC : Nat → Int32} {ars : Nat → jv_ar} {p : Program} {e : Env} {s : State} {m : MethodId} {args : Array Value} {below : List Frame} {meth : Method} {c : Code} (cx : jv_cx p s m args meth c cc_V_tear 2 R_Vault (some .boolean) ws_V_tear) (hK : va_K (dC, dI) vwCl (jv_ty cI cA cL) s) (hl9 : l.stackTraces = false) (hT : jv_th s) (hout : c.exceptionTable.isEmpty = true) {kx : Nat} {y0 : Int32} {y1 : Int32} {ls : Array Slot} (hl : lv_has ls 2 [(0, .ref q_va), (1, .int y0)]) (hP : va_P (dC, dI) vwCl (w_vault cI cA q_va q_aa q_cl q_fu Q vn vC y1 ars) s.heap) (hf : f_V_tear_0 y0 y1 = some (Sum.inl kx)) : W p l e rx_V_tear s m args below meth c s.heap [] 0 0 (jv_MQ below (jv_en kx) args s 1 6) (F0 m 0 ls []) := by
  unfold f_V_tear_0 at hf
  obtain ⟨hx, hb, hml, hown, hts, hr, hlocks⟩ := id cx
  refine lv_iload_n hx hb d_V_tear_0 rfl (lv_at hl 1 rfl) ?_
  refine lv_if_lt (tgt := 15) hx hb d_V_tear_1 (by decide) (fun hc => ?_) (fun hc => ?_)
  · have hf := jv_it hf hc
    refine lv_iconst (v := (0 : Int32)) hx hb d_V_tear_15 (by decide) ?_
    obtain ⟨x1, g2, hf⟩ := jv_ob hf
    rcases x1 with k4 | v3
    · rw [jv_sl hf] at g2
      exact jv_xS (cells := 0) (slots := 0) (As := [.int (0 : Int32)]) (rest := []) ⟨hx, hb, hml, hown, hts⟩ (x_V_demand l hl9 (0 : Int32) kx g2) (jv_cwS hts wa_321 wa_303 wa_322 wa_323 rfl rfl yd_V_demand ⟨Nat.le_of_ble_eq_true rfl, Nat.le_of_ble_eq_true rfl⟩) (jv_pre0t hT) rfl rfl hl.1 rfl (lv_room (Nat.le_of_ble_eq_true rfl)) d_V_tear_16 ⟨Nat.le_of_ble_eq_true rfl, Nat.le_of_ble_eq_true rfl⟩ (fun x H1 hob => jv_leave hout hlocks hob)
    have hf := jv_sr hf
    refine jv_csv (W.runS (As := [.int (0 : Int32)]) (rest := []) ⟨hx, hb, hml, hown, hts⟩ (c_V_demand l hl9 (0 : Int32) v3 g2) (jv_cwS hts wa_321 wa_303 wa_322 wa_323 rfl rfl yd_V_demand ⟨Nat.le_of_ble_eq_true rfl, Nat.le_of_ble_eq_true rfl⟩) (jv_pre0t hT) rfl rfl hl.1 rfl (lv_room (Nat.le_of_ble_eq_true rfl)) d_V_tear_16 ⟨Nat.zero_le _, Nat.zero_le _⟩) ?_
    refine lv_aload_n hx hb d_V_tear_19 rfl (lv_at hl 0 rfl) ?_
    refine va_get (D := (dC, dI)) (ci := kVault) (v := .ref q_fu) (C := R_Vault) (T := T_Vault) (N := 4) hx hb hts (fun w h => List.mem_cons_of_mem _ (in_Vault w h)) hown hK hP 0 rfl rfl 3 (by decide) (jv_w hts wa_348) (fun _ h9 => h9) rfl d_V_tear_20 ?_
    refine lv_iload_n hx hb d_V_tear_23 rfl (lv_at hl 1 rfl) ?_
    cases Option.some.inj hf
  · have hf := jv_if hf hc
    refine lv_iload_n hx hb d_V_tear_4 rfl (lv_at hl 1 rfl) ?_
    refine lv_sipush (v := (1000 : Int32)) hx hb d_V_tear_5 (by decide) ?_
    refine lv_icmp_gt (tgt := 15) hx hb d_V_tear_8 (by decide) (fun hc => ?_) (fun hc => ?_)
    · have hf := jv_it hf hc
      refine lv_iconst (v := (0 : Int32)) hx hb d_V_tear_15 (by decide) ?_
      obtain ⟨x5, g6, hf⟩ := jv_ob hf
      rcases x5 with k8 | v7
      · rw [jv_sl hf] at g6
        exact jv_xS (cells := 0) (slots := 0) (As := [.int (0 : Int32)]) (rest := []) ⟨hx, hb, hml, hown, hts⟩ (x_V_demand l hl9 (0 : Int32) kx g6) (jv_cwS hts wa_321 wa_303 wa_322 wa_323 rfl rfl yd_V_demand ⟨Nat.le_of_ble_eq_true rfl, Nat.le_of_ble_eq_true rfl⟩) (jv_pre0t hT) rfl rfl hl.1 rfl (lv_room (Nat.le_of_ble_eq_true rfl)) d_V_tear_16 ⟨Nat.le_of_ble_eq_true rfl, Nat.le_of_ble_eq_true rfl⟩ (fun x H1 hob => jv_leave hout hlocks hob)
      have hf := jv_sr hf
      refine jv_csv (W.runS (As := [.int (0 : Int32)]) (rest := []) ⟨hx, hb, hml, hown, hts⟩ (c_V_demand l hl9 (0 : Int32) v7 g6) (jv_cwS hts wa_321 wa_303 wa_322 wa_323 rfl rfl yd_V_demand ⟨Nat.le_of_ble_eq_true rfl, Nat.le_of_ble_eq_true rfl⟩) (jv_pre0t hT) rfl rfl hl.1 rfl (lv_room (Nat.le_of_ble_eq_true rfl)) d_V_tear_16 ⟨Nat.zero_le _, Nat.zero_le _⟩) ?_
      refine lv_aload_n hx hb d_V_tear_19 rfl (lv_at hl 0 rfl) ?_
      refine va_get (D := (dC, dI)) (ci := kVault) (v := .ref q_fu) (C := R_Vault) (T := T_Vault) (N := 4) hx hb hts (fun w h => List.mem_cons_of_mem _ (in_Vault w h)) hown hK hP 0 rfl rfl 3 (by decide) (jv_w hts wa_348) (fun _ h9 => h9) rfl d_V_tear_20 ?_
      refine lv_iload_n hx hb d_V_tear_23 rfl (lv_at hl 1 rfl) ?_
      cases Option.some.inj hf
    · have hf := jv_if hf hc
      refine lv_iconst (v := (1 : Int32)) hx hb d_V_tear_11 (by decide) ?_
      refine lv_goto (tgt := 16) hx hb d_V_tear_12 (by decide) ?_
      obtain ⟨x9, g10, hf⟩ := jv_ob hf
      rcases x9 with k12 | v11
      · rw [jv_sl hf] at g10
        exact jv_xS (cells := 0) (slots := 0) (As := [.int (1 : Int32)]) (rest := []) ⟨hx, hb, hml, hown, hts⟩ (x_V_demand l hl9 (1 : Int32) kx g10) (jv_cwS hts wa_321 wa_303 wa_322 wa_323 rfl rfl yd_V_demand ⟨Nat.le_of_ble_eq_true rfl, Nat.le_of_ble_eq_true rfl⟩) (jv_pre0t hT) rfl rfl hl.1 rfl (lv_room (Nat.le_of_ble_eq_true rfl)) d_V_tear_16 ⟨Nat.le_of_ble_eq_true rfl, Nat.le_of_ble_eq_true rfl⟩ (fun x H1 hob => jv_leave hout hlocks hob)
      have hf := jv_sr hf
      refine jv_csv (W.runS (As := [.int (1 : Int32)]) (rest := []) ⟨hx, hb, hml, hown, hts⟩ (c_V_demand l hl9 (1 : Int32) v11 g10) (jv_cwS hts wa_321 wa_303 wa_322 wa_323 rfl rfl yd_V_demand ⟨Nat.le_of_ble_eq_true rfl, Nat.le_of_ble_eq_true rfl⟩) (jv_pre0t hT) rfl rfl hl.1 rfl (lv_room (Nat.le_of_ble_eq_true rfl)) d_V_tear_16 ⟨Nat.zero_le _, Nat.zero_le _⟩) ?_
      refine lv_aload_n hx hb d_V_tear_19 rfl (lv_at hl 0 rfl) ?_
      refine va_get (D := (dC, dI)) (ci := kVault) (v := .ref q_fu) (C := R_Vault) (T := T_Vault) (N := 4) hx hb hts (fun w h => List.mem_cons_of_mem _ (in_Vault w h)) hown hK hP 0 rfl rfl 3 (by decide) (jv_w hts wa_348) (fun _ h9 => h9) rfl d_V_tear_20 ?_
      refine lv_iload_n hx hb d_V_tear_23 rfl (lv_at hl 1 rfl) ?_
      cases Option.some.inj hf
set_option maxHeartbeats 4000000 in
set_option maxRecDepth 100000 in
theorem x_V_tear (l : Launch) (hl9 : l.stackTraces = false) (dC : Nat → ClassId) (dI : Nat → Nat → Nat) (cI cA cL : ClassId) (q_va q_aa q_cl q_fu : Nat) (Q : Nat → Nat → Nat) (vn : Nat) (vC : Nat → Int32) (vat : Int32) (ars : Nat → jv_ar) (a0 : Int32) (kx : Nat) (hf : f_V_tear a0 vat = some (Sum.inl kx)) : jv_MX l y_V_tear ws_V_tear rx_V_tear (jv_Prt [.ref q_va, .int a0] (dC, dI) (jv_ty cI cA cL) (w_vault cI cA q_va q_aa q_cl q_fu Q vn vC vat ars)) (jv_en kx) 1 6 := by
  refine jv_MX.ofW (cc := cc_V_tear) (maxL := 2) (ret := (some .boolean)) (by decide) rfl ?_
  intro p e s m args below meth c s₁ B hml hv
  obtain ⟨rfl, hP, hK, hT⟩ := hv
  have cx : jv_cx p s m _ meth c cc_V_tear 2 R_Vault (some .boolean) ws_V_tear := ⟨B.exec, B.bytes, hml, findClass_of_methodNamed B.named, atoms_spec (ws := ws_V_tear) B.pre, B.returns, B.notSynchronized⟩
  have hout : c.exceptionTable.isEmpty = true := B.noHandlers (atoms_spec (ws := ws_V_tear) B.pre _ List.mem_cons_self)
  have hl := lv_entry ([.ref q_va, .int a0]) (n := 2) (Nat.le_of_ble_eq_true rfl)
  rw [lg_entry_eq]
  generalize (lg_sl ([.ref q_va, .int a0]) ++ List.replicate (2 - (lg_sl ([.ref q_va, .int a0])).length) Slot.unset).toArray = ls at hl ⊢
  have hl : lv_has ls 2 [(0, .ref q_va), (1, .int a0)] := hl
  exact t_V_tear_0 (y0 := a0) (y1 := vat) cx hK hl9 hT hout (lv_sub hl [0, 1] rfl) hP hf
theorem d_V_about_0 : decode cc_V_about 0 = .ok (.aload_n 0, 1) := by decide +kernel
theorem d_V_about_1 : decode cc_V_about 1 = .ok (.iload_n 1, 1) := by decide +kernel
theorem d_V_about_2 : decode cc_V_about 2 = .ok (.invokevirtual 233, 3) := by decide +kernel
theorem d_V_about_5 : decode cc_V_about 5 = .ok (.ifCond .ne 5, 3) := by decide +kernel
theorem d_V_about_10 : decode cc_V_about 10 = .ok (.aload_n 0, 1) := by decide +kernel
theorem d_V_about_11 : decode cc_V_about 11 = .ok (.getfield 11, 3) := by decide +kernel
theorem d_V_about_14 : decode cc_V_about 14 = .ok (.iload_n 1, 1) := by decide +kernel
theorem d_V_about_15 : decode cc_V_about 15 = .ok (.aaload, 1) := by decide +kernel
theorem d_V_about_16 : decode cc_V_about 16 = .ok (.astore_n 3, 1) := by decide +kernel
theorem d_V_about_17 : decode cc_V_about 17 = .ok (.iload_n 2, 1) := by decide +kernel
theorem d_V_about_18 : decode cc_V_about 18 = .ok (.tableswitch 68 0 4 #[34, 39, 47, 55, 63], 34) := by decide +kernel
theorem d_V_about_52 : decode cc_V_about 52 = .ok (.aload_n 3, 1) := by decide +kernel
theorem d_V_about_53 : decode cc_V_about 53 = .ok (.getfield 67, 3) := by decide +kernel
theorem d_V_about_56 : decode cc_V_about 56 = .ok (.ireturn, 1) := by decide +kernel
theorem d_V_about_57 : decode cc_V_about 57 = .ok (.aload_n 3, 1) := by decide +kernel
theorem d_V_about_58 : decode cc_V_about 58 = .ok (.getfield 144, 3) := by decide +kernel
theorem d_V_about_61 : decode cc_V_about 61 = .ok (.invokevirtual 236, 3) := by decide +kernel
theorem d_V_about_64 : decode cc_V_about 64 = .ok (.ireturn, 1) := by decide +kernel
theorem d_V_about_65 : decode cc_V_about 65 = .ok (.aload_n 3, 1) := by decide +kernel
theorem d_V_about_66 : decode cc_V_about 66 = .ok (.getfield 102, 3) := by decide +kernel
theorem d_V_about_69 : decode cc_V_about 69 = .ok (.invokevirtual 239, 3) := by decide +kernel
theorem d_V_about_72 : decode cc_V_about 72 = .ok (.ireturn, 1) := by decide +kernel
theorem d_V_about_73 : decode cc_V_about 73 = .ok (.aload_n 3, 1) := by decide +kernel
theorem d_V_about_74 : decode cc_V_about 74 = .ok (.getfield 226, 3) := by decide +kernel
theorem d_V_about_77 : decode cc_V_about 77 = .ok (.getfield 240, 3) := by decide +kernel
theorem d_V_about_80 : decode cc_V_about 80 = .ok (.ireturn, 1) := by decide +kernel
theorem d_V_about_81 : decode cc_V_about 81 = .ok (.aload_n 3, 1) := by decide +kernel
theorem d_V_about_82 : decode cc_V_about 82 = .ok (.invokevirtual 243, 3) := by decide +kernel
theorem d_V_about_85 : decode cc_V_about 85 = .ok (.ireturn, 1) := by decide +kernel
theorem d_V_about_86 : decode cc_V_about 86 = .ok (.iconst (-1), 1) := by decide +kernel
theorem d_V_about_87 : decode cc_V_about 87 = .ok (.ireturn, 1) := by decide +kernel
theorem d_V_about_8 : decode cc_V_about 8 = .ok (.iconst (-1), 1) := by decide +kernel
theorem d_V_about_9 : decode cc_V_about 9 = .ok (.ireturn, 1) := by decide +kernel
def f_V_about_0 (vn : Nat) (ars : Nat → jv_ar) (y0 : Int32) (y1 : Int32) : Option (Int32) :=
  (f_V_hasArea vn y0).bind fun x1 => if x1 = 0 then (some (-1 : Int32)) else ((jv_gi 6 y0).bind fun j3 => if j3 < vn then (if y1 = (0 : Int32) then (some ((ars j3).1)) else if y1 = (1 : Int32) then ((f_C_countFree ((ars j3).2.2.2.1)).bind fun x6 => some x6) else if y1 = (2 : Int32) then ((f_T_countFree ((ars j3).2.2.2.1)).bind fun x8 => some x8) else if y1 = (3 : Int32) then (some ((ars j3).2.2.2.2.2.2.2)) else if y1 = (4 : Int32) then ((f_A_countSessions ((ars j3).2.1)).bind fun x10 => some x10) else (some (-1 : Int32))) else (none))
set_option maxHeartbeats 4000000 in
set_option maxRecDepth 100000 in
theorem b_V_about_0 {l : Launch} {dC : Nat → ClassId} {dI : Nat → Nat → Nat} {cI cA cL : ClassId} {q_va q_aa q_cl q_fu : Nat} {Q : Nat → Nat → Nat} {vn : Nat} {vC : Nat → Int32} {vat : Int32} {ars : Nat → jv_ar} {p : Program} {e : Env} {s : State} {m : MethodId} {args : Array Value} {below : List Frame} {meth : Method} {c : Code} (cx : jv_cx p s m args meth c cc_V_about 4 R_Vault (some .int) ws_V_about) (hK : va_K (dC, dI) vwCl (jv_ty cI cA cL) s) (hP : va_P (dC, dI) vwCl (w_vault cI cA q_va q_aa q_cl q_fu Q vn vC vat ars) s.heap) {r : Int32} {y0 : Int32} {y1 : Int32} {ls : Array Slot} (hl : lv_has ls 4 [(0, .ref q_va), (1, .int y0), (2, .int y1)]) (hf : f_V_about_0 vn ars y0 y1 = some r) : W p l e rm_V_about s m args below meth c s.heap [] 0 0 (MQ below (QcRead r) args s 0 0 (fun _ => False)) (F0 m 0 ls []) := by
  unfold f_V_about_0 at hf
  obtain ⟨hx, hb, hml, hown, hts, hr, hlocks⟩ := id cx
  refine lv_aload_n hx hb d_V_about_0 rfl (lv_at hl 0 rfl) ?_
  refine lv_iload_n hx hb d_V_about_1 rfl (lv_at hl 1 rfl) ?_
  obtain ⟨x1, g2, hf⟩ := jv_ob hf
  refine jv_cs (W.runV (As := [.int y0]) (rest := []) (b := q_va) ⟨hx, hb, hml, hown, hts⟩ (c_V_hasArea l dC dI cI cA cL q_va q_aa q_cl q_fu Q vn vC vat ars y0 x1 g2) (jv_cwV hts wa_302 wa_303 wa_304 wa_305 wa_306 rfl rfl yd_V_hasArea ⟨Nat.le_of_ble_eq_true rfl, Nat.le_of_ble_eq_true rfl⟩) (jv_preV hK hP 0 rfl rfl) rfl rfl hl.1 rfl (lv_room (Nat.le_of_ble_eq_true rfl)) d_V_about_2 ⟨Nat.zero_le _, Nat.zero_le _⟩) ?_
  refine lv_if_ne (tgt := 10) hx hb d_V_about_5 (by decide) (fun hc => ?_) (fun hc => ?_)
  · have hf := jv_if hf hc
    refine lv_aload_n hx hb d_V_about_10 rfl (lv_at hl 0 rfl) ?_
    refine va_get (D := (dC, dI)) (ci := kVault) (v := .ref q_aa) (C := R_Vault) (T := T_Vault) (N := 4) hx hb hts (fun w h => List.mem_cons_of_mem _ (in_Vault w h)) hown hK hP 0 rfl rfl 0 (by decide) (jv_w hts wa_300) (fun _ h9 => h9) rfl d_V_about_11 ?_
    refine lv_iload_n hx hb d_V_about_14 rfl (lv_at hl 1 rfl) ?_
    obtain ⟨j3, g4, hf⟩ := jv_ob hf
    refine jv_aald hx hb hK hP g4 d_V_about_15 (fun hj5 => ?_) (fun hj5 => ?_)
    · have hf := jv_it hf hj5
      refine lv_astore_n (lv' := [(3, .ref (Q j3 0)), (0, .ref q_va), (1, .int y0), (2, .int y1)]) hx hb d_V_about_16 rfl hl (by decide) rfl (fun ls hl => ?_)
      refine lv_iload_n hx hb d_V_about_17 rfl (lv_at hl 3 rfl) ?_
      by_cases hc0 : y1 = (0 : Int32)
      · have hf := jv_it hf hc0
        refine lv_tableIn (off := 34) (tgt := 52) hx hb d_V_about_18 (by rw [hc0]; decide) (by rw [hc0]; decide) (by rw [hc0]; rfl) (by decide) ?_
        refine lv_aload_n hx hb d_V_about_52 rfl (lv_at hl 0 rfl) ?_
        refine va_get (D := (dC, dI)) (ci := kArea) (v := .int ((ars j3).1)) (C := R_Area) (T := T_Area) (N := 5) hx hb hts (fun w h => List.mem_cons_of_mem _ (in_Area w h)) hown hK (jv_open hP hj5) 1 rfl rfl 0 (by decide) (jv_w hts wa_301) (fun _ h9 => h9) rfl d_V_about_53 ?_
        obtain rfl := Option.some.inj hf
        exact W.iret hx hb hr (fun t ht hW => ⟨rfl, ht⟩) (fun q h => by cases h) d_V_about_56
      have hf := jv_if hf hc0
      have nhc0 := lv_neT hc0 (a := 0) (by decide)
      by_cases hc1 : y1 = (1 : Int32)
      · have hf := jv_it hf hc1
        refine lv_tableIn (off := 39) (tgt := 57) hx hb d_V_about_18 (by rw [hc1]; decide) (by rw [hc1]; decide) (by rw [hc1]; rfl) (by decide) ?_
        refine lv_aload_n hx hb d_V_about_57 rfl (lv_at hl 0 rfl) ?_
        refine va_get (D := (dC, dI)) (ci := kArea) (v := .ref (Q j3 7)) (C := R_Area) (T := T_Area) (N := 5) hx hb hts (fun w h => List.mem_cons_of_mem _ (in_Area w h)) hown hK (jv_open hP hj5) 1 rfl rfl 4 (by decide) (jv_w hts wa_421) (fun _ h9 => h9) rfl d_V_about_58 ?_
        obtain ⟨x6, g7, hf⟩ := jv_ob hf
        have hPc := (jv_open hP hj5).sub (ws' := (w_cont cI (Q j3 7) (Q j3 2) (Q j3 3) (Q j3 4) (Q j3 5) ((ars j3).2.2.2.2.2.1) ((ars j3).2.2.2.2.2.2.1) ((ars j3).2.2.2.2.2.2.2) ((ars j3).2.2.1) ((ars j3).2.2.2.1) ((ars j3).2.2.2.2.1))) [8, 3, 4, 5, 6] rfl
        refine jv_cs (W.runV (As := []) (rest := []) (b := (Q j3 7)) ⟨hx, hb, hml, hown, hts⟩ (c_C_countFree l dC dI cI cA cL (Q j3 7) (Q j3 2) (Q j3 3) (Q j3 4) (Q j3 5) ((ars j3).2.2.2.2.2.1) ((ars j3).2.2.2.2.2.2.1) ((ars j3).2.2.2.2.2.2.2) ((ars j3).2.2.1) ((ars j3).2.2.2.1) ((ars j3).2.2.2.2.1) x6 g7) (jv_cwV hts wa_468 wa_129 wa_469 wa_470 wa_471 rfl rfl yd_C_countFree ⟨Nat.le_of_ble_eq_true rfl, Nat.le_of_ble_eq_true rfl⟩) (jv_preV hK hPc 0 rfl rfl) rfl rfl hl.1 rfl (lv_room (Nat.le_of_ble_eq_true rfl)) d_V_about_61 ⟨Nat.zero_le _, Nat.zero_le _⟩) ?_
        obtain rfl := Option.some.inj hf
        exact W.iret hx hb hr (fun t ht hW => ⟨rfl, ht⟩) (fun q h => by cases h) d_V_about_64
      have hf := jv_if hf hc1
      have nhc1 := lv_neT hc1 (a := 1) (by decide)
      by_cases hc2 : y1 = (2 : Int32)
      · have hf := jv_it hf hc2
        refine lv_tableIn (off := 47) (tgt := 65) hx hb d_V_about_18 (by rw [hc2]; decide) (by rw [hc2]; decide) (by rw [hc2]; rfl) (by decide) ?_
        refine lv_aload_n hx hb d_V_about_65 rfl (lv_at hl 0 rfl) ?_
        refine va_get (D := (dC, dI)) (ci := kArea) (v := .ref (Q j3 6)) (C := R_Area) (T := T_Area) (N := 5) hx hb hts (fun w h => List.mem_cons_of_mem _ (in_Area w h)) hown hK (jv_open hP hj5) 1 rfl rfl 3 (by decide) (jv_w hts wa_315) (fun _ h9 => h9) rfl d_V_about_66 ?_
        obtain ⟨x8, g9, hf⟩ := jv_ob hf
        have hPc := (jv_open hP hj5).sub (ws' := (w_tree cI (Q j3 6) (Q j3 2) (Q j3 3) (Q j3 4) (Q j3 5) ((ars j3).2.2.2.2.2.1) ((ars j3).2.2.2.2.2.2.1) ((ars j3).2.2.2.2.2.2.2) ((ars j3).2.2.1) ((ars j3).2.2.2.1) ((ars j3).2.2.2.2.1))) [7, 3, 4, 5, 6] rfl
        refine jv_cs (W.runV (As := []) (rest := []) (b := (Q j3 6)) ⟨hx, hb, hml, hown, hts⟩ (c_T_countFree l dC dI cI cA cL (Q j3 6) (Q j3 2) (Q j3 3) (Q j3 4) (Q j3 5) ((ars j3).2.2.2.2.2.1) ((ars j3).2.2.2.2.2.2.1) ((ars j3).2.2.2.2.2.2.2) ((ars j3).2.2.1) ((ars j3).2.2.2.1) ((ars j3).2.2.2.2.1) x8 g9) (jv_cwV hts wa_472 wa_78 wa_473 wa_474 wa_475 rfl rfl yd_T_countFree ⟨Nat.le_of_ble_eq_true rfl, Nat.le_of_ble_eq_true rfl⟩) (jv_preV hK hPc 0 rfl rfl) rfl rfl hl.1 rfl (lv_room (Nat.le_of_ble_eq_true rfl)) d_V_about_69 ⟨Nat.zero_le _, Nat.zero_le _⟩) ?_
        obtain rfl := Option.some.inj hf
        exact W.iret hx hb hr (fun t ht hW => ⟨rfl, ht⟩) (fun q h => by cases h) d_V_about_72
      have hf := jv_if hf hc2
      have nhc2 := lv_neT hc2 (a := 2) (by decide)
      by_cases hc3 : y1 = (3 : Int32)
      · have hf := jv_it hf hc3
        refine lv_tableIn (off := 55) (tgt := 73) hx hb d_V_about_18 (by rw [hc3]; decide) (by rw [hc3]; decide) (by rw [hc3]; rfl) (by decide) ?_
        refine lv_aload_n hx hb d_V_about_73 rfl (lv_at hl 0 rfl) ?_
        refine va_get (D := (dC, dI)) (ci := kArea) (v := .ref (Q j3 2)) (C := R_Area) (T := T_Area) (N := 5) hx hb hts (fun w h => List.mem_cons_of_mem _ (in_Area w h)) hown hK (jv_open hP hj5) 1 rfl rfl 2 (by decide) (jv_w hts wa_346) (fun _ h9 => h9) rfl d_V_about_74 ?_
        refine va_get (D := (dC, dI)) (ci := kDisk) (v := .int ((ars j3).2.2.2.2.2.2.2)) (C := R_Disk) (T := T_Disk) (N := 6) hx hb hts (fun w h => List.mem_cons_of_mem _ (in_Disk w h)) hown hK (jv_open hP hj5) 3 rfl rfl 5 (by decide) (jv_w hts wa_476) (fun _ h9 => h9) rfl d_V_about_77 ?_
        obtain rfl := Option.some.inj hf
        exact W.iret hx hb hr (fun t ht hW => ⟨rfl, ht⟩) (fun q h => by cases h) d_V_about_80
      have hf := jv_if hf hc3
      have nhc3 := lv_neT hc3 (a := 3) (by decide)
      by_cases hc4 : y1 = (4 : Int32)
      · have hf := jv_it hf hc4
        refine lv_tableIn (off := 63) (tgt := 81) hx hb d_V_about_18 (by rw [hc4]; decide) (by rw [hc4]; decide) (by rw [hc4]; rfl) (by decide) ?_
        refine lv_aload_n hx hb d_V_about_81 rfl (lv_at hl 0 rfl) ?_
        obtain ⟨x10, g11, hf⟩ := jv_ob hf
        have hPc := (jv_open hP hj5).sub (ws' := (w_area cI (Q j3 0) (Q j3 1) (Q j3 2) (Q j3 6) (Q j3 7) ((ars j3).1) ((ars j3).2.1))) [1, 2] rfl
        refine jv_cs (W.runV (As := []) (rest := []) (b := (Q j3 0)) ⟨hx, hb, hml, hown, hts⟩ (c_A_countSessions l dC dI cI cA cL (Q j3 0) (Q j3 1) (Q j3 2) (Q j3 6) (Q j3 7) ((ars j3).1) ((ars j3).2.1) x10 g11) (jv_cwV hts wa_350 wa_351 wa_352 wa_353 wa_354 rfl rfl yd_A_countSessions ⟨Nat.le_of_ble_eq_true rfl, Nat.le_of_ble_eq_true rfl⟩) (jv_preV hK hPc 0 rfl rfl) rfl rfl hl.1 rfl (lv_room (Nat.le_of_ble_eq_true rfl)) d_V_about_82 ⟨Nat.zero_le _, Nat.zero_le _⟩) ?_
        obtain rfl := Option.some.inj hf
        exact W.iret hx hb hr (fun t ht hW => ⟨rfl, ht⟩) (fun q h => by cases h) d_V_about_85
      have hf := jv_if hf hc4
      have nhc4 := lv_neT hc4 (a := 4) (by decide)
      refine lv_tableOut (tgt := 86) hx hb d_V_about_18 (by omega) (by decide) ?_
      refine lv_iconst (v := (-1 : Int32)) hx hb d_V_about_86 (by decide) ?_
      obtain rfl := Option.some.inj hf
      exact W.iret hx hb hr (fun t ht hW => ⟨rfl, ht⟩) (fun q h => by cases h) d_V_about_87
    · cases jv_if hf hj5
  · have hf := jv_it hf hc
    refine lv_iconst (v := (-1 : Int32)) hx hb d_V_about_8 (by decide) ?_
    obtain rfl := Option.some.inj hf
    exact W.iret hx hb hr (fun t ht hW => ⟨rfl, ht⟩) (fun q h => by cases h) d_V_about_9
def f_V_about (vn : Nat) (ars : Nat → jv_ar) (a0 : Int32) (a1 : Int32) : Option (Int32) := f_V_about_0 vn ars a0 a1
set_option maxHeartbeats 4000000 in
set_option maxRecDepth 100000 in
theorem c_V_about (l : Launch) (dC : Nat → ClassId) (dI : Nat → Nat → Nat) (cI cA cL : ClassId) (q_va q_aa q_cl q_fu : Nat) (Q : Nat → Nat → Nat) (vn : Nat) (vC : Nat → Int32) (vat : Int32) (ars : Nat → jv_ar) (a0 : Int32) (a1 : Int32) (r : Int32) (hf : f_V_about vn ars a0 a1 = some r) : Met l y_V_about ws_V_about rm_V_about (jv_Pr [.ref q_va, .int a0, .int a1] (dC, dI) (jv_ty cI cA cL) (w_vault cI cA q_va q_aa q_cl q_fu Q vn vC vat ars)) (QcRead r) 0 0 (fun _ => False) := by
  refine Met.ofW (cc := cc_V_about) (maxL := 4) (ret := (some .int)) (by decide) rfl ?_
  intro p e s m args below meth c s₁ B hml hv
  obtain ⟨rfl, hP, hK⟩ := hv
  have cx : jv_cx p s m _ meth c cc_V_about 4 R_Vault (some .int) ws_V_about := ⟨B.exec, B.bytes, hml, findClass_of_methodNamed B.named, atoms_spec (ws := ws_V_about) B.pre, B.returns, B.notSynchronized⟩
  have hl := lv_entry ([.ref q_va, .int a0, .int a1]) (n := 4) (Nat.le_of_ble_eq_true rfl)
  rw [lg_entry_eq]
  generalize (lg_sl ([.ref q_va, .int a0, .int a1]) ++ List.replicate (4 - (lg_sl ([.ref q_va, .int a0, .int a1])).length) Slot.unset).toArray = ls at hl ⊢
  have hl : lv_has ls 4 [(0, .ref q_va), (1, .int a0), (2, .int a1)] := hl
  exact b_V_about_0 (y0 := a0) (y1 := a1) cx hK hP (lv_sub hl [0, 1, 2] rfl) hf
theorem d_V_user_0 : decode cc_V_user 0 = .ok (.aload_n 0, 1) := by decide +kernel
theorem d_V_user_1 : decode cc_V_user 1 = .ok (.iload_n 1, 1) := by decide +kernel
theorem d_V_user_2 : decode cc_V_user 2 = .ok (.invokevirtual 246, 3) := by decide +kernel
theorem d_V_user_5 : decode cc_V_user 5 = .ok (.ifCond .eq 21, 3) := by decide +kernel
theorem d_V_user_26 : decode cc_V_user 26 = .ok (.iconst (-1), 1) := by decide +kernel
theorem d_V_user_27 : decode cc_V_user 27 = .ok (.ireturn, 1) := by decide +kernel
theorem d_V_user_8 : decode cc_V_user 8 = .ok (.aload_n 0, 1) := by decide +kernel
theorem d_V_user_9 : decode cc_V_user 9 = .ok (.getfield 11, 3) := by decide +kernel
theorem d_V_user_12 : decode cc_V_user 12 = .ok (.iload_n 1, 1) := by decide +kernel
theorem d_V_user_13 : decode cc_V_user 13 = .ok (.iconst 4, 1) := by decide +kernel
theorem d_V_user_14 : decode cc_V_user 14 = .ok (.idiv, 1) := by decide +kernel
theorem d_V_user_15 : decode cc_V_user 15 = .ok (.aaload, 1) := by decide +kernel
theorem d_V_user_16 : decode cc_V_user 16 = .ok (.getfield 249, 3) := by decide +kernel
theorem d_V_user_19 : decode cc_V_user 19 = .ok (.iload_n 1, 1) := by decide +kernel
theorem d_V_user_20 : decode cc_V_user 20 = .ok (.iconst 4, 1) := by decide +kernel
theorem d_V_user_21 : decode cc_V_user 21 = .ok (.irem, 1) := by decide +kernel
theorem d_V_user_22 : decode cc_V_user 22 = .ok (.iaload, 1) := by decide +kernel
theorem d_V_user_23 : decode cc_V_user 23 = .ok (.goto 4, 3) := by decide +kernel
def f_V_user_0 (vn : Nat) (ars : Nat → jv_ar) (y0 : Int32) : Option (Int32) :=
  (f_V_hasSession vn ars y0).bind fun x1 => if x1 = 0 then (some (-1 : Int32)) else ((jv_gi 6 (y0 / (4 : Int32))).bind fun j3 => if j3 < vn then ((jv_ga (ars j3).2.1 4 (y0 - y0 / (4 : Int32) * (4 : Int32))).bind fun x6 => some x6) else (none))
set_option maxHeartbeats 4000000 in
set_option maxRecDepth 100000 in
theorem b_V_user_0 {l : Launch} {dC : Nat → ClassId} {dI : Nat → Nat → Nat} {cI cA cL : ClassId} {q_va q_aa q_cl q_fu : Nat} {Q : Nat → Nat → Nat} {vn : Nat} {vC : Nat → Int32} {vat : Int32} {ars : Nat → jv_ar} {p : Program} {e : Env} {s : State} {m : MethodId} {args : Array Value} {below : List Frame} {meth : Method} {c : Code} (cx : jv_cx p s m args meth c cc_V_user 2 R_Vault (some .int) ws_V_user) (hK : va_K (dC, dI) vwCl (jv_ty cI cA cL) s) (hP : va_P (dC, dI) vwCl (w_vault cI cA q_va q_aa q_cl q_fu Q vn vC vat ars) s.heap) {r : Int32} {y0 : Int32} {ls : Array Slot} (hl : lv_has ls 2 [(0, .ref q_va), (1, .int y0)]) (hf : f_V_user_0 vn ars y0 = some r) : W p l e rm_V_user s m args below meth c s.heap [] 0 0 (MQ below (QcRead r) args s 0 0 (fun _ => False)) (F0 m 0 ls []) := by
  unfold f_V_user_0 at hf
  obtain ⟨hx, hb, hml, hown, hts, hr, hlocks⟩ := id cx
  refine lv_aload_n hx hb d_V_user_0 rfl (lv_at hl 0 rfl) ?_
  refine lv_iload_n hx hb d_V_user_1 rfl (lv_at hl 1 rfl) ?_
  obtain ⟨x1, g2, hf⟩ := jv_ob hf
  refine jv_cs (W.runV (As := [.int y0]) (rest := []) (b := q_va) ⟨hx, hb, hml, hown, hts⟩ (c_V_hasSession l dC dI cI cA cL q_va q_aa q_cl q_fu Q vn vC vat ars y0 x1 g2) (jv_cwV hts wa_324 wa_303 wa_325 wa_326 wa_327 rfl rfl yd_V_hasSession ⟨Nat.le_of_ble_eq_true rfl, Nat.le_of_ble_eq_true rfl⟩) (jv_preV hK hP 0 rfl rfl) rfl rfl hl.1 rfl (lv_room (Nat.le_of_ble_eq_true rfl)) d_V_user_2 ⟨Nat.zero_le _, Nat.zero_le _⟩) ?_
  refine lv_if_eq (tgt := 26) hx hb d_V_user_5 (by decide) (fun hc => ?_) (fun hc => ?_)
  · have hf := jv_it hf hc
    refine lv_iconst (v := (-1 : Int32)) hx hb d_V_user_26 (by decide) ?_
    obtain rfl := Option.some.inj hf
    exact W.iret hx hb hr (fun t ht hW => ⟨rfl, ht⟩) (fun q h => by cases h) d_V_user_27
  · have hf := jv_if hf hc
    refine lv_aload_n hx hb d_V_user_8 rfl (lv_at hl 0 rfl) ?_
    refine va_get (D := (dC, dI)) (ci := kVault) (v := .ref q_aa) (C := R_Vault) (T := T_Vault) (N := 4) hx hb hts (fun w h => List.mem_cons_of_mem _ (in_Vault w h)) hown hK hP 0 rfl rfl 0 (by decide) (jv_w hts wa_300) (fun _ h9 => h9) rfl d_V_user_9 ?_
    refine lv_iload_n hx hb d_V_user_12 rfl (lv_at hl 1 rfl) ?_
    refine lv_iconst (v := (4 : Int32)) hx hb d_V_user_13 (by decide) ?_
    refine lv_idiv hx hb d_V_user_14 (by decide) ?_
    obtain ⟨j3, g4, hf⟩ := jv_ob hf
    refine jv_aald hx hb hK hP g4 d_V_user_15 (fun hj5 => ?_) (fun hj5 => ?_)
    · have hf := jv_it hf hj5
      refine va_get (D := (dC, dI)) (ci := kArea) (v := .ref (Q j3 1)) (C := R_Area) (T := T_Area) (N := 5) hx hb hts (fun w h => List.mem_cons_of_mem _ (in_Area w h)) hown hK (jv_open hP hj5) 1 rfl rfl 1 (by decide) (jv_w hts wa_307) (fun _ h9 => h9) rfl d_V_user_16 ?_
      refine lv_iload_n hx hb d_V_user_19 rfl (lv_at hl 1 rfl) ?_
      refine lv_iconst (v := (4 : Int32)) hx hb d_V_user_20 (by decide) ?_
      refine lv_irem hx hb d_V_user_21 (by decide) ?_
      obtain ⟨x6, g7, hf⟩ := jv_ob hf
      have hPj := jv_open hP hj5
      refine jv_iald hx hb hK hPj 2 0 rfl rfl g7 d_V_user_22 ?_
      refine lv_goto (tgt := 27) hx hb d_V_user_23 (by decide) ?_
      obtain rfl := Option.some.inj hf
      exact W.iret hx hb hr (fun t ht hW => ⟨rfl, ht⟩) (fun q h => by cases h) d_V_user_27
    · cases jv_if hf hj5
def f_V_user (vn : Nat) (ars : Nat → jv_ar) (a0 : Int32) : Option (Int32) := f_V_user_0 vn ars a0
set_option maxHeartbeats 4000000 in
set_option maxRecDepth 100000 in
theorem c_V_user (l : Launch) (dC : Nat → ClassId) (dI : Nat → Nat → Nat) (cI cA cL : ClassId) (q_va q_aa q_cl q_fu : Nat) (Q : Nat → Nat → Nat) (vn : Nat) (vC : Nat → Int32) (vat : Int32) (ars : Nat → jv_ar) (a0 : Int32) (r : Int32) (hf : f_V_user vn ars a0 = some r) : Met l y_V_user ws_V_user rm_V_user (jv_Pr [.ref q_va, .int a0] (dC, dI) (jv_ty cI cA cL) (w_vault cI cA q_va q_aa q_cl q_fu Q vn vC vat ars)) (QcRead r) 0 0 (fun _ => False) := by
  refine Met.ofW (cc := cc_V_user) (maxL := 2) (ret := (some .int)) (by decide) rfl ?_
  intro p e s m args below meth c s₁ B hml hv
  obtain ⟨rfl, hP, hK⟩ := hv
  have cx : jv_cx p s m _ meth c cc_V_user 2 R_Vault (some .int) ws_V_user := ⟨B.exec, B.bytes, hml, findClass_of_methodNamed B.named, atoms_spec (ws := ws_V_user) B.pre, B.returns, B.notSynchronized⟩
  have hl := lv_entry ([.ref q_va, .int a0]) (n := 2) (Nat.le_of_ble_eq_true rfl)
  rw [lg_entry_eq]
  generalize (lg_sl ([.ref q_va, .int a0]) ++ List.replicate (2 - (lg_sl ([.ref q_va, .int a0])).length) Slot.unset).toArray = ls at hl ⊢
  have hl : lv_has ls 2 [(0, .ref q_va), (1, .int a0)] := hl
  exact b_V_user_0 (y0 := a0) cx hK hP (lv_sub hl [0, 1] rfl) hf
theorem d_V_fuse_0 : decode cc_V_fuse 0 = .ok (.aload_n 0, 1) := by decide +kernel
theorem d_V_fuse_1 : decode cc_V_fuse 1 = .ok (.getfield 26, 3) := by decide +kernel
theorem d_V_fuse_4 : decode cc_V_fuse 4 = .ok (.getfield 223, 3) := by decide +kernel
theorem d_V_fuse_7 : decode cc_V_fuse 7 = .ok (.ireturn, 1) := by decide +kernel
def f_V_fuse_0 (vat : Int32) : Option (Int32) :=
  some vat
set_option maxHeartbeats 4000000 in
set_option maxRecDepth 100000 in
theorem b_V_fuse_0 {l : Launch} {dC : Nat → ClassId} {dI : Nat → Nat → Nat} {cI cA cL : ClassId} {q_va q_aa q_cl q_fu : Nat} {Q : Nat → Nat → Nat} {vn : Nat} {vC : Nat → Int32} {vat : Int32} {ars : Nat → jv_ar} {p : Program} {e : Env} {s : State} {m : MethodId} {args : Array Value} {below : List Frame} {meth : Method} {c : Code} (cx : jv_cx p s m args meth c cc_V_fuse 1 R_Vault (some .int) ws_V_fuse) (hK : va_K (dC, dI) vwCl (jv_ty cI cA cL) s) (hP : va_P (dC, dI) vwCl (w_vault cI cA q_va q_aa q_cl q_fu Q vn vC vat ars) s.heap) {r : Int32} {ls : Array Slot} (hl : lv_has ls 1 [(0, .ref q_va)]) (hf : f_V_fuse_0 vat = some r) : W p l e rm_V_fuse s m args below meth c s.heap [] 0 0 (MQ below (QcRead r) args s 0 0 (fun _ => False)) (F0 m 0 ls []) := by
  unfold f_V_fuse_0 at hf
  obtain ⟨hx, hb, hml, hown, hts, hr, hlocks⟩ := id cx
  refine lv_aload_n hx hb d_V_fuse_0 rfl (lv_at hl 0 rfl) ?_
  refine va_get (D := (dC, dI)) (ci := kVault) (v := .ref q_fu) (C := R_Vault) (T := T_Vault) (N := 4) hx hb hts (fun w h => List.mem_cons_of_mem _ (in_Vault w h)) hown hK hP 0 rfl rfl 3 (by decide) (jv_w hts wa_348) (fun _ h9 => h9) rfl d_V_fuse_1 ?_
  refine va_get (D := (dC, dI)) (ci := kFuse) (v := .int vat) (C := R_Fuse) (T := T_Fuse) (N := 1) hx hb hts (fun w h => List.mem_cons_of_mem _ (in_Fuse w h)) hown hK hP 3 rfl rfl 0 (by decide) (jv_w hts wa_349) (fun _ h9 => h9) rfl d_V_fuse_4 ?_
  obtain rfl := Option.some.inj hf
  exact W.iret hx hb hr (fun t ht hW => ⟨rfl, ht⟩) (fun q h => by cases h) d_V_fuse_7
def f_V_fuse (vat : Int32) : Option (Int32) := f_V_fuse_0 vat
set_option maxHeartbeats 4000000 in
set_option maxRecDepth 100000 in
theorem c_V_fuse (l : Launch) (dC : Nat → ClassId) (dI : Nat → Nat → Nat) (cI cA cL : ClassId) (q_va q_aa q_cl q_fu : Nat) (Q : Nat → Nat → Nat) (vn : Nat) (vC : Nat → Int32) (vat : Int32) (ars : Nat → jv_ar) (r : Int32) (hf : f_V_fuse vat = some r) : Met l y_V_fuse ws_V_fuse rm_V_fuse (jv_Pr [.ref q_va] (dC, dI) (jv_ty cI cA cL) (w_vault cI cA q_va q_aa q_cl q_fu Q vn vC vat ars)) (QcRead r) 0 0 (fun _ => False) := by
  refine Met.ofW (cc := cc_V_fuse) (maxL := 1) (ret := (some .int)) (by decide) rfl ?_
  intro p e s m args below meth c s₁ B hml hv
  obtain ⟨rfl, hP, hK⟩ := hv
  have cx : jv_cx p s m _ meth c cc_V_fuse 1 R_Vault (some .int) ws_V_fuse := ⟨B.exec, B.bytes, hml, findClass_of_methodNamed B.named, atoms_spec (ws := ws_V_fuse) B.pre, B.returns, B.notSynchronized⟩
  have hl := lv_entry ([.ref q_va]) (n := 1) (Nat.le_of_ble_eq_true rfl)
  rw [lg_entry_eq]
  generalize (lg_sl ([.ref q_va]) ++ List.replicate (1 - (lg_sl ([.ref q_va])).length) Slot.unset).toArray = ls at hl ⊢
  have hl : lv_has ls 1 [(0, .ref q_va)] := hl
  exact b_V_fuse_0 cx hK hP (lv_sub hl [0] rfl) hf
