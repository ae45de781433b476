abbrev cc_L_area : ByteArray := method_3_code
def y_L_area : MethodName := ⟨R_Law, "area", "(LLabelVault;I[J)I"⟩
abbrev ws_L_area : List Cond := .codeWith y_L_area cc_L_area 4 (some .int) [(0, 9, 12, 13), (0, 9, 15, 15)] :: jv_LT
abbrev rm_L_area : Room := { frames := 8, cells := 8, slots := 713, locals := 138 }
theorem yd_L_area : y_L_area.cls ≠ "java/lang/invoke/MethodHandle" ∧ y_L_area.cls ≠ "java/lang/invoke/VarHandle" ∧ (parseMethodDescriptor y_L_area.desc).map (fun d => d.parameters.length) = some 3 := ⟨by decide +kernel, by decide +kernel, by decide +kernel⟩
abbrev cc_L_flows : ByteArray := method_4_code
def y_L_flows : MethodName := ⟨R_Law, "flows", "(LLabelVault;II[J)I"⟩
abbrev ws_L_flows : List Cond := .codeWith y_L_flows cc_L_flows 5 (some .int) [(0, 17, 20, 13)] :: jv_LT
abbrev rm_L_flows : Room := { frames := 8, cells := 8, slots := 713, locals := 138 }
theorem yd_L_flows : y_L_flows.cls ≠ "java/lang/invoke/MethodHandle" ∧ y_L_flows.cls ≠ "java/lang/invoke/VarHandle" ∧ (parseMethodDescriptor y_L_flows.desc).map (fun d => d.parameters.length) = some 4 := ⟨by decide +kernel, by decide +kernel, by decide +kernel⟩
abbrev cc_L_clear : ByteArray := method_5_code
def y_L_clear : MethodName := ⟨R_Law, "clear", "(LLabelVault;II[J)I"⟩
abbrev ws_L_clear : List Cond := .codeWith y_L_clear cc_L_clear 5 (some .int) [(0, 17, 20, 13)] :: jv_LT
abbrev rm_L_clear : Room := { frames := 8, cells := 8, slots := 713, locals := 138 }
theorem yd_L_clear : y_L_clear.cls ≠ "java/lang/invoke/MethodHandle" ∧ y_L_clear.cls ≠ "java/lang/invoke/VarHandle" ∧ (parseMethodDescriptor y_L_clear.desc).map (fun d => d.parameters.length) = some 4 := ⟨by decide +kernel, by decide +kernel, by decide +kernel⟩
abbrev cc_L_login : ByteArray := method_6_code
def y_L_login : MethodName := ⟨R_Law, "login", "(LLabelVault;II[J)I"⟩
abbrev ws_L_login : List Cond := .codeWith y_L_login cc_L_login 5 (some .int) [(0, 10, 13, 13), (0, 10, 17, 15)] :: jv_LT
abbrev rm_L_login : Room := { frames := 9, cells := 8, slots := 713, locals := 161 }
theorem yd_L_login : y_L_login.cls ≠ "java/lang/invoke/MethodHandle" ∧ y_L_login.cls ≠ "java/lang/invoke/VarHandle" ∧ (parseMethodDescriptor y_L_login.desc).map (fun d => d.parameters.length) = some 4 := ⟨by decide +kernel, by decide +kernel, by decide +kernel⟩
abbrev cc_L_logout : ByteArray := method_7_code
def y_L_logout : MethodName := ⟨R_Law, "logout", "(LLabelVault;I[J)I"⟩
abbrev ws_L_logout : List Cond := .codeWith y_L_logout cc_L_logout 4 (some .int) [(0, 9, 12, 13)] :: jv_LT
abbrev rm_L_logout : Room := { frames := 9, cells := 8, slots := 713, locals := 159 }
theorem yd_L_logout : y_L_logout.cls ≠ "java/lang/invoke/MethodHandle" ∧ y_L_logout.cls ≠ "java/lang/invoke/VarHandle" ∧ (parseMethodDescriptor y_L_logout.desc).map (fun d => d.parameters.length) = some 3 := ⟨by decide +kernel, by decide +kernel, by decide +kernel⟩
abbrev cc_L_make : ByteArray := method_8_code
def y_L_make : MethodName := ⟨R_Law, "make", "(LLabelVault;III[J)I"⟩
abbrev ws_L_make : List Cond := .codeWith y_L_make cc_L_make 6 (some .int) [(0, 12, 15, 13), (0, 12, 19, 35), (0, 12, 23, 37), (0, 12, 27, 15)] :: jv_LT
abbrev rm_L_make : Room := { frames := 9, cells := 8, slots := 713, locals := 163 }
theorem yd_L_make : y_L_make.cls ≠ "java/lang/invoke/MethodHandle" ∧ y_L_make.cls ≠ "java/lang/invoke/VarHandle" ∧ (parseMethodDescriptor y_L_make.desc).map (fun d => d.parameters.length) = some 5 := ⟨by decide +kernel, by decide +kernel, by decide +kernel⟩
abbrev cc_L_write : ByteArray := method_9_code
def y_L_write : MethodName := ⟨R_Law, "write", "(LLabelVault;IIII[J)I"⟩
abbrev ws_L_write : List Cond := .codeWith y_L_write cc_L_write 7 (some .int) [(0, 14, 17, 13), (0, 14, 21, 35), (0, 14, 25, 15), (0, 14, 29, 37)] :: jv_LT
abbrev rm_L_write : Room := { frames := 9, cells := 8, slots := 713, locals := 163 }
theorem yd_L_write : y_L_write.cls ≠ "java/lang/invoke/MethodHandle" ∧ y_L_write.cls ≠ "java/lang/invoke/VarHandle" ∧ (parseMethodDescriptor y_L_write.desc).map (fun d => d.parameters.length) = some 6 := ⟨by decide +kernel, by decide +kernel, by decide +kernel⟩
abbrev cc_L_truncate : ByteArray := method_10_code
def y_L_truncate : MethodName := ⟨R_Law, "truncate", "(LLabelVault;III[J)I"⟩
abbrev ws_L_truncate : List Cond := .codeWith y_L_truncate cc_L_truncate 6 (some .int) [(0, 12, 15, 13), (0, 12, 19, 35), (0, 12, 23, 15), (0, 12, 27, 37)] :: jv_LT
abbrev rm_L_truncate : Room := { frames := 9, cells := 8, slots := 713, locals := 162 }
theorem yd_L_truncate : y_L_truncate.cls ≠ "java/lang/invoke/MethodHandle" ∧ y_L_truncate.cls ≠ "java/lang/invoke/VarHandle" ∧ (parseMethodDescriptor y_L_truncate.desc).map (fun d => d.parameters.length) = some 5 := ⟨by decide +kernel, by decide +kernel, by decide +kernel⟩
theorem wa_520 : (Cond.code y_V_area prog_1_method_2_code 3 (some .int)) ∈ jv_LT := List.mem_filter.mpr ⟨List.mem_of_getElem? (i := 195) (by decide +kernel), by decide +kernel⟩
theorem wa_521 : (Cond.methodLink R_Law 7 y_V_area) ∈ jv_LT := List.mem_filter.mpr ⟨List.mem_of_getElem? (i := 192) (by decide +kernel), by decide +kernel⟩
theorem wa_522 : (Cond.instanceMethod y_V_area) ∈ jv_LT := List.mem_filter.mpr ⟨List.mem_of_getElem? (i := 193) (by decide +kernel), by decide +kernel⟩
theorem wa_523 : (Cond.selects R_Vault y_V_area y_V_area) ∈ jv_LT := List.mem_filter.mpr ⟨List.mem_of_getElem? (i := 194) (by decide +kernel), by decide +kernel⟩
theorem wa_524 : (Cond.classLink R_Law 13 "java/lang/IllegalArgumentException") ∈ jv_LT := List.mem_filter.mpr ⟨List.mem_of_getElem? (i := 190) (by decide +kernel), by decide +kernel⟩
theorem wa_525 : (Cond.classLink R_Law 15 "java/lang/IllegalStateException") ∈ jv_LT := List.mem_filter.mpr ⟨List.mem_of_getElem? (i := 191) (by decide +kernel), by decide +kernel⟩
theorem wa_526 : (Cond.code y_V_flows prog_1_method_3_code 3 (some .boolean)) ∈ jv_LT := List.mem_filter.mpr ⟨List.mem_of_getElem? (i := 370) (by decide +kernel), by decide +kernel⟩
theorem wa_527 : (Cond.methodLink R_Law 17 y_V_flows) ∈ jv_LT := List.mem_filter.mpr ⟨List.mem_of_getElem? (i := 367) (by decide +kernel), by decide +kernel⟩
theorem wa_528 : (Cond.instanceMethod y_V_flows) ∈ jv_LT := List.mem_filter.mpr ⟨List.mem_of_getElem? (i := 368) (by decide +kernel), by decide +kernel⟩
theorem wa_529 : (Cond.selects R_Vault y_V_flows y_V_flows) ∈ jv_LT := List.mem_filter.mpr ⟨List.mem_of_getElem? (i := 369) (by decide +kernel), by decide +kernel⟩
theorem wa_530 : (Cond.code y_V_clear prog_1_method_4_code 3 (some .boolean)) ∈ jv_LT := List.mem_filter.mpr ⟨List.mem_of_getElem? (i := 386) (by decide +kernel), by decide +kernel⟩
theorem wa_531 : (Cond.methodLink R_Law 21 y_V_clear) ∈ jv_LT := List.mem_filter.mpr ⟨List.mem_of_getElem? (i := 383) (by decide +kernel), by decide +kernel⟩
theorem wa_532 : (Cond.instanceMethod y_V_clear) ∈ jv_LT := List.mem_filter.mpr ⟨List.mem_of_getElem? (i := 384) (by decide +kernel), by decide +kernel⟩
theorem wa_533 : (Cond.selects R_Vault y_V_clear y_V_clear) ∈ jv_LT := List.mem_filter.mpr ⟨List.mem_of_getElem? (i := 385) (by decide +kernel), by decide +kernel⟩
theorem wa_534 : (Cond.code y_V_login prog_1_method_5_code 5 (some .int)) ∈ jv_LT := List.mem_filter.mpr ⟨List.mem_of_getElem? (i := 396) (by decide +kernel), by decide +kernel⟩
theorem wa_535 : (Cond.methodLink R_Law 24 y_V_login) ∈ jv_LT := List.mem_filter.mpr ⟨List.mem_of_getElem? (i := 393) (by decide +kernel), by decide +kernel⟩
theorem wa_536 : (Cond.instanceMethod y_V_login) ∈ jv_LT := List.mem_filter.mpr ⟨List.mem_of_getElem? (i := 394) (by decide +kernel), by decide +kernel⟩
theorem wa_537 : (Cond.selects R_Vault y_V_login y_V_login) ∈ jv_LT := List.mem_filter.mpr ⟨List.mem_of_getElem? (i := 395) (by decide +kernel), by decide +kernel⟩
theorem wa_538 : (Cond.code y_V_logout prog_1_method_6_code 3 (some .int)) ∈ jv_LT := List.mem_filter.mpr ⟨List.mem_of_getElem? (i := 415) (by decide +kernel), by decide +kernel⟩
theorem wa_539 : (Cond.methodLink R_Law 28 y_V_logout) ∈ jv_LT := List.mem_filter.mpr ⟨List.mem_of_getElem? (i := 412) (by decide +kernel), by decide +kernel⟩
theorem wa_540 : (Cond.instanceMethod y_V_logout) ∈ jv_LT := List.mem_filter.mpr ⟨List.mem_of_getElem? (i := 413) (by decide +kernel), by decide +kernel⟩
theorem wa_541 : (Cond.selects R_Vault y_V_logout y_V_logout) ∈ jv_LT := List.mem_filter.mpr ⟨List.mem_of_getElem? (i := 414) (by decide +kernel), by decide +kernel⟩
theorem wa_542 : (Cond.code y_V_make prog_1_method_7_code 7 (some .int)) ∈ jv_LT := List.mem_filter.mpr ⟨List.mem_of_getElem? (i := 432) (by decide +kernel), by decide +kernel⟩
theorem wa_543 : (Cond.methodLink R_Law 31 y_V_make) ∈ jv_LT := List.mem_filter.mpr ⟨List.mem_of_getElem? (i := 429) (by decide +kernel), by decide +kernel⟩
theorem wa_544 : (Cond.instanceMethod y_V_make) ∈ jv_LT := List.mem_filter.mpr ⟨List.mem_of_getElem? (i := 430) (by decide +kernel), by decide +kernel⟩
theorem wa_545 : (Cond.selects R_Vault y_V_make y_V_make) ∈ jv_LT := List.mem_filter.mpr ⟨List.mem_of_getElem? (i := 431) (by decide +kernel), by decide +kernel⟩
theorem wa_546 : (Cond.classLink R_Law 35 "java/util/NoSuchElementException") ∈ jv_LT := List.mem_filter.mpr ⟨List.mem_of_getElem? (i := 427) (by decide +kernel), by decide +kernel⟩
theorem wa_547 : (Cond.classLink R_Law 37 "java/lang/UnsupportedOperationException") ∈ jv_LT := List.mem_filter.mpr ⟨List.mem_of_getElem? (i := 428) (by decide +kernel), by decide +kernel⟩
theorem wa_548 : (Cond.code y_V_write prog_1_method_8_code 7 (some .int)) ∈ jv_LT := List.mem_filter.mpr ⟨List.mem_of_getElem? (i := 571) (by decide +kernel), by decide +kernel⟩
theorem wa_549 : (Cond.methodLink R_Law 39 y_V_write) ∈ jv_LT := List.mem_filter.mpr ⟨List.mem_of_getElem? (i := 568) (by decide +kernel), by decide +kernel⟩
theorem wa_550 : (Cond.instanceMethod y_V_write) ∈ jv_LT := List.mem_filter.mpr ⟨List.mem_of_getElem? (i := 569) (by decide +kernel), by decide +kernel⟩
theorem wa_551 : (Cond.selects R_Vault y_V_write y_V_write) ∈ jv_LT := List.mem_filter.mpr ⟨List.mem_of_getElem? (i := 570) (by decide +kernel), by decide +kernel⟩
theorem wa_552 : (Cond.code y_V_truncate prog_1_method_9_code 6 (some .int)) ∈ jv_LT := List.mem_filter.mpr ⟨List.mem_of_getElem? (i := 631) (by decide +kernel), by decide +kernel⟩
theorem wa_553 : (Cond.methodLink R_Law 43 y_V_truncate) ∈ jv_LT := List.mem_filter.mpr ⟨List.mem_of_getElem? (i := 628) (by decide +kernel), by decide +kernel⟩
theorem wa_554 : (Cond.instanceMethod y_V_truncate) ∈ jv_LT := List.mem_filter.mpr ⟨List.mem_of_getElem? (i := 629) (by decide +kernel), by decide +kernel⟩
theorem wa_555 : (Cond.selects R_Vault y_V_truncate y_V_truncate) ∈ jv_LT := List.mem_filter.mpr ⟨List.mem_of_getElem? (i := 630) (by decide +kernel), by decide +kernel⟩
theorem d_L_area_0 : decode cc_L_area 0 = .ok (.aload_n 2, 1) := by decide +kernel
theorem d_L_area_1 : decode cc_L_area 1 = .ok (.iconst 0, 1) := by decide +kernel
theorem d_L_area_2 : decode cc_L_area 2 = .ok (.aload_n 0, 1) := by decide +kernel
theorem d_L_area_3 : decode cc_L_area 3 = .ok (.iload_n 1, 1) := by decide +kernel
theorem d_L_area_4 : decode cc_L_area 4 = .ok (.invokevirtual 7, 3) := by decide +kernel
theorem d_L_area_12 : decode cc_L_area 12 = .ok (.astore_n 3, 1) := by decide +kernel
theorem d_L_area_13 : decode cc_L_area 13 = .ok (.iconst 1, 1) := by decide +kernel
theorem d_L_area_14 : decode cc_L_area 14 = .ok (.ireturn, 1) := by decide +kernel
theorem d_L_area_15 : decode cc_L_area 15 = .ok (.astore_n 3, 1) := by decide +kernel
theorem d_L_area_16 : decode cc_L_area 16 = .ok (.iconst 2, 1) := by decide +kernel
theorem d_L_area_17 : decode cc_L_area 17 = .ok (.ireturn, 1) := by decide +kernel
theorem d_L_area_7 : decode cc_L_area 7 = .ok (.i2l, 1) := by decide +kernel
theorem d_L_area_8 : decode cc_L_area 8 = .ok (.lastore, 1) := by decide +kernel
theorem d_L_area_9 : decode cc_L_area 9 = .ok (.goto 9, 3) := by decide +kernel
theorem d_L_area_18 : decode cc_L_area 18 = .ok (.iconst 0, 1) := by decide +kernel
theorem d_L_area_19 : decode cc_L_area 19 = .ok (.ireturn, 1) := by decide +kernel
def l_area (S : jv_vs) (a0 : Int32) (vO : Nat → Int64) : Option jv_lr := (f_V_area a0 S.1 S.2.2.2).bind fun x => match x with
  | .inl k => if k = 1 then (some ((1 : Int32), S, vO)) else (if k = 2 then (some ((2 : Int32), S, vO)) else (none))
  | .inr r9 => some ((0 : Int32), (r9.2.1, S.2.1, S.2.2.1, r9.2.2), (vp_updL vO 0 (r9.1).toInt64))
set_option maxHeartbeats 4000000 in
set_option maxRecDepth 100000 in
theorem c_L_area (l : Launch) (hl9 : l.stackTraces = false) (dC : Nat → ClassId) (dI : Nat → Nat → Nat) (cI cA cL : ClassId) (q_out q_va q_aa q_cl q_fu : Nat) (Q : Nat → Nat → Nat) (S : jv_vs) (vO : Nat → Int64) (a0 : Int32) (sz : Nat) (r : jv_lr) (hf : l_area S a0 vO = some r) : Met l y_L_area ws_L_area rm_L_area (jv_Plw [.ref q_va, .int a0, .ref q_out] (dC, dI) (jv_ty cI cA cL) (w_lo cI cA cL q_out q_va q_aa q_cl q_fu Q S vO) sz) (jv_Qlw r.1 (dC, dI) cI cA cL q_out q_va q_aa q_cl q_fu r.2.1 r.2.2 (va_A (w_lo cI cA cL q_out q_va q_aa q_cl q_fu Q S vO) sz)) 8 713 (va_A (w_lo cI cA cL q_out q_va q_aa q_cl q_fu Q S vO) sz) := by
  refine va_MetW (cc := cc_L_area) (maxL := 4) (ret := some .int) (hh := [(0, 9, 12, 13), (0, 9, 15, 15)]) (by decide) rfl ?_
  intro p e s m args below meth c s₁ B hml hv
  obtain ⟨rfl, hsz, hP, hK, hD0, hT⟩ := hv
  have hx := B.exec
  have hb := B.bytes
  have hr := B.returns
  have hts := atoms_spec (ws := ws_L_area) B.pre
  have hown : s.vm.findClass R_Law = some m.cls := findClass_of_methodNamed B.named
  have hlocks := B.notSynchronized
  have htab := jv_table B (hts _ List.mem_cons_self)
  subst hsz
  have hD := hD0.self (sz := s.heap.size)
  generalize hAe : va_A (w_lo cI cA cL q_out q_va q_aa q_cl q_fu Q S vO) s.heap.size = A at hD ⊢
  have hA : ∀ q : Nat, s.heap.size ≤ q → A q := fun q h => by rw [← hAe]; exact Or.inr h
  have hS : va_S A s.heap s.heap [] := va_S.rf
  have hl := lv_entry ([.ref q_va, .int a0, .ref q_out]) (n := 4) (Nat.le_of_ble_eq_true rfl)
  rw [lg_entry_eq]
  generalize (lg_sl ([.ref q_va, .int a0, .ref q_out]) ++ List.replicate (4 - (lg_sl ([.ref q_va, .int a0, .ref q_out])).length) Slot.unset).toArray = ls at hl ⊢
  have hl : lv_has ls 4 [(0, .ref q_va), (1, .int a0), (2, .ref q_out)] := hl
  have hPv := jv_PT hP
  have hDv := jv_DT hD
  unfold l_area at hf
  obtain ⟨x, g, hf⟩ := jv_ob hf
  refine lv_aload_n hx hb d_L_area_0 rfl (lv_at hl 2 rfl) ?_
  refine lv_iconst (v := (0 : Int32)) hx hb d_L_area_1 (by decide) ?_
  refine lv_aload_n hx hb d_L_area_2 rfl (lv_at hl 0 rfl) ?_
  refine lv_iload_n hx hb d_L_area_3 rfl (lv_at hl 1 rfl) ?_
  rcases x with k | r9
  · by_cases hk0 : k = 1
    · have hf := jv_it hf hk0
      subst hk0
      obtain rfl := Option.some.inj hf
      refine jv_xV (cells := 0) (slots := 0) (As := [.int a0]) (rest := [.int (0 : Int32), .ref q_out]) (b := q_va) ⟨hx, hb, hml, hown, hts⟩ (x_V_area l hl9 dC dI cI cA cL q_va q_aa q_cl q_fu Q S.1 S.2.1 S.2.2.1 S.2.2.2 a0 1 g) (jv_cwV hts wa_520 wa_303 wa_521 wa_522 wa_523 rfl rfl yd_V_area ⟨Nat.le_of_ble_eq_true rfl, Nat.le_of_ble_eq_true rfl⟩) (jv_preVt hT.1 hK hPv 0 rfl rfl) rfl rfl hl.1 rfl (lv_room (Nat.le_of_ble_eq_true rfl)) d_L_area_4 ⟨Nat.le_of_ble_eq_true rfl, Nat.le_of_ble_eq_true rfl⟩ (fun x H1 hob => ?_)
      refine jv_catch (pc := 4) (name := jv_en 1) hown [] ⟨0, 9, 12, 13⟩ [⟨0, 9, 15, 15⟩] htab jv_pn (by decide) (by decide) (jv_w hts wa_524) (jv_cast hT.1 ce_1) hob ?_
      show W p l e _ s m _ below meth c H1 [] (0 + 1) (0 + 6) _ (F0 m 12 ls [.ref x])
      refine lv_astore_n hx hb d_L_area_12 rfl hl (by decide) rfl (fun ls hl => ?_)
      refine lv_iconst (v := (1 : Int32)) hx hb d_L_area_13 (by decide) ?_
      refine W.widen (k := 8) (n := 713) (Nat.le_of_ble_eq_true rfl) (Nat.le_of_ble_eq_true rfl) ?_
      obtain ⟨-, -, hz1, hk1⟩ := hob
      have hP : va_P (dC, dI) vwCl (w_lo cI cA cL q_out q_va q_aa q_cl q_fu Q S vO) H1 := fun i q hi => (hP i q hi).kept (hk1 q.1 (hP i q hi).lt)
      have hS : va_S A s.heap H1 [] := ⟨hz1, fun q h _ => hk1 q h, fun z hz => by cases hz⟩
      exact W.iret hx hb hr (fun t ht hW => ⟨rfl, ⟨Q, by rw [ht]; exact hP, hD⟩, hS.F ht⟩) hS.2.2 d_L_area_14
    have hf := jv_if hf hk0
    by_cases hk1 : k = 2
    · have hf := jv_it hf hk1
      subst hk1
      obtain rfl := Option.some.inj hf
      refine jv_xV (cells := 0) (slots := 0) (As := [.int a0]) (rest := [.int (0 : Int32), .ref q_out]) (b := q_va) ⟨hx, hb, hml, hown, hts⟩ (x_V_area l hl9 dC dI cI cA cL q_va q_aa q_cl q_fu Q S.1 S.2.1 S.2.2.1 S.2.2.2 a0 2 g) (jv_cwV hts wa_520 wa_303 wa_521 wa_522 wa_523 rfl rfl yd_V_area ⟨Nat.le_of_ble_eq_true rfl, Nat.le_of_ble_eq_true rfl⟩) (jv_preVt hT.1 hK hPv 0 rfl rfl) rfl rfl hl.1 rfl (lv_room (Nat.le_of_ble_eq_true rfl)) d_L_area_4 ⟨Nat.le_of_ble_eq_true rfl, Nat.le_of_ble_eq_true rfl⟩ (fun x H1 hob => ?_)
      refine jv_catch (pc := 4) (name := jv_en 2) hown [⟨0, 9, 12, 13⟩] ⟨0, 9, 15, 15⟩ [] htab (jv_pc (by decide) (jv_w hts wa_524) (hT.2 (jv_en 2, "java/lang/IllegalArgumentException") (by decide +kernel)) jv_pn) (by decide) (by decide) (jv_w hts wa_525) (jv_cast hT.1 ce_2) hob ?_
      show W p l e _ s m _ below meth c H1 [] (0 + 1) (0 + 6) _ (F0 m 15 ls [.ref x])
      refine lv_astore_n hx hb d_L_area_15 rfl hl (by decide) rfl (fun ls hl => ?_)
      refine lv_iconst (v := (2 : Int32)) hx hb d_L_area_16 (by decide) ?_
      refine W.widen (k := 8) (n := 713) (Nat.le_of_ble_eq_true rfl) (Nat.le_of_ble_eq_true rfl) ?_
      obtain ⟨-, -, hz1, hk1⟩ := hob
      have hP : va_P (dC, dI) vwCl (w_lo cI cA cL q_out q_va q_aa q_cl q_fu Q S vO) H1 := fun i q hi => (hP i q hi).kept (hk1 q.1 (hP i q hi).lt)
      have hS : va_S A s.heap H1 [] := ⟨hz1, fun q h _ => hk1 q h, fun z hz => by cases hz⟩
      exact W.iret hx hb hr (fun t ht hW => ⟨rfl, ⟨Q, by rw [ht]; exact hP, hD⟩, hS.F ht⟩) hS.2.2 d_L_area_17
    have hf := jv_if hf hk1
    cases hf
  · obtain rfl := Option.some.inj hf
    have hFc := jv_fr hDv hS hA
    refine jv_cwa (va_runV (As := [.int a0]) (rest := [.int (0 : Int32), .ref q_out]) (b := q_va) ⟨hx, hb, hml, hown, hts⟩ (c_V_area l hl9 dC dI cI cA cL q_va q_aa q_cl q_fu Q S.1 S.2.1 S.2.2.1 S.2.2.2 a0 s.heap.size r9 g) (jv_cwV hts wa_520 wa_303 wa_521 wa_522 wa_523 rfl rfl yd_V_area ⟨Nat.le_of_ble_eq_true rfl, Nat.le_of_ble_eq_true rfl⟩) (jv_preVWt hT.1 hK hPv hDv 0 rfl rfl) rfl rfl hl.1 rfl (lv_room (Nat.le_of_ble_eq_true rfl)) d_L_area_4 ⟨Nat.le_of_ble_eq_true rfl, Nat.le_of_ble_eq_true rfl⟩) hS hFc (fun Q8 H1 locs hP1 hD1 hk1 hS => ?_)
    obtain ⟨hP, hD⟩ := jv_joinO (V1 := (w_vault cI cA q_va q_aa q_cl q_fu Q8 r9.2.1 S.2.1 S.2.2.1 r9.2.2)) hP hD hFc hk1 hP1 hD1
    refine lv_i2l hx hb d_L_area_7 rfl ?_
    refine va_last (q0 := 0) (t0 := 2) (x := (r9.1).toInt64) hx hb hK hP hD hS (ha := rfl) (ht := rfl) (hin := by unfold vp_in; decide) (hdg := d_L_area_8) (fun H1 locs hP hD hS => ?_)
    refine lv_goto (tgt := 18) hx hb d_L_area_9 (by decide) ?_
    refine lv_iconst (v := (0 : Int32)) hx hb d_L_area_18 (by decide) ?_
    refine W.widen (k := 8) (n := 713) (Nat.le_of_ble_eq_true rfl) (Nat.le_of_ble_eq_true rfl) ?_
    exact W.iret hx hb hr (fun t ht hW => ⟨rfl, ⟨Q8, by rw [ht]; exact hP, hD⟩, hS.F ht⟩) hS.2.2 d_L_area_19
theorem d_L_flows_0 : decode cc_L_flows 0 = .ok (.aload_n 3, 1) := by decide +kernel
theorem d_L_flows_1 : decode cc_L_flows 1 = .ok (.iconst 0, 1) := by decide +kernel
theorem d_L_flows_2 : decode cc_L_flows 2 = .ok (.aload_n 0, 1) := by decide +kernel
theorem d_L_flows_3 : decode cc_L_flows 3 = .ok (.iload_n 1, 1) := by decide +kernel
theorem d_L_flows_4 : decode cc_L_flows 4 = .ok (.iload_n 2, 1) := by decide +kernel
theorem d_L_flows_5 : decode cc_L_flows 5 = .ok (.invokevirtual 17, 3) := by decide +kernel
theorem d_L_flows_20 : decode cc_L_flows 20 = .ok (.astore 4, 2) := by decide +kernel
theorem d_L_flows_22 : decode cc_L_flows 22 = .ok (.iconst 1, 1) := by decide +kernel
theorem d_L_flows_23 : decode cc_L_flows 23 = .ok (.ireturn, 1) := by decide +kernel
theorem d_L_flows_8 : decode cc_L_flows 8 = .ok (.ifCond .eq 7, 3) := by decide +kernel
theorem d_L_flows_15 : decode cc_L_flows 15 = .ok (.lconst 0, 1) := by decide +kernel
theorem d_L_flows_16 : decode cc_L_flows 16 = .ok (.lastore, 1) := by decide +kernel
theorem d_L_flows_17 : decode cc_L_flows 17 = .ok (.goto 7, 3) := by decide +kernel
theorem d_L_flows_24 : decode cc_L_flows 24 = .ok (.iconst 0, 1) := by decide +kernel
theorem d_L_flows_25 : decode cc_L_flows 25 = .ok (.ireturn, 1) := by decide +kernel
theorem d_L_flows_11 : decode cc_L_flows 11 = .ok (.lconst 1, 1) := by decide +kernel
theorem d_L_flows_12 : decode cc_L_flows 12 = .ok (.goto 4, 3) := by decide +kernel
def l_flows (S : jv_vs) (a0 : Int32) (a1 : Int32) (vO : Nat → Int64) : Option jv_lr := (f_V_flows a0 a1).bind fun x => match x with
  | .inl k => if k = 1 then (some ((1 : Int32), S, vO)) else (none)
  | .inr r9 => some ((0 : Int32), S, (vp_updL vO 0 (if r9 = 0 then (0 : Int64) else 1)))
set_option maxHeartbeats 4000000 in
set_option maxRecDepth 100000 in
theorem c_L_flows (l : Launch) (hl9 : l.stackTraces = false) (dC : Nat → ClassId) (dI : Nat → Nat → Nat) (cI cA cL : ClassId) (q_out q_va q_aa q_cl q_fu : Nat) (Q : Nat → Nat → Nat) (S : jv_vs) (vO : Nat → Int64) (a0 : Int32) (a1 : Int32) (sz : Nat) (r : jv_lr) (hf : l_flows S a0 a1 vO = some r) : Met l y_L_flows ws_L_flows rm_L_flows (jv_Plw [.ref q_va, .int a0, .int a1, .ref q_out] (dC, dI) (jv_ty cI cA cL) (w_lo cI cA cL q_out q_va q_aa q_cl q_fu Q S vO) sz) (jv_Qlw r.1 (dC, dI) cI cA cL q_out q_va q_aa q_cl q_fu r.2.1 r.2.2 (va_A (w_lo cI cA cL q_out q_va q_aa q_cl q_fu Q S vO) sz)) 8 713 (va_A (w_lo cI cA cL q_out q_va q_aa q_cl q_fu Q S vO) sz) := by
  refine va_MetW (cc := cc_L_flows) (maxL := 5) (ret := some .int) (hh := [(0, 17, 20, 13)]) (by decide) rfl ?_
  intro p e s m args below meth c s₁ B hml hv
  obtain ⟨rfl, hsz, hP, hK, hD0, hT⟩ := hv
  have hx := B.exec
  have hb := B.bytes
  have hr := B.returns
  have hts := atoms_spec (ws := ws_L_flows) B.pre
  have hown : s.vm.findClass R_Law = some m.cls := findClass_of_methodNamed B.named
  have hlocks := B.notSynchronized
  have htab := jv_table B (hts _ List.mem_cons_self)
  subst hsz
  have hD := hD0.self (sz := s.heap.size)
  generalize hAe : va_A (w_lo cI cA cL q_out q_va q_aa q_cl q_fu Q S vO) s.heap.size = A at hD ⊢
  have hA : ∀ q : Nat, s.heap.size ≤ q → A q := fun q h => by rw [← hAe]; exact Or.inr h
  have hS : va_S A s.heap s.heap [] := va_S.rf
  have hl := lv_entry ([.ref q_va, .int a0, .int a1, .ref q_out]) (n := 5) (Nat.le_of_ble_eq_true rfl)
  rw [lg_entry_eq]
  generalize (lg_sl ([.ref q_va, .int a0, .int a1, .ref q_out]) ++ List.replicate (5 - (lg_sl ([.ref q_va, .int a0, .int a1, .ref q_out])).length) Slot.unset).toArray = ls at hl ⊢
  have hl : lv_has ls 5 [(0, .ref q_va), (1, .int a0), (2, .int a1), (3, .ref q_out)] := hl
  have hPv := jv_PT hP
  have hDv := jv_DT hD
  unfold l_flows at hf
  obtain ⟨x, g, hf⟩ := jv_ob hf
  refine lv_aload_n hx hb d_L_flows_0 rfl (lv_at hl 3 rfl) ?_
  refine lv_iconst (v := (0 : Int32)) hx hb d_L_flows_1 (by decide) ?_
  refine lv_aload_n hx hb d_L_flows_2 rfl (lv_at hl 0 rfl) ?_
  refine lv_iload_n hx hb d_L_flows_3 rfl (lv_at hl 1 rfl) ?_
  refine lv_iload_n hx hb d_L_flows_4 rfl (lv_at hl 2 rfl) ?_
  rcases x with k | r9
  · by_cases hk0 : k = 1
    · have hf := jv_it hf hk0
      subst hk0
      obtain rfl := Option.some.inj hf
      refine jv_xV (cells := 0) (slots := 0) (As := [.int a0, .int a1]) (rest := [.int (0 : Int32), .ref q_out]) (b := q_va) ⟨hx, hb, hml, hown, hts⟩ (x_V_flows l hl9 dC dI cI cA cL q_va q_aa q_cl q_fu Q S.1 S.2.1 S.2.2.1 S.2.2.2 a0 a1 1 g) (jv_cwV hts wa_526 wa_303 wa_527 wa_528 wa_529 rfl rfl yd_V_flows ⟨Nat.le_of_ble_eq_true rfl, Nat.le_of_ble_eq_true rfl⟩) (jv_preVt hT.1 hK hPv 0 rfl rfl) rfl rfl hl.1 rfl (lv_room (Nat.le_of_ble_eq_true rfl)) d_L_flows_5 ⟨Nat.le_of_ble_eq_true rfl, Nat.le_of_ble_eq_true rfl⟩ (fun x H1 hob => ?_)
      refine jv_catch (pc := 5) (name := jv_en 1) hown [] ⟨0, 17, 20, 13⟩ [] htab jv_pn (by decide) (by decide) (jv_w hts wa_524) (jv_cast hT.1 ce_1) hob ?_
      show W p l e _ s m _ below meth c H1 [] (0 + 1) (0 + 6) _ (F0 m 20 ls [.ref x])
      refine lv_astore hx hb d_L_flows_20 hl (by decide) rfl (fun ls hl => ?_)
      refine lv_iconst (v := (1 : Int32)) hx hb d_L_flows_22 (by decide) ?_
      refine W.widen (k := 8) (n := 713) (Nat.le_of_ble_eq_true rfl) (Nat.le_of_ble_eq_true rfl) ?_
      obtain ⟨-, -, hz1, hk1⟩ := hob
      have hP : va_P (dC, dI) vwCl (w_lo cI cA cL q_out q_va q_aa q_cl q_fu Q S vO) H1 := fun i q hi => (hP i q hi).kept (hk1 q.1 (hP i q hi).lt)
      have hS : va_S A s.heap H1 [] := ⟨hz1, fun q h _ => hk1 q h, fun z hz => by cases hz⟩
      exact W.iret hx hb hr (fun t ht hW => ⟨rfl, ⟨Q, by rw [ht]; exact hP, hD⟩, hS.F ht⟩) hS.2.2 d_L_flows_23
    have hf := jv_if hf hk0
    cases hf
  · obtain rfl := Option.some.inj hf
    refine jv_cs (W.runV (As := [.int a0, .int a1]) (rest := [.int (0 : Int32), .ref q_out]) (b := q_va) ⟨hx, hb, hml, hown, hts⟩ (c_V_flows l hl9 dC dI cI cA cL q_va q_aa q_cl q_fu Q S.1 S.2.1 S.2.2.1 S.2.2.2 a0 a1 r9 g) (jv_cwV hts wa_526 wa_303 wa_527 wa_528 wa_529 rfl rfl yd_V_flows ⟨Nat.le_of_ble_eq_true rfl, Nat.le_of_ble_eq_true rfl⟩) (jv_preVt hT.1 hK hPv 0 rfl rfl) rfl rfl hl.1 rfl (lv_room (Nat.le_of_ble_eq_true rfl)) d_L_flows_5 ⟨Nat.le_of_ble_eq_true rfl, Nat.le_of_ble_eq_true rfl⟩) ?_
    by_cases hz : r9 = 0
    · rw [if_pos hz]
      refine lv_if_eq (tgt := 15) hx hb d_L_flows_8 (by decide) (fun _ => ?_) (fun h9 => absurd hz h9)
      refine lv_lconst (v := (0 : Int64)) hx hb d_L_flows_15 (by decide) ?_
      refine va_last (q0 := 0) (t0 := 2) (x := (0 : Int64)) hx hb hK hP hD hS (ha := rfl) (ht := rfl) (hin := by unfold vp_in; decide) (hdg := d_L_flows_16) (fun H1 locs hP hD hS => ?_)
      refine lv_goto (tgt := 24) hx hb d_L_flows_17 (by decide) ?_
      refine lv_iconst (v := (0 : Int32)) hx hb d_L_flows_24 (by decide) ?_
      refine W.widen (k := 8) (n := 713) (Nat.le_of_ble_eq_true rfl) (Nat.le_of_ble_eq_true rfl) ?_
      exact W.iret hx hb hr (fun t ht hW => ⟨rfl, ⟨Q, by rw [ht]; exact hP, hD⟩, hS.F ht⟩) hS.2.2 d_L_flows_25
    · rw [if_neg hz]
      refine lv_if_eq (tgt := 15) hx hb d_L_flows_8 (by decide) (fun h9 => absurd h9 hz) (fun _ => ?_)
      refine lv_lconst (v := (1 : Int64)) hx hb d_L_flows_11 (by decide) ?_
      refine lv_goto (tgt := 16) hx hb d_L_flows_12 (by decide) ?_
      refine va_last (q0 := 0) (t0 := 2) (x := (1 : Int64)) hx hb hK hP hD hS (ha := rfl) (ht := rfl) (hin := by unfold vp_in; decide) (hdg := d_L_flows_16) (fun H1 locs hP hD hS => ?_)
      refine lv_goto (tgt := 24) hx hb d_L_flows_17 (by decide) ?_
      refine lv_iconst (v := (0 : Int32)) hx hb d_L_flows_24 (by decide) ?_
      refine W.widen (k := 8) (n := 713) (Nat.le_of_ble_eq_true rfl) (Nat.le_of_ble_eq_true rfl) ?_
      exact W.iret hx hb hr (fun t ht hW => ⟨rfl, ⟨Q, by rw [ht]; exact hP, hD⟩, hS.F ht⟩) hS.2.2 d_L_flows_25
theorem d_L_clear_0 : decode cc_L_clear 0 = .ok (.aload_n 3, 1) := by decide +kernel
theorem d_L_clear_1 : decode cc_L_clear 1 = .ok (.iconst 0, 1) := by decide +kernel
theorem d_L_clear_2 : decode cc_L_clear 2 = .ok (.aload_n 0, 1) := by decide +kernel
theorem d_L_clear_3 : decode cc_L_clear 3 = .ok (.iload_n 1, 1) := by decide +kernel
theorem d_L_clear_4 : decode cc_L_clear 4 = .ok (.iload_n 2, 1) := by decide +kernel
theorem d_L_clear_5 : decode cc_L_clear 5 = .ok (.invokevirtual 21, 3) := by decide +kernel
theorem d_L_clear_20 : decode cc_L_clear 20 = .ok (.astore 4, 2) := by decide +kernel
theorem d_L_clear_22 : decode cc_L_clear 22 = .ok (.iconst 1, 1) := by decide +kernel
theorem d_L_clear_23 : decode cc_L_clear 23 = .ok (.ireturn, 1) := by decide +kernel
theorem d_L_clear_8 : decode cc_L_clear 8 = .ok (.ifCond .eq 7, 3) := by decide +kernel
theorem d_L_clear_15 : decode cc_L_clear 15 = .ok (.lconst 0, 1) := by decide +kernel
theorem d_L_clear_16 : decode cc_L_clear 16 = .ok (.lastore, 1) := by decide +kernel
theorem d_L_clear_17 : decode cc_L_clear 17 = .ok (.goto 7, 3) := by decide +kernel
theorem d_L_clear_24 : decode cc_L_clear 24 = .ok (.iconst 0, 1) := by decide +kernel
theorem d_L_clear_25 : decode cc_L_clear 25 = .ok (.ireturn, 1) := by decide +kernel
theorem d_L_clear_11 : decode cc_L_clear 11 = .ok (.lconst 1, 1) := by decide +kernel
theorem d_L_clear_12 : decode cc_L_clear 12 = .ok (.goto 4, 3) := by decide +kernel
def l_clear (S : jv_vs) (a0 : Int32) (a1 : Int32) (vO : Nat → Int64) : Option jv_lr := (f_V_clear a0 a1 S.2.1).bind fun x => match x with
  | .inl k => if k = 1 then (some ((1 : Int32), S, vO)) else (none)
  | .inr r9 => some ((0 : Int32), (S.1, r9.2, S.2.2.1, S.2.2.2), (vp_updL vO 0 (if r9.1 = 0 then (0 : Int64) else 1)))
set_option maxHeartbeats 4000000 in
set_option maxRecDepth 100000 in
theorem c_L_clear (l : Launch) (hl9 : l.stackTraces = false) (dC : Nat → ClassId) (dI : Nat → Nat → Nat) (cI cA cL : ClassId) (q_out q_va q_aa q_cl q_fu : Nat) (Q : Nat → Nat → Nat) (S : jv_vs) (vO : Nat → Int64) (a0 : Int32) (a1 : Int32) (sz : Nat) (r : jv_lr) (hf : l_clear S a0 a1 vO = some r) : Met l y_L_clear ws_L_clear rm_L_clear (jv_Plw [.ref q_va, .int a0, .int a1, .ref q_out] (dC, dI) (jv_ty cI cA cL) (w_lo cI cA cL q_out q_va q_aa q_cl q_fu Q S vO) sz) (jv_Qlw r.1 (dC, dI) cI cA cL q_out q_va q_aa q_cl q_fu r.2.1 r.2.2 (va_A (w_lo cI cA cL q_out q_va q_aa q_cl q_fu Q S vO) sz)) 8 713 (va_A (w_lo cI cA cL q_out q_va q_aa q_cl q_fu Q S vO) sz) := by
  refine va_MetW (cc := cc_L_clear) (maxL := 5) (ret := some .int) (hh := [(0, 17, 20, 13)]) (by decide) rfl ?_
  intro p e s m args below meth c s₁ B hml hv
  obtain ⟨rfl, hsz, hP, hK, hD0, hT⟩ := hv
  have hx := B.exec
  have hb := B.bytes
  have hr := B.returns
  have hts := atoms_spec (ws := ws_L_clear) B.pre
  have hown : s.vm.findClass R_Law = some m.cls := findClass_of_methodNamed B.named
  have hlocks := B.notSynchronized
  have htab := jv_table B (hts _ List.mem_cons_self)
  subst hsz
  have hD := hD0.self (sz := s.heap.size)
  generalize hAe : va_A (w_lo cI cA cL q_out q_va q_aa q_cl q_fu Q S vO) s.heap.size = A at hD ⊢
  have hA : ∀ q : Nat, s.heap.size ≤ q → A q := fun q h => by rw [← hAe]; exact Or.inr h
  have hS : va_S A s.heap s.heap [] := va_S.rf
  have hl := lv_entry ([.ref q_va, .int a0, .int a1, .ref q_out]) (n := 5) (Nat.le_of_ble_eq_true rfl)
  rw [lg_entry_eq]
  generalize (lg_sl ([.ref q_va, .int a0, .int a1, .ref q_out]) ++ List.replicate (5 - (lg_sl ([.ref q_va, .int a0, .int a1, .ref q_out])).length) Slot.unset).toArray = ls at hl ⊢
  have hl : lv_has ls 5 [(0, .ref q_va), (1, .int a0), (2, .int a1), (3, .ref q_out)] := hl
  have hPv := jv_PT hP
  have hDv := jv_DT hD
  unfold l_clear at hf
  obtain ⟨x, g, hf⟩ := jv_ob hf
  refine lv_aload_n hx hb d_L_clear_0 rfl (lv_at hl 3 rfl) ?_
  refine lv_iconst (v := (0 : Int32)) hx hb d_L_clear_1 (by decide) ?_
  refine lv_aload_n hx hb d_L_clear_2 rfl (lv_at hl 0 rfl) ?_
  refine lv_iload_n hx hb d_L_clear_3 rfl (lv_at hl 1 rfl) ?_
  refine lv_iload_n hx hb d_L_clear_4 rfl (lv_at hl 2 rfl) ?_
  rcases x with k | r9
  · by_cases hk0 : k = 1
    · have hf := jv_it hf hk0
      subst hk0
      obtain rfl := Option.some.inj hf
      refine jv_xV (cells := 0) (slots := 0) (As := [.int a0, .int a1]) (rest := [.int (0 : Int32), .ref q_out]) (b := q_va) ⟨hx, hb, hml, hown, hts⟩ (x_V_clear l hl9 dC dI cI cA cL q_va q_aa q_cl q_fu Q S.1 S.2.1 S.2.2.1 S.2.2.2 a0 a1 1 g) (jv_cwV hts wa_530 wa_303 wa_531 wa_532 wa_533 rfl rfl yd_V_clear ⟨Nat.le_of_ble_eq_true rfl, Nat.le_of_ble_eq_true rfl⟩) (jv_preVt hT.1 hK hPv 0 rfl rfl) rfl rfl hl.1 rfl (lv_room (Nat.le_of_ble_eq_true rfl)) d_L_clear_5 ⟨Nat.le_of_ble_eq_true rfl, Nat.le_of_ble_eq_true rfl⟩ (fun x H1 hob => ?_)
      refine jv_catch (pc := 5) (name := jv_en 1) hown [] ⟨0, 17, 20, 13⟩ [] htab jv_pn (by decide) (by decide) (jv_w hts wa_524) (jv_cast hT.1 ce_1) hob ?_
      show W p l e _ s m _ below meth c H1 [] (0 + 1) (0 + 6) _ (F0 m 20 ls [.ref x])
      refine lv_astore hx hb d_L_clear_20 hl (by decide) rfl (fun ls hl => ?_)
      refine lv_iconst (v := (1 : Int32)) hx hb d_L_clear_22 (by decide) ?_
      refine W.widen (k := 8) (n := 713) (Nat.le_of_ble_eq_true rfl) (Nat.le_of_ble_eq_true rfl) ?_
      obtain ⟨-, -, hz1, hk1⟩ := hob
      have hP : va_P (dC, dI) vwCl (w_lo cI cA cL q_out q_va q_aa q_cl q_fu Q S vO) H1 := fun i q hi => (hP i q hi).kept (hk1 q.1 (hP i q hi).lt)
      have hS : va_S A s.heap H1 [] := ⟨hz1, fun q h _ => hk1 q h, fun z hz => by cases hz⟩
      exact W.iret hx hb hr (fun t ht hW => ⟨rfl, ⟨Q, by rw [ht]; exact hP, hD⟩, hS.F ht⟩) hS.2.2 d_L_clear_23
    have hf := jv_if hf hk0
    cases hf
  · obtain rfl := Option.some.inj hf
    have hFc := jv_fr hDv hS hA
    refine jv_cwi (va_runV (As := [.int a0, .int a1]) (rest := [.int (0 : Int32), .ref q_out]) (b := q_va) ⟨hx, hb, hml, hown, hts⟩ (c_V_clear l hl9 dC dI cI cA cL q_va q_aa q_cl q_fu Q S.1 S.2.1 S.2.2.1 S.2.2.2 a0 a1 s.heap.size r9 g) (jv_cwV hts wa_530 wa_303 wa_531 wa_532 wa_533 rfl rfl yd_V_clear ⟨Nat.le_of_ble_eq_true rfl, Nat.le_of_ble_eq_true rfl⟩) (jv_preVWt hT.1 hK hPv hDv 0 rfl rfl) rfl rfl hl.1 rfl (lv_room (Nat.le_of_ble_eq_true rfl)) d_L_clear_5 ⟨Nat.le_of_ble_eq_true rfl, Nat.le_of_ble_eq_true rfl⟩) hS hFc (fun H1 locs hP1 hD1 hk1 hS => ?_)
    obtain ⟨hP, hD⟩ := jv_joinO (V1 := (w_vault cI cA q_va q_aa q_cl q_fu Q S.1 r9.2 S.2.2.1 S.2.2.2)) hP hD hFc hk1 hP1 hD1
    by_cases hz : r9.1 = 0
    · rw [if_pos hz]
      refine lv_if_eq (tgt := 15) hx hb d_L_clear_8 (by decide) (fun _ => ?_) (fun h9 => absurd hz h9)
      refine lv_lconst (v := (0 : Int64)) hx hb d_L_clear_15 (by decide) ?_
      refine va_last (q0 := 0) (t0 := 2) (x := (0 : Int64)) hx hb hK hP hD hS (ha := rfl) (ht := rfl) (hin := by unfold vp_in; decide) (hdg := d_L_clear_16) (fun H1 locs hP hD hS => ?_)
      refine lv_goto (tgt := 24) hx hb d_L_clear_17 (by decide) ?_
      refine lv_iconst (v := (0 : Int32)) hx hb d_L_clear_24 (by decide) ?_
      refine W.widen (k := 8) (n := 713) (Nat.le_of_ble_eq_true rfl) (Nat.le_of_ble_eq_true rfl) ?_
      exact W.iret hx hb hr (fun t ht hW => ⟨rfl, ⟨Q, by rw [ht]; exact hP, hD⟩, hS.F ht⟩) hS.2.2 d_L_clear_25
    · rw [if_neg hz]
      refine lv_if_eq (tgt := 15) hx hb d_L_clear_8 (by decide) (fun h9 => absurd h9 hz) (fun _ => ?_)
      refine lv_lconst (v := (1 : Int64)) hx hb d_L_clear_11 (by decide) ?_
      refine lv_goto (tgt := 16) hx hb d_L_clear_12 (by decide) ?_
      refine va_last (q0 := 0) (t0 := 2) (x := (1 : Int64)) hx hb hK hP hD hS (ha := rfl) (ht := rfl) (hin := by unfold vp_in; decide) (hdg := d_L_clear_16) (fun H1 locs hP hD hS => ?_)
      refine lv_goto (tgt := 24) hx hb d_L_clear_17 (by decide) ?_
      refine lv_iconst (v := (0 : Int32)) hx hb d_L_clear_24 (by decide) ?_
      refine W.widen (k := 8) (n := 713) (Nat.le_of_ble_eq_true rfl) (Nat.le_of_ble_eq_true rfl) ?_
      exact W.iret hx hb hr (fun t ht hW => ⟨rfl, ⟨Q, by rw [ht]; exact hP, hD⟩, hS.F ht⟩) hS.2.2 d_L_clear_25
theorem d_L_login_0 : decode cc_L_login 0 = .ok (.aload_n 3, 1) := by decide +kernel
theorem d_L_login_1 : decode cc_L_login 1 = .ok (.iconst 0, 1) := by decide +kernel
theorem d_L_login_2 : decode cc_L_login 2 = .ok (.aload_n 0, 1) := by decide +kernel
theorem d_L_login_3 : decode cc_L_login 3 = .ok (.iload_n 1, 1) := by decide +kernel
theorem d_L_login_4 : decode cc_L_login 4 = .ok (.iload_n 2, 1) := by decide +kernel
theorem d_L_login_5 : decode cc_L_login 5 = .ok (.invokevirtual 24, 3) := by decide +kernel
theorem d_L_login_13 : decode cc_L_login 13 = .ok (.astore 4, 2) := by decide +kernel
theorem d_L_login_15 : decode cc_L_login 15 = .ok (.iconst 1, 1) := by decide +kernel
theorem d_L_login_16 : decode cc_L_login 16 = .ok (.ireturn, 1) := by decide +kernel
theorem d_L_login_17 : decode cc_L_login 17 = .ok (.astore 4, 2) := by decide +kernel
theorem d_L_login_19 : decode cc_L_login 19 = .ok (.iconst 2, 1) := by decide +kernel
theorem d_L_login_20 : decode cc_L_login 20 = .ok (.ireturn, 1) := by decide +kernel
theorem d_L_login_8 : decode cc_L_login 8 = .ok (.i2l, 1) := by decide +kernel
theorem d_L_login_9 : decode cc_L_login 9 = .ok (.lastore, 1) := by decide +kernel
theorem d_L_login_10 : decode cc_L_login 10 = .ok (.goto 11, 3) := by decide +kernel
theorem d_L_login_21 : decode cc_L_login 21 = .ok (.iconst 0, 1) := by decide +kernel
theorem d_L_login_22 : decode cc_L_login 22 = .ok (.ireturn, 1) := by decide +kernel
def l_login (S : jv_vs) (a0 : Int32) (a1 : Int32) (vO : Nat → Int64) : Option jv_lr := (f_V_login S.1 S.2.1 a0 a1 S.2.2.2).bind fun x => match x with
  | .inl k => if k = 1 then (some ((1 : Int32), S, vO)) else (if k = 2 then (some ((2 : Int32), S, vO)) else (none))
  | .inr r9 => some ((0 : Int32), (S.1, S.2.1, S.2.2.1, r9.2), (vp_updL vO 0 (r9.1).toInt64))
set_option maxHeartbeats 4000000 in
set_option maxRecDepth 100000 in
theorem c_L_login (l : Launch) (hl9 : l.stackTraces = false) (dC : Nat → ClassId) (dI : Nat → Nat → Nat) (cI cA cL : ClassId) (q_out q_va q_aa q_cl q_fu : Nat) (Q : Nat → Nat → Nat) (S : jv_vs) (vO : Nat → Int64) (a0 : Int32) (a1 : Int32) (sz : Nat) (r : jv_lr) (hf : l_login S a0 a1 vO = some r) : Met l y_L_login ws_L_login rm_L_login (jv_Plw [.ref q_va, .int a0, .int a1, .ref q_out] (dC, dI) (jv_ty cI cA cL) (w_lo cI cA cL q_out q_va q_aa q_cl q_fu Q S vO) sz) (jv_Qlw r.1 (dC, dI) cI cA cL q_out q_va q_aa q_cl q_fu r.2.1 r.2.2 (va_A (w_lo cI cA cL q_out q_va q_aa q_cl q_fu Q S vO) sz)) 8 713 (va_A (w_lo cI cA cL q_out q_va q_aa q_cl q_fu Q S vO) sz) := by
  refine va_MetW (cc := cc_L_login) (maxL := 5) (ret := some .int) (hh := [(0, 10, 13, 13), (0, 10, 17, 15)]) (by decide) rfl ?_
  intro p e s m args below meth c s₁ B hml hv
  obtain ⟨rfl, hsz, hP, hK, hD0, hT⟩ := hv
  have hx := B.exec
  have hb := B.bytes
  have hr := B.returns
  have hts := atoms_spec (ws := ws_L_login) B.pre
  have hown : s.vm.findClass R_Law = some m.cls := findClass_of_methodNamed B.named
  have hlocks := B.notSynchronized
  have htab := jv_table B (hts _ List.mem_cons_self)
  subst hsz
  have hD := hD0.self (sz := s.heap.size)
  generalize hAe : va_A (w_lo cI cA cL q_out q_va q_aa q_cl q_fu Q S vO) s.heap.size = A at hD ⊢
  have hA : ∀ q : Nat, s.heap.size ≤ q → A q := fun q h => by rw [← hAe]; exact Or.inr h
  have hS : va_S A s.heap s.heap [] := va_S.rf
  have hl := lv_entry ([.ref q_va, .int a0, .int a1, .ref q_out]) (n := 5) (Nat.le_of_ble_eq_true rfl)
  rw [lg_entry_eq]
  generalize (lg_sl ([.ref q_va, .int a0, .int a1, .ref q_out]) ++ List.replicate (5 - (lg_sl ([.ref q_va, .int a0, .int a1, .ref q_out])).length) Slot.unset).toArray = ls at hl ⊢
  have hl : lv_has ls 5 [(0, .ref q_va), (1, .int a0), (2, .int a1), (3, .ref q_out)] := hl
  have hPv := jv_PT hP
  have hDv := jv_DT hD
  unfold l_login at hf
  obtain ⟨x, g, hf⟩ := jv_ob hf
  refine lv_aload_n hx hb d_L_login_0 rfl (lv_at hl 3 rfl) ?_
  refine lv_iconst (v := (0 : Int32)) hx hb d_L_login_1 (by decide) ?_
  refine lv_aload_n hx hb d_L_login_2 rfl (lv_at hl 0 rfl) ?_
  refine lv_iload_n hx hb d_L_login_3 rfl (lv_at hl 1 rfl) ?_
  refine lv_iload_n hx hb d_L_login_4 rfl (lv_at hl 2 rfl) ?_
  rcases x with k | r9
  · by_cases hk0 : k = 1
    · have hf := jv_it hf hk0
      subst hk0
      obtain rfl := Option.some.inj hf
      refine jv_xV (cells := 0) (slots := 0) (As := [.int a0, .int a1]) (rest := [.int (0 : Int32), .ref q_out]) (b := q_va) ⟨hx, hb, hml, hown, hts⟩ (x_V_login l hl9 dC dI cI cA cL q_va q_aa q_cl q_fu Q S.1 S.2.1 S.2.2.1 S.2.2.2 a0 a1 1 g) (jv_cwV hts wa_534 wa_303 wa_535 wa_536 wa_537 rfl rfl yd_V_login ⟨Nat.le_of_ble_eq_true rfl, Nat.le_of_ble_eq_true rfl⟩) (jv_preVt hT.1 hK hPv 0 rfl rfl) rfl rfl hl.1 rfl (lv_room (Nat.le_of_ble_eq_true rfl)) d_L_login_5 ⟨Nat.le_of_ble_eq_true rfl, Nat.le_of_ble_eq_true rfl⟩ (fun x H1 hob => ?_)
      refine jv_catch (pc := 5) (name := jv_en 1) hown [] ⟨0, 10, 13, 13⟩ [⟨0, 10, 17, 15⟩] htab jv_pn (by decide) (by decide) (jv_w hts wa_524) (jv_cast hT.1 ce_1) hob ?_
      show W p l e _ s m _ below meth c H1 [] (0 + 1) (0 + 6) _ (F0 m 13 ls [.ref x])
      refine lv_astore hx hb d_L_login_13 hl (by decide) rfl (fun ls hl => ?_)
      refine lv_iconst (v := (1 : Int32)) hx hb d_L_login_15 (by decide) ?_
      refine W.widen (k := 8) (n := 713) (Nat.le_of_ble_eq_true rfl) (Nat.le_of_ble_eq_true rfl) ?_
      obtain ⟨-, -, hz1, hk1⟩ := hob
      have hP : va_P (dC, dI) vwCl (w_lo cI cA cL q_out q_va q_aa q_cl q_fu Q S vO) H1 := fun i q hi => (hP i q hi).kept (hk1 q.1 (hP i q hi).lt)
      have hS : va_S A s.heap H1 [] := ⟨hz1, fun q h _ => hk1 q h, fun z hz => by cases hz⟩
      exact W.iret hx hb hr (fun t ht hW => ⟨rfl, ⟨Q, by rw [ht]; exact hP, hD⟩, hS.F ht⟩) hS.2.2 d_L_login_16
    have hf := jv_if hf hk0
    by_cases hk1 : k = 2
    · have hf := jv_it hf hk1
      subst hk1
      obtain rfl := Option.some.inj hf
      refine jv_xV (cells := 0) (slots := 0) (As := [.int a0, .int a1]) (rest := [.int (0 : Int32), .ref q_out]) (b := q_va) ⟨hx, hb, hml, hown, hts⟩ (x_V_login l hl9 dC dI cI cA cL q_va q_aa q_cl q_fu Q S.1 S.2.1 S.2.2.1 S.2.2.2 a0 a1 2 g) (jv_cwV hts wa_534 wa_303 wa_535 wa_536 wa_537 rfl rfl yd_V_login ⟨Nat.le_of_ble_eq_true rfl, Nat.le_of_ble_eq_true rfl⟩) (jv_preVt hT.1 hK hPv 0 rfl rfl) rfl rfl hl.1 rfl (lv_room (Nat.le_of_ble_eq_true rfl)) d_L_login_5 ⟨Nat.le_of_ble_eq_true rfl, Nat.le_of_ble_eq_true rfl⟩ (fun x H1 hob => ?_)
      refine jv_catch (pc := 5) (name := jv_en 2) hown [⟨0, 10, 13, 13⟩] ⟨0, 10, 17, 15⟩ [] htab (jv_pc (by decide) (jv_w hts wa_524) (hT.2 (jv_en 2, "java/lang/IllegalArgumentException") (by decide +kernel)) jv_pn) (by decide) (by decide) (jv_w hts wa_525) (jv_cast hT.1 ce_2) hob ?_
      show W p l e _ s m _ below meth c H1 [] (0 + 1) (0 + 6) _ (F0 m 17 ls [.ref x])
      refine lv_astore hx hb d_L_login_17 hl (by decide) rfl (fun ls hl => ?_)
      refine lv_iconst (v := (2 : Int32)) hx hb d_L_login_19 (by decide) ?_
      refine W.widen (k := 8) (n := 713) (Nat.le_of_ble_eq_true rfl) (Nat.le_of_ble_eq_true rfl) ?_
      obtain ⟨-, -, hz1, hk1⟩ := hob
      have hP : va_P (dC, dI) vwCl (w_lo cI cA cL q_out q_va q_aa q_cl q_fu Q S vO) H1 := fun i q hi => (hP i q hi).kept (hk1 q.1 (hP i q hi).lt)
      have hS : va_S A s.heap H1 [] := ⟨hz1, fun q h _ => hk1 q h, fun z hz => by cases hz⟩
      exact W.iret hx hb hr (fun t ht hW => ⟨rfl, ⟨Q, by rw [ht]; exact hP, hD⟩, hS.F ht⟩) hS.2.2 d_L_login_20
    have hf := jv_if hf hk1
    cases hf
  · obtain rfl := Option.some.inj hf
    have hFc := jv_fr hDv hS hA
    refine jv_cwi (va_runV (As := [.int a0, .int a1]) (rest := [.int (0 : Int32), .ref q_out]) (b := q_va) ⟨hx, hb, hml, hown, hts⟩ (c_V_login l hl9 dC dI cI cA cL q_va q_aa q_cl q_fu Q S.1 S.2.1 S.2.2.1 S.2.2.2 a0 a1 s.heap.size r9 g) (jv_cwV hts wa_534 wa_303 wa_535 wa_536 wa_537 rfl rfl yd_V_login ⟨Nat.le_of_ble_eq_true rfl, Nat.le_of_ble_eq_true rfl⟩) (jv_preVWt hT.1 hK hPv hDv 0 rfl rfl) rfl rfl hl.1 rfl (lv_room (Nat.le_of_ble_eq_true rfl)) d_L_login_5 ⟨Nat.le_of_ble_eq_true rfl, Nat.le_of_ble_eq_true rfl⟩) hS hFc (fun H1 locs hP1 hD1 hk1 hS => ?_)
    obtain ⟨hP, hD⟩ := jv_joinO (V1 := (w_vault cI cA q_va q_aa q_cl q_fu Q S.1 S.2.1 S.2.2.1 r9.2)) hP hD hFc hk1 hP1 hD1
    refine lv_i2l hx hb d_L_login_8 rfl ?_
    refine va_last (q0 := 0) (t0 := 2) (x := (r9.1).toInt64) hx hb hK hP hD hS (ha := rfl) (ht := rfl) (hin := by unfold vp_in; decide) (hdg := d_L_login_9) (fun H1 locs hP hD hS => ?_)
    refine lv_goto (tgt := 21) hx hb d_L_login_10 (by decide) ?_
    refine lv_iconst (v := (0 : Int32)) hx hb d_L_login_21 (by decide) ?_
    refine W.widen (k := 8) (n := 713) (Nat.le_of_ble_eq_true rfl) (Nat.le_of_ble_eq_true rfl) ?_
    exact W.iret hx hb hr (fun t ht hW => ⟨rfl, ⟨Q, by rw [ht]; exact hP, hD⟩, hS.F ht⟩) hS.2.2 d_L_login_22
theorem d_L_logout_0 : decode cc_L_logout 0 = .ok (.aload_n 2, 1) := by decide +kernel
theorem d_L_logout_1 : decode cc_L_logout 1 = .ok (.iconst 0, 1) := by decide +kernel
theorem d_L_logout_2 : decode cc_L_logout 2 = .ok (.aload_n 0, 1) := by decide +kernel
theorem d_L_logout_3 : decode cc_L_logout 3 = .ok (.iload_n 1, 1) := by decide +kernel
theorem d_L_logout_4 : decode cc_L_logout 4 = .ok (.invokevirtual 28, 3) := by decide +kernel
theorem d_L_logout_12 : decode cc_L_logout 12 = .ok (.astore_n 3, 1) := by decide +kernel
theorem d_L_logout_13 : decode cc_L_logout 13 = .ok (.iconst 1, 1) := by decide +kernel
theorem d_L_logout_14 : decode cc_L_logout 14 = .ok (.ireturn, 1) := by decide +kernel
theorem d_L_logout_7 : decode cc_L_logout 7 = .ok (.i2l, 1) := by decide +kernel
theorem d_L_logout_8 : decode cc_L_logout 8 = .ok (.lastore, 1) := by decide +kernel
theorem d_L_logout_9 : decode cc_L_logout 9 = .ok (.goto 6, 3) := by decide +kernel
theorem d_L_logout_15 : decode cc_L_logout 15 = .ok (.iconst 0, 1) := by decide +kernel
theorem d_L_logout_16 : decode cc_L_logout 16 = .ok (.ireturn, 1) := by decide +kernel
def l_logout (S : jv_vs) (a0 : Int32) (vO : Nat → Int64) : Option jv_lr := (f_V_logout S.1 a0 S.2.2.2).bind fun x => match x with
  | .inl k => if k = 1 then (some ((1 : Int32), S, vO)) else (none)
  | .inr r9 => some ((0 : Int32), (S.1, S.2.1, S.2.2.1, r9.2), (vp_updL vO 0 (r9.1).toInt64))
set_option maxHeartbeats 4000000 in
set_option maxRecDepth 100000 in
theorem c_L_logout (l : Launch) (hl9 : l.stackTraces = false) (dC : Nat → ClassId) (dI : Nat → Nat → Nat) (cI cA cL : ClassId) (q_out q_va q_aa q_cl q_fu : Nat) (Q : Nat → Nat → Nat) (S : jv_vs) (vO : Nat → Int64) (a0 : Int32) (sz : Nat) (r : jv_lr) (hf : l_logout S a0 vO = some r) : Met l y_L_logout ws_L_logout rm_L_logout (jv_Plw [.ref q_va, .int a0, .ref q_out] (dC, dI) (jv_ty cI cA cL) (w_lo cI cA cL q_out q_va q_aa q_cl q_fu Q S vO) sz) (jv_Qlw r.1 (dC, dI) cI cA cL q_out q_va q_aa q_cl q_fu r.2.1 r.2.2 (va_A (w_lo cI cA cL q_out q_va q_aa q_cl q_fu Q S vO) sz)) 8 713 (va_A (w_lo cI cA cL q_out q_va q_aa q_cl q_fu Q S vO) sz) := by
  refine va_MetW (cc := cc_L_logout) (maxL := 4) (ret := some .int) (hh := [(0, 9, 12, 13)]) (by decide) rfl ?_
  intro p e s m args below meth c s₁ B hml hv
  obtain ⟨rfl, hsz, hP, hK, hD0, hT⟩ := hv
  have hx := B.exec
  have hb := B.bytes
  have hr := B.returns
  have hts := atoms_spec (ws := ws_L_logout) B.pre
  have hown : s.vm.findClass R_Law = some m.cls := findClass_of_methodNamed B.named
  have hlocks := B.notSynchronized
  have htab := jv_table B (hts _ List.mem_cons_self)
  subst hsz
  have hD := hD0.self (sz := s.heap.size)
  generalize hAe : va_A (w_lo cI cA cL q_out q_va q_aa q_cl q_fu Q S vO) s.heap.size = A at hD ⊢
  have hA : ∀ q : Nat, s.heap.size ≤ q → A q := fun q h => by rw [← hAe]; exact Or.inr h
  have hS : va_S A s.heap s.heap [] := va_S.rf
  have hl := lv_entry ([.ref q_va, .int a0, .ref q_out]) (n := 4) (Nat.le_of_ble_eq_true rfl)
  rw [lg_entry_eq]
  generalize (lg_sl ([.ref q_va, .int a0, .ref q_out]) ++ List.replicate (4 - (lg_sl ([.ref q_va, .int a0, .ref q_out])).length) Slot.unset).toArray = ls at hl ⊢
  have hl : lv_has ls 4 [(0, .ref q_va), (1, .int a0), (2, .ref q_out)] := hl
  have hPv := jv_PT hP
  have hDv := jv_DT hD
  unfold l_logout at hf
  obtain ⟨x, g, hf⟩ := jv_ob hf
  refine lv_aload_n hx hb d_L_logout_0 rfl (lv_at hl 2 rfl) ?_
  refine lv_iconst (v := (0 : Int32)) hx hb d_L_logout_1 (by decide) ?_
  refine lv_aload_n hx hb d_L_logout_2 rfl (lv_at hl 0 rfl) ?_
  refine lv_iload_n hx hb d_L_logout_3 rfl (lv_at hl 1 rfl) ?_
  rcases x with k | r9
  · by_cases hk0 : k = 1
    · have hf := jv_it hf hk0
      subst hk0
      obtain rfl := Option.some.inj hf
      refine jv_xV (cells := 0) (slots := 0) (As := [.int a0]) (rest := [.int (0 : Int32), .ref q_out]) (b := q_va) ⟨hx, hb, hml, hown, hts⟩ (x_V_logout l hl9 dC dI cI cA cL q_va q_aa q_cl q_fu Q S.1 S.2.1 S.2.2.1 S.2.2.2 a0 1 g) (jv_cwV hts wa_538 wa_303 wa_539 wa_540 wa_541 rfl rfl yd_V_logout ⟨Nat.le_of_ble_eq_true rfl, Nat.le_of_ble_eq_true rfl⟩) (jv_preVt hT.1 hK hPv 0 rfl rfl) rfl rfl hl.1 rfl (lv_room (Nat.le_of_ble_eq_true rfl)) d_L_logout_4 ⟨Nat.le_of_ble_eq_true rfl, Nat.le_of_ble_eq_true rfl⟩ (fun x H1 hob => ?_)
      refine jv_catch (pc := 4) (name := jv_en 1) hown [] ⟨0, 9, 12, 13⟩ [] htab jv_pn (by decide) (by decide) (jv_w hts wa_524) (jv_cast hT.1 ce_1) hob ?_
      show W p l e _ s m _ below meth c H1 [] (0 + 1) (0 + 6) _ (F0 m 12 ls [.ref x])
      refine lv_astore_n hx hb d_L_logout_12 rfl hl (by decide) rfl (fun ls hl => ?_)
      refine lv_iconst (v := (1 : Int32)) hx hb d_L_logout_13 (by decide) ?_
      refine W.widen (k := 8) (n := 713) (Nat.le_of_ble_eq_true rfl) (Nat.le_of_ble_eq_true rfl) ?_
      obtain ⟨-, -, hz1, hk1⟩ := hob
      have hP : va_P (dC, dI) vwCl (w_lo cI cA cL q_out q_va q_aa q_cl q_fu Q S vO) H1 := fun i q hi => (hP i q hi).kept (hk1 q.1 (hP i q hi).lt)
      have hS : va_S A s.heap H1 [] := ⟨hz1, fun q h _ => hk1 q h, fun z hz => by cases hz⟩
      exact W.iret hx hb hr (fun t ht hW => ⟨rfl, ⟨Q, by rw [ht]; exact hP, hD⟩, hS.F ht⟩) hS.2.2 d_L_logout_14
    have hf := jv_if hf hk0
    cases hf
  · obtain rfl := Option.some.inj hf
    have hFc := jv_fr hDv hS hA
    refine jv_cwi (va_runV (As := [.int a0]) (rest := [.int (0 : Int32), .ref q_out]) (b := q_va) ⟨hx, hb, hml, hown, hts⟩ (c_V_logout l hl9 dC dI cI cA cL q_va q_aa q_cl q_fu Q S.1 S.2.1 S.2.2.1 S.2.2.2 a0 s.heap.size r9 g) (jv_cwV hts wa_538 wa_303 wa_539 wa_540 wa_541 rfl rfl yd_V_logout ⟨Nat.le_of_ble_eq_true rfl, Nat.le_of_ble_eq_true rfl⟩) (jv_preVWt hT.1 hK hPv hDv 0 rfl rfl) rfl rfl hl.1 rfl (lv_room (Nat.le_of_ble_eq_true rfl)) d_L_logout_4 ⟨Nat.le_of_ble_eq_true rfl, Nat.le_of_ble_eq_true rfl⟩) hS hFc (fun H1 locs hP1 hD1 hk1 hS => ?_)
    obtain ⟨hP, hD⟩ := jv_joinO (V1 := (w_vault cI cA q_va q_aa q_cl q_fu Q S.1 S.2.1 S.2.2.1 r9.2)) hP hD hFc hk1 hP1 hD1
    refine lv_i2l hx hb d_L_logout_7 rfl ?_
    refine va_last (q0 := 0) (t0 := 2) (x := (r9.1).toInt64) hx hb hK hP hD hS (ha := rfl) (ht := rfl) (hin := by unfold vp_in; decide) (hdg := d_L_logout_8) (fun H1 locs hP hD hS => ?_)
    refine lv_goto (tgt := 15) hx hb d_L_logout_9 (by decide) ?_
    refine lv_iconst (v := (0 : Int32)) hx hb d_L_logout_15 (by decide) ?_
    refine W.widen (k := 8) (n := 713) (Nat.le_of_ble_eq_true rfl) (Nat.le_of_ble_eq_true rfl) ?_
    exact W.iret hx hb hr (fun t ht hW => ⟨rfl, ⟨Q, by rw [ht]; exact hP, hD⟩, hS.F ht⟩) hS.2.2 d_L_logout_16
theorem d_L_make_0 : decode cc_L_make 0 = .ok (.aload 4, 2) := by decide +kernel
theorem d_L_make_2 : decode cc_L_make 2 = .ok (.iconst 0, 1) := by decide +kernel
theorem d_L_make_3 : decode cc_L_make 3 = .ok (.aload_n 0, 1) := by decide +kernel
theorem d_L_make_4 : decode cc_L_make 4 = .ok (.iload_n 1, 1) := by decide +kernel
theorem d_L_make_5 : decode cc_L_make 5 = .ok (.iload_n 2, 1) := by decide +kernel
theorem d_L_make_6 : decode cc_L_make 6 = .ok (.iload_n 3, 1) := by decide +kernel
theorem d_L_make_7 : decode cc_L_make 7 = .ok (.invokevirtual 31, 3) := by decide +kernel
theorem d_L_make_15 : decode cc_L_make 15 = .ok (.astore 5, 2) := by decide +kernel
theorem d_L_make_17 : decode cc_L_make 17 = .ok (.iconst 1, 1) := by decide +kernel
theorem d_L_make_18 : decode cc_L_make 18 = .ok (.ireturn, 1) := by decide +kernel
theorem d_L_make_19 : decode cc_L_make 19 = .ok (.astore 5, 2) := by decide +kernel
theorem d_L_make_21 : decode cc_L_make 21 = .ok (.iconst 2, 1) := by decide +kernel
theorem d_L_make_22 : decode cc_L_make 22 = .ok (.ireturn, 1) := by decide +kernel
theorem d_L_make_23 : decode cc_L_make 23 = .ok (.astore 5, 2) := by decide +kernel
theorem d_L_make_25 : decode cc_L_make 25 = .ok (.iconst 3, 1) := by decide +kernel
theorem d_L_make_26 : decode cc_L_make 26 = .ok (.ireturn, 1) := by decide +kernel
theorem d_L_make_27 : decode cc_L_make 27 = .ok (.astore 5, 2) := by decide +kernel
theorem d_L_make_29 : decode cc_L_make 29 = .ok (.iconst 4, 1) := by decide +kernel
theorem d_L_make_30 : decode cc_L_make 30 = .ok (.ireturn, 1) := by decide +kernel
theorem d_L_make_10 : decode cc_L_make 10 = .ok (.i2l, 1) := by decide +kernel
theorem d_L_make_11 : decode cc_L_make 11 = .ok (.lastore, 1) := by decide +kernel
theorem d_L_make_12 : decode cc_L_make 12 = .ok (.goto 19, 3) := by decide +kernel
theorem d_L_make_31 : decode cc_L_make 31 = .ok (.iconst 0, 1) := by decide +kernel
theorem d_L_make_32 : decode cc_L_make 32 = .ok (.ireturn, 1) := by decide +kernel
def l_make (S : jv_vs) (a0 : Int32) (a1 : Int32) (a2 : Int32) (vO : Nat → Int64) : Option jv_lr := (f_V_make S.1 a0 a1 a2 S.2.2.1 S.2.2.2).bind fun x => match x with
  | .inl k => if k = 1 then (some ((1 : Int32), S, vO)) else (if k = 3 then (some ((2 : Int32), S, vO)) else (if k = 4 then (some ((3 : Int32), S, vO)) else (if k = 2 then (some ((4 : Int32), S, vO)) else (none))))
  | .inr r9 => some ((0 : Int32), (S.1, S.2.1, r9.2.1, r9.2.2), (vp_updL vO 0 (r9.1).toInt64))
set_option maxHeartbeats 4000000 in
set_option maxRecDepth 100000 in
theorem c_L_make (l : Launch) (hl9 : l.stackTraces = false) (dC : Nat → ClassId) (dI : Nat → Nat → Nat) (cI cA cL : ClassId) (q_out q_va q_aa q_cl q_fu : Nat) (Q : Nat → Nat → Nat) (S : jv_vs) (vO : Nat → Int64) (a0 : Int32) (a1 : Int32) (a2 : Int32) (sz : Nat) (r : jv_lr) (hf : l_make S a0 a1 a2 vO = some r) : Met l y_L_make ws_L_make rm_L_make (jv_Plw [.ref q_va, .int a0, .int a1, .int a2, .ref q_out] (dC, dI) (jv_ty cI cA cL) (w_lo cI cA cL q_out q_va q_aa q_cl q_fu Q S vO) sz) (jv_Qlw r.1 (dC, dI) cI cA cL q_out q_va q_aa q_cl q_fu r.2.1 r.2.2 (va_A (w_lo cI cA cL q_out q_va q_aa q_cl q_fu Q S vO) sz)) 8 713 (va_A (w_lo cI cA cL q_out q_va q_aa q_cl q_fu Q S vO) sz) := by
  refine va_MetW (cc := cc_L_make) (maxL := 6) (ret := some .int) (hh := [(0, 12, 15, 13), (0, 12, 19, 35), (0, 12, 23, 37), (0, 12, 27, 15)]) (by decide) rfl ?_
  intro p e s m args below meth c s₁ B hml hv
  obtain ⟨rfl, hsz, hP, hK, hD0, hT⟩ := hv
  have hx := B.exec
  have hb := B.bytes
  have hr := B.returns
  have hts := atoms_spec (ws := ws_L_make) B.pre
  have hown : s.vm.findClass R_Law = some m.cls := findClass_of_methodNamed B.named
  have hlocks := B.notSynchronized
  have htab := jv_table B (hts _ List.mem_cons_self)
  subst hsz
  have hD := hD0.self (sz := s.heap.size)
  generalize hAe : va_A (w_lo cI cA cL q_out q_va q_aa q_cl q_fu Q S vO) s.heap.size = A at hD ⊢
  have hA : ∀ q : Nat, s.heap.size ≤ q → A q := fun q h => by rw [← hAe]; exact Or.inr h
  have hS : va_S A s.heap s.heap [] := va_S.rf
  have hl := lv_entry ([.ref q_va, .int a0, .int a1, .int a2, .ref q_out]) (n := 6) (Nat.le_of_ble_eq_true rfl)
  rw [lg_entry_eq]
  generalize (lg_sl ([.ref q_va, .int a0, .int a1, .int a2, .ref q_out]) ++ List.replicate (6 - (lg_sl ([.ref q_va, .int a0, .int a1, .int a2, .ref q_out])).length) Slot.unset).toArray = ls at hl ⊢
  have hl : lv_has ls 6 [(0, .ref q_va), (1, .int a0), (2, .int a1), (3, .int a2), (4, .ref q_out)] := hl
  have hPv := jv_PT hP
  have hDv := jv_DT hD
  unfold l_make at hf
  obtain ⟨x, g, hf⟩ := jv_ob hf
  refine lv_aload hx hb d_L_make_0 (lv_at hl 4 rfl) ?_
  refine lv_iconst (v := (0 : Int32)) hx hb d_L_make_2 (by decide) ?_
  refine lv_aload_n hx hb d_L_make_3 rfl (lv_at hl 0 rfl) ?_
  refine lv_iload_n hx hb d_L_make_4 rfl (lv_at hl 1 rfl) ?_
  refine lv_iload_n hx hb d_L_make_5 rfl (lv_at hl 2 rfl) ?_
  refine lv_iload_n hx hb d_L_make_6 rfl (lv_at hl 3 rfl) ?_
  rcases x with k | r9
  · by_cases hk0 : k = 1
    · have hf := jv_it hf hk0
      subst hk0
      obtain rfl := Option.some.inj hf
      refine jv_xV (cells := 0) (slots := 0) (As := [.int a0, .int a1, .int a2]) (rest := [.int (0 : Int32), .ref q_out]) (b := q_va) ⟨hx, hb, hml, hown, hts⟩ (x_V_make l hl9 dC dI cI cA cL q_va q_aa q_cl q_fu Q S.1 S.2.1 S.2.2.1 S.2.2.2 a0 a1 a2 1 g) (jv_cwV hts wa_542 wa_303 wa_543 wa_544 wa_545 rfl rfl yd_V_make ⟨Nat.le_of_ble_eq_true rfl, Nat.le_of_ble_eq_true rfl⟩) (jv_preVt hT.1 hK hPv 0 rfl rfl) rfl rfl hl.1 rfl (lv_room (Nat.le_of_ble_eq_true rfl)) d_L_make_7 ⟨Nat.le_of_ble_eq_true rfl, Nat.le_of_ble_eq_true rfl⟩ (fun x H1 hob => ?_)
      refine jv_catch (pc := 7) (name := jv_en 1) hown [] ⟨0, 12, 15, 13⟩ [⟨0, 12, 19, 35⟩, ⟨0, 12, 23, 37⟩, ⟨0, 12, 27, 15⟩] htab jv_pn (by decide) (by decide) (jv_w hts wa_524) (jv_cast hT.1 ce_1) hob ?_
      show W p l e _ s m _ below meth c H1 [] (0 + 1) (0 + 6) _ (F0 m 15 ls [.ref x])
      refine lv_astore hx hb d_L_make_15 hl (by decide) rfl (fun ls hl => ?_)
      refine lv_iconst (v := (1 : Int32)) hx hb d_L_make_17 (by decide) ?_
      refine W.widen (k := 8) (n := 713) (Nat.le_of_ble_eq_true rfl) (Nat.le_of_ble_eq_true rfl) ?_
      obtain ⟨-, -, hz1, hk1⟩ := hob
      have hP : va_P (dC, dI) vwCl (w_lo cI cA cL q_out q_va q_aa q_cl q_fu Q S vO) H1 := fun i q hi => (hP i q hi).kept (hk1 q.1 (hP i q hi).lt)
      have hS : va_S A s.heap H1 [] := ⟨hz1, fun q h _ => hk1 q h, fun z hz => by cases hz⟩
      exact W.iret hx hb hr (fun t ht hW => ⟨rfl, ⟨Q, by rw [ht]; exact hP, hD⟩, hS.F ht⟩) hS.2.2 d_L_make_18
    have hf := jv_if hf hk0
    by_cases hk1 : k = 3
    · have hf := jv_it hf hk1
      subst hk1
      obtain rfl := Option.some.inj hf
      refine jv_xV (cells := 0) (slots := 0) (As := [.int a0, .int a1, .int a2]) (rest := [.int (0 : Int32), .ref q_out]) (b := q_va) ⟨hx, hb, hml, hown, hts⟩ (x_V_make l hl9 dC dI cI cA cL q_va q_aa q_cl q_fu Q S.1 S.2.1 S.2.2.1 S.2.2.2 a0 a1 a2 3 g) (jv_cwV hts wa_542 wa_303 wa_543 wa_544 wa_545 rfl rfl yd_V_make ⟨Nat.le_of_ble_eq_true rfl, Nat.le_of_ble_eq_true rfl⟩) (jv_preVt hT.1 hK hPv 0 rfl rfl) rfl rfl hl.1 rfl (lv_room (Nat.le_of_ble_eq_true rfl)) d_L_make_7 ⟨Nat.le_of_ble_eq_true rfl, Nat.le_of_ble_eq_true rfl⟩ (fun x H1 hob => ?_)
      refine jv_catch (pc := 7) (name := jv_en 3) hown [⟨0, 12, 15, 13⟩] ⟨0, 12, 19, 35⟩ [⟨0, 12, 23, 37⟩, ⟨0, 12, 27, 15⟩] htab (jv_pc (by decide) (jv_w hts wa_524) (hT.2 (jv_en 3, "java/lang/IllegalArgumentException") (by decide +kernel)) jv_pn) (by decide) (by decide) (jv_w hts wa_546) (jv_cast hT.1 ce_3) hob ?_
      show W p l e _ s m _ below meth c H1 [] (0 + 1) (0 + 6) _ (F0 m 19 ls [.ref x])
      refine lv_astore hx hb d_L_make_19 hl (by decide) rfl (fun ls hl => ?_)
      refine lv_iconst (v := (2 : Int32)) hx hb d_L_make_21 (by decide) ?_
      refine W.widen (k := 8) (n := 713) (Nat.le_of_ble_eq_true rfl) (Nat.le_of_ble_eq_true rfl) ?_
      obtain ⟨-, -, hz1, hk1⟩ := hob
      have hP : va_P (dC, dI) vwCl (w_lo cI cA cL q_out q_va q_aa q_cl q_fu Q S vO) H1 := fun i q hi => (hP i q hi).kept (hk1 q.1 (hP i q hi).lt)
      have hS : va_S A s.heap H1 [] := ⟨hz1, fun q h _ => hk1 q h, fun z hz => by cases hz⟩
      exact W.iret hx hb hr (fun t ht hW => ⟨rfl, ⟨Q, by rw [ht]; exact hP, hD⟩, hS.F ht⟩) hS.2.2 d_L_make_22
    have hf := jv_if hf hk1
    by_cases hk2 : k = 4
    · have hf := jv_it hf hk2
      subst hk2
      obtain rfl := Option.some.inj hf
      refine jv_xV (cells := 0) (slots := 0) (As := [.int a0, .int a1, .int a2]) (rest := [.int (0 : Int32), .ref q_out]) (b := q_va) ⟨hx, hb, hml, hown, hts⟩ (x_V_make l hl9 dC dI cI cA cL q_va q_aa q_cl q_fu Q S.1 S.2.1 S.2.2.1 S.2.2.2 a0 a1 a2 4 g) (jv_cwV hts wa_542 wa_303 wa_543 wa_544 wa_545 rfl rfl yd_V_make ⟨Nat.le_of_ble_eq_true rfl, Nat.le_of_ble_eq_true rfl⟩) (jv_preVt hT.1 hK hPv 0 rfl rfl) rfl rfl hl.1 rfl (lv_room (Nat.le_of_ble_eq_true rfl)) d_L_make_7 ⟨Nat.le_of_ble_eq_true rfl, Nat.le_of_ble_eq_true rfl⟩ (fun x H1 hob => ?_)
      refine jv_catch (pc := 7) (name := jv_en 4) hown [⟨0, 12, 15, 13⟩, ⟨0, 12, 19, 35⟩] ⟨0, 12, 23, 37⟩ [⟨0, 12, 27, 15⟩] htab (jv_pc (by decide) (jv_w hts wa_524) (hT.2 (jv_en 4, "java/lang/IllegalArgumentException") (by decide +kernel)) (jv_pc (by decide) (jv_w hts wa_546) (hT.2 (jv_en 4, "java/util/NoSuchElementException") (by decide +kernel)) jv_pn)) (by decide) (by decide) (jv_w hts wa_547) (jv_cast hT.1 ce_4) hob ?_
      show W p l e _ s m _ below meth c H1 [] (0 + 1) (0 + 6) _ (F0 m 23 ls [.ref x])
      refine lv_astore hx hb d_L_make_23 hl (by decide) rfl (fun ls hl => ?_)
      refine lv_iconst (v := (3 : Int32)) hx hb d_L_make_25 (by decide) ?_
      refine W.widen (k := 8) (n := 713) (Nat.le_of_ble_eq_true rfl) (Nat.le_of_ble_eq_true rfl) ?_
      obtain ⟨-, -, hz1, hk1⟩ := hob
      have hP : va_P (dC, dI) vwCl (w_lo cI cA cL q_out q_va q_aa q_cl q_fu Q S vO) H1 := fun i q hi => (hP i q hi).kept (hk1 q.1 (hP i q hi).lt)
      have hS : va_S A s.heap H1 [] := ⟨hz1, fun q h _ => hk1 q h, fun z hz => by cases hz⟩
      exact W.iret hx hb hr (fun t ht hW => ⟨rfl, ⟨Q, by rw [ht]; exact hP, hD⟩, hS.F ht⟩) hS.2.2 d_L_make_26
    have hf := jv_if hf hk2
    by_cases hk3 : k = 2
    · have hf := jv_it hf hk3
      subst hk3
      obtain rfl := Option.some.inj hf
      refine jv_xV (cells := 0) (slots := 0) (As := [.int a0, .int a1, .int a2]) (rest := [.int (0 : Int32), .ref q_out]) (b := q_va) ⟨hx, hb, hml, hown, hts⟩ (x_V_make l hl9 dC dI cI cA cL q_va q_aa q_cl q_fu Q S.1 S.2.1 S.2.2.1 S.2.2.2 a0 a1 a2 2 g) (jv_cwV hts wa_542 wa_303 wa_543 wa_544 wa_545 rfl rfl yd_V_make ⟨Nat.le_of_ble_eq_true rfl, Nat.le_of_ble_eq_true rfl⟩) (jv_preVt hT.1 hK hPv 0 rfl rfl) rfl rfl hl.1 rfl (lv_room (Nat.le_of_ble_eq_true rfl)) d_L_make_7 ⟨Nat.le_of_ble_eq_true rfl, Nat.le_of_ble_eq_true rfl⟩ (fun x H1 hob => ?_)
      refine jv_catch (pc := 7) (name := jv_en 2) hown [⟨0, 12, 15, 13⟩, ⟨0, 12, 19, 35⟩, ⟨0, 12, 23, 37⟩] ⟨0, 12, 27, 15⟩ [] htab (jv_pc (by decide) (jv_w hts wa_524) (hT.2 (jv_en 2, "java/lang/IllegalArgumentException") (by decide +kernel)) (jv_pc (by decide) (jv_w hts wa_546) (hT.2 (jv_en 2, "java/util/NoSuchElementException") (by decide +kernel)) (jv_pc (by decide) (jv_w hts wa_547) (hT.2 (jv_en 2, "java/lang/UnsupportedOperationException") (by decide +kernel)) jv_pn))) (by decide) (by decide) (jv_w hts wa_525) (jv_cast hT.1 ce_2) hob ?_
      show W p l e _ s m _ below meth c H1 [] (0 + 1) (0 + 6) _ (F0 m 27 ls [.ref x])
      refine lv_astore hx hb d_L_make_27 hl (by decide) rfl (fun ls hl => ?_)
      refine lv_iconst (v := (4 : Int32)) hx hb d_L_make_29 (by decide) ?_
      refine W.widen (k := 8) (n := 713) (Nat.le_of_ble_eq_true rfl) (Nat.le_of_ble_eq_true rfl) ?_
      obtain ⟨-, -, hz1, hk1⟩ := hob
      have hP : va_P (dC, dI) vwCl (w_lo cI cA cL q_out q_va q_aa q_cl q_fu Q S vO) H1 := fun i q hi => (hP i q hi).kept (hk1 q.1 (hP i q hi).lt)
      have hS : va_S A s.heap H1 [] := ⟨hz1, fun q h _ => hk1 q h, fun z hz => by cases hz⟩
      exact W.iret hx hb hr (fun t ht hW => ⟨rfl, ⟨Q, by rw [ht]; exact hP, hD⟩, hS.F ht⟩) hS.2.2 d_L_make_30
    have hf := jv_if hf hk3
    cases hf
  · obtain rfl := Option.some.inj hf
    have hFc := jv_fr hDv hS hA
    refine jv_cwi (va_runV (As := [.int a0, .int a1, .int a2]) (rest := [.int (0 : Int32), .ref q_out]) (b := q_va) ⟨hx, hb, hml, hown, hts⟩ (c_V_make l hl9 dC dI cI cA cL q_va q_aa q_cl q_fu Q S.1 S.2.1 S.2.2.1 S.2.2.2 a0 a1 a2 s.heap.size r9 g) (jv_cwV hts wa_542 wa_303 wa_543 wa_544 wa_545 rfl rfl yd_V_make ⟨Nat.le_of_ble_eq_true rfl, Nat.le_of_ble_eq_true rfl⟩) (jv_preVWt hT.1 hK hPv hDv 0 rfl rfl) rfl rfl hl.1 rfl (lv_room (Nat.le_of_ble_eq_true rfl)) d_L_make_7 ⟨Nat.le_of_ble_eq_true rfl, Nat.le_of_ble_eq_true rfl⟩) hS hFc (fun H1 locs hP1 hD1 hk1 hS => ?_)
    obtain ⟨hP, hD⟩ := jv_joinO (V1 := (w_vault cI cA q_va q_aa q_cl q_fu Q S.1 S.2.1 r9.2.1 r9.2.2)) hP hD hFc hk1 hP1 hD1
    refine lv_i2l hx hb d_L_make_10 rfl ?_
    refine va_last (q0 := 0) (t0 := 2) (x := (r9.1).toInt64) hx hb hK hP hD hS (ha := rfl) (ht := rfl) (hin := by unfold vp_in; decide) (hdg := d_L_make_11) (fun H1 locs hP hD hS => ?_)
    refine lv_goto (tgt := 31) hx hb d_L_make_12 (by decide) ?_
    refine lv_iconst (v := (0 : Int32)) hx hb d_L_make_31 (by decide) ?_
    refine W.widen (k := 8) (n := 713) (Nat.le_of_ble_eq_true rfl) (Nat.le_of_ble_eq_true rfl) ?_
    exact W.iret hx hb hr (fun t ht hW => ⟨rfl, ⟨Q, by rw [ht]; exact hP, hD⟩, hS.F ht⟩) hS.2.2 d_L_make_32
theorem d_L_write_0 : decode cc_L_write 0 = .ok (.aload 5, 2) := by decide +kernel
theorem d_L_write_2 : decode cc_L_write 2 = .ok (.iconst 0, 1) := by decide +kernel
theorem d_L_write_3 : decode cc_L_write 3 = .ok (.aload_n 0, 1) := by decide +kernel
theorem d_L_write_4 : decode cc_L_write 4 = .ok (.iload_n 1, 1) := by decide +kernel
theorem d_L_write_5 : decode cc_L_write 5 = .ok (.iload_n 2, 1) := by decide +kernel
theorem d_L_write_6 : decode cc_L_write 6 = .ok (.iload_n 3, 1) := by decide +kernel
theorem d_L_write_7 : decode cc_L_write 7 = .ok (.iload 4, 2) := by decide +kernel
theorem d_L_write_9 : decode cc_L_write 9 = .ok (.invokevirtual 39, 3) := by decide +kernel
theorem d_L_write_17 : decode cc_L_write 17 = .ok (.astore 6, 2) := by decide +kernel
theorem d_L_write_19 : decode cc_L_write 19 = .ok (.iconst 1, 1) := by decide +kernel
theorem d_L_write_20 : decode cc_L_write 20 = .ok (.ireturn, 1) := by decide +kernel
theorem d_L_write_21 : decode cc_L_write 21 = .ok (.astore 6, 2) := by decide +kernel
theorem d_L_write_23 : decode cc_L_write 23 = .ok (.iconst 2, 1) := by decide +kernel
theorem d_L_write_24 : decode cc_L_write 24 = .ok (.ireturn, 1) := by decide +kernel
theorem d_L_write_25 : decode cc_L_write 25 = .ok (.astore 6, 2) := by decide +kernel
theorem d_L_write_27 : decode cc_L_write 27 = .ok (.iconst 3, 1) := by decide +kernel
theorem d_L_write_28 : decode cc_L_write 28 = .ok (.ireturn, 1) := by decide +kernel
theorem d_L_write_29 : decode cc_L_write 29 = .ok (.astore 6, 2) := by decide +kernel
theorem d_L_write_31 : decode cc_L_write 31 = .ok (.iconst 4, 1) := by decide +kernel
theorem d_L_write_32 : decode cc_L_write 32 = .ok (.ireturn, 1) := by decide +kernel
theorem d_L_write_12 : decode cc_L_write 12 = .ok (.i2l, 1) := by decide +kernel
theorem d_L_write_13 : decode cc_L_write 13 = .ok (.lastore, 1) := by decide +kernel
theorem d_L_write_14 : decode cc_L_write 14 = .ok (.goto 19, 3) := by decide +kernel
theorem d_L_write_33 : decode cc_L_write 33 = .ok (.iconst 0, 1) := by decide +kernel
theorem d_L_write_34 : decode cc_L_write 34 = .ok (.ireturn, 1) := by decide +kernel
def l_write (S : jv_vs) (a0 : Int32) (a1 : Int32) (a2 : Int32) (a3 : Int32) (vO : Nat → Int64) : Option jv_lr := (f_V_write S.1 a0 a1 a2 a3 S.2.2.1 S.2.2.2).bind fun x => match x with
  | .inl k => if k = 1 then (some ((1 : Int32), S, vO)) else (if k = 3 then (some ((2 : Int32), S, vO)) else (if k = 2 then (some ((3 : Int32), S, vO)) else (if k = 4 then (some ((4 : Int32), S, vO)) else (none))))
  | .inr r9 => some ((0 : Int32), (S.1, S.2.1, r9.2.1, r9.2.2), (vp_updL vO 0 (r9.1).toInt64))
set_option maxHeartbeats 4000000 in
set_option maxRecDepth 100000 in
theorem c_L_write (l : Launch) (hl9 : l.stackTraces = false) (dC : Nat → ClassId) (dI : Nat → Nat → Nat) (cI cA cL : ClassId) (q_out q_va q_aa q_cl q_fu : Nat) (Q : Nat → Nat → Nat) (S : jv_vs) (vO : Nat → Int64) (a0 : Int32) (a1 : Int32) (a2 : Int32) (a3 : Int32) (sz : Nat) (r : jv_lr) (hf : l_write S a0 a1 a2 a3 vO = some r) : Met l y_L_write ws_L_write rm_L_write (jv_Plw [.ref q_va, .int a0, .int a1, .int a2, .int a3, .ref q_out] (dC, dI) (jv_ty cI cA cL) (w_lo cI cA cL q_out q_va q_aa q_cl q_fu Q S vO) sz) (jv_Qlw r.1 (dC, dI) cI cA cL q_out q_va q_aa q_cl q_fu r.2.1 r.2.2 (va_A (w_lo cI cA cL q_out q_va q_aa q_cl q_fu Q S vO) sz)) 8 713 (va_A (w_lo cI cA cL q_out q_va q_aa q_cl q_fu Q S vO) sz) := by
  refine va_MetW (cc := cc_L_write) (maxL := 7) (ret := some .int) (hh := [(0, 14, 17, 13), (0, 14, 21, 35), (0, 14, 25, 15), (0, 14, 29, 37)]) (by decide) rfl ?_
  intro p e s m args below meth c s₁ B hml hv
  obtain ⟨rfl, hsz, hP, hK, hD0, hT⟩ := hv
  have hx := B.exec
  have hb := B.bytes
  have hr := B.returns
  have hts := atoms_spec (ws := ws_L_write) B.pre
  have hown : s.vm.findClass R_Law = some m.cls := findClass_of_methodNamed B.named
  have hlocks := B.notSynchronized
  have htab := jv_table B (hts _ List.mem_cons_self)
  subst hsz
  have hD := hD0.self (sz := s.heap.size)
  generalize hAe : va_A (w_lo cI cA cL q_out q_va q_aa q_cl q_fu Q S vO) s.heap.size = A at hD ⊢
  have hA : ∀ q : Nat, s.heap.size ≤ q → A q := fun q h => by rw [← hAe]; exact Or.inr h
  have hS : va_S A s.heap s.heap [] := va_S.rf
  have hl := lv_entry ([.ref q_va, .int a0, .int a1, .int a2, .int a3, .ref q_out]) (n := 7) (Nat.le_of_ble_eq_true rfl)
  rw [lg_entry_eq]
  generalize (lg_sl ([.ref q_va, .int a0, .int a1, .int a2, .int a3, .ref q_out]) ++ List.replicate (7 - (lg_sl ([.ref q_va, .int a0, .int a1, .int a2, .int a3, .ref q_out])).length) Slot.unset).toArray = ls at hl ⊢
  have hl : lv_has ls 7 [(0, .ref q_va), (1, .int a0), (2, .int a1), (3, .int a2), (4, .int a3), (5, .ref q_out)] := hl
  have hPv := jv_PT hP
  have hDv := jv_DT hD
  unfold l_write at hf
  obtain ⟨x, g, hf⟩ := jv_ob hf
  refine lv_aload hx hb d_L_write_0 (lv_at hl 5 rfl) ?_
  refine lv_iconst (v := (0 : Int32)) hx hb d_L_write_2 (by decide) ?_
  refine lv_aload_n hx hb d_L_write_3 rfl (lv_at hl 0 rfl) ?_
  refine lv_iload_n hx hb d_L_write_4 rfl (lv_at hl 1 rfl) ?_
  refine lv_iload_n hx hb d_L_write_5 rfl (lv_at hl 2 rfl) ?_
  refine lv_iload_n hx hb d_L_write_6 rfl (lv_at hl 3 rfl) ?_
  refine lv_iload hx hb d_L_write_7 (lv_at hl 4 rfl) ?_
  rcases x with k | r9
  · by_cases hk0 : k = 1
    · have hf := jv_it hf hk0
      subst hk0
      obtain rfl := Option.some.inj hf
      refine jv_xV (cells := 0) (slots := 0) (As := [.int a0, .int a1, .int a2, .int a3]) (rest := [.int (0 : Int32), .ref q_out]) (b := q_va) ⟨hx, hb, hml, hown, hts⟩ (x_V_write l hl9 dC dI cI cA cL q_va q_aa q_cl q_fu Q S.1 S.2.1 S.2.2.1 S.2.2.2 a0 a1 a2 a3 1 g) (jv_cwV hts wa_548 wa_303 wa_549 wa_550 wa_551 rfl rfl yd_V_write ⟨Nat.le_of_ble_eq_true rfl, Nat.le_of_ble_eq_true rfl⟩) (jv_preVt hT.1 hK hPv 0 rfl rfl) rfl rfl hl.1 rfl (lv_room (Nat.le_of_ble_eq_true rfl)) d_L_write_9 ⟨Nat.le_of_ble_eq_true rfl, Nat.le_of_ble_eq_true rfl⟩ (fun x H1 hob => ?_)
      refine jv_catch (pc := 9) (name := jv_en 1) hown [] ⟨0, 14, 17, 13⟩ [⟨0, 14, 21, 35⟩, ⟨0, 14, 25, 15⟩, ⟨0, 14, 29, 37⟩] htab jv_pn (by decide) (by decide) (jv_w hts wa_524) (jv_cast hT.1 ce_1) hob ?_
      show W p l e _ s m _ below meth c H1 [] (0 + 1) (0 + 6) _ (F0 m 17 ls [.ref x])
      refine lv_astore hx hb d_L_write_17 hl (by decide) rfl (fun ls hl => ?_)
      refine lv_iconst (v := (1 : Int32)) hx hb d_L_write_19 (by decide) ?_
      refine W.widen (k := 8) (n := 713) (Nat.le_of_ble_eq_true rfl) (Nat.le_of_ble_eq_true rfl) ?_
      obtain ⟨-, -, hz1, hk1⟩ := hob
      have hP : va_P (dC, dI) vwCl (w_lo cI cA cL q_out q_va q_aa q_cl q_fu Q S vO) H1 := fun i q hi => (hP i q hi).kept (hk1 q.1 (hP i q hi).lt)
      have hS : va_S A s.heap H1 [] := ⟨hz1, fun q h _ => hk1 q h, fun z hz => by cases hz⟩
      exact W.iret hx hb hr (fun t ht hW => ⟨rfl, ⟨Q, by rw [ht]; exact hP, hD⟩, hS.F ht⟩) hS.2.2 d_L_write_20
    have hf := jv_if hf hk0
    by_cases hk1 : k = 3
    · have hf := jv_it hf hk1
      subst hk1
      obtain rfl := Option.some.inj hf
      refine jv_xV (cells := 0) (slots := 0) (As := [.int a0, .int a1, .int a2, .int a3]) (rest := [.int (0 : Int32), .ref q_out]) (b := q_va) ⟨hx, hb, hml, hown, hts⟩ (x_V_write l hl9 dC dI cI cA cL q_va q_aa q_cl q_fu Q S.1 S.2.1 S.2.2.1 S.2.2.2 a0 a1 a2 a3 3 g) (jv_cwV hts wa_548 wa_303 wa_549 wa_550 wa_551 rfl rfl yd_V_write ⟨Nat.le_of_ble_eq_true rfl, Nat.le_of_ble_eq_true rfl⟩) (jv_preVt hT.1 hK hPv 0 rfl rfl) rfl rfl hl.1 rfl (lv_room (Nat.le_of_ble_eq_true rfl)) d_L_write_9 ⟨Nat.le_of_ble_eq_true rfl, Nat.le_of_ble_eq_true rfl⟩ (fun x H1 hob => ?_)
      refine jv_catch (pc := 9) (name := jv_en 3) hown [⟨0, 14, 17, 13⟩] ⟨0, 14, 21, 35⟩ [⟨0, 14, 25, 15⟩, ⟨0, 14, 29, 37⟩] htab (jv_pc (by decide) (jv_w hts wa_524) (hT.2 (jv_en 3, "java/lang/IllegalArgumentException") (by decide +kernel)) jv_pn) (by decide) (by decide) (jv_w hts wa_546) (jv_cast hT.1 ce_3) hob ?_
      show W p l e _ s m _ below meth c H1 [] (0 + 1) (0 + 6) _ (F0 m 21 ls [.ref x])
      refine lv_astore hx hb d_L_write_21 hl (by decide) rfl (fun ls hl => ?_)
      refine lv_iconst (v := (2 : Int32)) hx hb d_L_write_23 (by decide) ?_
      refine W.widen (k := 8) (n := 713) (Nat.le_of_ble_eq_true rfl) (Nat.le_of_ble_eq_true rfl) ?_
      obtain ⟨-, -, hz1, hk1⟩ := hob
      have hP : va_P (dC, dI) vwCl (w_lo cI cA cL q_out q_va q_aa q_cl q_fu Q S vO) H1 := fun i q hi => (hP i q hi).kept (hk1 q.1 (hP i q hi).lt)
      have hS : va_S A s.heap H1 [] := ⟨hz1, fun q h _ => hk1 q h, fun z hz => by cases hz⟩
      exact W.iret hx hb hr (fun t ht hW => ⟨rfl, ⟨Q, by rw [ht]; exact hP, hD⟩, hS.F ht⟩) hS.2.2 d_L_write_24
    have hf := jv_if hf hk1
    by_cases hk2 : k = 2
    · have hf := jv_it hf hk2
      subst hk2
      obtain rfl := Option.some.inj hf
      refine jv_xV (cells := 0) (slots := 0) (As := [.int a0, .int a1, .int a2, .int a3]) (rest := [.int (0 : Int32), .ref q_out]) (b := q_va) ⟨hx, hb, hml, hown, hts⟩ (x_V_write l hl9 dC dI cI cA cL q_va q_aa q_cl q_fu Q S.1 S.2.1 S.2.2.1 S.2.2.2 a0 a1 a2 a3 2 g) (jv_cwV hts wa_548 wa_303 wa_549 wa_550 wa_551 rfl rfl yd_V_write ⟨Nat.le_of_ble_eq_true rfl, Nat.le_of_ble_eq_true rfl⟩) (jv_preVt hT.1 hK hPv 0 rfl rfl) rfl rfl hl.1 rfl (lv_room (Nat.le_of_ble_eq_true rfl)) d_L_write_9 ⟨Nat.le_of_ble_eq_true rfl, Nat.le_of_ble_eq_true rfl⟩ (fun x H1 hob => ?_)
      refine jv_catch (pc := 9) (name := jv_en 2) hown [⟨0, 14, 17, 13⟩, ⟨0, 14, 21, 35⟩] ⟨0, 14, 25, 15⟩ [⟨0, 14, 29, 37⟩] htab (jv_pc (by decide) (jv_w hts wa_524) (hT.2 (jv_en 2, "java/lang/IllegalArgumentException") (by decide +kernel)) (jv_pc (by decide) (jv_w hts wa_546) (hT.2 (jv_en 2, "java/util/NoSuchElementException") (by decide +kernel)) jv_pn)) (by decide) (by decide) (jv_w hts wa_525) (jv_cast hT.1 ce_2) hob ?_
      show W p l e _ s m _ below meth c H1 [] (0 + 1) (0 + 6) _ (F0 m 25 ls [.ref x])
      refine lv_astore hx hb d_L_write_25 hl (by decide) rfl (fun ls hl => ?_)
      refine lv_iconst (v := (3 : Int32)) hx hb d_L_write_27 (by decide) ?_
      refine W.widen (k := 8) (n := 713) (Nat.le_of_ble_eq_true rfl) (Nat.le_of_ble_eq_true rfl) ?_
      obtain ⟨-, -, hz1, hk1⟩ := hob
      have hP : va_P (dC, dI) vwCl (w_lo cI cA cL q_out q_va q_aa q_cl q_fu Q S vO) H1 := fun i q hi => (hP i q hi).kept (hk1 q.1 (hP i q hi).lt)
      have hS : va_S A s.heap H1 [] := ⟨hz1, fun q h _ => hk1 q h, fun z hz => by cases hz⟩
      exact W.iret hx hb hr (fun t ht hW => ⟨rfl, ⟨Q, by rw [ht]; exact hP, hD⟩, hS.F ht⟩) hS.2.2 d_L_write_28
    have hf := jv_if hf hk2
    by_cases hk3 : k = 4
    · have hf := jv_it hf hk3
      subst hk3
      obtain rfl := Option.some.inj hf
      refine jv_xV (cells := 0) (slots := 0) (As := [.int a0, .int a1, .int a2, .int a3]) (rest := [.int (0 : Int32), .ref q_out]) (b := q_va) ⟨hx, hb, hml, hown, hts⟩ (x_V_write l hl9 dC dI cI cA cL q_va q_aa q_cl q_fu Q S.1 S.2.1 S.2.2.1 S.2.2.2 a0 a1 a2 a3 4 g) (jv_cwV hts wa_548 wa_303 wa_549 wa_550 wa_551 rfl rfl yd_V_write ⟨Nat.le_of_ble_eq_true rfl, Nat.le_of_ble_eq_true rfl⟩) (jv_preVt hT.1 hK hPv 0 rfl rfl) rfl rfl hl.1 rfl (lv_room (Nat.le_of_ble_eq_true rfl)) d_L_write_9 ⟨Nat.le_of_ble_eq_true rfl, Nat.le_of_ble_eq_true rfl⟩ (fun x H1 hob => ?_)
      refine jv_catch (pc := 9) (name := jv_en 4) hown [⟨0, 14, 17, 13⟩, ⟨0, 14, 21, 35⟩, ⟨0, 14, 25, 15⟩] ⟨0, 14, 29, 37⟩ [] htab (jv_pc (by decide) (jv_w hts wa_524) (hT.2 (jv_en 4, "java/lang/IllegalArgumentException") (by decide +kernel)) (jv_pc (by decide) (jv_w hts wa_546) (hT.2 (jv_en 4, "java/util/NoSuchElementException") (by decide +kernel)) (jv_pc (by decide) (jv_w hts wa_525) (hT.2 (jv_en 4, "java/lang/IllegalStateException") (by decide +kernel)) jv_pn))) (by decide) (by decide) (jv_w hts wa_547) (jv_cast hT.1 ce_4) hob ?_
      show W p l e _ s m _ below meth c H1 [] (0 + 1) (0 + 6) _ (F0 m 29 ls [.ref x])
      refine lv_astore hx hb d_L_write_29 hl (by decide) rfl (fun ls hl => ?_)
      refine lv_iconst (v := (4 : Int32)) hx hb d_L_write_31 (by decide) ?_
      refine W.widen (k := 8) (n := 713) (Nat.le_of_ble_eq_true rfl) (Nat.le_of_ble_eq_true rfl) ?_
      obtain ⟨-, -, hz1, hk1⟩ := hob
      have hP : va_P (dC, dI) vwCl (w_lo cI cA cL q_out q_va q_aa q_cl q_fu Q S vO) H1 := fun i q hi => (hP i q hi).kept (hk1 q.1 (hP i q hi).lt)
      have hS : va_S A s.heap H1 [] := ⟨hz1, fun q h _ => hk1 q h, fun z hz => by cases hz⟩
      exact W.iret hx hb hr (fun t ht hW => ⟨rfl, ⟨Q, by rw [ht]; exact hP, hD⟩, hS.F ht⟩) hS.2.2 d_L_write_32
    have hf := jv_if hf hk3
    cases hf
  · obtain rfl := Option.some.inj hf
    have hFc := jv_fr hDv hS hA
    refine jv_cwi (va_runV (As := [.int a0, .int a1, .int a2, .int a3]) (rest := [.int (0 : Int32), .ref q_out]) (b := q_va) ⟨hx, hb, hml, hown, hts⟩ (c_V_write l hl9 dC dI cI cA cL q_va q_aa q_cl q_fu Q S.1 S.2.1 S.2.2.1 S.2.2.2 a0 a1 a2 a3 s.heap.size r9 g) (jv_cwV hts wa_548 wa_303 wa_549 wa_550 wa_551 rfl rfl yd_V_write ⟨Nat.le_of_ble_eq_true rfl, Nat.le_of_ble_eq_true rfl⟩) (jv_preVWt hT.1 hK hPv hDv 0 rfl rfl) rfl rfl hl.1 rfl (lv_room (Nat.le_of_ble_eq_true rfl)) d_L_write_9 ⟨Nat.le_of_ble_eq_true rfl, Nat.le_of_ble_eq_true rfl⟩) hS hFc (fun H1 locs hP1 hD1 hk1 hS => ?_)
    obtain ⟨hP, hD⟩ := jv_joinO (V1 := (w_vault cI cA q_va q_aa q_cl q_fu Q S.1 S.2.1 r9.2.1 r9.2.2)) hP hD hFc hk1 hP1 hD1
    refine lv_i2l hx hb d_L_write_12 rfl ?_
    refine va_last (q0 := 0) (t0 := 2) (x := (r9.1).toInt64) hx hb hK hP hD hS (ha := rfl) (ht := rfl) (hin := by unfold vp_in; decide) (hdg := d_L_write_13) (fun H1 locs hP hD hS => ?_)
    refine lv_goto (tgt := 33) hx hb d_L_write_14 (by decide) ?_
    refine lv_iconst (v := (0 : Int32)) hx hb d_L_write_33 (by decide) ?_
    refine W.widen (k := 8) (n := 713) (Nat.le_of_ble_eq_true rfl) (Nat.le_of_ble_eq_true rfl) ?_
    exact W.iret hx hb hr (fun t ht hW => ⟨rfl, ⟨Q, by rw [ht]; exact hP, hD⟩, hS.F ht⟩) hS.2.2 d_L_write_34
theorem d_L_truncate_0 : decode cc_L_truncate 0 = .ok (.aload 4, 2) := by decide +kernel
theorem d_L_truncate_2 : decode cc_L_truncate 2 = .ok (.iconst 0, 1) := by decide +kernel
theorem d_L_truncate_3 : decode cc_L_truncate 3 = .ok (.aload_n 0, 1) := by decide +kernel
theorem d_L_truncate_4 : decode cc_L_truncate 4 = .ok (.iload_n 1, 1) := by decide +kernel
theorem d_L_truncate_5 : decode cc_L_truncate 5 = .ok (.iload_n 2, 1) := by decide +kernel
theorem d_L_truncate_6 : decode cc_L_truncate 6 = .ok (.iload_n 3, 1) := by decide +kernel
theorem d_L_truncate_7 : decode cc_L_truncate 7 = .ok (.invokevirtual 43, 3) := by decide +kernel
theorem d_L_truncate_15 : decode cc_L_truncate 15 = .ok (.astore 5, 2) := by decide +kernel
theorem d_L_truncate_17 : decode cc_L_truncate 17 = .ok (.iconst 1, 1) := by decide +kernel
theorem d_L_truncate_18 : decode cc_L_truncate 18 = .ok (.ireturn, 1) := by decide +kernel
theorem d_L_truncate_19 : decode cc_L_truncate 19 = .ok (.astore 5, 2) := by decide +kernel
theorem d_L_truncate_21 : decode cc_L_truncate 21 = .ok (.iconst 2, 1) := by decide +kernel
theorem d_L_truncate_22 : decode cc_L_truncate 22 = .ok (.ireturn, 1) := by decide +kernel
theorem d_L_truncate_23 : decode cc_L_truncate 23 = .ok (.astore 5, 2) := by decide +kernel
theorem d_L_truncate_25 : decode cc_L_truncate 25 = .ok (.iconst 3, 1) := by decide +kernel
theorem d_L_truncate_26 : decode cc_L_truncate 26 = .ok (.ireturn, 1) := by decide +kernel
theorem d_L_truncate_27 : decode cc_L_truncate 27 = .ok (.astore 5, 2) := by decide +kernel
theorem d_L_truncate_29 : decode cc_L_truncate 29 = .ok (.iconst 4, 1) := by decide +kernel
theorem d_L_truncate_30 : decode cc_L_truncate 30 = .ok (.ireturn, 1) := by decide +kernel
theorem d_L_truncate_10 : decode cc_L_truncate 10 = .ok (.i2l, 1) := by decide +kernel
theorem d_L_truncate_11 : decode cc_L_truncate 11 = .ok (.lastore, 1) := by decide +kernel
theorem d_L_truncate_12 : decode cc_L_truncate 12 = .ok (.goto 19, 3) := by decide +kernel
theorem d_L_truncate_31 : decode cc_L_truncate 31 = .ok (.iconst 0, 1) := by decide +kernel
theorem d_L_truncate_32 : decode cc_L_truncate 32 = .ok (.ireturn, 1) := by decide +kernel
def l_truncate (S : jv_vs) (a0 : Int32) (a1 : Int32) (a2 : Int32) (vO : Nat → Int64) : Option jv_lr := (f_V_truncate S.1 a0 a1 a2 S.2.2.1 S.2.2.2).bind fun x => match x with
  | .inl k => if k = 1 then (some ((1 : Int32), S, vO)) else (if k = 3 then (some ((2 : Int32), S, vO)) else (if k = 2 then (some ((3 : Int32), S, vO)) else (if k = 4 then (some ((4 : Int32), S, vO)) else (none))))
  | .inr r9 => some ((0 : Int32), (S.1, S.2.1, r9.2.1, r9.2.2), (vp_updL vO 0 (r9.1).toInt64))
set_option maxHeartbeats 4000000 in
set_option maxRecDepth 100000 in
theorem c_L_truncate (l : Launch) (hl9 : l.stackTraces = false) (dC : Nat → ClassId) (dI : Nat → Nat → Nat) (cI cA cL : ClassId) (q_out q_va q_aa q_cl q_fu : Nat) (Q : Nat → Nat → Nat) (S : jv_vs) (vO : Nat → Int64) (a0 : Int32) (a1 : Int32) (a2 : Int32) (sz : Nat) (r : jv_lr) (hf : l_truncate S a0 a1 a2 vO = some r) : Met l y_L_truncate ws_L_truncate rm_L_truncate (jv_Plw [.ref q_va, .int a0, .int a1, .int a2, .ref q_out] (dC, dI) (jv_ty cI cA cL) (w_lo cI cA cL q_out q_va q_aa q_cl q_fu Q S vO) sz) (jv_Qlw r.1 (dC, dI) cI cA cL q_out q_va q_aa q_cl q_fu r.2.1 r.2.2 (va_A (w_lo cI cA cL q_out q_va q_aa q_cl q_fu Q S vO) sz)) 8 713 (va_A (w_lo cI cA cL q_out q_va q_aa q_cl q_fu Q S vO) sz) := by
  refine va_MetW (cc := cc_L_truncate) (maxL := 6) (ret := some .int) (hh := [(0, 12, 15, 13), (0, 12, 19, 35), (0, 12, 23, 15), (0, 12, 27, 37)]) (by decide) rfl ?_
  intro p e s m args below meth c s₁ B hml hv
  obtain ⟨rfl, hsz, hP, hK, hD0, hT⟩ := hv
  have hx := B.exec
  have hb := B.bytes
  have hr := B.returns
  have hts := atoms_spec (ws := ws_L_truncate) B.pre
  have hown : s.vm.findClass R_Law = some m.cls := findClass_of_methodNamed B.named
  have hlocks := B.notSynchronized
  have htab := jv_table B (hts _ List.mem_cons_self)
  subst hsz
  have hD := hD0.self (sz := s.heap.size)
  generalize hAe : va_A (w_lo cI cA cL q_out q_va q_aa q_cl q_fu Q S vO) s.heap.size = A at hD ⊢
  have hA : ∀ q : Nat, s.heap.size ≤ q → A q := fun q h => by rw [← hAe]; exact Or.inr h
  have hS : va_S A s.heap s.heap [] := va_S.rf
  have hl := lv_entry ([.ref q_va, .int a0, .int a1, .int a2, .ref q_out]) (n := 6) (Nat.le_of_ble_eq_true rfl)
  rw [lg_entry_eq]
  generalize (lg_sl ([.ref q_va, .int a0, .int a1, .int a2, .ref q_out]) ++ List.replicate (6 - (lg_sl ([.ref q_va, .int a0, .int a1, .int a2, .ref q_out])).length) Slot.unset).toArray = ls at hl ⊢
  have hl : lv_has ls 6 [(0, .ref q_va), (1, .int a0), (2, .int a1), (3, .int a2), (4, .ref q_out)] := hl
  have hPv := jv_PT hP
  have hDv := jv_DT hD
  unfold l_truncate at hf
  obtain ⟨x, g, hf⟩ := jv_ob hf
  refine lv_aload hx hb d_L_truncate_0 (lv_at hl 4 rfl) ?_
  refine lv_iconst (v := (0 : Int32)) hx hb d_L_truncate_2 (by decide) ?_
  refine lv_aload_n hx hb d_L_truncate_3 rfl (lv_at hl 0 rfl) ?_
  refine lv_iload_n hx hb d_L_truncate_4 rfl (lv_at hl 1 rfl) ?_
  refine lv_iload_n hx hb d_L_truncate_5 rfl (lv_at hl 2 rfl) ?_
  refine lv_iload_n hx hb d_L_truncate_6 rfl (lv_at hl 3 rfl) ?_
  rcases x with k | r9
  · by_cases hk0 : k = 1
    · have hf := jv_it hf hk0
      subst hk0
      obtain rfl := Option.some.inj hf
      refine jv_xV (cells := 0) (slots := 0) (As := [.int a0, .int a1, .int a2]) (rest := [.int (0 : Int32), .ref q_out]) (b := q_va) ⟨hx, hb, hml, hown, hts⟩ (x_V_truncate l hl9 dC dI cI cA cL q_va q_aa q_cl q_fu Q S.1 S.2.1 S.2.2.1 S.2.2.2 a0 a1 a2 1 g) (jv_cwV hts wa_552 wa_303 wa_553 wa_554 wa_555 rfl rfl yd_V_truncate ⟨Nat.le_of_ble_eq_true rfl, Nat.le_of_ble_eq_true rfl⟩) (jv_preVt hT.1 hK hPv 0 rfl rfl) rfl rfl hl.1 rfl (lv_room (Nat.le_of_ble_eq_true rfl)) d_L_truncate_7 ⟨Nat.le_of_ble_eq_true rfl, Nat.le_of_ble_eq_true rfl⟩ (fun x H1 hob => ?_)
      refine jv_catch (pc := 7) (name := jv_en 1) hown [] ⟨0, 12, 15, 13⟩ [⟨0, 12, 19, 35⟩, ⟨0, 12, 23, 15⟩, ⟨0, 12, 27, 37⟩] htab jv_pn (by decide) (by decide) (jv_w hts wa_524) (jv_cast hT.1 ce_1) hob ?_
      show W p l e _ s m _ below meth c H1 [] (0 + 1) (0 + 6) _ (F0 m 15 ls [.ref x])
      refine lv_astore hx hb d_L_truncate_15 hl (by decide) rfl (fun ls hl => ?_)
      refine lv_iconst (v := (1 : Int32)) hx hb d_L_truncate_17 (by decide) ?_
      refine W.widen (k := 8) (n := 713) (Nat.le_of_ble_eq_true rfl) (Nat.le_of_ble_eq_true rfl) ?_
      obtain ⟨-, -, hz1, hk1⟩ := hob
      have hP : va_P (dC, dI) vwCl (w_lo cI cA cL q_out q_va q_aa q_cl q_fu Q S vO) H1 := fun i q hi => (hP i q hi).kept (hk1 q.1 (hP i q hi).lt)
      have hS : va_S A s.heap H1 [] := ⟨hz1, fun q h _ => hk1 q h, fun z hz => by cases hz⟩
      exact W.iret hx hb hr (fun t ht hW => ⟨rfl, ⟨Q, by rw [ht]; exact hP, hD⟩, hS.F ht⟩) hS.2.2 d_L_truncate_18
    have hf := jv_if hf hk0
    by_cases hk1 : k = 3
    · have hf := jv_it hf hk1
      subst hk1
      obtain rfl := Option.some.inj hf
      refine jv_xV (cells := 0) (slots := 0) (As := [.int a0, .int a1, .int a2]) (rest := [.int (0 : Int32), .ref q_out]) (b := q_va) ⟨hx, hb, hml, hown, hts⟩ (x_V_truncate l hl9 dC dI cI cA cL q_va q_aa q_cl q_fu Q S.1 S.2.1 S.2.2.1 S.2.2.2 a0 a1 a2 3 g) (jv_cwV hts wa_552 wa_303 wa_553 wa_554 wa_555 rfl rfl yd_V_truncate ⟨Nat.le_of_ble_eq_true rfl, Nat.le_of_ble_eq_true rfl⟩) (jv_preVt hT.1 hK hPv 0 rfl rfl) rfl rfl hl.1 rfl (lv_room (Nat.le_of_ble_eq_true rfl)) d_L_truncate_7 ⟨Nat.le_of_ble_eq_true rfl, Nat.le_of_ble_eq_true rfl⟩ (fun x H1 hob => ?_)
      refine jv_catch (pc := 7) (name := jv_en 3) hown [⟨0, 12, 15, 13⟩] ⟨0, 12, 19, 35⟩ [⟨0, 12, 23, 15⟩, ⟨0, 12, 27, 37⟩] htab (jv_pc (by decide) (jv_w hts wa_524) (hT.2 (jv_en 3, "java/lang/IllegalArgumentException") (by decide +kernel)) jv_pn) (by decide) (by decide) (jv_w hts wa_546) (jv_cast hT.1 ce_3) hob ?_
      show W p l e _ s m _ below meth c H1 [] (0 + 1) (0 + 6) _ (F0 m 19 ls [.ref x])
      refine lv_astore hx hb d_L_truncate_19 hl (by decide) rfl (fun ls hl => ?_)
      refine lv_iconst (v := (2 : Int32)) hx hb d_L_truncate_21 (by decide) ?_
      refine W.widen (k := 8) (n := 713) (Nat.le_of_ble_eq_true rfl) (Nat.le_of_ble_eq_true rfl) ?_
      obtain ⟨-, -, hz1, hk1⟩ := hob
      have hP : va_P (dC, dI) vwCl (w_lo cI cA cL q_out q_va q_aa q_cl q_fu Q S vO) H1 := fun i q hi => (hP i q hi).kept (hk1 q.1 (hP i q hi).lt)
      have hS : va_S A s.heap H1 [] := ⟨hz1, fun q h _ => hk1 q h, fun z hz => by cases hz⟩
      exact W.iret hx hb hr (fun t ht hW => ⟨rfl, ⟨Q, by rw [ht]; exact hP, hD⟩, hS.F ht⟩) hS.2.2 d_L_truncate_22
    have hf := jv_if hf hk1
    by_cases hk2 : k = 2
    · have hf := jv_it hf hk2
      subst hk2
      obtain rfl := Option.some.inj hf
      refine jv_xV (cells := 0) (slots := 0) (As := [.int a0, .int a1, .int a2]) (rest := [.int (0 : Int32), .ref q_out]) (b := q_va) ⟨hx, hb, hml, hown, hts⟩ (x_V_truncate l hl9 dC dI cI cA cL q_va q_aa q_cl q_fu Q S.1 S.2.1 S.2.2.1 S.2.2.2 a0 a1 a2 2 g) (jv_cwV hts wa_552 wa_303 wa_553 wa_554 wa_555 rfl rfl yd_V_truncate ⟨Nat.le_of_ble_eq_true rfl, Nat.le_of_ble_eq_true rfl⟩) (jv_preVt hT.1 hK hPv 0 rfl rfl) rfl rfl hl.1 rfl (lv_room (Nat.le_of_ble_eq_true rfl)) d_L_truncate_7 ⟨Nat.le_of_ble_eq_true rfl, Nat.le_of_ble_eq_true rfl⟩ (fun x H1 hob => ?_)
      refine jv_catch (pc := 7) (name := jv_en 2) hown [⟨0, 12, 15, 13⟩, ⟨0, 12, 19, 35⟩] ⟨0, 12, 23, 15⟩ [⟨0, 12, 27, 37⟩] htab (jv_pc (by decide) (jv_w hts wa_524) (hT.2 (jv_en 2, "java/lang/IllegalArgumentException") (by decide +kernel)) (jv_pc (by decide) (jv_w hts wa_546) (hT.2 (jv_en 2, "java/util/NoSuchElementException") (by decide +kernel)) jv_pn)) (by decide) (by decide) (jv_w hts wa_525) (jv_cast hT.1 ce_2) hob ?_
      show W p l e _ s m _ below meth c H1 [] (0 + 1) (0 + 6) _ (F0 m 23 ls [.ref x])
      refine lv_astore hx hb d_L_truncate_23 hl (by decide) rfl (fun ls hl => ?_)
      refine lv_iconst (v := (3 : Int32)) hx hb d_L_truncate_25 (by decide) ?_
      refine W.widen (k := 8) (n := 713) (Nat.le_of_ble_eq_true rfl) (Nat.le_of_ble_eq_true rfl) ?_
      obtain ⟨-, -, hz1, hk1⟩ := hob
      have hP : va_P (dC, dI) vwCl (w_lo cI cA cL q_out q_va q_aa q_cl q_fu Q S vO) H1 := fun i q hi => (hP i q hi).kept (hk1 q.1 (hP i q hi).lt)
      have hS : va_S A s.heap H1 [] := ⟨hz1, fun q h _ => hk1 q h, fun z hz => by cases hz⟩
      exact W.iret hx hb hr (fun t ht hW => ⟨rfl, ⟨Q, by rw [ht]; exact hP, hD⟩, hS.F ht⟩) hS.2.2 d_L_truncate_26
    have hf := jv_if hf hk2
    by_cases hk3 : k = 4
    · have hf := jv_it hf hk3
      subst hk3
      obtain rfl := Option.some.inj hf
      refine jv_xV (cells := 0) (slots := 0) (As := [.int a0, .int a1, .int a2]) (rest := [.int (0 : Int32), .ref q_out]) (b := q_va) ⟨hx, hb, hml, hown, hts⟩ (x_V_truncate l hl9 dC dI cI cA cL q_va q_aa q_cl q_fu Q S.1 S.2.1 S.2.2.1 S.2.2.2 a0 a1 a2 4 g) (jv_cwV hts wa_552 wa_303 wa_553 wa_554 wa_555 rfl rfl yd_V_truncate ⟨Nat.le_of_ble_eq_true rfl, Nat.le_of_ble_eq_true rfl⟩) (jv_preVt hT.1 hK hPv 0 rfl rfl) rfl rfl hl.1 rfl (lv_room (Nat.le_of_ble_eq_true rfl)) d_L_truncate_7 ⟨Nat.le_of_ble_eq_true rfl, Nat.le_of_ble_eq_true rfl⟩ (fun x H1 hob => ?_)
      refine jv_catch (pc := 7) (name := jv_en 4) hown [⟨0, 12, 15, 13⟩, ⟨0, 12, 19, 35⟩, ⟨0, 12, 23, 15⟩] ⟨0, 12, 27, 37⟩ [] htab (jv_pc (by decide) (jv_w hts wa_524) (hT.2 (jv_en 4, "java/lang/IllegalArgumentException") (by decide +kernel)) (jv_pc (by decide) (jv_w hts wa_546) (hT.2 (jv_en 4, "java/util/NoSuchElementException") (by decide +kernel)) (jv_pc (by decide) (jv_w hts wa_525) (hT.2 (jv_en 4, "java/lang/IllegalStateException") (by decide +kernel)) jv_pn))) (by decide) (by decide) (jv_w hts wa_547) (jv_cast hT.1 ce_4) hob ?_
      show W p l e _ s m _ below meth c H1 [] (0 + 1) (0 + 6) _ (F0 m 27 ls [.ref x])
      refine lv_astore hx hb d_L_truncate_27 hl (by decide) rfl (fun ls hl => ?_)
      refine lv_iconst (v := (4 : Int32)) hx hb d_L_truncate_29 (by decide) ?_
      refine W.widen (k := 8) (n := 713) (Nat.le_of_ble_eq_true rfl) (Nat.le_of_ble_eq_true rfl) ?_
      obtain ⟨-, -, hz1, hk1⟩ := hob
      have hP : va_P (dC, dI) vwCl (w_lo cI cA cL q_out q_va q_aa q_cl q_fu Q S vO) H1 := fun i q hi => (hP i q hi).kept (hk1 q.1 (hP i q hi).lt)
      have hS : va_S A s.heap H1 [] := ⟨hz1, fun q h _ => hk1 q h, fun z hz => by cases hz⟩
      exact W.iret hx hb hr (fun t ht hW => ⟨rfl, ⟨Q, by rw [ht]; exact hP, hD⟩, hS.F ht⟩) hS.2.2 d_L_truncate_30
    have hf := jv_if hf hk3
    cases hf
  · obtain rfl := Option.some.inj hf
    have hFc := jv_fr hDv hS hA
    refine jv_cwi (va_runV (As := [.int a0, .int a1, .int a2]) (rest := [.int (0 : Int32), .ref q_out]) (b := q_va) ⟨hx, hb, hml, hown, hts⟩ (c_V_truncate l hl9 dC dI cI cA cL q_va q_aa q_cl q_fu Q S.1 S.2.1 S.2.2.1 S.2.2.2 a0 a1 a2 s.heap.size r9 g) (jv_cwV hts wa_552 wa_303 wa_553 wa_554 wa_555 rfl rfl yd_V_truncate ⟨Nat.le_of_ble_eq_true rfl, Nat.le_of_ble_eq_true rfl⟩) (jv_preVWt hT.1 hK hPv hDv 0 rfl rfl) rfl rfl hl.1 rfl (lv_room (Nat.le_of_ble_eq_true rfl)) d_L_truncate_7 ⟨Nat.le_of_ble_eq_true rfl, Nat.le_of_ble_eq_true rfl⟩) hS hFc (fun H1 locs hP1 hD1 hk1 hS => ?_)
    obtain ⟨hP, hD⟩ := jv_joinO (V1 := (w_vault cI cA q_va q_aa q_cl q_fu Q S.1 S.2.1 r9.2.1 r9.2.2)) hP hD hFc hk1 hP1 hD1
    refine lv_i2l hx hb d_L_truncate_10 rfl ?_
    refine va_last (q0 := 0) (t0 := 2) (x := (r9.1).toInt64) hx hb hK hP hD hS (ha := rfl) (ht := rfl) (hin := by unfold vp_in; decide) (hdg := d_L_truncate_11) (fun H1 locs hP hD hS => ?_)
    refine lv_goto (tgt := 31) hx hb d_L_truncate_12 (by decide) ?_
    refine lv_iconst (v := (0 : Int32)) hx hb d_L_truncate_31 (by decide) ?_
    refine W.widen (k := 8) (n := 713) (Nat.le_of_ble_eq_true rfl) (Nat.le_of_ble_eq_true rfl) ?_
    exact W.iret hx hb hr (fun t ht hW => ⟨rfl, ⟨Q, by rw [ht]; exact hP, hD⟩, hS.F ht⟩) hS.2.2 d_L_truncate_32
