abbrev cc_L_remove : ByteArray := method_11_code
def y_L_remove : MethodName := ⟨R_Law, "remove", "(LLabelVault;II[J)I"⟩
abbrev ws_L_remove : List Cond := .codeWith y_L_remove cc_L_remove 5 (some .int) [(0, 10, 13, 13), (0, 10, 17, 35), (0, 10, 21, 15), (0, 10, 25, 37)] :: jv_LT
abbrev rm_L_remove : Room := { frames := 9, cells := 8, slots := 713, locals := 161 }
theorem yd_L_remove : y_L_remove.cls ≠ "java/lang/invoke/MethodHandle" ∧ y_L_remove.cls ≠ "java/lang/invoke/VarHandle" ∧ (parseMethodDescriptor y_L_remove.desc).map (fun d => d.parameters.length) = some 4 := ⟨by decide +kernel, by decide +kernel, by decide +kernel⟩
abbrev cc_L_move : ByteArray := method_12_code
def y_L_move : MethodName := ⟨R_Law, "move", "(LLabelVault;III[J)I"⟩
abbrev ws_L_move : List Cond := .codeWith y_L_move cc_L_move 6 (some .int) [(0, 12, 15, 13), (0, 12, 19, 35), (0, 12, 23, 15), (0, 12, 27, 37)] :: jv_LT
abbrev rm_L_move : Room := { frames := 9, cells := 8, slots := 713, locals := 163 }
theorem yd_L_move : y_L_move.cls ≠ "java/lang/invoke/MethodHandle" ∧ y_L_move.cls ≠ "java/lang/invoke/VarHandle" ∧ (parseMethodDescriptor y_L_move.desc).map (fun d => d.parameters.length) = some 5 := ⟨by decide +kernel, by decide +kernel, by decide +kernel⟩
abbrev cc_L_read : ByteArray := method_13_code
def y_L_read : MethodName := ⟨R_Law, "read", "(LLabelVault;IIII[J)I"⟩
abbrev ws_L_read : List Cond := .codeWith y_L_read cc_L_read 7 (some .int) [(0, 14, 17, 13), (0, 14, 21, 15), (0, 14, 25, 35), (0, 14, 29, 37), (0, 14, 33, 55)] :: jv_LT
abbrev rm_L_read : Room := { frames := 9, cells := 8, slots := 713, locals := 167 }
theorem yd_L_read : y_L_read.cls ≠ "java/lang/invoke/MethodHandle" ∧ y_L_read.cls ≠ "java/lang/invoke/VarHandle" ∧ (parseMethodDescriptor y_L_read.desc).map (fun d => d.parameters.length) = some 6 := ⟨by decide +kernel, by decide +kernel, by decide +kernel⟩
abbrev cc_L_list : ByteArray := method_14_code
def y_L_list : MethodName := ⟨R_Law, "list", "(LLabelVault;II[J)I"⟩
abbrev ws_L_list : List Cond := .codeWith y_L_list cc_L_list 5 (some .int) [(0, 10, 13, 13), (0, 10, 17, 35), (0, 10, 21, 37)] :: jv_LT
abbrev rm_L_list : Room := { frames := 9, cells := 8, slots := 713, locals := 161 }
theorem yd_L_list : y_L_list.cls ≠ "java/lang/invoke/MethodHandle" ∧ y_L_list.cls ≠ "java/lang/invoke/VarHandle" ∧ (parseMethodDescriptor y_L_list.desc).map (fun d => d.parameters.length) = some 4 := ⟨by decide +kernel, by decide +kernel, by decide +kernel⟩
abbrev cc_L_look : ByteArray := method_15_code
def y_L_look : MethodName := ⟨R_Law, "look", "(LLabelVault;II[J)I"⟩
abbrev ws_L_look : List Cond := .codeWith y_L_look cc_L_look 5 (some .int) [(0, 10, 13, 13)] :: jv_LT
abbrev rm_L_look : Room := { frames := 9, cells := 8, slots := 713, locals := 162 }
theorem yd_L_look : y_L_look.cls ≠ "java/lang/invoke/MethodHandle" ∧ y_L_look.cls ≠ "java/lang/invoke/VarHandle" ∧ (parseMethodDescriptor y_L_look.desc).map (fun d => d.parameters.length) = some 4 := ⟨by decide +kernel, by decide +kernel, by decide +kernel⟩
abbrev cc_L_size : ByteArray := method_16_code
def y_L_size : MethodName := ⟨R_Law, "size", "(LLabelVault;III[J)I"⟩
abbrev ws_L_size : List Cond := .codeWith y_L_size cc_L_size 6 (some .int) [(0, 12, 15, 13), (0, 12, 19, 15), (0, 12, 23, 35), (0, 12, 27, 37)] :: jv_LT
abbrev rm_L_size : Room := { frames := 9, cells := 8, slots := 713, locals := 165 }
theorem yd_L_size : y_L_size.cls ≠ "java/lang/invoke/MethodHandle" ∧ y_L_size.cls ≠ "java/lang/invoke/VarHandle" ∧ (parseMethodDescriptor y_L_size.desc).map (fun d => d.parameters.length) = some 5 := ⟨by decide +kernel, by decide +kernel, by decide +kernel⟩
abbrev cc_L_tear : ByteArray := method_17_code
def y_L_tear : MethodName := ⟨R_Law, "tear", "(LLabelVault;I[J)I"⟩
abbrev ws_L_tear : List Cond := .codeWith y_L_tear cc_L_tear 4 (some .int) [(0, 16, 19, 13)] :: jv_LT
abbrev rm_L_tear : Room := { frames := 8, cells := 8, slots := 713, locals := 137 }
theorem yd_L_tear : y_L_tear.cls ≠ "java/lang/invoke/MethodHandle" ∧ y_L_tear.cls ≠ "java/lang/invoke/VarHandle" ∧ (parseMethodDescriptor y_L_tear.desc).map (fun d => d.parameters.length) = some 3 := ⟨by decide +kernel, by decide +kernel, by decide +kernel⟩
abbrev cc_L_disk : ByteArray := method_18_code
def y_L_disk : MethodName := ⟨R_Law, "disk", "(LLabelVault;III[J)I"⟩
abbrev ws_L_disk : List Cond := .codeWith y_L_disk cc_L_disk 6 (some .int) [(0, 12, 15, 13)] :: jv_LT
abbrev rm_L_disk : Room := { frames := 9, cells := 8, slots := 713, locals := 161 }
theorem yd_L_disk : y_L_disk.cls ≠ "java/lang/invoke/MethodHandle" ∧ y_L_disk.cls ≠ "java/lang/invoke/VarHandle" ∧ (parseMethodDescriptor y_L_disk.desc).map (fun d => d.parameters.length) = some 5 := ⟨by decide +kernel, by decide +kernel, by decide +kernel⟩
theorem wa_556 : (Cond.code y_V_remove prog_1_method_10_code 5 (some .int)) ∈ jv_LT := List.mem_filter.mpr ⟨List.mem_of_getElem? (i := 663) (by decide +kernel), by decide +kernel⟩
theorem wa_557 : (Cond.methodLink R_Law 46 y_V_remove) ∈ jv_LT := List.mem_filter.mpr ⟨List.mem_of_getElem? (i := 660) (by decide +kernel), by decide +kernel⟩
theorem wa_558 : (Cond.instanceMethod y_V_remove) ∈ jv_LT := List.mem_filter.mpr ⟨List.mem_of_getElem? (i := 661) (by decide +kernel), by decide +kernel⟩
theorem wa_559 : (Cond.selects R_Vault y_V_remove y_V_remove) ∈ jv_LT := List.mem_filter.mpr ⟨List.mem_of_getElem? (i := 662) (by decide +kernel), by decide +kernel⟩
theorem wa_560 : (Cond.code y_V_move prog_1_method_11_code 7 (some .int)) ∈ jv_LT := List.mem_filter.mpr ⟨List.mem_of_getElem? (i := 688) (by decide +kernel), by decide +kernel⟩
theorem wa_561 : (Cond.methodLink R_Law 49 y_V_move) ∈ jv_LT := List.mem_filter.mpr ⟨List.mem_of_getElem? (i := 685) (by decide +kernel), by decide +kernel⟩
theorem wa_562 : (Cond.instanceMethod y_V_move) ∈ jv_LT := List.mem_filter.mpr ⟨List.mem_of_getElem? (i := 686) (by decide +kernel), by decide +kernel⟩
theorem wa_563 : (Cond.selects R_Vault y_V_move y_V_move) ∈ jv_LT := List.mem_filter.mpr ⟨List.mem_of_getElem? (i := 687) (by decide +kernel), by decide +kernel⟩
theorem wa_564 : (Cond.code y_V_read prog_1_method_12_code 8 (some .int)) ∈ jv_LT := List.mem_filter.mpr ⟨List.mem_of_getElem? (i := 710) (by decide +kernel), by decide +kernel⟩
theorem wa_565 : (Cond.methodLink R_Law 52 y_V_read) ∈ jv_LT := List.mem_filter.mpr ⟨List.mem_of_getElem? (i := 707) (by decide +kernel), by decide +kernel⟩
theorem wa_566 : (Cond.instanceMethod y_V_read) ∈ jv_LT := List.mem_filter.mpr ⟨List.mem_of_getElem? (i := 708) (by decide +kernel), by decide +kernel⟩
theorem wa_567 : (Cond.selects R_Vault y_V_read y_V_read) ∈ jv_LT := List.mem_filter.mpr ⟨List.mem_of_getElem? (i := 709) (by decide +kernel), by decide +kernel⟩
theorem wa_568 : (Cond.classLink R_Law 55 "java/lang/IndexOutOfBoundsException") ∈ jv_LT := List.mem_filter.mpr ⟨List.mem_of_getElem? (i := 706) (by decide +kernel), by decide +kernel⟩
theorem wa_569 : (Cond.code y_V_list prog_1_method_13_code 5 (some .int)) ∈ jv_LT := List.mem_filter.mpr ⟨List.mem_of_getElem? (i := 742) (by decide +kernel), by decide +kernel⟩
theorem wa_570 : (Cond.methodLink R_Law 57 y_V_list) ∈ jv_LT := List.mem_filter.mpr ⟨List.mem_of_getElem? (i := 739) (by decide +kernel), by decide +kernel⟩
theorem wa_571 : (Cond.instanceMethod y_V_list) ∈ jv_LT := List.mem_filter.mpr ⟨List.mem_of_getElem? (i := 740) (by decide +kernel), by decide +kernel⟩
theorem wa_572 : (Cond.selects R_Vault y_V_list y_V_list) ∈ jv_LT := List.mem_filter.mpr ⟨List.mem_of_getElem? (i := 741) (by decide +kernel), by decide +kernel⟩
theorem wa_573 : (Cond.code y_V_look prog_1_method_14_code 6 (some .int)) ∈ jv_LT := List.mem_filter.mpr ⟨List.mem_of_getElem? (i := 762) (by decide +kernel), by decide +kernel⟩
theorem wa_574 : (Cond.methodLink R_Law 60 y_V_look) ∈ jv_LT := List.mem_filter.mpr ⟨List.mem_of_getElem? (i := 759) (by decide +kernel), by decide +kernel⟩
theorem wa_575 : (Cond.instanceMethod y_V_look) ∈ jv_LT := List.mem_filter.mpr ⟨List.mem_of_getElem? (i := 760) (by decide +kernel), by decide +kernel⟩
theorem wa_576 : (Cond.selects R_Vault y_V_look y_V_look) ∈ jv_LT := List.mem_filter.mpr ⟨List.mem_of_getElem? (i := 761) (by decide +kernel), by decide +kernel⟩
theorem wa_577 : (Cond.code y_V_size prog_1_method_15_code 6 (some .int)) ∈ jv_LT := List.mem_filter.mpr ⟨List.mem_of_getElem? (i := 769) (by decide +kernel), by decide +kernel⟩
theorem wa_578 : (Cond.methodLink R_Law 63 y_V_size) ∈ jv_LT := List.mem_filter.mpr ⟨List.mem_of_getElem? (i := 766) (by decide +kernel), by decide +kernel⟩
theorem wa_579 : (Cond.instanceMethod y_V_size) ∈ jv_LT := List.mem_filter.mpr ⟨List.mem_of_getElem? (i := 767) (by decide +kernel), by decide +kernel⟩
theorem wa_580 : (Cond.selects R_Vault y_V_size y_V_size) ∈ jv_LT := List.mem_filter.mpr ⟨List.mem_of_getElem? (i := 768) (by decide +kernel), by decide +kernel⟩
theorem wa_581 : (Cond.code y_V_tear prog_1_method_17_code 2 (some .boolean)) ∈ jv_LT := List.mem_filter.mpr ⟨List.mem_of_getElem? (i := 776) (by decide +kernel), by decide +kernel⟩
theorem wa_582 : (Cond.methodLink R_Law 66 y_V_tear) ∈ jv_LT := List.mem_filter.mpr ⟨List.mem_of_getElem? (i := 773) (by decide +kernel), by decide +kernel⟩
theorem wa_583 : (Cond.instanceMethod y_V_tear) ∈ jv_LT := List.mem_filter.mpr ⟨List.mem_of_getElem? (i := 774) (by decide +kernel), by decide +kernel⟩
theorem wa_584 : (Cond.selects R_Vault y_V_tear y_V_tear) ∈ jv_LT := List.mem_filter.mpr ⟨List.mem_of_getElem? (i := 775) (by decide +kernel), by decide +kernel⟩
theorem wa_585 : (Cond.code y_V_disk prog_1_method_18_code 5 (some .int)) ∈ jv_LT := List.mem_filter.mpr ⟨List.mem_of_getElem? (i := 783) (by decide +kernel), by decide +kernel⟩
theorem wa_586 : (Cond.methodLink R_Law 70 y_V_disk) ∈ jv_LT := List.mem_filter.mpr ⟨List.mem_of_getElem? (i := 780) (by decide +kernel), by decide +kernel⟩
theorem wa_587 : (Cond.instanceMethod y_V_disk) ∈ jv_LT := List.mem_filter.mpr ⟨List.mem_of_getElem? (i := 781) (by decide +kernel), by decide +kernel⟩
theorem wa_588 : (Cond.selects R_Vault y_V_disk y_V_disk) ∈ jv_LT := List.mem_filter.mpr ⟨List.mem_of_getElem? (i := 782) (by decide +kernel), by decide +kernel⟩
theorem d_L_remove_0 : decode cc_L_remove 0 = .ok (.aload_n 3, 1) := by decide +kernel
theorem d_L_remove_1 : decode cc_L_remove 1 = .ok (.iconst 0, 1) := by decide +kernel
theorem d_L_remove_2 : decode cc_L_remove 2 = .ok (.aload_n 0, 1) := by decide +kernel
theorem d_L_remove_3 : decode cc_L_remove 3 = .ok (.iload_n 1, 1) := by decide +kernel
theorem d_L_remove_4 : decode cc_L_remove 4 = .ok (.iload_n 2, 1) := by decide +kernel
theorem d_L_remove_5 : decode cc_L_remove 5 = .ok (.invokevirtual 46, 3) := by decide +kernel
theorem d_L_remove_13 : decode cc_L_remove 13 = .ok (.astore 4, 2) := by decide +kernel
theorem d_L_remove_15 : decode cc_L_remove 15 = .ok (.iconst 1, 1) := by decide +kernel
theorem d_L_remove_16 : decode cc_L_remove 16 = .ok (.ireturn, 1) := by decide +kernel
theorem d_L_remove_17 : decode cc_L_remove 17 = .ok (.astore 4, 2) := by decide +kernel
theorem d_L_remove_19 : decode cc_L_remove 19 = .ok (.iconst 2, 1) := by decide +kernel
theorem d_L_remove_20 : decode cc_L_remove 20 = .ok (.ireturn, 1) := by decide +kernel
theorem d_L_remove_21 : decode cc_L_remove 21 = .ok (.astore 4, 2) := by decide +kernel
theorem d_L_remove_23 : decode cc_L_remove 23 = .ok (.iconst 3, 1) := by decide +kernel
theorem d_L_remove_24 : decode cc_L_remove 24 = .ok (.ireturn, 1) := by decide +kernel
theorem d_L_remove_25 : decode cc_L_remove 25 = .ok (.astore 4, 2) := by decide +kernel
theorem d_L_remove_27 : decode cc_L_remove 27 = .ok (.iconst 4, 1) := by decide +kernel
theorem d_L_remove_28 : decode cc_L_remove 28 = .ok (.ireturn, 1) := by decide +kernel
theorem d_L_remove_8 : decode cc_L_remove 8 = .ok (.i2l, 1) := by decide +kernel
theorem d_L_remove_9 : decode cc_L_remove 9 = .ok (.lastore, 1) := by decide +kernel
theorem d_L_remove_10 : decode cc_L_remove 10 = .ok (.goto 19, 3) := by decide +kernel
theorem d_L_remove_29 : decode cc_L_remove 29 = .ok (.iconst 0, 1) := by decide +kernel
theorem d_L_remove_30 : decode cc_L_remove 30 = .ok (.ireturn, 1) := by decide +kernel
def l_remove (S : jv_vs) (a0 : Int32) (a1 : Int32) (vO : Nat → Int64) : Option jv_lr := (f_V_remove S.1 a0 a1 S.2.2.1 S.2.2.2).bind fun x => match x with
  | .inl k => if k = 1 then (some ((1 : Int32), S, vO)) else (if k = 3 then (some ((2 : Int32), S, vO)) else (if k = 2 then (some ((3 : Int32), S, vO)) else (if k = 4 then (some ((4 : Int32), S, vO)) else (none))))
  | .inr r9 => some ((0 : Int32), (S.1, S.2.1, r9.2.1, r9.2.2), (vp_updL vO 0 (r9.1).toInt64))
set_option maxHeartbeats 4000000 in
set_option maxRecDepth 100000 in
theorem c_L_remove (l : Launch) (hl9 : l.stackTraces = false) (dC : Nat → ClassId) (dI : Nat → Nat → Nat) (cI cA cL : ClassId) (q_out q_va q_aa q_cl q_fu : Nat) (Q : Nat → Nat → Nat) (S : jv_vs) (vO : Nat → Int64) (a0 : Int32) (a1 : Int32) (sz : Nat) (r : jv_lr) (hf : l_remove S a0 a1 vO = some r) : Met l y_L_remove ws_L_remove rm_L_remove (jv_Plw [.ref q_va, .int a0, .int a1, .ref q_out] (dC, dI) (jv_ty cI cA cL) (w_lo cI cA cL q_out q_va q_aa q_cl q_fu Q S vO) sz) (jv_Qlw r.1 (dC, dI) cI cA cL q_out q_va q_aa q_cl q_fu r.2.1 r.2.2 (va_A (w_lo cI cA cL q_out q_va q_aa q_cl q_fu Q S vO) sz)) 8 713 (va_A (w_lo cI cA cL q_out q_va q_aa q_cl q_fu Q S vO) sz) := by
  refine va_MetW (cc := cc_L_remove) (maxL := 5) (ret := some .int) (hh := [(0, 10, 13, 13), (0, 10, 17, 35), (0, 10, 21, 15), (0, 10, 25, 37)]) (by decide) rfl ?_
  intro p e s m args below meth c s₁ B hml hv
  obtain ⟨rfl, hsz, hP, hK, hD0, hT⟩ := hv
  have hx := B.exec
  have hb := B.bytes
  have hr := B.returns
  have hts := atoms_spec (ws := ws_L_remove) B.pre
  have hown : s.vm.findClass R_Law = some m.cls := findClass_of_methodNamed B.named
  have hlocks := B.notSynchronized
  have htab := jv_table B (hts _ List.mem_cons_self)
  subst hsz
  have hD := hD0.self (sz := s.heap.size)
  generalize hAe : va_A (w_lo cI cA cL q_out q_va q_aa q_cl q_fu Q S vO) s.heap.size = A at hD ⊢
  have hA : ∀ q : Nat, s.heap.size ≤ q → A q := fun q h => by rw [← hAe]; exact Or.inr h
  have hS : va_S A s.heap s.heap [] := va_S.rf
  have hl := lv_entry ([.ref q_va, .int a0, .int a1, .ref q_out]) (n := 5) (Nat.le_of_ble_eq_true rfl)
  rw [lg_entry_eq]
  generalize (lg_sl ([.ref q_va, .int a0, .int a1, .ref q_out]) ++ List.replicate (5 - (lg_sl ([.ref q_va, .int a0, .int a1, .ref q_out])).length) Slot.unset).toArray = ls at hl ⊢
  have hl : lv_has ls 5 [(0, .ref q_va), (1, .int a0), (2, .int a1), (3, .ref q_out)] := hl
  have hPv := jv_PT hP
  have hDv := jv_DT hD
  unfold l_remove at hf
  obtain ⟨x, g, hf⟩ := jv_ob hf
  refine lv_aload_n hx hb d_L_remove_0 rfl (lv_at hl 3 rfl) ?_
  refine lv_iconst (v := (0 : Int32)) hx hb d_L_remove_1 (by decide) ?_
  refine lv_aload_n hx hb d_L_remove_2 rfl (lv_at hl 0 rfl) ?_
  refine lv_iload_n hx hb d_L_remove_3 rfl (lv_at hl 1 rfl) ?_
  refine lv_iload_n hx hb d_L_remove_4 rfl (lv_at hl 2 rfl) ?_
  rcases x with k | r9
  · by_cases hk0 : k = 1
    · have hf := jv_it hf hk0
      subst hk0
      obtain rfl := Option.some.inj hf
      refine jv_xV (cells := 0) (slots := 0) (As := [.int a0, .int a1]) (rest := [.int (0 : Int32), .ref q_out]) (b := q_va) ⟨hx, hb, hml, hown, hts⟩ (x_V_remove l hl9 dC dI cI cA cL q_va q_aa q_cl q_fu Q S.1 S.2.1 S.2.2.1 S.2.2.2 a0 a1 1 g) (jv_cwV hts wa_556 wa_303 wa_557 wa_558 wa_559 rfl rfl yd_V_remove ⟨Nat.le_of_ble_eq_true rfl, Nat.le_of_ble_eq_true rfl⟩) (jv_preVt hT.1 hK hPv 0 rfl rfl) rfl rfl hl.1 rfl (lv_room (Nat.le_of_ble_eq_true rfl)) d_L_remove_5 ⟨Nat.le_of_ble_eq_true rfl, Nat.le_of_ble_eq_true rfl⟩ (fun x H1 hob => ?_)
      refine jv_catch (pc := 5) (name := jv_en 1) hown [] ⟨0, 10, 13, 13⟩ [⟨0, 10, 17, 35⟩, ⟨0, 10, 21, 15⟩, ⟨0, 10, 25, 37⟩] htab jv_pn (by decide) (by decide) (jv_w hts wa_524) (jv_cast hT.1 ce_1) hob ?_
      show W p l e _ s m _ below meth c H1 [] (0 + 1) (0 + 6) _ (F0 m 13 ls [.ref x])
      refine lv_astore hx hb d_L_remove_13 hl (by decide) rfl (fun ls hl => ?_)
      refine lv_iconst (v := (1 : Int32)) hx hb d_L_remove_15 (by decide) ?_
      refine W.widen (k := 8) (n := 713) (Nat.le_of_ble_eq_true rfl) (Nat.le_of_ble_eq_true rfl) ?_
      obtain ⟨-, -, hz1, hk1⟩ := hob
      have hP : va_P (dC, dI) vwCl (w_lo cI cA cL q_out q_va q_aa q_cl q_fu Q S vO) H1 := fun i q hi => (hP i q hi).kept (hk1 q.1 (hP i q hi).lt)
      have hS : va_S A s.heap H1 [] := ⟨hz1, fun q h _ => hk1 q h, fun z hz => by cases hz⟩
      exact W.iret hx hb hr (fun t ht hW => ⟨rfl, ⟨Q, by rw [ht]; exact hP, hD⟩, hS.F ht⟩) hS.2.2 d_L_remove_16
    have hf := jv_if hf hk0
    by_cases hk1 : k = 3
    · have hf := jv_it hf hk1
      subst hk1
      obtain rfl := Option.some.inj hf
      refine jv_xV (cells := 0) (slots := 0) (As := [.int a0, .int a1]) (rest := [.int (0 : Int32), .ref q_out]) (b := q_va) ⟨hx, hb, hml, hown, hts⟩ (x_V_remove l hl9 dC dI cI cA cL q_va q_aa q_cl q_fu Q S.1 S.2.1 S.2.2.1 S.2.2.2 a0 a1 3 g) (jv_cwV hts wa_556 wa_303 wa_557 wa_558 wa_559 rfl rfl yd_V_remove ⟨Nat.le_of_ble_eq_true rfl, Nat.le_of_ble_eq_true rfl⟩) (jv_preVt hT.1 hK hPv 0 rfl rfl) rfl rfl hl.1 rfl (lv_room (Nat.le_of_ble_eq_true rfl)) d_L_remove_5 ⟨Nat.le_of_ble_eq_true rfl, Nat.le_of_ble_eq_true rfl⟩ (fun x H1 hob => ?_)
      refine jv_catch (pc := 5) (name := jv_en 3) hown [⟨0, 10, 13, 13⟩] ⟨0, 10, 17, 35⟩ [⟨0, 10, 21, 15⟩, ⟨0, 10, 25, 37⟩] htab (jv_pc (by decide) (jv_w hts wa_524) (hT.2 (jv_en 3, "java/lang/IllegalArgumentException") (by decide +kernel)) jv_pn) (by decide) (by decide) (jv_w hts wa_546) (jv_cast hT.1 ce_3) hob ?_
      show W p l e _ s m _ below meth c H1 [] (0 + 1) (0 + 6) _ (F0 m 17 ls [.ref x])
      refine lv_astore hx hb d_L_remove_17 hl (by decide) rfl (fun ls hl => ?_)
      refine lv_iconst (v := (2 : Int32)) hx hb d_L_remove_19 (by decide) ?_
      refine W.widen (k := 8) (n := 713) (Nat.le_of_ble_eq_true rfl) (Nat.le_of_ble_eq_true rfl) ?_
      obtain ⟨-, -, hz1, hk1⟩ := hob
      have hP : va_P (dC, dI) vwCl (w_lo cI cA cL q_out q_va q_aa q_cl q_fu Q S vO) H1 := fun i q hi => (hP i q hi).kept (hk1 q.1 (hP i q hi).lt)
      have hS : va_S A s.heap H1 [] := ⟨hz1, fun q h _ => hk1 q h, fun z hz => by cases hz⟩
      exact W.iret hx hb hr (fun t ht hW => ⟨rfl, ⟨Q, by rw [ht]; exact hP, hD⟩, hS.F ht⟩) hS.2.2 d_L_remove_20
    have hf := jv_if hf hk1
    by_cases hk2 : k = 2
    · have hf := jv_it hf hk2
      subst hk2
      obtain rfl := Option.some.inj hf
      refine jv_xV (cells := 0) (slots := 0) (As := [.int a0, .int a1]) (rest := [.int (0 : Int32), .ref q_out]) (b := q_va) ⟨hx, hb, hml, hown, hts⟩ (x_V_remove l hl9 dC dI cI cA cL q_va q_aa q_cl q_fu Q S.1 S.2.1 S.2.2.1 S.2.2.2 a0 a1 2 g) (jv_cwV hts wa_556 wa_303 wa_557 wa_558 wa_559 rfl rfl yd_V_remove ⟨Nat.le_of_ble_eq_true rfl, Nat.le_of_ble_eq_true rfl⟩) (jv_preVt hT.1 hK hPv 0 rfl rfl) rfl rfl hl.1 rfl (lv_room (Nat.le_of_ble_eq_true rfl)) d_L_remove_5 ⟨Nat.le_of_ble_eq_true rfl, Nat.le_of_ble_eq_true rfl⟩ (fun x H1 hob => ?_)
      refine jv_catch (pc := 5) (name := jv_en 2) hown [⟨0, 10, 13, 13⟩, ⟨0, 10, 17, 35⟩] ⟨0, 10, 21, 15⟩ [⟨0, 10, 25, 37⟩] htab (jv_pc (by decide) (jv_w hts wa_524) (hT.2 (jv_en 2, "java/lang/IllegalArgumentException") (by decide +kernel)) (jv_pc (by decide) (jv_w hts wa_546) (hT.2 (jv_en 2, "java/util/NoSuchElementException") (by decide +kernel)) jv_pn)) (by decide) (by decide) (jv_w hts wa_525) (jv_cast hT.1 ce_2) hob ?_
      show W p l e _ s m _ below meth c H1 [] (0 + 1) (0 + 6) _ (F0 m 21 ls [.ref x])
      refine lv_astore hx hb d_L_remove_21 hl (by decide) rfl (fun ls hl => ?_)
      refine lv_iconst (v := (3 : Int32)) hx hb d_L_remove_23 (by decide) ?_
      refine W.widen (k := 8) (n := 713) (Nat.le_of_ble_eq_true rfl) (Nat.le_of_ble_eq_true rfl) ?_
      obtain ⟨-, -, hz1, hk1⟩ := hob
      have hP : va_P (dC, dI) vwCl (w_lo cI cA cL q_out q_va q_aa q_cl q_fu Q S vO) H1 := fun i q hi => (hP i q hi).kept (hk1 q.1 (hP i q hi).lt)
      have hS : va_S A s.heap H1 [] := ⟨hz1, fun q h _ => hk1 q h, fun z hz => by cases hz⟩
      exact W.iret hx hb hr (fun t ht hW => ⟨rfl, ⟨Q, by rw [ht]; exact hP, hD⟩, hS.F ht⟩) hS.2.2 d_L_remove_24
    have hf := jv_if hf hk2
    by_cases hk3 : k = 4
    · have hf := jv_it hf hk3
      subst hk3
      obtain rfl := Option.some.inj hf
      refine jv_xV (cells := 0) (slots := 0) (As := [.int a0, .int a1]) (rest := [.int (0 : Int32), .ref q_out]) (b := q_va) ⟨hx, hb, hml, hown, hts⟩ (x_V_remove l hl9 dC dI cI cA cL q_va q_aa q_cl q_fu Q S.1 S.2.1 S.2.2.1 S.2.2.2 a0 a1 4 g) (jv_cwV hts wa_556 wa_303 wa_557 wa_558 wa_559 rfl rfl yd_V_remove ⟨Nat.le_of_ble_eq_true rfl, Nat.le_of_ble_eq_true rfl⟩) (jv_preVt hT.1 hK hPv 0 rfl rfl) rfl rfl hl.1 rfl (lv_room (Nat.le_of_ble_eq_true rfl)) d_L_remove_5 ⟨Nat.le_of_ble_eq_true rfl, Nat.le_of_ble_eq_true rfl⟩ (fun x H1 hob => ?_)
      refine jv_catch (pc := 5) (name := jv_en 4) hown [⟨0, 10, 13, 13⟩, ⟨0, 10, 17, 35⟩, ⟨0, 10, 21, 15⟩] ⟨0, 10, 25, 37⟩ [] htab (jv_pc (by decide) (jv_w hts wa_524) (hT.2 (jv_en 4, "java/lang/IllegalArgumentException") (by decide +kernel)) (jv_pc (by decide) (jv_w hts wa_546) (hT.2 (jv_en 4, "java/util/NoSuchElementException") (by decide +kernel)) (jv_pc (by decide) (jv_w hts wa_525) (hT.2 (jv_en 4, "java/lang/IllegalStateException") (by decide +kernel)) jv_pn))) (by decide) (by decide) (jv_w hts wa_547) (jv_cast hT.1 ce_4) hob ?_
      show W p l e _ s m _ below meth c H1 [] (0 + 1) (0 + 6) _ (F0 m 25 ls [.ref x])
      refine lv_astore hx hb d_L_remove_25 hl (by decide) rfl (fun ls hl => ?_)
      refine lv_iconst (v := (4 : Int32)) hx hb d_L_remove_27 (by decide) ?_
      refine W.widen (k := 8) (n := 713) (Nat.le_of_ble_eq_true rfl) (Nat.le_of_ble_eq_true rfl) ?_
      obtain ⟨-, -, hz1, hk1⟩ := hob
      have hP : va_P (dC, dI) vwCl (w_lo cI cA cL q_out q_va q_aa q_cl q_fu Q S vO) H1 := fun i q hi => (hP i q hi).kept (hk1 q.1 (hP i q hi).lt)
      have hS : va_S A s.heap H1 [] := ⟨hz1, fun q h _ => hk1 q h, fun z hz => by cases hz⟩
      exact W.iret hx hb hr (fun t ht hW => ⟨rfl, ⟨Q, by rw [ht]; exact hP, hD⟩, hS.F ht⟩) hS.2.2 d_L_remove_28
    have hf := jv_if hf hk3
    cases hf
  · obtain rfl := Option.some.inj hf
    have hFc := jv_fr hDv hS hA
    refine jv_cwi (va_runV (As := [.int a0, .int a1]) (rest := [.int (0 : Int32), .ref q_out]) (b := q_va) ⟨hx, hb, hml, hown, hts⟩ (c_V_remove l hl9 dC dI cI cA cL q_va q_aa q_cl q_fu Q S.1 S.2.1 S.2.2.1 S.2.2.2 a0 a1 s.heap.size r9 g) (jv_cwV hts wa_556 wa_303 wa_557 wa_558 wa_559 rfl rfl yd_V_remove ⟨Nat.le_of_ble_eq_true rfl, Nat.le_of_ble_eq_true rfl⟩) (jv_preVWt hT.1 hK hPv hDv 0 rfl rfl) rfl rfl hl.1 rfl (lv_room (Nat.le_of_ble_eq_true rfl)) d_L_remove_5 ⟨Nat.le_of_ble_eq_true rfl, Nat.le_of_ble_eq_true rfl⟩) hS hFc (fun H1 locs hP1 hD1 hk1 hS => ?_)
    obtain ⟨hP, hD⟩ := jv_joinO (V1 := (w_vault cI cA q_va q_aa q_cl q_fu Q S.1 S.2.1 r9.2.1 r9.2.2)) hP hD hFc hk1 hP1 hD1
    refine lv_i2l hx hb d_L_remove_8 rfl ?_
    refine va_last (q0 := 0) (t0 := 2) (x := (r9.1).toInt64) hx hb hK hP hD hS (ha := rfl) (ht := rfl) (hin := by unfold vp_in; decide) (hdg := d_L_remove_9) (fun H1 locs hP hD hS => ?_)
    refine lv_goto (tgt := 29) hx hb d_L_remove_10 (by decide) ?_
    refine lv_iconst (v := (0 : Int32)) hx hb d_L_remove_29 (by decide) ?_
    refine W.widen (k := 8) (n := 713) (Nat.le_of_ble_eq_true rfl) (Nat.le_of_ble_eq_true rfl) ?_
    exact W.iret hx hb hr (fun t ht hW => ⟨rfl, ⟨Q, by rw [ht]; exact hP, hD⟩, hS.F ht⟩) hS.2.2 d_L_remove_30
theorem d_L_move_0 : decode cc_L_move 0 = .ok (.aload 4, 2) := by decide +kernel
theorem d_L_move_2 : decode cc_L_move 2 = .ok (.iconst 0, 1) := by decide +kernel
theorem d_L_move_3 : decode cc_L_move 3 = .ok (.aload_n 0, 1) := by decide +kernel
theorem d_L_move_4 : decode cc_L_move 4 = .ok (.iload_n 1, 1) := by decide +kernel
theorem d_L_move_5 : decode cc_L_move 5 = .ok (.iload_n 2, 1) := by decide +kernel
theorem d_L_move_6 : decode cc_L_move 6 = .ok (.iload_n 3, 1) := by decide +kernel
theorem d_L_move_7 : decode cc_L_move 7 = .ok (.invokevirtual 49, 3) := by decide +kernel
theorem d_L_move_15 : decode cc_L_move 15 = .ok (.astore 5, 2) := by decide +kernel
theorem d_L_move_17 : decode cc_L_move 17 = .ok (.iconst 1, 1) := by decide +kernel
theorem d_L_move_18 : decode cc_L_move 18 = .ok (.ireturn, 1) := by decide +kernel
theorem d_L_move_19 : decode cc_L_move 19 = .ok (.astore 5, 2) := by decide +kernel
theorem d_L_move_21 : decode cc_L_move 21 = .ok (.iconst 2, 1) := by decide +kernel
theorem d_L_move_22 : decode cc_L_move 22 = .ok (.ireturn, 1) := by decide +kernel
theorem d_L_move_23 : decode cc_L_move 23 = .ok (.astore 5, 2) := by decide +kernel
theorem d_L_move_25 : decode cc_L_move 25 = .ok (.iconst 3, 1) := by decide +kernel
theorem d_L_move_26 : decode cc_L_move 26 = .ok (.ireturn, 1) := by decide +kernel
theorem d_L_move_27 : decode cc_L_move 27 = .ok (.astore 5, 2) := by decide +kernel
theorem d_L_move_29 : decode cc_L_move 29 = .ok (.iconst 4, 1) := by decide +kernel
theorem d_L_move_30 : decode cc_L_move 30 = .ok (.ireturn, 1) := by decide +kernel
theorem d_L_move_10 : decode cc_L_move 10 = .ok (.i2l, 1) := by decide +kernel
theorem d_L_move_11 : decode cc_L_move 11 = .ok (.lastore, 1) := by decide +kernel
theorem d_L_move_12 : decode cc_L_move 12 = .ok (.goto 19, 3) := by decide +kernel
theorem d_L_move_31 : decode cc_L_move 31 = .ok (.iconst 0, 1) := by decide +kernel
theorem d_L_move_32 : decode cc_L_move 32 = .ok (.ireturn, 1) := by decide +kernel
def l_move (S : jv_vs) (a0 : Int32) (a1 : Int32) (a2 : Int32) (vO : Nat → Int64) : Option jv_lr := (f_V_move S.1 a0 a1 a2 S.2.2.1 S.2.2.2).bind fun x => match x with
  | .inl k => if k = 1 then (some ((1 : Int32), S, vO)) else (if k = 3 then (some ((2 : Int32), S, vO)) else (if k = 2 then (some ((3 : Int32), S, vO)) else (if k = 4 then (some ((4 : Int32), S, vO)) else (none))))
  | .inr r9 => some ((0 : Int32), (S.1, S.2.1, r9.2.1, r9.2.2), (vp_updL vO 0 (r9.1).toInt64))
set_option maxHeartbeats 4000000 in
set_option maxRecDepth 100000 in
theorem c_L_move (l : Launch) (hl9 : l.stackTraces = false) (dC : Nat → ClassId) (dI : Nat → Nat → Nat) (cI cA cL : ClassId) (q_out q_va q_aa q_cl q_fu : Nat) (Q : Nat → Nat → Nat) (S : jv_vs) (vO : Nat → Int64) (a0 : Int32) (a1 : Int32) (a2 : Int32) (sz : Nat) (r : jv_lr) (hf : l_move S a0 a1 a2 vO = some r) : Met l y_L_move ws_L_move rm_L_move (jv_Plw [.ref q_va, .int a0, .int a1, .int a2, .ref q_out] (dC, dI) (jv_ty cI cA cL) (w_lo cI cA cL q_out q_va q_aa q_cl q_fu Q S vO) sz) (jv_Qlw r.1 (dC, dI) cI cA cL q_out q_va q_aa q_cl q_fu r.2.1 r.2.2 (va_A (w_lo cI cA cL q_out q_va q_aa q_cl q_fu Q S vO) sz)) 8 713 (va_A (w_lo cI cA cL q_out q_va q_aa q_cl q_fu Q S vO) sz) := by
  refine va_MetW (cc := cc_L_move) (maxL := 6) (ret := some .int) (hh := [(0, 12, 15, 13), (0, 12, 19, 35), (0, 12, 23, 15), (0, 12, 27, 37)]) (by decide) rfl ?_
  intro p e s m args below meth c s₁ B hml hv
  obtain ⟨rfl, hsz, hP, hK, hD0, hT⟩ := hv
  have hx := B.exec
  have hb := B.bytes
  have hr := B.returns
  have hts := atoms_spec (ws := ws_L_move) B.pre
  have hown : s.vm.findClass R_Law = some m.cls := findClass_of_methodNamed B.named
  have hlocks := B.notSynchronized
  have htab := jv_table B (hts _ List.mem_cons_self)
  subst hsz
  have hD := hD0.self (sz := s.heap.size)
  generalize hAe : va_A (w_lo cI cA cL q_out q_va q_aa q_cl q_fu Q S vO) s.heap.size = A at hD ⊢
  have hA : ∀ q : Nat, s.heap.size ≤ q → A q := fun q h => by rw [← hAe]; exact Or.inr h
  have hS : va_S A s.heap s.heap [] := va_S.rf
  have hl := lv_entry ([.ref q_va, .int a0, .int a1, .int a2, .ref q_out]) (n := 6) (Nat.le_of_ble_eq_true rfl)
  rw [lg_entry_eq]
  generalize (lg_sl ([.ref q_va, .int a0, .int a1, .int a2, .ref q_out]) ++ List.replicate (6 - (lg_sl ([.ref q_va, .int a0, .int a1, .int a2, .ref q_out])).length) Slot.unset).toArray = ls at hl ⊢
  have hl : lv_has ls 6 [(0, .ref q_va), (1, .int a0), (2, .int a1), (3, .int a2), (4, .ref q_out)] := hl
  have hPv := jv_PT hP
  have hDv := jv_DT hD
  unfold l_move at hf
  obtain ⟨x, g, hf⟩ := jv_ob hf
  refine lv_aload hx hb d_L_move_0 (lv_at hl 4 rfl) ?_
  refine lv_iconst (v := (0 : Int32)) hx hb d_L_move_2 (by decide) ?_
  refine lv_aload_n hx hb d_L_move_3 rfl (lv_at hl 0 rfl) ?_
  refine lv_iload_n hx hb d_L_move_4 rfl (lv_at hl 1 rfl) ?_
  refine lv_iload_n hx hb d_L_move_5 rfl (lv_at hl 2 rfl) ?_
  refine lv_iload_n hx hb d_L_move_6 rfl (lv_at hl 3 rfl) ?_
  rcases x with k | r9
  · by_cases hk0 : k = 1
    · have hf := jv_it hf hk0
      subst hk0
      obtain rfl := Option.some.inj hf
      refine jv_xV (cells := 0) (slots := 0) (As := [.int a0, .int a1, .int a2]) (rest := [.int (0 : Int32), .ref q_out]) (b := q_va) ⟨hx, hb, hml, hown, hts⟩ (x_V_move l hl9 dC dI cI cA cL q_va q_aa q_cl q_fu Q S.1 S.2.1 S.2.2.1 S.2.2.2 a0 a1 a2 1 g) (jv_cwV hts wa_560 wa_303 wa_561 wa_562 wa_563 rfl rfl yd_V_move ⟨Nat.le_of_ble_eq_true rfl, Nat.le_of_ble_eq_true rfl⟩) (jv_preVt hT.1 hK hPv 0 rfl rfl) rfl rfl hl.1 rfl (lv_room (Nat.le_of_ble_eq_true rfl)) d_L_move_7 ⟨Nat.le_of_ble_eq_true rfl, Nat.le_of_ble_eq_true rfl⟩ (fun x H1 hob => ?_)
      refine jv_catch (pc := 7) (name := jv_en 1) hown [] ⟨0, 12, 15, 13⟩ [⟨0, 12, 19, 35⟩, ⟨0, 12, 23, 15⟩, ⟨0, 12, 27, 37⟩] htab jv_pn (by decide) (by decide) (jv_w hts wa_524) (jv_cast hT.1 ce_1) hob ?_
      show W p l e _ s m _ below meth c H1 [] (0 + 1) (0 + 6) _ (F0 m 15 ls [.ref x])
      refine lv_astore hx hb d_L_move_15 hl (by decide) rfl (fun ls hl => ?_)
      refine lv_iconst (v := (1 : Int32)) hx hb d_L_move_17 (by decide) ?_
      refine W.widen (k := 8) (n := 713) (Nat.le_of_ble_eq_true rfl) (Nat.le_of_ble_eq_true rfl) ?_
      obtain ⟨-, -, hz1, hk1⟩ := hob
      have hP : va_P (dC, dI) vwCl (w_lo cI cA cL q_out q_va q_aa q_cl q_fu Q S vO) H1 := fun i q hi => (hP i q hi).kept (hk1 q.1 (hP i q hi).lt)
      have hS : va_S A s.heap H1 [] := ⟨hz1, fun q h _ => hk1 q h, fun z hz => by cases hz⟩
      exact W.iret hx hb hr (fun t ht hW => ⟨rfl, ⟨Q, by rw [ht]; exact hP, hD⟩, hS.F ht⟩) hS.2.2 d_L_move_18
    have hf := jv_if hf hk0
    by_cases hk1 : k = 3
    · have hf := jv_it hf hk1
      subst hk1
      obtain rfl := Option.some.inj hf
      refine jv_xV (cells := 0) (slots := 0) (As := [.int a0, .int a1, .int a2]) (rest := [.int (0 : Int32), .ref q_out]) (b := q_va) ⟨hx, hb, hml, hown, hts⟩ (x_V_move l hl9 dC dI cI cA cL q_va q_aa q_cl q_fu Q S.1 S.2.1 S.2.2.1 S.2.2.2 a0 a1 a2 3 g) (jv_cwV hts wa_560 wa_303 wa_561 wa_562 wa_563 rfl rfl yd_V_move ⟨Nat.le_of_ble_eq_true rfl, Nat.le_of_ble_eq_true rfl⟩) (jv_preVt hT.1 hK hPv 0 rfl rfl) rfl rfl hl.1 rfl (lv_room (Nat.le_of_ble_eq_true rfl)) d_L_move_7 ⟨Nat.le_of_ble_eq_true rfl, Nat.le_of_ble_eq_true rfl⟩ (fun x H1 hob => ?_)
      refine jv_catch (pc := 7) (name := jv_en 3) hown [⟨0, 12, 15, 13⟩] ⟨0, 12, 19, 35⟩ [⟨0, 12, 23, 15⟩, ⟨0, 12, 27, 37⟩] htab (jv_pc (by decide) (jv_w hts wa_524) (hT.2 (jv_en 3, "java/lang/IllegalArgumentException") (by decide +kernel)) jv_pn) (by decide) (by decide) (jv_w hts wa_546) (jv_cast hT.1 ce_3) hob ?_
      show W p l e _ s m _ below meth c H1 [] (0 + 1) (0 + 6) _ (F0 m 19 ls [.ref x])
      refine lv_astore hx hb d_L_move_19 hl (by decide) rfl (fun ls hl => ?_)
      refine lv_iconst (v := (2 : Int32)) hx hb d_L_move_21 (by decide) ?_
      refine W.widen (k := 8) (n := 713) (Nat.le_of_ble_eq_true rfl) (Nat.le_of_ble_eq_true rfl) ?_
      obtain ⟨-, -, hz1, hk1⟩ := hob
      have hP : va_P (dC, dI) vwCl (w_lo cI cA cL q_out q_va q_aa q_cl q_fu Q S vO) H1 := fun i q hi => (hP i q hi).kept (hk1 q.1 (hP i q hi).lt)
      have hS : va_S A s.heap H1 [] := ⟨hz1, fun q h _ => hk1 q h, fun z hz => by cases hz⟩
      exact W.iret hx hb hr (fun t ht hW => ⟨rfl, ⟨Q, by rw [ht]; exact hP, hD⟩, hS.F ht⟩) hS.2.2 d_L_move_22
    have hf := jv_if hf hk1
    by_cases hk2 : k = 2
    · have hf := jv_it hf hk2
      subst hk2
      obtain rfl := Option.some.inj hf
      refine jv_xV (cells := 0) (slots := 0) (As := [.int a0, .int a1, .int a2]) (rest := [.int (0 : Int32), .ref q_out]) (b := q_va) ⟨hx, hb, hml, hown, hts⟩ (x_V_move l hl9 dC dI cI cA cL q_va q_aa q_cl q_fu Q S.1 S.2.1 S.2.2.1 S.2.2.2 a0 a1 a2 2 g) (jv_cwV hts wa_560 wa_303 wa_561 wa_562 wa_563 rfl rfl yd_V_move ⟨Nat.le_of_ble_eq_true rfl, Nat.le_of_ble_eq_true rfl⟩) (jv_preVt hT.1 hK hPv 0 rfl rfl) rfl rfl hl.1 rfl (lv_room (Nat.le_of_ble_eq_true rfl)) d_L_move_7 ⟨Nat.le_of_ble_eq_true rfl, Nat.le_of_ble_eq_true rfl⟩ (fun x H1 hob => ?_)
      refine jv_catch (pc := 7) (name := jv_en 2) hown [⟨0, 12, 15, 13⟩, ⟨0, 12, 19, 35⟩] ⟨0, 12, 23, 15⟩ [⟨0, 12, 27, 37⟩] htab (jv_pc (by decide) (jv_w hts wa_524) (hT.2 (jv_en 2, "java/lang/IllegalArgumentException") (by decide +kernel)) (jv_pc (by decide) (jv_w hts wa_546) (hT.2 (jv_en 2, "java/util/NoSuchElementException") (by decide +kernel)) jv_pn)) (by decide) (by decide) (jv_w hts wa_525) (jv_cast hT.1 ce_2) hob ?_
      show W p l e _ s m _ below meth c H1 [] (0 + 1) (0 + 6) _ (F0 m 23 ls [.ref x])
      refine lv_astore hx hb d_L_move_23 hl (by decide) rfl (fun ls hl => ?_)
      refine lv_iconst (v := (3 : Int32)) hx hb d_L_move_25 (by decide) ?_
      refine W.widen (k := 8) (n := 713) (Nat.le_of_ble_eq_true rfl) (Nat.le_of_ble_eq_true rfl) ?_
      obtain ⟨-, -, hz1, hk1⟩ := hob
      have hP : va_P (dC, dI) vwCl (w_lo cI cA cL q_out q_va q_aa q_cl q_fu Q S vO) H1 := fun i q hi => (hP i q hi).kept (hk1 q.1 (hP i q hi).lt)
      have hS : va_S A s.heap H1 [] := ⟨hz1, fun q h _ => hk1 q h, fun z hz => by cases hz⟩
      exact W.iret hx hb hr (fun t ht hW => ⟨rfl, ⟨Q, by rw [ht]; exact hP, hD⟩, hS.F ht⟩) hS.2.2 d_L_move_26
    have hf := jv_if hf hk2
    by_cases hk3 : k = 4
    · have hf := jv_it hf hk3
      subst hk3
      obtain rfl := Option.some.inj hf
      refine jv_xV (cells := 0) (slots := 0) (As := [.int a0, .int a1, .int a2]) (rest := [.int (0 : Int32), .ref q_out]) (b := q_va) ⟨hx, hb, hml, hown, hts⟩ (x_V_move l hl9 dC dI cI cA cL q_va q_aa q_cl q_fu Q S.1 S.2.1 S.2.2.1 S.2.2.2 a0 a1 a2 4 g) (jv_cwV hts wa_560 wa_303 wa_561 wa_562 wa_563 rfl rfl yd_V_move ⟨Nat.le_of_ble_eq_true rfl, Nat.le_of_ble_eq_true rfl⟩) (jv_preVt hT.1 hK hPv 0 rfl rfl) rfl rfl hl.1 rfl (lv_room (Nat.le_of_ble_eq_true rfl)) d_L_move_7 ⟨Nat.le_of_ble_eq_true rfl, Nat.le_of_ble_eq_true rfl⟩ (fun x H1 hob => ?_)
      refine jv_catch (pc := 7) (name := jv_en 4) hown [⟨0, 12, 15, 13⟩, ⟨0, 12, 19, 35⟩, ⟨0, 12, 23, 15⟩] ⟨0, 12, 27, 37⟩ [] htab (jv_pc (by decide) (jv_w hts wa_524) (hT.2 (jv_en 4, "java/lang/IllegalArgumentException") (by decide +kernel)) (jv_pc (by decide) (jv_w hts wa_546) (hT.2 (jv_en 4, "java/util/NoSuchElementException") (by decide +kernel)) (jv_pc (by decide) (jv_w hts wa_525) (hT.2 (jv_en 4, "java/lang/IllegalStateException") (by decide +kernel)) jv_pn))) (by decide) (by decide) (jv_w hts wa_547) (jv_cast hT.1 ce_4) hob ?_
      show W p l e _ s m _ below meth c H1 [] (0 + 1) (0 + 6) _ (F0 m 27 ls [.ref x])
      refine lv_astore hx hb d_L_move_27 hl (by decide) rfl (fun ls hl => ?_)
      refine lv_iconst (v := (4 : Int32)) hx hb d_L_move_29 (by decide) ?_
      refine W.widen (k := 8) (n := 713) (Nat.le_of_ble_eq_true rfl) (Nat.le_of_ble_eq_true rfl) ?_
      obtain ⟨-, -, hz1, hk1⟩ := hob
      have hP : va_P (dC, dI) vwCl (w_lo cI cA cL q_out q_va q_aa q_cl q_fu Q S vO) H1 := fun i q hi => (hP i q hi).kept (hk1 q.1 (hP i q hi).lt)
      have hS : va_S A s.heap H1 [] := ⟨hz1, fun q h _ => hk1 q h, fun z hz => by cases hz⟩
      exact W.iret hx hb hr (fun t ht hW => ⟨rfl, ⟨Q, by rw [ht]; exact hP, hD⟩, hS.F ht⟩) hS.2.2 d_L_move_30
    have hf := jv_if hf hk3
    cases hf
  · obtain rfl := Option.some.inj hf
    have hFc := jv_fr hDv hS hA
    refine jv_cwi (va_runV (As := [.int a0, .int a1, .int a2]) (rest := [.int (0 : Int32), .ref q_out]) (b := q_va) ⟨hx, hb, hml, hown, hts⟩ (c_V_move l hl9 dC dI cI cA cL q_va q_aa q_cl q_fu Q S.1 S.2.1 S.2.2.1 S.2.2.2 a0 a1 a2 s.heap.size r9 g) (jv_cwV hts wa_560 wa_303 wa_561 wa_562 wa_563 rfl rfl yd_V_move ⟨Nat.le_of_ble_eq_true rfl, Nat.le_of_ble_eq_true rfl⟩) (jv_preVWt hT.1 hK hPv hDv 0 rfl rfl) rfl rfl hl.1 rfl (lv_room (Nat.le_of_ble_eq_true rfl)) d_L_move_7 ⟨Nat.le_of_ble_eq_true rfl, Nat.le_of_ble_eq_true rfl⟩) hS hFc (fun H1 locs hP1 hD1 hk1 hS => ?_)
    obtain ⟨hP, hD⟩ := jv_joinO (V1 := (w_vault cI cA q_va q_aa q_cl q_fu Q S.1 S.2.1 r9.2.1 r9.2.2)) hP hD hFc hk1 hP1 hD1
    refine lv_i2l hx hb d_L_move_10 rfl ?_
    refine va_last (q0 := 0) (t0 := 2) (x := (r9.1).toInt64) hx hb hK hP hD hS (ha := rfl) (ht := rfl) (hin := by unfold vp_in; decide) (hdg := d_L_move_11) (fun H1 locs hP hD hS => ?_)
    refine lv_goto (tgt := 31) hx hb d_L_move_12 (by decide) ?_
    refine lv_iconst (v := (0 : Int32)) hx hb d_L_move_31 (by decide) ?_
    refine W.widen (k := 8) (n := 713) (Nat.le_of_ble_eq_true rfl) (Nat.le_of_ble_eq_true rfl) ?_
    exact W.iret hx hb hr (fun t ht hW => ⟨rfl, ⟨Q, by rw [ht]; exact hP, hD⟩, hS.F ht⟩) hS.2.2 d_L_move_32
theorem d_L_read_0 : decode cc_L_read 0 = .ok (.aload 5, 2) := by decide +kernel
theorem d_L_read_2 : decode cc_L_read 2 = .ok (.iconst 0, 1) := by decide +kernel
theorem d_L_read_3 : decode cc_L_read 3 = .ok (.aload_n 0, 1) := by decide +kernel
theorem d_L_read_4 : decode cc_L_read 4 = .ok (.iload_n 1, 1) := by decide +kernel
theorem d_L_read_5 : decode cc_L_read 5 = .ok (.iload_n 2, 1) := by decide +kernel
theorem d_L_read_6 : decode cc_L_read 6 = .ok (.iload_n 3, 1) := by decide +kernel
theorem d_L_read_7 : decode cc_L_read 7 = .ok (.iload 4, 2) := by decide +kernel
theorem d_L_read_9 : decode cc_L_read 9 = .ok (.invokevirtual 52, 3) := by decide +kernel
theorem d_L_read_17 : decode cc_L_read 17 = .ok (.astore 6, 2) := by decide +kernel
theorem d_L_read_19 : decode cc_L_read 19 = .ok (.iconst 1, 1) := by decide +kernel
theorem d_L_read_20 : decode cc_L_read 20 = .ok (.ireturn, 1) := by decide +kernel
theorem d_L_read_21 : decode cc_L_read 21 = .ok (.astore 6, 2) := by decide +kernel
theorem d_L_read_23 : decode cc_L_read 23 = .ok (.iconst 2, 1) := by decide +kernel
theorem d_L_read_24 : decode cc_L_read 24 = .ok (.ireturn, 1) := by decide +kernel
theorem d_L_read_25 : decode cc_L_read 25 = .ok (.astore 6, 2) := by decide +kernel
theorem d_L_read_27 : decode cc_L_read 27 = .ok (.iconst 3, 1) := by decide +kernel
theorem d_L_read_28 : decode cc_L_read 28 = .ok (.ireturn, 1) := by decide +kernel
theorem d_L_read_29 : decode cc_L_read 29 = .ok (.astore 6, 2) := by decide +kernel
theorem d_L_read_31 : decode cc_L_read 31 = .ok (.iconst 4, 1) := by decide +kernel
theorem d_L_read_32 : decode cc_L_read 32 = .ok (.ireturn, 1) := by decide +kernel
theorem d_L_read_33 : decode cc_L_read 33 = .ok (.astore 6, 2) := by decide +kernel
theorem d_L_read_35 : decode cc_L_read 35 = .ok (.iconst 5, 1) := by decide +kernel
theorem d_L_read_36 : decode cc_L_read 36 = .ok (.ireturn, 1) := by decide +kernel
theorem d_L_read_12 : decode cc_L_read 12 = .ok (.i2l, 1) := by decide +kernel
theorem d_L_read_13 : decode cc_L_read 13 = .ok (.lastore, 1) := by decide +kernel
theorem d_L_read_14 : decode cc_L_read 14 = .ok (.goto 23, 3) := by decide +kernel
theorem d_L_read_37 : decode cc_L_read 37 = .ok (.iconst 0, 1) := by decide +kernel
theorem d_L_read_38 : decode cc_L_read 38 = .ok (.ireturn, 1) := by decide +kernel
def l_read (S : jv_vs) (a0 : Int32) (a1 : Int32) (a2 : Int32) (a3 : Int32) (vO : Nat → Int64) : Option jv_lr := (f_V_read S.1 S.2.2.2 a0 a1 a2 a3).bind fun x => match x with
  | .inl k => if k = 1 then (some ((1 : Int32), S, vO)) else (if k = 2 then (some ((2 : Int32), S, vO)) else (if k = 3 then (some ((3 : Int32), S, vO)) else (if k = 4 then (some ((4 : Int32), S, vO)) else (if k = 5 then (some ((5 : Int32), S, vO)) else (none)))))
  | .inr r9 => some ((0 : Int32), S, (vp_updL vO 0 (r9).toInt64))
set_option maxHeartbeats 4000000 in
set_option maxRecDepth 100000 in
theorem c_L_read (l : Launch) (hl9 : l.stackTraces = false) (dC : Nat → ClassId) (dI : Nat → Nat → Nat) (cI cA cL : ClassId) (q_out q_va q_aa q_cl q_fu : Nat) (Q : Nat → Nat → Nat) (S : jv_vs) (vO : Nat → Int64) (a0 : Int32) (a1 : Int32) (a2 : Int32) (a3 : Int32) (sz : Nat) (r : jv_lr) (hf : l_read S a0 a1 a2 a3 vO = some r) : Met l y_L_read ws_L_read rm_L_read (jv_Plw [.ref q_va, .int a0, .int a1, .int a2, .int a3, .ref q_out] (dC, dI) (jv_ty cI cA cL) (w_lo cI cA cL q_out q_va q_aa q_cl q_fu Q S vO) sz) (jv_Qlw r.1 (dC, dI) cI cA cL q_out q_va q_aa q_cl q_fu r.2.1 r.2.2 (va_A (w_lo cI cA cL q_out q_va q_aa q_cl q_fu Q S vO) sz)) 8 713 (va_A (w_lo cI cA cL q_out q_va q_aa q_cl q_fu Q S vO) sz) := by
  refine va_MetW (cc := cc_L_read) (maxL := 7) (ret := some .int) (hh := [(0, 14, 17, 13), (0, 14, 21, 15), (0, 14, 25, 35), (0, 14, 29, 37), (0, 14, 33, 55)]) (by decide) rfl ?_
  intro p e s m args below meth c s₁ B hml hv
  obtain ⟨rfl, hsz, hP, hK, hD0, hT⟩ := hv
  have hx := B.exec
  have hb := B.bytes
  have hr := B.returns
  have hts := atoms_spec (ws := ws_L_read) B.pre
  have hown : s.vm.findClass R_Law = some m.cls := findClass_of_methodNamed B.named
  have hlocks := B.notSynchronized
  have htab := jv_table B (hts _ List.mem_cons_self)
  subst hsz
  have hD := hD0.self (sz := s.heap.size)
  generalize hAe : va_A (w_lo cI cA cL q_out q_va q_aa q_cl q_fu Q S vO) s.heap.size = A at hD ⊢
  have hA : ∀ q : Nat, s.heap.size ≤ q → A q := fun q h => by rw [← hAe]; exact Or.inr h
  have hS : va_S A s.heap s.heap [] := va_S.rf
  have hl := lv_entry ([.ref q_va, .int a0, .int a1, .int a2, .int a3, .ref q_out]) (n := 7) (Nat.le_of_ble_eq_true rfl)
  rw [lg_entry_eq]
  generalize (lg_sl ([.ref q_va, .int a0, .int a1, .int a2, .int a3, .ref q_out]) ++ List.replicate (7 - (lg_sl ([.ref q_va, .int a0, .int a1, .int a2, .int a3, .ref q_out])).length) Slot.unset).toArray = ls at hl ⊢
  have hl : lv_has ls 7 [(0, .ref q_va), (1, .int a0), (2, .int a1), (3, .int a2), (4, .int a3), (5, .ref q_out)] := hl
  have hPv := jv_PT hP
  have hDv := jv_DT hD
  unfold l_read at hf
  obtain ⟨x, g, hf⟩ := jv_ob hf
  refine lv_aload hx hb d_L_read_0 (lv_at hl 5 rfl) ?_
  refine lv_iconst (v := (0 : Int32)) hx hb d_L_read_2 (by decide) ?_
  refine lv_aload_n hx hb d_L_read_3 rfl (lv_at hl 0 rfl) ?_
  refine lv_iload_n hx hb d_L_read_4 rfl (lv_at hl 1 rfl) ?_
  refine lv_iload_n hx hb d_L_read_5 rfl (lv_at hl 2 rfl) ?_
  refine lv_iload_n hx hb d_L_read_6 rfl (lv_at hl 3 rfl) ?_
  refine lv_iload hx hb d_L_read_7 (lv_at hl 4 rfl) ?_
  rcases x with k | r9
  · by_cases hk0 : k = 1
    · have hf := jv_it hf hk0
      subst hk0
      obtain rfl := Option.some.inj hf
      refine jv_xV (cells := 0) (slots := 0) (As := [.int a0, .int a1, .int a2, .int a3]) (rest := [.int (0 : Int32), .ref q_out]) (b := q_va) ⟨hx, hb, hml, hown, hts⟩ (x_V_read l hl9 dC dI cI cA cL q_va q_aa q_cl q_fu Q S.1 S.2.1 S.2.2.1 S.2.2.2 a0 a1 a2 a3 1 g) (jv_cwV hts wa_564 wa_303 wa_565 wa_566 wa_567 rfl rfl yd_V_read ⟨Nat.le_of_ble_eq_true rfl, Nat.le_of_ble_eq_true rfl⟩) (jv_preVt hT.1 hK hPv 0 rfl rfl) rfl rfl hl.1 rfl (lv_room (Nat.le_of_ble_eq_true rfl)) d_L_read_9 ⟨Nat.le_of_ble_eq_true rfl, Nat.le_of_ble_eq_true rfl⟩ (fun x H1 hob => ?_)
      refine jv_catch (pc := 9) (name := jv_en 1) hown [] ⟨0, 14, 17, 13⟩ [⟨0, 14, 21, 15⟩, ⟨0, 14, 25, 35⟩, ⟨0, 14, 29, 37⟩, ⟨0, 14, 33, 55⟩] htab jv_pn (by decide) (by decide) (jv_w hts wa_524) (jv_cast hT.1 ce_1) hob ?_
      show W p l e _ s m _ below meth c H1 [] (0 + 1) (0 + 6) _ (F0 m 17 ls [.ref x])
      refine lv_astore hx hb d_L_read_17 hl (by decide) rfl (fun ls hl => ?_)
      refine lv_iconst (v := (1 : Int32)) hx hb d_L_read_19 (by decide) ?_
      refine W.widen (k := 8) (n := 713) (Nat.le_of_ble_eq_true rfl) (Nat.le_of_ble_eq_true rfl) ?_
      obtain ⟨-, -, hz1, hk1⟩ := hob
      have hP : va_P (dC, dI) vwCl (w_lo cI cA cL q_out q_va q_aa q_cl q_fu Q S vO) H1 := fun i q hi => (hP i q hi).kept (hk1 q.1 (hP i q hi).lt)
      have hS : va_S A s.heap H1 [] := ⟨hz1, fun q h _ => hk1 q h, fun z hz => by cases hz⟩
      exact W.iret hx hb hr (fun t ht hW => ⟨rfl, ⟨Q, by rw [ht]; exact hP, hD⟩, hS.F ht⟩) hS.2.2 d_L_read_20
    have hf := jv_if hf hk0
    by_cases hk1 : k = 2
    · have hf := jv_it hf hk1
      subst hk1
      obtain rfl := Option.some.inj hf
      refine jv_xV (cells := 0) (slots := 0) (As := [.int a0, .int a1, .int a2, .int a3]) (rest := [.int (0 : Int32), .ref q_out]) (b := q_va) ⟨hx, hb, hml, hown, hts⟩ (x_V_read l hl9 dC dI cI cA cL q_va q_aa q_cl q_fu Q S.1 S.2.1 S.2.2.1 S.2.2.2 a0 a1 a2 a3 2 g) (jv_cwV hts wa_564 wa_303 wa_565 wa_566 wa_567 rfl rfl yd_V_read ⟨Nat.le_of_ble_eq_true rfl, Nat.le_of_ble_eq_true rfl⟩) (jv_preVt hT.1 hK hPv 0 rfl rfl) rfl rfl hl.1 rfl (lv_room (Nat.le_of_ble_eq_true rfl)) d_L_read_9 ⟨Nat.le_of_ble_eq_true rfl, Nat.le_of_ble_eq_true rfl⟩ (fun x H1 hob => ?_)
      refine jv_catch (pc := 9) (name := jv_en 2) hown [⟨0, 14, 17, 13⟩] ⟨0, 14, 21, 15⟩ [⟨0, 14, 25, 35⟩, ⟨0, 14, 29, 37⟩, ⟨0, 14, 33, 55⟩] htab (jv_pc (by decide) (jv_w hts wa_524) (hT.2 (jv_en 2, "java/lang/IllegalArgumentException") (by decide +kernel)) jv_pn) (by decide) (by decide) (jv_w hts wa_525) (jv_cast hT.1 ce_2) hob ?_
      show W p l e _ s m _ below meth c H1 [] (0 + 1) (0 + 6) _ (F0 m 21 ls [.ref x])
      refine lv_astore hx hb d_L_read_21 hl (by decide) rfl (fun ls hl => ?_)
      refine lv_iconst (v := (2 : Int32)) hx hb d_L_read_23 (by decide) ?_
      refine W.widen (k := 8) (n := 713) (Nat.le_of_ble_eq_true rfl) (Nat.le_of_ble_eq_true rfl) ?_
      obtain ⟨-, -, hz1, hk1⟩ := hob
      have hP : va_P (dC, dI) vwCl (w_lo cI cA cL q_out q_va q_aa q_cl q_fu Q S vO) H1 := fun i q hi => (hP i q hi).kept (hk1 q.1 (hP i q hi).lt)
      have hS : va_S A s.heap H1 [] := ⟨hz1, fun q h _ => hk1 q h, fun z hz => by cases hz⟩
      exact W.iret hx hb hr (fun t ht hW => ⟨rfl, ⟨Q, by rw [ht]; exact hP, hD⟩, hS.F ht⟩) hS.2.2 d_L_read_24
    have hf := jv_if hf hk1
    by_cases hk2 : k = 3
    · have hf := jv_it hf hk2
      subst hk2
      obtain rfl := Option.some.inj hf
      refine jv_xV (cells := 0) (slots := 0) (As := [.int a0, .int a1, .int a2, .int a3]) (rest := [.int (0 : Int32), .ref q_out]) (b := q_va) ⟨hx, hb, hml, hown, hts⟩ (x_V_read l hl9 dC dI cI cA cL q_va q_aa q_cl q_fu Q S.1 S.2.1 S.2.2.1 S.2.2.2 a0 a1 a2 a3 3 g) (jv_cwV hts wa_564 wa_303 wa_565 wa_566 wa_567 rfl rfl yd_V_read ⟨Nat.le_of_ble_eq_true rfl, Nat.le_of_ble_eq_true rfl⟩) (jv_preVt hT.1 hK hPv 0 rfl rfl) rfl rfl hl.1 rfl (lv_room (Nat.le_of_ble_eq_true rfl)) d_L_read_9 ⟨Nat.le_of_ble_eq_true rfl, Nat.le_of_ble_eq_true rfl⟩ (fun x H1 hob => ?_)
      refine jv_catch (pc := 9) (name := jv_en 3) hown [⟨0, 14, 17, 13⟩, ⟨0, 14, 21, 15⟩] ⟨0, 14, 25, 35⟩ [⟨0, 14, 29, 37⟩, ⟨0, 14, 33, 55⟩] htab (jv_pc (by decide) (jv_w hts wa_524) (hT.2 (jv_en 3, "java/lang/IllegalArgumentException") (by decide +kernel)) (jv_pc (by decide) (jv_w hts wa_525) (hT.2 (jv_en 3, "java/lang/IllegalStateException") (by decide +kernel)) jv_pn)) (by decide) (by decide) (jv_w hts wa_546) (jv_cast hT.1 ce_3) hob ?_
      show W p l e _ s m _ below meth c H1 [] (0 + 1) (0 + 6) _ (F0 m 25 ls [.ref x])
      refine lv_astore hx hb d_L_read_25 hl (by decide) rfl (fun ls hl => ?_)
      refine lv_iconst (v := (3 : Int32)) hx hb d_L_read_27 (by decide) ?_
      refine W.widen (k := 8) (n := 713) (Nat.le_of_ble_eq_true rfl) (Nat.le_of_ble_eq_true rfl) ?_
      obtain ⟨-, -, hz1, hk1⟩ := hob
      have hP : va_P (dC, dI) vwCl (w_lo cI cA cL q_out q_va q_aa q_cl q_fu Q S vO) H1 := fun i q hi => (hP i q hi).kept (hk1 q.1 (hP i q hi).lt)
      have hS : va_S A s.heap H1 [] := ⟨hz1, fun q h _ => hk1 q h, fun z hz => by cases hz⟩
      exact W.iret hx hb hr (fun t ht hW => ⟨rfl, ⟨Q, by rw [ht]; exact hP, hD⟩, hS.F ht⟩) hS.2.2 d_L_read_28
    have hf := jv_if hf hk2
    by_cases hk3 : k = 4
    · have hf := jv_it hf hk3
      subst hk3
      obtain rfl := Option.some.inj hf
      refine jv_xV (cells := 0) (slots := 0) (As := [.int a0, .int a1, .int a2, .int a3]) (rest := [.int (0 : Int32), .ref q_out]) (b := q_va) ⟨hx, hb, hml, hown, hts⟩ (x_V_read l hl9 dC dI cI cA cL q_va q_aa q_cl q_fu Q S.1 S.2.1 S.2.2.1 S.2.2.2 a0 a1 a2 a3 4 g) (jv_cwV hts wa_564 wa_303 wa_565 wa_566 wa_567 rfl rfl yd_V_read ⟨Nat.le_of_ble_eq_true rfl, Nat.le_of_ble_eq_true rfl⟩) (jv_preVt hT.1 hK hPv 0 rfl rfl) rfl rfl hl.1 rfl (lv_room (Nat.le_of_ble_eq_true rfl)) d_L_read_9 ⟨Nat.le_of_ble_eq_true rfl, Nat.le_of_ble_eq_true rfl⟩ (fun x H1 hob => ?_)
      refine jv_catch (pc := 9) (name := jv_en 4) hown [⟨0, 14, 17, 13⟩, ⟨0, 14, 21, 15⟩, ⟨0, 14, 25, 35⟩] ⟨0, 14, 29, 37⟩ [⟨0, 14, 33, 55⟩] htab (jv_pc (by decide) (jv_w hts wa_524) (hT.2 (jv_en 4, "java/lang/IllegalArgumentException") (by decide +kernel)) (jv_pc (by decide) (jv_w hts wa_525) (hT.2 (jv_en 4, "java/lang/IllegalStateException") (by decide +kernel)) (jv_pc (by decide) (jv_w hts wa_546) (hT.2 (jv_en 4, "java/util/NoSuchElementException") (by decide +kernel)) jv_pn))) (by decide) (by decide) (jv_w hts wa_547) (jv_cast hT.1 ce_4) hob ?_
      show W p l e _ s m _ below meth c H1 [] (0 + 1) (0 + 6) _ (F0 m 29 ls [.ref x])
      refine lv_astore hx hb d_L_read_29 hl (by decide) rfl (fun ls hl => ?_)
      refine lv_iconst (v := (4 : Int32)) hx hb d_L_read_31 (by decide) ?_
      refine W.widen (k := 8) (n := 713) (Nat.le_of_ble_eq_true rfl) (Nat.le_of_ble_eq_true rfl) ?_
      obtain ⟨-, -, hz1, hk1⟩ := hob
      have hP : va_P (dC, dI) vwCl (w_lo cI cA cL q_out q_va q_aa q_cl q_fu Q S vO) H1 := fun i q hi => (hP i q hi).kept (hk1 q.1 (hP i q hi).lt)
      have hS : va_S A s.heap H1 [] := ⟨hz1, fun q h _ => hk1 q h, fun z hz => by cases hz⟩
      exact W.iret hx hb hr (fun t ht hW => ⟨rfl, ⟨Q, by rw [ht]; exact hP, hD⟩, hS.F ht⟩) hS.2.2 d_L_read_32
    have hf := jv_if hf hk3
    by_cases hk4 : k = 5
    · have hf := jv_it hf hk4
      subst hk4
      obtain rfl := Option.some.inj hf
      refine jv_xV (cells := 0) (slots := 0) (As := [.int a0, .int a1, .int a2, .int a3]) (rest := [.int (0 : Int32), .ref q_out]) (b := q_va) ⟨hx, hb, hml, hown, hts⟩ (x_V_read l hl9 dC dI cI cA cL q_va q_aa q_cl q_fu Q S.1 S.2.1 S.2.2.1 S.2.2.2 a0 a1 a2 a3 5 g) (jv_cwV hts wa_564 wa_303 wa_565 wa_566 wa_567 rfl rfl yd_V_read ⟨Nat.le_of_ble_eq_true rfl, Nat.le_of_ble_eq_true rfl⟩) (jv_preVt hT.1 hK hPv 0 rfl rfl) rfl rfl hl.1 rfl (lv_room (Nat.le_of_ble_eq_true rfl)) d_L_read_9 ⟨Nat.le_of_ble_eq_true rfl, Nat.le_of_ble_eq_true rfl⟩ (fun x H1 hob => ?_)
      refine jv_catch (pc := 9) (name := jv_en 5) hown [⟨0, 14, 17, 13⟩, ⟨0, 14, 21, 15⟩, ⟨0, 14, 25, 35⟩, ⟨0, 14, 29, 37⟩] ⟨0, 14, 33, 55⟩ [] htab (jv_pc (by decide) (jv_w hts wa_524) (hT.2 (jv_en 5, "java/lang/IllegalArgumentException") (by decide +kernel)) (jv_pc (by decide) (jv_w hts wa_525) (hT.2 (jv_en 5, "java/lang/IllegalStateException") (by decide +kernel)) (jv_pc (by decide) (jv_w hts wa_546) (hT.2 (jv_en 5, "java/util/NoSuchElementException") (by decide +kernel)) (jv_pc (by decide) (jv_w hts wa_547) (hT.2 (jv_en 5, "java/lang/UnsupportedOperationException") (by decide +kernel)) jv_pn)))) (by decide) (by decide) (jv_w hts wa_568) (jv_cast hT.1 ce_5) hob ?_
      show W p l e _ s m _ below meth c H1 [] (0 + 1) (0 + 6) _ (F0 m 33 ls [.ref x])
      refine lv_astore hx hb d_L_read_33 hl (by decide) rfl (fun ls hl => ?_)
      refine lv_iconst (v := (5 : Int32)) hx hb d_L_read_35 (by decide) ?_
      refine W.widen (k := 8) (n := 713) (Nat.le_of_ble_eq_true rfl) (Nat.le_of_ble_eq_true rfl) ?_
      obtain ⟨-, -, hz1, hk1⟩ := hob
      have hP : va_P (dC, dI) vwCl (w_lo cI cA cL q_out q_va q_aa q_cl q_fu Q S vO) H1 := fun i q hi => (hP i q hi).kept (hk1 q.1 (hP i q hi).lt)
      have hS : va_S A s.heap H1 [] := ⟨hz1, fun q h _ => hk1 q h, fun z hz => by cases hz⟩
      exact W.iret hx hb hr (fun t ht hW => ⟨rfl, ⟨Q, by rw [ht]; exact hP, hD⟩, hS.F ht⟩) hS.2.2 d_L_read_36
    have hf := jv_if hf hk4
    cases hf
  · obtain rfl := Option.some.inj hf
    refine jv_cs (W.runV (As := [.int a0, .int a1, .int a2, .int a3]) (rest := [.int (0 : Int32), .ref q_out]) (b := q_va) ⟨hx, hb, hml, hown, hts⟩ (c_V_read l hl9 dC dI cI cA cL q_va q_aa q_cl q_fu Q S.1 S.2.1 S.2.2.1 S.2.2.2 a0 a1 a2 a3 r9 g) (jv_cwV hts wa_564 wa_303 wa_565 wa_566 wa_567 rfl rfl yd_V_read ⟨Nat.le_of_ble_eq_true rfl, Nat.le_of_ble_eq_true rfl⟩) (jv_preVt hT.1 hK hPv 0 rfl rfl) rfl rfl hl.1 rfl (lv_room (Nat.le_of_ble_eq_true rfl)) d_L_read_9 ⟨Nat.le_of_ble_eq_true rfl, Nat.le_of_ble_eq_true rfl⟩) ?_
    refine lv_i2l hx hb d_L_read_12 rfl ?_
    refine va_last (q0 := 0) (t0 := 2) (x := (r9).toInt64) hx hb hK hP hD hS (ha := rfl) (ht := rfl) (hin := by unfold vp_in; decide) (hdg := d_L_read_13) (fun H1 locs hP hD hS => ?_)
    refine lv_goto (tgt := 37) hx hb d_L_read_14 (by decide) ?_
    refine lv_iconst (v := (0 : Int32)) hx hb d_L_read_37 (by decide) ?_
    refine W.widen (k := 8) (n := 713) (Nat.le_of_ble_eq_true rfl) (Nat.le_of_ble_eq_true rfl) ?_
    exact W.iret hx hb hr (fun t ht hW => ⟨rfl, ⟨Q, by rw [ht]; exact hP, hD⟩, hS.F ht⟩) hS.2.2 d_L_read_38
theorem d_L_list_0 : decode cc_L_list 0 = .ok (.aload_n 3, 1) := by decide +kernel
theorem d_L_list_1 : decode cc_L_list 1 = .ok (.iconst 0, 1) := by decide +kernel
theorem d_L_list_2 : decode cc_L_list 2 = .ok (.aload_n 0, 1) := by decide +kernel
theorem d_L_list_3 : decode cc_L_list 3 = .ok (.iload_n 1, 1) := by decide +kernel
theorem d_L_list_4 : decode cc_L_list 4 = .ok (.iload_n 2, 1) := by decide +kernel
theorem d_L_list_5 : decode cc_L_list 5 = .ok (.invokevirtual 57, 3) := by decide +kernel
theorem d_L_list_13 : decode cc_L_list 13 = .ok (.astore 4, 2) := by decide +kernel
theorem d_L_list_15 : decode cc_L_list 15 = .ok (.iconst 1, 1) := by decide +kernel
theorem d_L_list_16 : decode cc_L_list 16 = .ok (.ireturn, 1) := by decide +kernel
theorem d_L_list_17 : decode cc_L_list 17 = .ok (.astore 4, 2) := by decide +kernel
theorem d_L_list_19 : decode cc_L_list 19 = .ok (.iconst 2, 1) := by decide +kernel
theorem d_L_list_20 : decode cc_L_list 20 = .ok (.ireturn, 1) := by decide +kernel
theorem d_L_list_21 : decode cc_L_list 21 = .ok (.astore 4, 2) := by decide +kernel
theorem d_L_list_23 : decode cc_L_list 23 = .ok (.iconst 3, 1) := by decide +kernel
theorem d_L_list_24 : decode cc_L_list 24 = .ok (.ireturn, 1) := by decide +kernel
theorem d_L_list_8 : decode cc_L_list 8 = .ok (.i2l, 1) := by decide +kernel
theorem d_L_list_9 : decode cc_L_list 9 = .ok (.lastore, 1) := by decide +kernel
theorem d_L_list_10 : decode cc_L_list 10 = .ok (.goto 15, 3) := by decide +kernel
theorem d_L_list_25 : decode cc_L_list 25 = .ok (.iconst 0, 1) := by decide +kernel
theorem d_L_list_26 : decode cc_L_list 26 = .ok (.ireturn, 1) := by decide +kernel
def l_list (S : jv_vs) (a0 : Int32) (a1 : Int32) (vO : Nat → Int64) : Option jv_lr := (f_V_list S.1 S.2.2.2 a0 a1).bind fun x => match x with
  | .inl k => if k = 1 then (some ((1 : Int32), S, vO)) else (if k = 3 then (some ((2 : Int32), S, vO)) else (if k = 4 then (some ((3 : Int32), S, vO)) else (none)))
  | .inr r9 => some ((0 : Int32), S, (vp_updL vO 0 (r9).toInt64))
set_option maxHeartbeats 4000000 in
set_option maxRecDepth 100000 in
theorem c_L_list (l : Launch) (hl9 : l.stackTraces = false) (dC : Nat → ClassId) (dI : Nat → Nat → Nat) (cI cA cL : ClassId) (q_out q_va q_aa q_cl q_fu : Nat) (Q : Nat → Nat → Nat) (S : jv_vs) (vO : Nat → Int64) (a0 : Int32) (a1 : Int32) (sz : Nat) (r : jv_lr) (hf : l_list S a0 a1 vO = some r) : Met l y_L_list ws_L_list rm_L_list (jv_Plw [.ref q_va, .int a0, .int a1, .ref q_out] (dC, dI) (jv_ty cI cA cL) (w_lo cI cA cL q_out q_va q_aa q_cl q_fu Q S vO) sz) (jv_Qlw r.1 (dC, dI) cI cA cL q_out q_va q_aa q_cl q_fu r.2.1 r.2.2 (va_A (w_lo cI cA cL q_out q_va q_aa q_cl q_fu Q S vO) sz)) 8 713 (va_A (w_lo cI cA cL q_out q_va q_aa q_cl q_fu Q S vO) sz) := by
  refine va_MetW (cc := cc_L_list) (maxL := 5) (ret := some .int) (hh := [(0, 10, 13, 13), (0, 10, 17, 35), (0, 10, 21, 37)]) (by decide) rfl ?_
  intro p e s m args below meth c s₁ B hml hv
  obtain ⟨rfl, hsz, hP, hK, hD0, hT⟩ := hv
  have hx := B.exec
  have hb := B.bytes
  have hr := B.returns
  have hts := atoms_spec (ws := ws_L_list) B.pre
  have hown : s.vm.findClass R_Law = some m.cls := findClass_of_methodNamed B.named
  have hlocks := B.notSynchronized
  have htab := jv_table B (hts _ List.mem_cons_self)
  subst hsz
  have hD := hD0.self (sz := s.heap.size)
  generalize hAe : va_A (w_lo cI cA cL q_out q_va q_aa q_cl q_fu Q S vO) s.heap.size = A at hD ⊢
  have hA : ∀ q : Nat, s.heap.size ≤ q → A q := fun q h => by rw [← hAe]; exact Or.inr h
  have hS : va_S A s.heap s.heap [] := va_S.rf
  have hl := lv_entry ([.ref q_va, .int a0, .int a1, .ref q_out]) (n := 5) (Nat.le_of_ble_eq_true rfl)
  rw [lg_entry_eq]
  generalize (lg_sl ([.ref q_va, .int a0, .int a1, .ref q_out]) ++ List.replicate (5 - (lg_sl ([.ref q_va, .int a0, .int a1, .ref q_out])).length) Slot.unset).toArray = ls at hl ⊢
  have hl : lv_has ls 5 [(0, .ref q_va), (1, .int a0), (2, .int a1), (3, .ref q_out)] := hl
  have hPv := jv_PT hP
  have hDv := jv_DT hD
  unfold l_list at hf
  obtain ⟨x, g, hf⟩ := jv_ob hf
  refine lv_aload_n hx hb d_L_list_0 rfl (lv_at hl 3 rfl) ?_
  refine lv_iconst (v := (0 : Int32)) hx hb d_L_list_1 (by decide) ?_
  refine lv_aload_n hx hb d_L_list_2 rfl (lv_at hl 0 rfl) ?_
  refine lv_iload_n hx hb d_L_list_3 rfl (lv_at hl 1 rfl) ?_
  refine lv_iload_n hx hb d_L_list_4 rfl (lv_at hl 2 rfl) ?_
  rcases x with k | r9
  · by_cases hk0 : k = 1
    · have hf := jv_it hf hk0
      subst hk0
      obtain rfl := Option.some.inj hf
      refine jv_xV (cells := 0) (slots := 0) (As := [.int a0, .int a1]) (rest := [.int (0 : Int32), .ref q_out]) (b := q_va) ⟨hx, hb, hml, hown, hts⟩ (x_V_list l hl9 dC dI cI cA cL q_va q_aa q_cl q_fu Q S.1 S.2.1 S.2.2.1 S.2.2.2 a0 a1 1 g) (jv_cwV hts wa_569 wa_303 wa_570 wa_571 wa_572 rfl rfl yd_V_list ⟨Nat.le_of_ble_eq_true rfl, Nat.le_of_ble_eq_true rfl⟩) (jv_preVt hT.1 hK hPv 0 rfl rfl) rfl rfl hl.1 rfl (lv_room (Nat.le_of_ble_eq_true rfl)) d_L_list_5 ⟨Nat.le_of_ble_eq_true rfl, Nat.le_of_ble_eq_true rfl⟩ (fun x H1 hob => ?_)
      refine jv_catch (pc := 5) (name := jv_en 1) hown [] ⟨0, 10, 13, 13⟩ [⟨0, 10, 17, 35⟩, ⟨0, 10, 21, 37⟩] htab jv_pn (by decide) (by decide) (jv_w hts wa_524) (jv_cast hT.1 ce_1) hob ?_
      show W p l e _ s m _ below meth c H1 [] (0 + 1) (0 + 6) _ (F0 m 13 ls [.ref x])
      refine lv_astore hx hb d_L_list_13 hl (by decide) rfl (fun ls hl => ?_)
      refine lv_iconst (v := (1 : Int32)) hx hb d_L_list_15 (by decide) ?_
      refine W.widen (k := 8) (n := 713) (Nat.le_of_ble_eq_true rfl) (Nat.le_of_ble_eq_true rfl) ?_
      obtain ⟨-, -, hz1, hk1⟩ := hob
      have hP : va_P (dC, dI) vwCl (w_lo cI cA cL q_out q_va q_aa q_cl q_fu Q S vO) H1 := fun i q hi => (hP i q hi).kept (hk1 q.1 (hP i q hi).lt)
      have hS : va_S A s.heap H1 [] := ⟨hz1, fun q h _ => hk1 q h, fun z hz => by cases hz⟩
      exact W.iret hx hb hr (fun t ht hW => ⟨rfl, ⟨Q, by rw [ht]; exact hP, hD⟩, hS.F ht⟩) hS.2.2 d_L_list_16
    have hf := jv_if hf hk0
    by_cases hk1 : k = 3
    · have hf := jv_it hf hk1
      subst hk1
      obtain rfl := Option.some.inj hf
      refine jv_xV (cells := 0) (slots := 0) (As := [.int a0, .int a1]) (rest := [.int (0 : Int32), .ref q_out]) (b := q_va) ⟨hx, hb, hml, hown, hts⟩ (x_V_list l hl9 dC dI cI cA cL q_va q_aa q_cl q_fu Q S.1 S.2.1 S.2.2.1 S.2.2.2 a0 a1 3 g) (jv_cwV hts wa_569 wa_303 wa_570 wa_571 wa_572 rfl rfl yd_V_list ⟨Nat.le_of_ble_eq_true rfl, Nat.le_of_ble_eq_true rfl⟩) (jv_preVt hT.1 hK hPv 0 rfl rfl) rfl rfl hl.1 rfl (lv_room (Nat.le_of_ble_eq_true rfl)) d_L_list_5 ⟨Nat.le_of_ble_eq_true rfl, Nat.le_of_ble_eq_true rfl⟩ (fun x H1 hob => ?_)
      refine jv_catch (pc := 5) (name := jv_en 3) hown [⟨0, 10, 13, 13⟩] ⟨0, 10, 17, 35⟩ [⟨0, 10, 21, 37⟩] htab (jv_pc (by decide) (jv_w hts wa_524) (hT.2 (jv_en 3, "java/lang/IllegalArgumentException") (by decide +kernel)) jv_pn) (by decide) (by decide) (jv_w hts wa_546) (jv_cast hT.1 ce_3) hob ?_
      show W p l e _ s m _ below meth c H1 [] (0 + 1) (0 + 6) _ (F0 m 17 ls [.ref x])
      refine lv_astore hx hb d_L_list_17 hl (by decide) rfl (fun ls hl => ?_)
      refine lv_iconst (v := (2 : Int32)) hx hb d_L_list_19 (by decide) ?_
      refine W.widen (k := 8) (n := 713) (Nat.le_of_ble_eq_true rfl) (Nat.le_of_ble_eq_true rfl) ?_
      obtain ⟨-, -, hz1, hk1⟩ := hob
      have hP : va_P (dC, dI) vwCl (w_lo cI cA cL q_out q_va q_aa q_cl q_fu Q S vO) H1 := fun i q hi => (hP i q hi).kept (hk1 q.1 (hP i q hi).lt)
      have hS : va_S A s.heap H1 [] := ⟨hz1, fun q h _ => hk1 q h, fun z hz => by cases hz⟩
      exact W.iret hx hb hr (fun t ht hW => ⟨rfl, ⟨Q, by rw [ht]; exact hP, hD⟩, hS.F ht⟩) hS.2.2 d_L_list_20
    have hf := jv_if hf hk1
    by_cases hk2 : k = 4
    · have hf := jv_it hf hk2
      subst hk2
      obtain rfl := Option.some.inj hf
      refine jv_xV (cells := 0) (slots := 0) (As := [.int a0, .int a1]) (rest := [.int (0 : Int32), .ref q_out]) (b := q_va) ⟨hx, hb, hml, hown, hts⟩ (x_V_list l hl9 dC dI cI cA cL q_va q_aa q_cl q_fu Q S.1 S.2.1 S.2.2.1 S.2.2.2 a0 a1 4 g) (jv_cwV hts wa_569 wa_303 wa_570 wa_571 wa_572 rfl rfl yd_V_list ⟨Nat.le_of_ble_eq_true rfl, Nat.le_of_ble_eq_true rfl⟩) (jv_preVt hT.1 hK hPv 0 rfl rfl) rfl rfl hl.1 rfl (lv_room (Nat.le_of_ble_eq_true rfl)) d_L_list_5 ⟨Nat.le_of_ble_eq_true rfl, Nat.le_of_ble_eq_true rfl⟩ (fun x H1 hob => ?_)
      refine jv_catch (pc := 5) (name := jv_en 4) hown [⟨0, 10, 13, 13⟩, ⟨0, 10, 17, 35⟩] ⟨0, 10, 21, 37⟩ [] htab (jv_pc (by decide) (jv_w hts wa_524) (hT.2 (jv_en 4, "java/lang/IllegalArgumentException") (by decide +kernel)) (jv_pc (by decide) (jv_w hts wa_546) (hT.2 (jv_en 4, "java/util/NoSuchElementException") (by decide +kernel)) jv_pn)) (by decide) (by decide) (jv_w hts wa_547) (jv_cast hT.1 ce_4) hob ?_
      show W p l e _ s m _ below meth c H1 [] (0 + 1) (0 + 6) _ (F0 m 21 ls [.ref x])
      refine lv_astore hx hb d_L_list_21 hl (by decide) rfl (fun ls hl => ?_)
      refine lv_iconst (v := (3 : Int32)) hx hb d_L_list_23 (by decide) ?_
      refine W.widen (k := 8) (n := 713) (Nat.le_of_ble_eq_true rfl) (Nat.le_of_ble_eq_true rfl) ?_
      obtain ⟨-, -, hz1, hk1⟩ := hob
      have hP : va_P (dC, dI) vwCl (w_lo cI cA cL q_out q_va q_aa q_cl q_fu Q S vO) H1 := fun i q hi => (hP i q hi).kept (hk1 q.1 (hP i q hi).lt)
      have hS : va_S A s.heap H1 [] := ⟨hz1, fun q h _ => hk1 q h, fun z hz => by cases hz⟩
      exact W.iret hx hb hr (fun t ht hW => ⟨rfl, ⟨Q, by rw [ht]; exact hP, hD⟩, hS.F ht⟩) hS.2.2 d_L_list_24
    have hf := jv_if hf hk2
    cases hf
  · obtain rfl := Option.some.inj hf
    refine jv_cs (W.runV (As := [.int a0, .int a1]) (rest := [.int (0 : Int32), .ref q_out]) (b := q_va) ⟨hx, hb, hml, hown, hts⟩ (c_V_list l hl9 dC dI cI cA cL q_va q_aa q_cl q_fu Q S.1 S.2.1 S.2.2.1 S.2.2.2 a0 a1 r9 g) (jv_cwV hts wa_569 wa_303 wa_570 wa_571 wa_572 rfl rfl yd_V_list ⟨Nat.le_of_ble_eq_true rfl, Nat.le_of_ble_eq_true rfl⟩) (jv_preVt hT.1 hK hPv 0 rfl rfl) rfl rfl hl.1 rfl (lv_room (Nat.le_of_ble_eq_true rfl)) d_L_list_5 ⟨Nat.le_of_ble_eq_true rfl, Nat.le_of_ble_eq_true rfl⟩) ?_
    refine lv_i2l hx hb d_L_list_8 rfl ?_
    refine va_last (q0 := 0) (t0 := 2) (x := (r9).toInt64) hx hb hK hP hD hS (ha := rfl) (ht := rfl) (hin := by unfold vp_in; decide) (hdg := d_L_list_9) (fun H1 locs hP hD hS => ?_)
    refine lv_goto (tgt := 25) hx hb d_L_list_10 (by decide) ?_
    refine lv_iconst (v := (0 : Int32)) hx hb d_L_list_25 (by decide) ?_
    refine W.widen (k := 8) (n := 713) (Nat.le_of_ble_eq_true rfl) (Nat.le_of_ble_eq_true rfl) ?_
    exact W.iret hx hb hr (fun t ht hW => ⟨rfl, ⟨Q, by rw [ht]; exact hP, hD⟩, hS.F ht⟩) hS.2.2 d_L_list_26
theorem d_L_look_0 : decode cc_L_look 0 = .ok (.aload_n 3, 1) := by decide +kernel
theorem d_L_look_1 : decode cc_L_look 1 = .ok (.iconst 0, 1) := by decide +kernel
theorem d_L_look_2 : decode cc_L_look 2 = .ok (.aload_n 0, 1) := by decide +kernel
theorem d_L_look_3 : decode cc_L_look 3 = .ok (.iload_n 1, 1) := by decide +kernel
theorem d_L_look_4 : decode cc_L_look 4 = .ok (.iload_n 2, 1) := by decide +kernel
theorem d_L_look_5 : decode cc_L_look 5 = .ok (.invokevirtual 60, 3) := by decide +kernel
theorem d_L_look_13 : decode cc_L_look 13 = .ok (.astore 4, 2) := by decide +kernel
theorem d_L_look_15 : decode cc_L_look 15 = .ok (.iconst 1, 1) := by decide +kernel
theorem d_L_look_16 : decode cc_L_look 16 = .ok (.ireturn, 1) := by decide +kernel
theorem d_L_look_8 : decode cc_L_look 8 = .ok (.i2l, 1) := by decide +kernel
theorem d_L_look_9 : decode cc_L_look 9 = .ok (.lastore, 1) := by decide +kernel
theorem d_L_look_10 : decode cc_L_look 10 = .ok (.goto 7, 3) := by decide +kernel
theorem d_L_look_17 : decode cc_L_look 17 = .ok (.iconst 0, 1) := by decide +kernel
theorem d_L_look_18 : decode cc_L_look 18 = .ok (.ireturn, 1) := by decide +kernel
def l_look (S : jv_vs) (a0 : Int32) (a1 : Int32) (vO : Nat → Int64) : Option jv_lr := (f_V_look S.1 S.2.2.2 a0 a1).bind fun x => match x with
  | .inl k => if k = 1 then (some ((1 : Int32), S, vO)) else (none)
  | .inr r9 => some ((0 : Int32), S, (vp_updL vO 0 (r9).toInt64))
set_option maxHeartbeats 4000000 in
set_option maxRecDepth 100000 in
theorem c_L_look (l : Launch) (hl9 : l.stackTraces = false) (dC : Nat → ClassId) (dI : Nat → Nat → Nat) (cI cA cL : ClassId) (q_out q_va q_aa q_cl q_fu : Nat) (Q : Nat → Nat → Nat) (S : jv_vs) (vO : Nat → Int64) (a0 : Int32) (a1 : Int32) (sz : Nat) (r : jv_lr) (hf : l_look S a0 a1 vO = some r) : Met l y_L_look ws_L_look rm_L_look (jv_Plw [.ref q_va, .int a0, .int a1, .ref q_out] (dC, dI) (jv_ty cI cA cL) (w_lo cI cA cL q_out q_va q_aa q_cl q_fu Q S vO) sz) (jv_Qlw r.1 (dC, dI) cI cA cL q_out q_va q_aa q_cl q_fu r.2.1 r.2.2 (va_A (w_lo cI cA cL q_out q_va q_aa q_cl q_fu Q S vO) sz)) 8 713 (va_A (w_lo cI cA cL q_out q_va q_aa q_cl q_fu Q S vO) sz) := by
  refine va_MetW (cc := cc_L_look) (maxL := 5) (ret := some .int) (hh := [(0, 10, 13, 13)]) (by decide) rfl ?_
  intro p e s m args below meth c s₁ B hml hv
  obtain ⟨rfl, hsz, hP, hK, hD0, hT⟩ := hv
  have hx := B.exec
  have hb := B.bytes
  have hr := B.returns
  have hts := atoms_spec (ws := ws_L_look) B.pre
  have hown : s.vm.findClass R_Law = some m.cls := findClass_of_methodNamed B.named
  have hlocks := B.notSynchronized
  have htab := jv_table B (hts _ List.mem_cons_self)
  subst hsz
  have hD := hD0.self (sz := s.heap.size)
  generalize hAe : va_A (w_lo cI cA cL q_out q_va q_aa q_cl q_fu Q S vO) s.heap.size = A at hD ⊢
  have hA : ∀ q : Nat, s.heap.size ≤ q → A q := fun q h => by rw [← hAe]; exact Or.inr h
  have hS : va_S A s.heap s.heap [] := va_S.rf
  have hl := lv_entry ([.ref q_va, .int a0, .int a1, .ref q_out]) (n := 5) (Nat.le_of_ble_eq_true rfl)
  rw [lg_entry_eq]
  generalize (lg_sl ([.ref q_va, .int a0, .int a1, .ref q_out]) ++ List.replicate (5 - (lg_sl ([.ref q_va, .int a0, .int a1, .ref q_out])).length) Slot.unset).toArray = ls at hl ⊢
  have hl : lv_has ls 5 [(0, .ref q_va), (1, .int a0), (2, .int a1), (3, .ref q_out)] := hl
  have hPv := jv_PT hP
  have hDv := jv_DT hD
  unfold l_look at hf
  obtain ⟨x, g, hf⟩ := jv_ob hf
  refine lv_aload_n hx hb d_L_look_0 rfl (lv_at hl 3 rfl) ?_
  refine lv_iconst (v := (0 : Int32)) hx hb d_L_look_1 (by decide) ?_
  refine lv_aload_n hx hb d_L_look_2 rfl (lv_at hl 0 rfl) ?_
  refine lv_iload_n hx hb d_L_look_3 rfl (lv_at hl 1 rfl) ?_
  refine lv_iload_n hx hb d_L_look_4 rfl (lv_at hl 2 rfl) ?_
  rcases x with k | r9
  · by_cases hk0 : k = 1
    · have hf := jv_it hf hk0
      subst hk0
      obtain rfl := Option.some.inj hf
      refine jv_xV (cells := 0) (slots := 0) (As := [.int a0, .int a1]) (rest := [.int (0 : Int32), .ref q_out]) (b := q_va) ⟨hx, hb, hml, hown, hts⟩ (x_V_look l hl9 dC dI cI cA cL q_va q_aa q_cl q_fu Q S.1 S.2.1 S.2.2.1 S.2.2.2 a0 a1 1 g) (jv_cwV hts wa_573 wa_303 wa_574 wa_575 wa_576 rfl rfl yd_V_look ⟨Nat.le_of_ble_eq_true rfl, Nat.le_of_ble_eq_true rfl⟩) (jv_preVt hT.1 hK hPv 0 rfl rfl) rfl rfl hl.1 rfl (lv_room (Nat.le_of_ble_eq_true rfl)) d_L_look_5 ⟨Nat.le_of_ble_eq_true rfl, Nat.le_of_ble_eq_true rfl⟩ (fun x H1 hob => ?_)
      refine jv_catch (pc := 5) (name := jv_en 1) hown [] ⟨0, 10, 13, 13⟩ [] htab jv_pn (by decide) (by decide) (jv_w hts wa_524) (jv_cast hT.1 ce_1) hob ?_
      show W p l e _ s m _ below meth c H1 [] (0 + 1) (0 + 6) _ (F0 m 13 ls [.ref x])
      refine lv_astore hx hb d_L_look_13 hl (by decide) rfl (fun ls hl => ?_)
      refine lv_iconst (v := (1 : Int32)) hx hb d_L_look_15 (by decide) ?_
      refine W.widen (k := 8) (n := 713) (Nat.le_of_ble_eq_true rfl) (Nat.le_of_ble_eq_true rfl) ?_
      obtain ⟨-, -, hz1, hk1⟩ := hob
      have hP : va_P (dC, dI) vwCl (w_lo cI cA cL q_out q_va q_aa q_cl q_fu Q S vO) H1 := fun i q hi => (hP i q hi).kept (hk1 q.1 (hP i q hi).lt)
      have hS : va_S A s.heap H1 [] := ⟨hz1, fun q h _ => hk1 q h, fun z hz => by cases hz⟩
      exact W.iret hx hb hr (fun t ht hW => ⟨rfl, ⟨Q, by rw [ht]; exact hP, hD⟩, hS.F ht⟩) hS.2.2 d_L_look_16
    have hf := jv_if hf hk0
    cases hf
  · obtain rfl := Option.some.inj hf
    refine jv_cs (W.runV (As := [.int a0, .int a1]) (rest := [.int (0 : Int32), .ref q_out]) (b := q_va) ⟨hx, hb, hml, hown, hts⟩ (c_V_look l hl9 dC dI cI cA cL q_va q_aa q_cl q_fu Q S.1 S.2.1 S.2.2.1 S.2.2.2 a0 a1 r9 g) (jv_cwV hts wa_573 wa_303 wa_574 wa_575 wa_576 rfl rfl yd_V_look ⟨Nat.le_of_ble_eq_true rfl, Nat.le_of_ble_eq_true rfl⟩) (jv_preVt hT.1 hK hPv 0 rfl rfl) rfl rfl hl.1 rfl (lv_room (Nat.le_of_ble_eq_true rfl)) d_L_look_5 ⟨Nat.le_of_ble_eq_true rfl, Nat.le_of_ble_eq_true rfl⟩) ?_
    refine lv_i2l hx hb d_L_look_8 rfl ?_
    refine va_last (q0 := 0) (t0 := 2) (x := (r9).toInt64) hx hb hK hP hD hS (ha := rfl) (ht := rfl) (hin := by unfold vp_in; decide) (hdg := d_L_look_9) (fun H1 locs hP hD hS => ?_)
    refine lv_goto (tgt := 17) hx hb d_L_look_10 (by decide) ?_
    refine lv_iconst (v := (0 : Int32)) hx hb d_L_look_17 (by decide) ?_
    refine W.widen (k := 8) (n := 713) (Nat.le_of_ble_eq_true rfl) (Nat.le_of_ble_eq_true rfl) ?_
    exact W.iret hx hb hr (fun t ht hW => ⟨rfl, ⟨Q, by rw [ht]; exact hP, hD⟩, hS.F ht⟩) hS.2.2 d_L_look_18
theorem d_L_size_0 : decode cc_L_size 0 = .ok (.aload 4, 2) := by decide +kernel
theorem d_L_size_2 : decode cc_L_size 2 = .ok (.iconst 0, 1) := by decide +kernel
theorem d_L_size_3 : decode cc_L_size 3 = .ok (.aload_n 0, 1) := by decide +kernel
theorem d_L_size_4 : decode cc_L_size 4 = .ok (.iload_n 1, 1) := by decide +kernel
theorem d_L_size_5 : decode cc_L_size 5 = .ok (.iload_n 2, 1) := by decide +kernel
theorem d_L_size_6 : decode cc_L_size 6 = .ok (.iload_n 3, 1) := by decide +kernel
theorem d_L_size_7 : decode cc_L_size 7 = .ok (.invokevirtual 63, 3) := by decide +kernel
theorem d_L_size_15 : decode cc_L_size 15 = .ok (.astore 5, 2) := by decide +kernel
theorem d_L_size_17 : decode cc_L_size 17 = .ok (.iconst 1, 1) := by decide +kernel
theorem d_L_size_18 : decode cc_L_size 18 = .ok (.ireturn, 1) := by decide +kernel
theorem d_L_size_19 : decode cc_L_size 19 = .ok (.astore 5, 2) := by decide +kernel
theorem d_L_size_21 : decode cc_L_size 21 = .ok (.iconst 2, 1) := by decide +kernel
theorem d_L_size_22 : decode cc_L_size 22 = .ok (.ireturn, 1) := by decide +kernel
theorem d_L_size_23 : decode cc_L_size 23 = .ok (.astore 5, 2) := by decide +kernel
theorem d_L_size_25 : decode cc_L_size 25 = .ok (.iconst 3, 1) := by decide +kernel
theorem d_L_size_26 : decode cc_L_size 26 = .ok (.ireturn, 1) := by decide +kernel
theorem d_L_size_27 : decode cc_L_size 27 = .ok (.astore 5, 2) := by decide +kernel
theorem d_L_size_29 : decode cc_L_size 29 = .ok (.iconst 4, 1) := by decide +kernel
theorem d_L_size_30 : decode cc_L_size 30 = .ok (.ireturn, 1) := by decide +kernel
theorem d_L_size_10 : decode cc_L_size 10 = .ok (.i2l, 1) := by decide +kernel
theorem d_L_size_11 : decode cc_L_size 11 = .ok (.lastore, 1) := by decide +kernel
theorem d_L_size_12 : decode cc_L_size 12 = .ok (.goto 19, 3) := by decide +kernel
theorem d_L_size_31 : decode cc_L_size 31 = .ok (.iconst 0, 1) := by decide +kernel
theorem d_L_size_32 : decode cc_L_size 32 = .ok (.ireturn, 1) := by decide +kernel
def l_size (S : jv_vs) (a0 : Int32) (a1 : Int32) (a2 : Int32) (vO : Nat → Int64) : Option jv_lr := (f_V_size S.1 S.2.2.2 a0 a1 a2).bind fun x => match x with
  | .inl k => if k = 1 then (some ((1 : Int32), S, vO)) else (if k = 2 then (some ((2 : Int32), S, vO)) else (if k = 3 then (some ((3 : Int32), S, vO)) else (if k = 4 then (some ((4 : Int32), S, vO)) else (none))))
  | .inr r9 => some ((0 : Int32), S, (vp_updL vO 0 (r9).toInt64))
set_option maxHeartbeats 4000000 in
set_option maxRecDepth 100000 in
theorem c_L_size (l : Launch) (hl9 : l.stackTraces = false) (dC : Nat → ClassId) (dI : Nat → Nat → Nat) (cI cA cL : ClassId) (q_out q_va q_aa q_cl q_fu : Nat) (Q : Nat → Nat → Nat) (S : jv_vs) (vO : Nat → Int64) (a0 : Int32) (a1 : Int32) (a2 : Int32) (sz : Nat) (r : jv_lr) (hf : l_size S a0 a1 a2 vO = some r) : Met l y_L_size ws_L_size rm_L_size (jv_Plw [.ref q_va, .int a0, .int a1, .int a2, .ref q_out] (dC, dI) (jv_ty cI cA cL) (w_lo cI cA cL q_out q_va q_aa q_cl q_fu Q S vO) sz) (jv_Qlw r.1 (dC, dI) cI cA cL q_out q_va q_aa q_cl q_fu r.2.1 r.2.2 (va_A (w_lo cI cA cL q_out q_va q_aa q_cl q_fu Q S vO) sz)) 8 713 (va_A (w_lo cI cA cL q_out q_va q_aa q_cl q_fu Q S vO) sz) := by
  refine va_MetW (cc := cc_L_size) (maxL := 6) (ret := some .int) (hh := [(0, 12, 15, 13), (0, 12, 19, 15), (0, 12, 23, 35), (0, 12, 27, 37)]) (by decide) rfl ?_
  intro p e s m args below meth c s₁ B hml hv
  obtain ⟨rfl, hsz, hP, hK, hD0, hT⟩ := hv
  have hx := B.exec
  have hb := B.bytes
  have hr := B.returns
  have hts := atoms_spec (ws := ws_L_size) B.pre
  have hown : s.vm.findClass R_Law = some m.cls := findClass_of_methodNamed B.named
  have hlocks := B.notSynchronized
  have htab := jv_table B (hts _ List.mem_cons_self)
  subst hsz
  have hD := hD0.self (sz := s.heap.size)
  generalize hAe : va_A (w_lo cI cA cL q_out q_va q_aa q_cl q_fu Q S vO) s.heap.size = A at hD ⊢
  have hA : ∀ q : Nat, s.heap.size ≤ q → A q := fun q h => by rw [← hAe]; exact Or.inr h
  have hS : va_S A s.heap s.heap [] := va_S.rf
  have hl := lv_entry ([.ref q_va, .int a0, .int a1, .int a2, .ref q_out]) (n := 6) (Nat.le_of_ble_eq_true rfl)
  rw [lg_entry_eq]
  generalize (lg_sl ([.ref q_va, .int a0, .int a1, .int a2, .ref q_out]) ++ List.replicate (6 - (lg_sl ([.ref q_va, .int a0, .int a1, .int a2, .ref q_out])).length) Slot.unset).toArray = ls at hl ⊢
  have hl : lv_has ls 6 [(0, .ref q_va), (1, .int a0), (2, .int a1), (3, .int a2), (4, .ref q_out)] := hl
  have hPv := jv_PT hP
  have hDv := jv_DT hD
  unfold l_size at hf
  obtain ⟨x, g, hf⟩ := jv_ob hf
  refine lv_aload hx hb d_L_size_0 (lv_at hl 4 rfl) ?_
  refine lv_iconst (v := (0 : Int32)) hx hb d_L_size_2 (by decide) ?_
  refine lv_aload_n hx hb d_L_size_3 rfl (lv_at hl 0 rfl) ?_
  refine lv_iload_n hx hb d_L_size_4 rfl (lv_at hl 1 rfl) ?_
  refine lv_iload_n hx hb d_L_size_5 rfl (lv_at hl 2 rfl) ?_
  refine lv_iload_n hx hb d_L_size_6 rfl (lv_at hl 3 rfl) ?_
  rcases x with k | r9
  · by_cases hk0 : k = 1
    · have hf := jv_it hf hk0
      subst hk0
      obtain rfl := Option.some.inj hf
      refine jv_xV (cells := 0) (slots := 0) (As := [.int a0, .int a1, .int a2]) (rest := [.int (0 : Int32), .ref q_out]) (b := q_va) ⟨hx, hb, hml, hown, hts⟩ (x_V_size l hl9 dC dI cI cA cL q_va q_aa q_cl q_fu Q S.1 S.2.1 S.2.2.1 S.2.2.2 a0 a1 a2 1 g) (jv_cwV hts wa_577 wa_303 wa_578 wa_579 wa_580 rfl rfl yd_V_size ⟨Nat.le_of_ble_eq_true rfl, Nat.le_of_ble_eq_true rfl⟩) (jv_preVt hT.1 hK hPv 0 rfl rfl) rfl rfl hl.1 rfl (lv_room (Nat.le_of_ble_eq_true rfl)) d_L_size_7 ⟨Nat.le_of_ble_eq_true rfl, Nat.le_of_ble_eq_true rfl⟩ (fun x H1 hob => ?_)
      refine jv_catch (pc := 7) (name := jv_en 1) hown [] ⟨0, 12, 15, 13⟩ [⟨0, 12, 19, 15⟩, ⟨0, 12, 23, 35⟩, ⟨0, 12, 27, 37⟩] htab jv_pn (by decide) (by decide) (jv_w hts wa_524) (jv_cast hT.1 ce_1) hob ?_
      show W p l e _ s m _ below meth c H1 [] (0 + 1) (0 + 6) _ (F0 m 15 ls [.ref x])
      refine lv_astore hx hb d_L_size_15 hl (by decide) rfl (fun ls hl => ?_)
      refine lv_iconst (v := (1 : Int32)) hx hb d_L_size_17 (by decide) ?_
      refine W.widen (k := 8) (n := 713) (Nat.le_of_ble_eq_true rfl) (Nat.le_of_ble_eq_true rfl) ?_
      obtain ⟨-, -, hz1, hk1⟩ := hob
      have hP : va_P (dC, dI) vwCl (w_lo cI cA cL q_out q_va q_aa q_cl q_fu Q S vO) H1 := fun i q hi => (hP i q hi).kept (hk1 q.1 (hP i q hi).lt)
      have hS : va_S A s.heap H1 [] := ⟨hz1, fun q h _ => hk1 q h, fun z hz => by cases hz⟩
      exact W.iret hx hb hr (fun t ht hW => ⟨rfl, ⟨Q, by rw [ht]; exact hP, hD⟩, hS.F ht⟩) hS.2.2 d_L_size_18
    have hf := jv_if hf hk0
    by_cases hk1 : k = 2
    · have hf := jv_it hf hk1
      subst hk1
      obtain rfl := Option.some.inj hf
      refine jv_xV (cells := 0) (slots := 0) (As := [.int a0, .int a1, .int a2]) (rest := [.int (0 : Int32), .ref q_out]) (b := q_va) ⟨hx, hb, hml, hown, hts⟩ (x_V_size l hl9 dC dI cI cA cL q_va q_aa q_cl q_fu Q S.1 S.2.1 S.2.2.1 S.2.2.2 a0 a1 a2 2 g) (jv_cwV hts wa_577 wa_303 wa_578 wa_579 wa_580 rfl rfl yd_V_size ⟨Nat.le_of_ble_eq_true rfl, Nat.le_of_ble_eq_true rfl⟩) (jv_preVt hT.1 hK hPv 0 rfl rfl) rfl rfl hl.1 rfl (lv_room (Nat.le_of_ble_eq_true rfl)) d_L_size_7 ⟨Nat.le_of_ble_eq_true rfl, Nat.le_of_ble_eq_true rfl⟩ (fun x H1 hob => ?_)
      refine jv_catch (pc := 7) (name := jv_en 2) hown [⟨0, 12, 15, 13⟩] ⟨0, 12, 19, 15⟩ [⟨0, 12, 23, 35⟩, ⟨0, 12, 27, 37⟩] htab (jv_pc (by decide) (jv_w hts wa_524) (hT.2 (jv_en 2, "java/lang/IllegalArgumentException") (by decide +kernel)) jv_pn) (by decide) (by decide) (jv_w hts wa_525) (jv_cast hT.1 ce_2) hob ?_
      show W p l e _ s m _ below meth c H1 [] (0 + 1) (0 + 6) _ (F0 m 19 ls [.ref x])
      refine lv_astore hx hb d_L_size_19 hl (by decide) rfl (fun ls hl => ?_)
      refine lv_iconst (v := (2 : Int32)) hx hb d_L_size_21 (by decide) ?_
      refine W.widen (k := 8) (n := 713) (Nat.le_of_ble_eq_true rfl) (Nat.le_of_ble_eq_true rfl) ?_
      obtain ⟨-, -, hz1, hk1⟩ := hob
      have hP : va_P (dC, dI) vwCl (w_lo cI cA cL q_out q_va q_aa q_cl q_fu Q S vO) H1 := fun i q hi => (hP i q hi).kept (hk1 q.1 (hP i q hi).lt)
      have hS : va_S A s.heap H1 [] := ⟨hz1, fun q h _ => hk1 q h, fun z hz => by cases hz⟩
      exact W.iret hx hb hr (fun t ht hW => ⟨rfl, ⟨Q, by rw [ht]; exact hP, hD⟩, hS.F ht⟩) hS.2.2 d_L_size_22
    have hf := jv_if hf hk1
    by_cases hk2 : k = 3
    · have hf := jv_it hf hk2
      subst hk2
      obtain rfl := Option.some.inj hf
      refine jv_xV (cells := 0) (slots := 0) (As := [.int a0, .int a1, .int a2]) (rest := [.int (0 : Int32), .ref q_out]) (b := q_va) ⟨hx, hb, hml, hown, hts⟩ (x_V_size l hl9 dC dI cI cA cL q_va q_aa q_cl q_fu Q S.1 S.2.1 S.2.2.1 S.2.2.2 a0 a1 a2 3 g) (jv_cwV hts wa_577 wa_303 wa_578 wa_579 wa_580 rfl rfl yd_V_size ⟨Nat.le_of_ble_eq_true rfl, Nat.le_of_ble_eq_true rfl⟩) (jv_preVt hT.1 hK hPv 0 rfl rfl) rfl rfl hl.1 rfl (lv_room (Nat.le_of_ble_eq_true rfl)) d_L_size_7 ⟨Nat.le_of_ble_eq_true rfl, Nat.le_of_ble_eq_true rfl⟩ (fun x H1 hob => ?_)
      refine jv_catch (pc := 7) (name := jv_en 3) hown [⟨0, 12, 15, 13⟩, ⟨0, 12, 19, 15⟩] ⟨0, 12, 23, 35⟩ [⟨0, 12, 27, 37⟩] htab (jv_pc (by decide) (jv_w hts wa_524) (hT.2 (jv_en 3, "java/lang/IllegalArgumentException") (by decide +kernel)) (jv_pc (by decide) (jv_w hts wa_525) (hT.2 (jv_en 3, "java/lang/IllegalStateException") (by decide +kernel)) jv_pn)) (by decide) (by decide) (jv_w hts wa_546) (jv_cast hT.1 ce_3) hob ?_
      show W p l e _ s m _ below meth c H1 [] (0 + 1) (0 + 6) _ (F0 m 23 ls [.ref x])
      refine lv_astore hx hb d_L_size_23 hl (by decide) rfl (fun ls hl => ?_)
      refine lv_iconst (v := (3 : Int32)) hx hb d_L_size_25 (by decide) ?_
      refine W.widen (k := 8) (n := 713) (Nat.le_of_ble_eq_true rfl) (Nat.le_of_ble_eq_true rfl) ?_
      obtain ⟨-, -, hz1, hk1⟩ := hob
      have hP : va_P (dC, dI) vwCl (w_lo cI cA cL q_out q_va q_aa q_cl q_fu Q S vO) H1 := fun i q hi => (hP i q hi).kept (hk1 q.1 (hP i q hi).lt)
      have hS : va_S A s.heap H1 [] := ⟨hz1, fun q h _ => hk1 q h, fun z hz => by cases hz⟩
      exact W.iret hx hb hr (fun t ht hW => ⟨rfl, ⟨Q, by rw [ht]; exact hP, hD⟩, hS.F ht⟩) hS.2.2 d_L_size_26
    have hf := jv_if hf hk2
    by_cases hk3 : k = 4
    · have hf := jv_it hf hk3
      subst hk3
      obtain rfl := Option.some.inj hf
      refine jv_xV (cells := 0) (slots := 0) (As := [.int a0, .int a1, .int a2]) (rest := [.int (0 : Int32), .ref q_out]) (b := q_va) ⟨hx, hb, hml, hown, hts⟩ (x_V_size l hl9 dC dI cI cA cL q_va q_aa q_cl q_fu Q S.1 S.2.1 S.2.2.1 S.2.2.2 a0 a1 a2 4 g) (jv_cwV hts wa_577 wa_303 wa_578 wa_579 wa_580 rfl rfl yd_V_size ⟨Nat.le_of_ble_eq_true rfl, Nat.le_of_ble_eq_true rfl⟩) (jv_preVt hT.1 hK hPv 0 rfl rfl) rfl rfl hl.1 rfl (lv_room (Nat.le_of_ble_eq_true rfl)) d_L_size_7 ⟨Nat.le_of_ble_eq_true rfl, Nat.le_of_ble_eq_true rfl⟩ (fun x H1 hob => ?_)
      refine jv_catch (pc := 7) (name := jv_en 4) hown [⟨0, 12, 15, 13⟩, ⟨0, 12, 19, 15⟩, ⟨0, 12, 23, 35⟩] ⟨0, 12, 27, 37⟩ [] htab (jv_pc (by decide) (jv_w hts wa_524) (hT.2 (jv_en 4, "java/lang/IllegalArgumentException") (by decide +kernel)) (jv_pc (by decide) (jv_w hts wa_525) (hT.2 (jv_en 4, "java/lang/IllegalStateException") (by decide +kernel)) (jv_pc (by decide) (jv_w hts wa_546) (hT.2 (jv_en 4, "java/util/NoSuchElementException") (by decide +kernel)) jv_pn))) (by decide) (by decide) (jv_w hts wa_547) (jv_cast hT.1 ce_4) hob ?_
      show W p l e _ s m _ below meth c H1 [] (0 + 1) (0 + 6) _ (F0 m 27 ls [.ref x])
      refine lv_astore hx hb d_L_size_27 hl (by decide) rfl (fun ls hl => ?_)
      refine lv_iconst (v := (4 : Int32)) hx hb d_L_size_29 (by decide) ?_
      refine W.widen (k := 8) (n := 713) (Nat.le_of_ble_eq_true rfl) (Nat.le_of_ble_eq_true rfl) ?_
      obtain ⟨-, -, hz1, hk1⟩ := hob
      have hP : va_P (dC, dI) vwCl (w_lo cI cA cL q_out q_va q_aa q_cl q_fu Q S vO) H1 := fun i q hi => (hP i q hi).kept (hk1 q.1 (hP i q hi).lt)
      have hS : va_S A s.heap H1 [] := ⟨hz1, fun q h _ => hk1 q h, fun z hz => by cases hz⟩
      exact W.iret hx hb hr (fun t ht hW => ⟨rfl, ⟨Q, by rw [ht]; exact hP, hD⟩, hS.F ht⟩) hS.2.2 d_L_size_30
    have hf := jv_if hf hk3
    cases hf
  · obtain rfl := Option.some.inj hf
    refine jv_cs (W.runV (As := [.int a0, .int a1, .int a2]) (rest := [.int (0 : Int32), .ref q_out]) (b := q_va) ⟨hx, hb, hml, hown, hts⟩ (c_V_size l hl9 dC dI cI cA cL q_va q_aa q_cl q_fu Q S.1 S.2.1 S.2.2.1 S.2.2.2 a0 a1 a2 r9 g) (jv_cwV hts wa_577 wa_303 wa_578 wa_579 wa_580 rfl rfl yd_V_size ⟨Nat.le_of_ble_eq_true rfl, Nat.le_of_ble_eq_true rfl⟩) (jv_preVt hT.1 hK hPv 0 rfl rfl) rfl rfl hl.1 rfl (lv_room (Nat.le_of_ble_eq_true rfl)) d_L_size_7 ⟨Nat.le_of_ble_eq_true rfl, Nat.le_of_ble_eq_true rfl⟩) ?_
    refine lv_i2l hx hb d_L_size_10 rfl ?_
    refine va_last (q0 := 0) (t0 := 2) (x := (r9).toInt64) hx hb hK hP hD hS (ha := rfl) (ht := rfl) (hin := by unfold vp_in; decide) (hdg := d_L_size_11) (fun H1 locs hP hD hS => ?_)
    refine lv_goto (tgt := 31) hx hb d_L_size_12 (by decide) ?_
    refine lv_iconst (v := (0 : Int32)) hx hb d_L_size_31 (by decide) ?_
    refine W.widen (k := 8) (n := 713) (Nat.le_of_ble_eq_true rfl) (Nat.le_of_ble_eq_true rfl) ?_
    exact W.iret hx hb hr (fun t ht hW => ⟨rfl, ⟨Q, by rw [ht]; exact hP, hD⟩, hS.F ht⟩) hS.2.2 d_L_size_32
theorem d_L_tear_0 : decode cc_L_tear 0 = .ok (.aload_n 2, 1) := by decide +kernel
theorem d_L_tear_1 : decode cc_L_tear 1 = .ok (.iconst 0, 1) := by decide +kernel
theorem d_L_tear_2 : decode cc_L_tear 2 = .ok (.aload_n 0, 1) := by decide +kernel
theorem d_L_tear_3 : decode cc_L_tear 3 = .ok (.iload_n 1, 1) := by decide +kernel
theorem d_L_tear_4 : decode cc_L_tear 4 = .ok (.invokevirtual 66, 3) := by decide +kernel
theorem d_L_tear_19 : decode cc_L_tear 19 = .ok (.astore_n 3, 1) := by decide +kernel
theorem d_L_tear_20 : decode cc_L_tear 20 = .ok (.iconst 1, 1) := by decide +kernel
theorem d_L_tear_21 : decode cc_L_tear 21 = .ok (.ireturn, 1) := by decide +kernel
theorem d_L_tear_7 : decode cc_L_tear 7 = .ok (.ifCond .eq 7, 3) := by decide +kernel
theorem d_L_tear_14 : decode cc_L_tear 14 = .ok (.lconst 0, 1) := by decide +kernel
theorem d_L_tear_15 : decode cc_L_tear 15 = .ok (.lastore, 1) := by decide +kernel
theorem d_L_tear_16 : decode cc_L_tear 16 = .ok (.goto 6, 3) := by decide +kernel
theorem d_L_tear_22 : decode cc_L_tear 22 = .ok (.iconst 0, 1) := by decide +kernel
theorem d_L_tear_23 : decode cc_L_tear 23 = .ok (.ireturn, 1) := by decide +kernel
theorem d_L_tear_10 : decode cc_L_tear 10 = .ok (.lconst 1, 1) := by decide +kernel
theorem d_L_tear_11 : decode cc_L_tear 11 = .ok (.goto 4, 3) := by decide +kernel
def l_tear (S : jv_vs) (a0 : Int32) (vO : Nat → Int64) : Option jv_lr := (f_V_tear a0 S.2.2.1).bind fun x => match x with
  | .inl k => if k = 1 then (some ((1 : Int32), S, vO)) else (none)
  | .inr r9 => some ((0 : Int32), (S.1, S.2.1, r9.2, S.2.2.2), (vp_updL vO 0 (if r9.1 = 0 then (0 : Int64) else 1)))
set_option maxHeartbeats 4000000 in
set_option maxRecDepth 100000 in
theorem c_L_tear (l : Launch) (hl9 : l.stackTraces = false) (dC : Nat → ClassId) (dI : Nat → Nat → Nat) (cI cA cL : ClassId) (q_out q_va q_aa q_cl q_fu : Nat) (Q : Nat → Nat → Nat) (S : jv_vs) (vO : Nat → Int64) (a0 : Int32) (sz : Nat) (r : jv_lr) (hf : l_tear S a0 vO = some r) : Met l y_L_tear ws_L_tear rm_L_tear (jv_Plw [.ref q_va, .int a0, .ref q_out] (dC, dI) (jv_ty cI cA cL) (w_lo cI cA cL q_out q_va q_aa q_cl q_fu Q S vO) sz) (jv_Qlw r.1 (dC, dI) cI cA cL q_out q_va q_aa q_cl q_fu r.2.1 r.2.2 (va_A (w_lo cI cA cL q_out q_va q_aa q_cl q_fu Q S vO) sz)) 8 713 (va_A (w_lo cI cA cL q_out q_va q_aa q_cl q_fu Q S vO) sz) := by
  refine va_MetW (cc := cc_L_tear) (maxL := 4) (ret := some .int) (hh := [(0, 16, 19, 13)]) (by decide) rfl ?_
  intro p e s m args below meth c s₁ B hml hv
  obtain ⟨rfl, hsz, hP, hK, hD0, hT⟩ := hv
  have hx := B.exec
  have hb := B.bytes
  have hr := B.returns
  have hts := atoms_spec (ws := ws_L_tear) B.pre
  have hown : s.vm.findClass R_Law = some m.cls := findClass_of_methodNamed B.named
  have hlocks := B.notSynchronized
  have htab := jv_table B (hts _ List.mem_cons_self)
  subst hsz
  have hD := hD0.self (sz := s.heap.size)
  generalize hAe : va_A (w_lo cI cA cL q_out q_va q_aa q_cl q_fu Q S vO) s.heap.size = A at hD ⊢
  have hA : ∀ q : Nat, s.heap.size ≤ q → A q := fun q h => by rw [← hAe]; exact Or.inr h
  have hS : va_S A s.heap s.heap [] := va_S.rf
  have hl := lv_entry ([.ref q_va, .int a0, .ref q_out]) (n := 4) (Nat.le_of_ble_eq_true rfl)
  rw [lg_entry_eq]
  generalize (lg_sl ([.ref q_va, .int a0, .ref q_out]) ++ List.replicate (4 - (lg_sl ([.ref q_va, .int a0, .ref q_out])).length) Slot.unset).toArray = ls at hl ⊢
  have hl : lv_has ls 4 [(0, .ref q_va), (1, .int a0), (2, .ref q_out)] := hl
  have hPv := jv_PT hP
  have hDv := jv_DT hD
  unfold l_tear at hf
  obtain ⟨x, g, hf⟩ := jv_ob hf
  refine lv_aload_n hx hb d_L_tear_0 rfl (lv_at hl 2 rfl) ?_
  refine lv_iconst (v := (0 : Int32)) hx hb d_L_tear_1 (by decide) ?_
  refine lv_aload_n hx hb d_L_tear_2 rfl (lv_at hl 0 rfl) ?_
  refine lv_iload_n hx hb d_L_tear_3 rfl (lv_at hl 1 rfl) ?_
  rcases x with k | r9
  · by_cases hk0 : k = 1
    · have hf := jv_it hf hk0
      subst hk0
      obtain rfl := Option.some.inj hf
      refine jv_xV (cells := 0) (slots := 0) (As := [.int a0]) (rest := [.int (0 : Int32), .ref q_out]) (b := q_va) ⟨hx, hb, hml, hown, hts⟩ (x_V_tear l hl9 dC dI cI cA cL q_va q_aa q_cl q_fu Q S.1 S.2.1 S.2.2.1 S.2.2.2 a0 1 g) (jv_cwV hts wa_581 wa_303 wa_582 wa_583 wa_584 rfl rfl yd_V_tear ⟨Nat.le_of_ble_eq_true rfl, Nat.le_of_ble_eq_true rfl⟩) (jv_preVt hT.1 hK hPv 0 rfl rfl) rfl rfl hl.1 rfl (lv_room (Nat.le_of_ble_eq_true rfl)) d_L_tear_4 ⟨Nat.le_of_ble_eq_true rfl, Nat.le_of_ble_eq_true rfl⟩ (fun x H1 hob => ?_)
      refine jv_catch (pc := 4) (name := jv_en 1) hown [] ⟨0, 16, 19, 13⟩ [] htab jv_pn (by decide) (by decide) (jv_w hts wa_524) (jv_cast hT.1 ce_1) hob ?_
      show W p l e _ s m _ below meth c H1 [] (0 + 1) (0 + 6) _ (F0 m 19 ls [.ref x])
      refine lv_astore_n hx hb d_L_tear_19 rfl hl (by decide) rfl (fun ls hl => ?_)
      refine lv_iconst (v := (1 : Int32)) hx hb d_L_tear_20 (by decide) ?_
      refine W.widen (k := 8) (n := 713) (Nat.le_of_ble_eq_true rfl) (Nat.le_of_ble_eq_true rfl) ?_
      obtain ⟨-, -, hz1, hk1⟩ := hob
      have hP : va_P (dC, dI) vwCl (w_lo cI cA cL q_out q_va q_aa q_cl q_fu Q S vO) H1 := fun i q hi => (hP i q hi).kept (hk1 q.1 (hP i q hi).lt)
      have hS : va_S A s.heap H1 [] := ⟨hz1, fun q h _ => hk1 q h, fun z hz => by cases hz⟩
      exact W.iret hx hb hr (fun t ht hW => ⟨rfl, ⟨Q, by rw [ht]; exact hP, hD⟩, hS.F ht⟩) hS.2.2 d_L_tear_21
    have hf := jv_if hf hk0
    cases hf
  · obtain rfl := Option.some.inj hf
    have hFc := jv_fr hDv hS hA
    refine jv_cwi (va_runV (As := [.int a0]) (rest := [.int (0 : Int32), .ref q_out]) (b := q_va) ⟨hx, hb, hml, hown, hts⟩ (c_V_tear l hl9 dC dI cI cA cL q_va q_aa q_cl q_fu Q S.1 S.2.1 S.2.2.1 S.2.2.2 a0 s.heap.size r9 g) (jv_cwV hts wa_581 wa_303 wa_582 wa_583 wa_584 rfl rfl yd_V_tear ⟨Nat.le_of_ble_eq_true rfl, Nat.le_of_ble_eq_true rfl⟩) (jv_preVWt hT.1 hK hPv hDv 0 rfl rfl) rfl rfl hl.1 rfl (lv_room (Nat.le_of_ble_eq_true rfl)) d_L_tear_4 ⟨Nat.le_of_ble_eq_true rfl, Nat.le_of_ble_eq_true rfl⟩) hS hFc (fun H1 locs hP1 hD1 hk1 hS => ?_)
    obtain ⟨hP, hD⟩ := jv_joinO (V1 := (w_vault cI cA q_va q_aa q_cl q_fu Q S.1 S.2.1 r9.2 S.2.2.2)) hP hD hFc hk1 hP1 hD1
    by_cases hz : r9.1 = 0
    · rw [if_pos hz]
      refine lv_if_eq (tgt := 14) hx hb d_L_tear_7 (by decide) (fun _ => ?_) (fun h9 => absurd hz h9)
      refine lv_lconst (v := (0 : Int64)) hx hb d_L_tear_14 (by decide) ?_
      refine va_last (q0 := 0) (t0 := 2) (x := (0 : Int64)) hx hb hK hP hD hS (ha := rfl) (ht := rfl) (hin := by unfold vp_in; decide) (hdg := d_L_tear_15) (fun H1 locs hP hD hS => ?_)
      refine lv_goto (tgt := 22) hx hb d_L_tear_16 (by decide) ?_
      refine lv_iconst (v := (0 : Int32)) hx hb d_L_tear_22 (by decide) ?_
      refine W.widen (k := 8) (n := 713) (Nat.le_of_ble_eq_true rfl) (Nat.le_of_ble_eq_true rfl) ?_
      exact W.iret hx hb hr (fun t ht hW => ⟨rfl, ⟨Q, by rw [ht]; exact hP, hD⟩, hS.F ht⟩) hS.2.2 d_L_tear_23
    · rw [if_neg hz]
      refine lv_if_eq (tgt := 14) hx hb d_L_tear_7 (by decide) (fun h9 => absurd h9 hz) (fun _ => ?_)
      refine lv_lconst (v := (1 : Int64)) hx hb d_L_tear_10 (by decide) ?_
      refine lv_goto (tgt := 15) hx hb d_L_tear_11 (by decide) ?_
      refine va_last (q0 := 0) (t0 := 2) (x := (1 : Int64)) hx hb hK hP hD hS (ha := rfl) (ht := rfl) (hin := by unfold vp_in; decide) (hdg := d_L_tear_15) (fun H1 locs hP hD hS => ?_)
      refine lv_goto (tgt := 22) hx hb d_L_tear_16 (by decide) ?_
      refine lv_iconst (v := (0 : Int32)) hx hb d_L_tear_22 (by decide) ?_
      refine W.widen (k := 8) (n := 713) (Nat.le_of_ble_eq_true rfl) (Nat.le_of_ble_eq_true rfl) ?_
      exact W.iret hx hb hr (fun t ht hW => ⟨rfl, ⟨Q, by rw [ht]; exact hP, hD⟩, hS.F ht⟩) hS.2.2 d_L_tear_23
theorem d_L_disk_0 : decode cc_L_disk 0 = .ok (.aload 4, 2) := by decide +kernel
theorem d_L_disk_2 : decode cc_L_disk 2 = .ok (.iconst 0, 1) := by decide +kernel
theorem d_L_disk_3 : decode cc_L_disk 3 = .ok (.aload_n 0, 1) := by decide +kernel
theorem d_L_disk_4 : decode cc_L_disk 4 = .ok (.iload_n 1, 1) := by decide +kernel
theorem d_L_disk_5 : decode cc_L_disk 5 = .ok (.iload_n 2, 1) := by decide +kernel
theorem d_L_disk_6 : decode cc_L_disk 6 = .ok (.iload_n 3, 1) := by decide +kernel
theorem d_L_disk_7 : decode cc_L_disk 7 = .ok (.invokevirtual 70, 3) := by decide +kernel
theorem d_L_disk_15 : decode cc_L_disk 15 = .ok (.astore 5, 2) := by decide +kernel
theorem d_L_disk_17 : decode cc_L_disk 17 = .ok (.iconst 1, 1) := by decide +kernel
theorem d_L_disk_18 : decode cc_L_disk 18 = .ok (.ireturn, 1) := by decide +kernel
theorem d_L_disk_10 : decode cc_L_disk 10 = .ok (.i2l, 1) := by decide +kernel
theorem d_L_disk_11 : decode cc_L_disk 11 = .ok (.lastore, 1) := by decide +kernel
theorem d_L_disk_12 : decode cc_L_disk 12 = .ok (.goto 7, 3) := by decide +kernel
theorem d_L_disk_19 : decode cc_L_disk 19 = .ok (.iconst 0, 1) := by decide +kernel
theorem d_L_disk_20 : decode cc_L_disk 20 = .ok (.ireturn, 1) := by decide +kernel
def l_disk (S : jv_vs) (a0 : Int32) (a1 : Int32) (a2 : Int32) (vO : Nat → Int64) : Option jv_lr := (f_V_disk S.1 S.2.2.2 a0 a1 a2).bind fun x => match x with
  | .inl k => if k = 1 then (some ((1 : Int32), S, vO)) else (none)
  | .inr r9 => some ((0 : Int32), S, (vp_updL vO 0 (r9).toInt64))
set_option maxHeartbeats 4000000 in
set_option maxRecDepth 100000 in
theorem c_L_disk (l : Launch) (hl9 : l.stackTraces = false) (dC : Nat → ClassId) (dI : Nat → Nat → Nat) (cI cA cL : ClassId) (q_out q_va q_aa q_cl q_fu : Nat) (Q : Nat → Nat → Nat) (S : jv_vs) (vO : Nat → Int64) (a0 : Int32) (a1 : Int32) (a2 : Int32) (sz : Nat) (r : jv_lr) (hf : l_disk S a0 a1 a2 vO = some r) : Met l y_L_disk ws_L_disk rm_L_disk (jv_Plw [.ref q_va, .int a0, .int a1, .int a2, .ref q_out] (dC, dI) (jv_ty cI cA cL) (w_lo cI cA cL q_out q_va q_aa q_cl q_fu Q S vO) sz) (jv_Qlw r.1 (dC, dI) cI cA cL q_out q_va q_aa q_cl q_fu r.2.1 r.2.2 (va_A (w_lo cI cA cL q_out q_va q_aa q_cl q_fu Q S vO) sz)) 8 713 (va_A (w_lo cI cA cL q_out q_va q_aa q_cl q_fu Q S vO) sz) := by
  refine va_MetW (cc := cc_L_disk) (maxL := 6) (ret := some .int) (hh := [(0, 12, 15, 13)]) (by decide) rfl ?_
  intro p e s m args below meth c s₁ B hml hv
  obtain ⟨rfl, hsz, hP, hK, hD0, hT⟩ := hv
  have hx := B.exec
  have hb := B.bytes
  have hr := B.returns
  have hts := atoms_spec (ws := ws_L_disk) B.pre
  have hown : s.vm.findClass R_Law = some m.cls := findClass_of_methodNamed B.named
  have hlocks := B.notSynchronized
  have htab := jv_table B (hts _ List.mem_cons_self)
  subst hsz
  have hD := hD0.self (sz := s.heap.size)
  generalize hAe : va_A (w_lo cI cA cL q_out q_va q_aa q_cl q_fu Q S vO) s.heap.size = A at hD ⊢
  have hA : ∀ q : Nat, s.heap.size ≤ q → A q := fun q h => by rw [← hAe]; exact Or.inr h
  have hS : va_S A s.heap s.heap [] := va_S.rf
  have hl := lv_entry ([.ref q_va, .int a0, .int a1, .int a2, .ref q_out]) (n := 6) (Nat.le_of_ble_eq_true rfl)
  rw [lg_entry_eq]
  generalize (lg_sl ([.ref q_va, .int a0, .int a1, .int a2, .ref q_out]) ++ List.replicate (6 - (lg_sl ([.ref q_va, .int a0, .int a1, .int a2, .ref q_out])).length) Slot.unset).toArray = ls at hl ⊢
  have hl : lv_has ls 6 [(0, .ref q_va), (1, .int a0), (2, .int a1), (3, .int a2), (4, .ref q_out)] := hl
  have hPv := jv_PT hP
  have hDv := jv_DT hD
  unfold l_disk at hf
  obtain ⟨x, g, hf⟩ := jv_ob hf
  refine lv_aload hx hb d_L_disk_0 (lv_at hl 4 rfl) ?_
  refine lv_iconst (v := (0 : Int32)) hx hb d_L_disk_2 (by decide) ?_
  refine lv_aload_n hx hb d_L_disk_3 rfl (lv_at hl 0 rfl) ?_
  refine lv_iload_n hx hb d_L_disk_4 rfl (lv_at hl 1 rfl) ?_
  refine lv_iload_n hx hb d_L_disk_5 rfl (lv_at hl 2 rfl) ?_
  refine lv_iload_n hx hb d_L_disk_6 rfl (lv_at hl 3 rfl) ?_
  rcases x with k | r9
  · by_cases hk0 : k = 1
    · have hf := jv_it hf hk0
      subst hk0
      obtain rfl := Option.some.inj hf
      refine jv_xV (cells := 0) (slots := 0) (As := [.int a0, .int a1, .int a2]) (rest := [.int (0 : Int32), .ref q_out]) (b := q_va) ⟨hx, hb, hml, hown, hts⟩ (x_V_disk l hl9 dC dI cI cA cL q_va q_aa q_cl q_fu Q S.1 S.2.1 S.2.2.1 S.2.2.2 a0 a1 a2 1 g) (jv_cwV hts wa_585 wa_303 wa_586 wa_587 wa_588 rfl rfl yd_V_disk ⟨Nat.le_of_ble_eq_true rfl, Nat.le_of_ble_eq_true rfl⟩) (jv_preVt hT.1 hK hPv 0 rfl rfl) rfl rfl hl.1 rfl (lv_room (Nat.le_of_ble_eq_true rfl)) d_L_disk_7 ⟨Nat.le_of_ble_eq_true rfl, Nat.le_of_ble_eq_true rfl⟩ (fun x H1 hob => ?_)
      refine jv_catch (pc := 7) (name := jv_en 1) hown [] ⟨0, 12, 15, 13⟩ [] htab jv_pn (by decide) (by decide) (jv_w hts wa_524) (jv_cast hT.1 ce_1) hob ?_
      show W p l e _ s m _ below meth c H1 [] (0 + 1) (0 + 6) _ (F0 m 15 ls [.ref x])
      refine lv_astore hx hb d_L_disk_15 hl (by decide) rfl (fun ls hl => ?_)
      refine lv_iconst (v := (1 : Int32)) hx hb d_L_disk_17 (by decide) ?_
      refine W.widen (k := 8) (n := 713) (Nat.le_of_ble_eq_true rfl) (Nat.le_of_ble_eq_true rfl) ?_
      obtain ⟨-, -, hz1, hk1⟩ := hob
      have hP : va_P (dC, dI) vwCl (w_lo cI cA cL q_out q_va q_aa q_cl q_fu Q S vO) H1 := fun i q hi => (hP i q hi).kept (hk1 q.1 (hP i q hi).lt)
      have hS : va_S A s.heap H1 [] := ⟨hz1, fun q h _ => hk1 q h, fun z hz => by cases hz⟩
      exact W.iret hx hb hr (fun t ht hW => ⟨rfl, ⟨Q, by rw [ht]; exact hP, hD⟩, hS.F ht⟩) hS.2.2 d_L_disk_18
    have hf := jv_if hf hk0
    cases hf
  · obtain rfl := Option.some.inj hf
    refine jv_cs (W.runV (As := [.int a0, .int a1, .int a2]) (rest := [.int (0 : Int32), .ref q_out]) (b := q_va) ⟨hx, hb, hml, hown, hts⟩ (c_V_disk l hl9 dC dI cI cA cL q_va q_aa q_cl q_fu Q S.1 S.2.1 S.2.2.1 S.2.2.2 a0 a1 a2 r9 g) (jv_cwV hts wa_585 wa_303 wa_586 wa_587 wa_588 rfl rfl yd_V_disk ⟨Nat.le_of_ble_eq_true rfl, Nat.le_of_ble_eq_true rfl⟩) (jv_preVt hT.1 hK hPv 0 rfl rfl) rfl rfl hl.1 rfl (lv_room (Nat.le_of_ble_eq_true rfl)) d_L_disk_7 ⟨Nat.le_of_ble_eq_true rfl, Nat.le_of_ble_eq_true rfl⟩) ?_
    refine lv_i2l hx hb d_L_disk_10 rfl ?_
    refine va_last (q0 := 0) (t0 := 2) (x := (r9).toInt64) hx hb hK hP hD hS (ha := rfl) (ht := rfl) (hin := by unfold vp_in; decide) (hdg := d_L_disk_11) (fun H1 locs hP hD hS => ?_)
    refine lv_goto (tgt := 19) hx hb d_L_disk_12 (by decide) ?_
    refine lv_iconst (v := (0 : Int32)) hx hb d_L_disk_19 (by decide) ?_
    refine W.widen (k := 8) (n := 713) (Nat.le_of_ble_eq_true rfl) (Nat.le_of_ble_eq_true rfl) ?_
    exact W.iret hx hb hr (fun t ht hW => ⟨rfl, ⟨Q, by rw [ht]; exact hP, hD⟩, hS.F ht⟩) hS.2.2 d_L_disk_20
