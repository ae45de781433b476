abbrev cc_Fu_init : ByteArray := prog_5_method_1_code
def y_Fu_init : MethodName := ⟨R_Fuse, "<init>", "()V"⟩
abbrev ws_Fu_init : List Cond := .code y_Fu_init cc_Fu_init 1 none :: jv_LT
abbrev rm_Fu_init : Room := { frames := 1, cells := 0, slots := 0, locals := 24 }
theorem yd_Fu_init : y_Fu_init.cls ≠ "java/lang/invoke/MethodHandle" ∧ y_Fu_init.cls ≠ "java/lang/invoke/VarHandle" ∧ (parseMethodDescriptor y_Fu_init.desc).map (fun d => d.parameters.length) = some 0 := ⟨by decide +kernel, by decide +kernel, by decide +kernel⟩
abbrev cc_T_init : ByteArray := prog_8_method_1_code
def y_T_init : MethodName := ⟨R_Tree, "<init>", "(LLabelVault$Disk;)V"⟩
abbrev ws_T_init : List Cond := .code y_T_init cc_T_init 2 none :: jv_LT
abbrev rm_T_init : Room := { frames := 1, cells := 0, slots := 0, locals := 24 }
theorem yd_T_init : y_T_init.cls ≠ "java/lang/invoke/MethodHandle" ∧ y_T_init.cls ≠ "java/lang/invoke/VarHandle" ∧ (parseMethodDescriptor y_T_init.desc).map (fun d => d.parameters.length) = some 1 := ⟨by decide +kernel, by decide +kernel, by decide +kernel⟩
abbrev cc_C_init : ByteArray := prog_3_method_1_code
def y_C_init : MethodName := ⟨R_Cont, "<init>", "(LLabelVault$Disk;)V"⟩
abbrev ws_C_init : List Cond := .code y_C_init cc_C_init 2 none :: jv_LT
abbrev rm_C_init : Room := { frames := 1, cells := 0, slots := 0, locals := 24 }
theorem yd_C_init : y_C_init.cls ≠ "java/lang/invoke/MethodHandle" ∧ y_C_init.cls ≠ "java/lang/invoke/VarHandle" ∧ (parseMethodDescriptor y_C_init.desc).map (fun d => d.parameters.length) = some 1 := ⟨by decide +kernel, by decide +kernel, by decide +kernel⟩
abbrev cc_D_init : ByteArray := prog_4_method_1_code
def y_D_init : MethodName := ⟨R_Disk, "<init>", "()V"⟩
abbrev ws_D_init : List Cond := .code y_D_init cc_D_init 1 none :: jv_LT
abbrev rm_D_init : Room := { frames := 1, cells := 3, slots := 696, locals := 24 }
theorem yd_D_init : y_D_init.cls ≠ "java/lang/invoke/MethodHandle" ∧ y_D_init.cls ≠ "java/lang/invoke/VarHandle" ∧ (parseMethodDescriptor y_D_init.desc).map (fun d => d.parameters.length) = some 0 := ⟨by decide +kernel, by decide +kernel, by decide +kernel⟩
abbrev cc_A_init : ByteArray := prog_2_method_1_code
def y_A_init : MethodName := ⟨R_Area, "<init>", "(ILLabelVault$Disk;)V"⟩
abbrev ws_A_init : List Cond := .code y_A_init cc_A_init 3 none :: jv_LT
abbrev rm_A_init : Room := { frames := 2, cells := 3, slots := 6, locals := 45 }
theorem yd_A_init : y_A_init.cls ≠ "java/lang/invoke/MethodHandle" ∧ y_A_init.cls ≠ "java/lang/invoke/VarHandle" ∧ (parseMethodDescriptor y_A_init.desc).map (fun d => d.parameters.length) = some 2 := ⟨by decide +kernel, by decide +kernel, by decide +kernel⟩
abbrev cc_V_init : ByteArray := prog_1_method_1_code
def y_V_init : MethodName := ⟨R_Vault, "<init>", "()V"⟩
abbrev ws_V_init : List Cond := .code y_V_init cc_V_init 1 none :: jv_LT
abbrev rm_V_init : Room := { frames := 2, cells := 3, slots := 11, locals := 44 }
theorem yd_V_init : y_V_init.cls ≠ "java/lang/invoke/MethodHandle" ∧ y_V_init.cls ≠ "java/lang/invoke/VarHandle" ∧ (parseMethodDescriptor y_V_init.desc).map (fun d => d.parameters.length) = some 0 := ⟨by decide +kernel, by decide +kernel, by decide +kernel⟩
abbrev cc_M_init : ByteArray := prog_10_method_1_code
def y_M_init : MethodName := ⟨R_Model, "<init>", "()V"⟩
abbrev ws_M_init : List Cond := .code y_M_init cc_M_init 1 none :: jv_LT
abbrev rm_M_init : Room := { frames := 1, cells := 6, slots := 1664, locals := 24 }
theorem yd_M_init : y_M_init.cls ≠ "java/lang/invoke/MethodHandle" ∧ y_M_init.cls ≠ "java/lang/invoke/VarHandle" ∧ (parseMethodDescriptor y_M_init.desc).map (fun d => d.parameters.length) = some 0 := ⟨by decide +kernel, by decide +kernel, by decide +kernel⟩
theorem wa_477 : (Cond.methodLink R_Fuse 3 objectInit) ∈ jv_LT := List.mem_filter.mpr ⟨List.mem_of_getElem? (i := 85) (by decide +kernel), by decide +kernel⟩
theorem wa_478 : (Cond.instanceMethod objectInit) ∈ jv_LT := List.mem_filter.mpr ⟨List.mem_of_getElem? (i := 76) (by decide +kernel), by decide +kernel⟩
theorem wa_479 : (Cond.code objectInit ⟨#[0xb1]⟩ 1 none) ∈ jv_LT := List.mem_filter.mpr ⟨List.mem_of_getElem? (i := 77) (by decide +kernel), by decide +kernel⟩
theorem wa_480 : (Cond.methodLink R_Tree 3 objectInit) ∈ jv_LT := List.mem_filter.mpr ⟨List.mem_of_getElem? (i := 328) (by decide +kernel), by decide +kernel⟩
theorem wa_481 : (Cond.methodLink R_Cont 3 objectInit) ∈ jv_LT := List.mem_filter.mpr ⟨List.mem_of_getElem? (i := 338) (by decide +kernel), by decide +kernel⟩
theorem wa_482 : (Cond.methodLink R_Disk 3 objectInit) ∈ jv_LT := List.mem_filter.mpr ⟨List.mem_of_getElem? (i := 298) (by decide +kernel), by decide +kernel⟩
theorem wa_483 : (Cond.arrayClass .int) ∈ jv_LT := List.mem_filter.mpr ⟨List.mem_of_getElem? (i := 91) (by decide +kernel), by decide +kernel⟩
theorem wa_484 : (Cond.methodLink R_Area 3 objectInit) ∈ jv_LT := List.mem_filter.mpr ⟨List.mem_of_getElem? (i := 322) (by decide +kernel), by decide +kernel⟩
theorem wa_485 : (Cond.fieldLink R_Area 15 R_Area "label" "I") ∈ jv_LT := List.mem_filter.mpr ⟨List.mem_of_getElem? (i := 343) (by decide +kernel), by decide +kernel⟩
theorem wa_486 : (Cond.fieldLink R_Area 19 R_Area "disk" "LLabelVault$Disk;") ∈ jv_LT := List.mem_filter.mpr ⟨List.mem_of_getElem? (i := 347) (by decide +kernel), by decide +kernel⟩
theorem wa_487 : (Cond.classLink R_Area 23 R_Tree) ∈ jv_LT := List.mem_filter.mpr ⟨List.mem_of_getElem? (i := 323) (by decide +kernel), by decide +kernel⟩
theorem wa_488 : (Cond.instantiable R_Tree 1) ∈ jv_LT := List.mem_filter.mpr ⟨List.mem_of_getElem? (i := 324) (by decide +kernel), by decide +kernel⟩
theorem wa_489 : (Cond.code y_T_init prog_8_method_1_code 2 none) ∈ jv_LT := List.mem_filter.mpr ⟨List.mem_of_getElem? (i := 327) (by decide +kernel), by decide +kernel⟩
theorem wa_490 : (Cond.instanceMethod y_T_init) ∈ jv_LT := List.mem_filter.mpr ⟨List.mem_of_getElem? (i := 326) (by decide +kernel), by decide +kernel⟩
theorem wa_491 : (Cond.methodLink R_Area 25 y_T_init) ∈ jv_LT := List.mem_filter.mpr ⟨List.mem_of_getElem? (i := 325) (by decide +kernel), by decide +kernel⟩
theorem wa_492 : (Cond.fieldLink R_Area 28 R_Area "tree" "LLabelVault$Tree;") ∈ jv_LT := List.mem_filter.mpr ⟨List.mem_of_getElem? (i := 349) (by decide +kernel), by decide +kernel⟩
theorem wa_493 : (Cond.classLink R_Area 32 R_Cont) ∈ jv_LT := List.mem_filter.mpr ⟨List.mem_of_getElem? (i := 333) (by decide +kernel), by decide +kernel⟩
theorem wa_494 : (Cond.instantiable R_Cont 1) ∈ jv_LT := List.mem_filter.mpr ⟨List.mem_of_getElem? (i := 334) (by decide +kernel), by decide +kernel⟩
theorem wa_495 : (Cond.code y_C_init prog_3_method_1_code 2 none) ∈ jv_LT := List.mem_filter.mpr ⟨List.mem_of_getElem? (i := 337) (by decide +kernel), by decide +kernel⟩
theorem wa_496 : (Cond.instanceMethod y_C_init) ∈ jv_LT := List.mem_filter.mpr ⟨List.mem_of_getElem? (i := 336) (by decide +kernel), by decide +kernel⟩
theorem wa_497 : (Cond.methodLink R_Area 34 y_C_init) ∈ jv_LT := List.mem_filter.mpr ⟨List.mem_of_getElem? (i := 335) (by decide +kernel), by decide +kernel⟩
theorem wa_498 : (Cond.fieldLink R_Area 35 R_Area "contents" "LLabelVault$Contents;") ∈ jv_LT := List.mem_filter.mpr ⟨List.mem_of_getElem? (i := 351) (by decide +kernel), by decide +kernel⟩
theorem wa_499 : (Cond.methodLink R_Vault 1 objectInit) ∈ jv_LT := List.mem_filter.mpr ⟨List.mem_of_getElem? (i := 75) (by decide +kernel), by decide +kernel⟩
theorem wa_500 : (Cond.classLink R_Vault 9 R_Area) ∈ jv_LT := List.mem_filter.mpr ⟨List.mem_of_getElem? (i := 78) (by decide +kernel), by decide +kernel⟩
theorem wa_501 : (Cond.fieldLink R_Vault 15 R_Vault "areaCount" "I") ∈ jv_LT := List.mem_filter.mpr ⟨List.mem_of_getElem? (i := 93) (by decide +kernel), by decide +kernel⟩
theorem wa_502 : (Cond.classLink R_Vault 23 R_Fuse) ∈ jv_LT := List.mem_filter.mpr ⟨List.mem_of_getElem? (i := 80) (by decide +kernel), by decide +kernel⟩
theorem wa_503 : (Cond.instantiable R_Fuse 1) ∈ jv_LT := List.mem_filter.mpr ⟨List.mem_of_getElem? (i := 81) (by decide +kernel), by decide +kernel⟩
theorem wa_504 : (Cond.code y_Fu_init prog_5_method_1_code 1 none) ∈ jv_LT := List.mem_filter.mpr ⟨List.mem_of_getElem? (i := 84) (by decide +kernel), by decide +kernel⟩
theorem wa_505 : (Cond.instanceMethod y_Fu_init) ∈ jv_LT := List.mem_filter.mpr ⟨List.mem_of_getElem? (i := 83) (by decide +kernel), by decide +kernel⟩
theorem wa_506 : (Cond.methodLink R_Model 1 objectInit) ∈ jv_LT := List.mem_filter.mpr ⟨List.mem_of_getElem? (i := 793) (by decide +kernel), by decide +kernel⟩
theorem d_Fu_init_0 : decode cc_Fu_init 0 = .ok (.aload_n 0, 1) := by decide +kernel
theorem d_Fu_init_1 : decode cc_Fu_init 1 = .ok (.invokespecial 3, 3) := by decide +kernel
theorem d_Fu_init_4 : decode cc_Fu_init 4 = .ok (.aload_n 0, 1) := by decide +kernel
theorem d_Fu_init_5 : decode cc_Fu_init 5 = .ok (.iconst (-1), 1) := by decide +kernel
theorem d_Fu_init_6 : decode cc_Fu_init 6 = .ok (.putfield 9, 3) := by decide +kernel
theorem d_Fu_init_9 : decode cc_Fu_init 9 = .ok (.return_, 1) := by decide +kernel
set_option maxHeartbeats 1000000 in
set_option maxRecDepth 100000 in
theorem c_Fu_init (l : Launch) (dC : Nat → ClassId) (dI : Nat → Nat → Nat) (cI cA cL : ClassId) (q_fu : Nat) (sz : Nat) : Met l y_Fu_init ws_Fu_init rm_Fu_init (jv_Pw [.ref q_fu] (dC, dI) (jv_ty cI cA cL) [(q_fu, .inr (kFuse, [.int (0 : Int32)]))] sz) (jv_Qv (dC, dI) [(q_fu, .inr (kFuse, [.int (-1 : Int32)]))] (va_A [(q_fu, .inr (kFuse, [.int (0 : Int32)]))] sz)) 0 0 (va_A [(q_fu, .inr (kFuse, [.int (0 : Int32)]))] sz) := by
  refine Met.ofW (cc := cc_Fu_init) (maxL := 1) (ret := none) (by decide) rfl ?_
  intro p e s m args below meth c s₁ B hml hv
  obtain ⟨rfl, hsz, hP, hK, hD0⟩ := hv
  have hx := B.exec
  have hb := B.bytes
  have hr := B.returns
  have hts := atoms_spec (ws := ws_Fu_init) B.pre
  have hown : s.vm.findClass R_Fuse = some m.cls := findClass_of_methodNamed B.named
  have hlocks := B.notSynchronized
  have hin : meth.name = "<init>" := (name_of_methodNamed B.named B.method).1
  subst hsz
  have hD := hD0.self (sz := s.heap.size)
  generalize hAe : va_A [(q_fu, .inr (kFuse, [.int (0 : Int32)]))] s.heap.size = A at hD ⊢
  have hA : ∀ q : Nat, s.heap.size ≤ q → A q := fun q h => by rw [← hAe]; exact Or.inr h
  have hS : va_S A s.heap s.heap [] := va_S.rf
  have hl := lv_entry ([.ref q_fu]) (n := 1) (Nat.le_of_ble_eq_true rfl)
  rw [lg_entry_eq]
  generalize (lg_sl ([.ref q_fu]) ++ List.replicate (1 - (lg_sl ([.ref q_fu])).length) Slot.unset).toArray = ls at hl ⊢
  have hl : lv_has ls 1 [(0, .ref q_fu)] := hl
  refine lv_aload_n hx hb d_Fu_init_0 rfl (lv_at hl 0 rfl) ?_
  refine W.objInit hx hb hown (jv_w hts wa_477) (jv_w hts wa_478) (jv_w hts wa_479) rfl (by rw [hml]; exact hl.1) rfl d_Fu_init_1 (Nat.le_of_ble_eq_true rfl) (Nat.le_of_ble_eq_true rfl) ?_
  refine W.eq (g2 := F0 m 4 ls []) rfl ?_
  refine lv_aload_n hx hb d_Fu_init_4 rfl (lv_at hl 0 rfl) ?_
  refine lv_iconst (v := (-1 : Int32)) hx hb d_Fu_init_5 (by decide) ?_
  refine va_put (D := (dC, dI)) (ci := kFuse) (v := .int (-1 : Int32)) (ty := .int) (C := R_Fuse) (T := T_Fuse) (N := 1) hx hb hts (fun w h => List.mem_cons_of_mem _ (in_Fuse w h)) ty_Fuse tyok_Fuse nm_Fuse hown hK hP hD hS 0 rfl rfl 0 (by decide) (jv_w hts wa_20) (fun _ h9 => h9) rfl (by decide +kernel) rfl rfl (Nat.le_of_ble_eq_true rfl) d_Fu_init_6 (fun H locs hP hD hS => ?_)
  have hP : va_P (dC, dI) vwCl [(q_fu, .inr (kFuse, [.int (-1 : Int32)]))] H := hP
  have hD : va_D A [(q_fu, .inr (kFuse, [.int (-1 : Int32)]))] := hD
  exact W.vret hx hb hr (fun t ht hW => ⟨rfl, by rw [ht]; exact hP, hD, hS.F ht⟩) hS.2.2 d_Fu_init_9
theorem d_T_init_0 : decode cc_T_init 0 = .ok (.aload_n 0, 1) := by decide +kernel
theorem d_T_init_1 : decode cc_T_init 1 = .ok (.invokespecial 3, 3) := by decide +kernel
theorem d_T_init_4 : decode cc_T_init 4 = .ok (.aload_n 0, 1) := by decide +kernel
theorem d_T_init_5 : decode cc_T_init 5 = .ok (.aload_n 1, 1) := by decide +kernel
theorem d_T_init_6 : decode cc_T_init 6 = .ok (.putfield 9, 3) := by decide +kernel
theorem d_T_init_9 : decode cc_T_init 9 = .ok (.return_, 1) := by decide +kernel
set_option maxHeartbeats 1000000 in
set_option maxRecDepth 100000 in
theorem c_T_init (l : Launch) (dC : Nat → ClassId) (dI : Nat → Nat → Nat) (cI cA cL : ClassId) (q_tr : Nat) (q_di : Nat) (sz : Nat) : Met l y_T_init ws_T_init rm_T_init (jv_Pw [.ref q_tr, .ref q_di] (dC, dI) (jv_ty cI cA cL) [(q_tr, .inr (kTree, [.null]))] sz) (jv_Qv (dC, dI) [(q_tr, .inr (kTree, [.ref q_di]))] (va_A [(q_tr, .inr (kTree, [.null]))] sz)) 0 0 (va_A [(q_tr, .inr (kTree, [.null]))] sz) := by
  refine Met.ofW (cc := cc_T_init) (maxL := 2) (ret := none) (by decide) rfl ?_
  intro p e s m args below meth c s₁ B hml hv
  obtain ⟨rfl, hsz, hP, hK, hD0⟩ := hv
  have hx := B.exec
  have hb := B.bytes
  have hr := B.returns
  have hts := atoms_spec (ws := ws_T_init) B.pre
  have hown : s.vm.findClass R_Tree = some m.cls := findClass_of_methodNamed B.named
  have hlocks := B.notSynchronized
  have hin : meth.name = "<init>" := (name_of_methodNamed B.named B.method).1
  subst hsz
  have hD := hD0.self (sz := s.heap.size)
  generalize hAe : va_A [(q_tr, .inr (kTree, [.null]))] s.heap.size = A at hD ⊢
  have hA : ∀ q : Nat, s.heap.size ≤ q → A q := fun q h => by rw [← hAe]; exact Or.inr h
  have hS : va_S A s.heap s.heap [] := va_S.rf
  have hl := lv_entry ([.ref q_tr, .ref q_di]) (n := 2) (Nat.le_of_ble_eq_true rfl)
  rw [lg_entry_eq]
  generalize (lg_sl ([.ref q_tr, .ref q_di]) ++ List.replicate (2 - (lg_sl ([.ref q_tr, .ref q_di])).length) Slot.unset).toArray = ls at hl ⊢
  have hl : lv_has ls 2 [(0, .ref q_tr), (1, .ref q_di)] := hl
  refine lv_aload_n hx hb d_T_init_0 rfl (lv_at hl 0 rfl) ?_
  refine W.objInit hx hb hown (jv_w hts wa_480) (jv_w hts wa_478) (jv_w hts wa_479) rfl (by rw [hml]; exact hl.1) rfl d_T_init_1 (Nat.le_of_ble_eq_true rfl) (Nat.le_of_ble_eq_true rfl) ?_
  refine W.eq (g2 := F0 m 4 ls []) rfl ?_
  refine lv_aload_n hx hb d_T_init_4 rfl (lv_at hl 0 rfl) ?_
  refine lv_aload_n hx hb d_T_init_5 rfl (lv_at hl 1 rfl) ?_
  refine va_putF (D := (dC, dI)) (ci := kTree) (v := .ref q_di) (ty := (.object "LabelVault$Disk")) (C := R_Tree) (T := T_Tree) (N := 1) hx hb hts (fun w h => List.mem_cons_of_mem _ (in_Tree w h)) ty_Tree tyok_Tree nm_Tree hown hK hP hD hS 0 rfl rfl 0 (by decide) (jv_w hts wa_67) (fun _ h9 => h9) rfl hin rfl (by decide +kernel) rfl rfl (Nat.le_of_ble_eq_true rfl) d_T_init_6 (fun H locs hP hD hS => ?_)
  have hP : va_P (dC, dI) vwCl [(q_tr, .inr (kTree, [.ref q_di]))] H := hP
  have hD : va_D A [(q_tr, .inr (kTree, [.ref q_di]))] := hD
  exact W.vret hx hb hr (fun t ht hW => ⟨rfl, by rw [ht]; exact hP, hD, hS.F ht⟩) hS.2.2 d_T_init_9
theorem d_C_init_0 : decode cc_C_init 0 = .ok (.aload_n 0, 1) := by decide +kernel
theorem d_C_init_1 : decode cc_C_init 1 = .ok (.invokespecial 3, 3) := by decide +kernel
theorem d_C_init_4 : decode cc_C_init 4 = .ok (.aload_n 0, 1) := by decide +kernel
theorem d_C_init_5 : decode cc_C_init 5 = .ok (.aload_n 1, 1) := by decide +kernel
theorem d_C_init_6 : decode cc_C_init 6 = .ok (.putfield 9, 3) := by decide +kernel
theorem d_C_init_9 : decode cc_C_init 9 = .ok (.return_, 1) := by decide +kernel
set_option maxHeartbeats 1000000 in
set_option maxRecDepth 100000 in
theorem c_C_init (l : Launch) (dC : Nat → ClassId) (dI : Nat → Nat → Nat) (cI cA cL : ClassId) (q_co : Nat) (q_di : Nat) (sz : Nat) : Met l y_C_init ws_C_init rm_C_init (jv_Pw [.ref q_co, .ref q_di] (dC, dI) (jv_ty cI cA cL) [(q_co, .inr (kCont, [.null]))] sz) (jv_Qv (dC, dI) [(q_co, .inr (kCont, [.ref q_di]))] (va_A [(q_co, .inr (kCont, [.null]))] sz)) 0 0 (va_A [(q_co, .inr (kCont, [.null]))] sz) := by
  refine Met.ofW (cc := cc_C_init) (maxL := 2) (ret := none) (by decide) rfl ?_
  intro p e s m args below meth c s₁ B hml hv
  obtain ⟨rfl, hsz, hP, hK, hD0⟩ := hv
  have hx := B.exec
  have hb := B.bytes
  have hr := B.returns
  have hts := atoms_spec (ws := ws_C_init) B.pre
  have hown : s.vm.findClass R_Cont = some m.cls := findClass_of_methodNamed B.named
  have hlocks := B.notSynchronized
  have hin : meth.name = "<init>" := (name_of_methodNamed B.named B.method).1
  subst hsz
  have hD := hD0.self (sz := s.heap.size)
  generalize hAe : va_A [(q_co, .inr (kCont, [.null]))] s.heap.size = A at hD ⊢
  have hA : ∀ q : Nat, s.heap.size ≤ q → A q := fun q h => by rw [← hAe]; exact Or.inr h
  have hS : va_S A s.heap s.heap [] := va_S.rf
  have hl := lv_entry ([.ref q_co, .ref q_di]) (n := 2) (Nat.le_of_ble_eq_true rfl)
  rw [lg_entry_eq]
  generalize (lg_sl ([.ref q_co, .ref q_di]) ++ List.replicate (2 - (lg_sl ([.ref q_co, .ref q_di])).length) Slot.unset).toArray = ls at hl ⊢
  have hl : lv_has ls 2 [(0, .ref q_co), (1, .ref q_di)] := hl
  refine lv_aload_n hx hb d_C_init_0 rfl (lv_at hl 0 rfl) ?_
  refine W.objInit hx hb hown (jv_w hts wa_481) (jv_w hts wa_478) (jv_w hts wa_479) rfl (by rw [hml]; exact hl.1) rfl d_C_init_1 (Nat.le_of_ble_eq_true rfl) (Nat.le_of_ble_eq_true rfl) ?_
  refine W.eq (g2 := F0 m 4 ls []) rfl ?_
  refine lv_aload_n hx hb d_C_init_4 rfl (lv_at hl 0 rfl) ?_
  refine lv_aload_n hx hb d_C_init_5 rfl (lv_at hl 1 rfl) ?_
  refine va_putF (D := (dC, dI)) (ci := kCont) (v := .ref q_di) (ty := (.object "LabelVault$Disk")) (C := R_Cont) (T := T_Cont) (N := 1) hx hb hts (fun w h => List.mem_cons_of_mem _ (in_Cont w h)) ty_Cont tyok_Cont nm_Cont hown hK hP hD hS 0 rfl rfl 0 (by decide) (jv_w hts wa_122) (fun _ h9 => h9) rfl hin rfl (by decide +kernel) rfl rfl (Nat.le_of_ble_eq_true rfl) d_C_init_6 (fun H locs hP hD hS => ?_)
  have hP : va_P (dC, dI) vwCl [(q_co, .inr (kCont, [.ref q_di]))] H := hP
  have hD : va_D A [(q_co, .inr (kCont, [.ref q_di]))] := hD
  exact W.vret hx hb hr (fun t ht hW => ⟨rfl, by rw [ht]; exact hP, hD, hS.F ht⟩) hS.2.2 d_C_init_9
theorem d_D_init_0 : decode cc_D_init 0 = .ok (.aload_n 0, 1) := by decide +kernel
theorem d_D_init_1 : decode cc_D_init 1 = .ok (.invokespecial 3, 3) := by decide +kernel
theorem d_D_init_4 : decode cc_D_init 4 = .ok (.aload_n 0, 1) := by decide +kernel
theorem d_D_init_5 : decode cc_D_init 5 = .ok (.sipush 232, 3) := by decide +kernel
theorem d_D_init_8 : decode cc_D_init 8 = .ok (.newarray .int, 2) := by decide +kernel
theorem d_D_init_10 : decode cc_D_init 10 = .ok (.putfield 11, 3) := by decide +kernel
theorem d_D_init_13 : decode cc_D_init 13 = .ok (.aload_n 0, 1) := by decide +kernel
theorem d_D_init_14 : decode cc_D_init 14 = .ok (.sipush 232, 3) := by decide +kernel
theorem d_D_init_17 : decode cc_D_init 17 = .ok (.newarray .int, 2) := by decide +kernel
theorem d_D_init_19 : decode cc_D_init 19 = .ok (.putfield 15, 3) := by decide +kernel
theorem d_D_init_22 : decode cc_D_init 22 = .ok (.aload_n 0, 1) := by decide +kernel
theorem d_D_init_23 : decode cc_D_init 23 = .ok (.sipush 232, 3) := by decide +kernel
theorem d_D_init_26 : decode cc_D_init 26 = .ok (.newarray .int, 2) := by decide +kernel
theorem d_D_init_28 : decode cc_D_init 28 = .ok (.putfield 18, 3) := by decide +kernel
theorem d_D_init_31 : decode cc_D_init 31 = .ok (.aload_n 0, 1) := by decide +kernel
theorem d_D_init_32 : decode cc_D_init 32 = .ok (.iconst 0, 1) := by decide +kernel
theorem d_D_init_33 : decode cc_D_init 33 = .ok (.putfield 21, 3) := by decide +kernel
theorem d_D_init_36 : decode cc_D_init 36 = .ok (.aload_n 0, 1) := by decide +kernel
theorem d_D_init_37 : decode cc_D_init 37 = .ok (.iconst 0, 1) := by decide +kernel
theorem d_D_init_38 : decode cc_D_init 38 = .ok (.putfield 25, 3) := by decide +kernel
theorem d_D_init_41 : decode cc_D_init 41 = .ok (.aload_n 0, 1) := by decide +kernel
theorem d_D_init_42 : decode cc_D_init 42 = .ok (.iconst 0, 1) := by decide +kernel
theorem d_D_init_43 : decode cc_D_init 43 = .ok (.putfield 29, 3) := by decide +kernel
theorem d_D_init_46 : decode cc_D_init 46 = .ok (.aload_n 0, 1) := by decide +kernel
theorem d_D_init_47 : decode cc_D_init 47 = .ok (.getfield 11, 3) := by decide +kernel
theorem d_D_init_50 : decode cc_D_init 50 = .ok (.bipush 8, 2) := by decide +kernel
theorem d_D_init_52 : decode cc_D_init 52 = .ok (.iconst 1, 1) := by decide +kernel
theorem d_D_init_53 : decode cc_D_init 53 = .ok (.iastore, 1) := by decide +kernel
theorem d_D_init_54 : decode cc_D_init 54 = .ok (.aload_n 0, 1) := by decide +kernel
theorem d_D_init_55 : decode cc_D_init 55 = .ok (.getfield 15, 3) := by decide +kernel
theorem d_D_init_58 : decode cc_D_init 58 = .ok (.bipush 8, 2) := by decide +kernel
theorem d_D_init_60 : decode cc_D_init 60 = .ok (.iconst 1, 1) := by decide +kernel
theorem d_D_init_61 : decode cc_D_init 61 = .ok (.iastore, 1) := by decide +kernel
theorem d_D_init_62 : decode cc_D_init 62 = .ok (.return_, 1) := by decide +kernel
set_option maxHeartbeats 1000000 in
set_option maxRecDepth 100000 in
theorem c_D_init (l : Launch) (dC : Nat → ClassId) (dI : Nat → Nat → Nat) (cI cA cL : ClassId) (q_di : Nat) (sz : Nat) : Met l y_D_init ws_D_init rm_D_init (jv_Pw [.ref q_di] (dC, dI) (jv_ty cI cA cL) [(q_di, .inr (kDisk, [.null, .null, .null, .int (0 : Int32), .int (0 : Int32), .int (0 : Int32)]))] sz) (jv_Qn (fun H9 => ∃ q_pl q_dr q_jo : Nat, va_P (dC, dI) vwCl [(q_di, .inr (kDisk, [.ref q_pl, .ref q_dr, .ref q_jo, .int (0 : Int32), .int (0 : Int32), .int (0 : Int32)])), (q_pl, .inl (cI, 232, .inl (upd (fun _ => (0 : Int32)) ((8 : Int32)).toNatClampNeg (1 : Int32)))), (q_dr, .inl (cI, 232, .inl (upd (fun _ => (0 : Int32)) ((8 : Int32)).toNatClampNeg (1 : Int32)))), (q_jo, .inl (cI, 232, .inl (fun _ => (0 : Int32))))] H9 ∧ va_D (va_A [(q_di, .inr (kDisk, [.null, .null, .null, .int (0 : Int32), .int (0 : Int32), .int (0 : Int32)]))] sz) [(q_di, .inr (kDisk, [.ref q_pl, .ref q_dr, .ref q_jo, .int (0 : Int32), .int (0 : Int32), .int (0 : Int32)])), (q_pl, .inl (cI, 232, .inl (upd (fun _ => (0 : Int32)) ((8 : Int32)).toNatClampNeg (1 : Int32)))), (q_dr, .inl (cI, 232, .inl (upd (fun _ => (0 : Int32)) ((8 : Int32)).toNatClampNeg (1 : Int32)))), (q_jo, .inl (cI, 232, .inl (fun _ => (0 : Int32))))]) (va_A [(q_di, .inr (kDisk, [.null, .null, .null, .int (0 : Int32), .int (0 : Int32), .int (0 : Int32)]))] sz)) 3 696 (va_A [(q_di, .inr (kDisk, [.null, .null, .null, .int (0 : Int32), .int (0 : Int32), .int (0 : Int32)]))] sz) := by
  refine Met.ofW (cc := cc_D_init) (maxL := 1) (ret := none) (by decide) rfl ?_
  intro p e s m args below meth c s₁ B hml hv
  obtain ⟨rfl, hsz, hP, hK, hD0⟩ := hv
  have hx := B.exec
  have hb := B.bytes
  have hr := B.returns
  have hts := atoms_spec (ws := ws_D_init) B.pre
  have hown : s.vm.findClass R_Disk = some m.cls := findClass_of_methodNamed B.named
  have hlocks := B.notSynchronized
  have hin : meth.name = "<init>" := (name_of_methodNamed B.named B.method).1
  subst hsz
  have hD := hD0.self (sz := s.heap.size)
  generalize hAe : va_A [(q_di, .inr (kDisk, [.null, .null, .null, .int (0 : Int32), .int (0 : Int32), .int (0 : Int32)]))] s.heap.size = A at hD ⊢
  have hA : ∀ q : Nat, s.heap.size ≤ q → A q := fun q h => by rw [← hAe]; exact Or.inr h
  have hS : va_S A s.heap s.heap [] := va_S.rf
  have hl := lv_entry ([.ref q_di]) (n := 1) (Nat.le_of_ble_eq_true rfl)
  rw [lg_entry_eq]
  generalize (lg_sl ([.ref q_di]) ++ List.replicate (1 - (lg_sl ([.ref q_di])).length) Slot.unset).toArray = ls at hl ⊢
  have hl : lv_has ls 1 [(0, .ref q_di)] := hl
  refine lv_aload_n hx hb d_D_init_0 rfl (lv_at hl 0 rfl) ?_
  refine W.objInit hx hb hown (jv_w hts wa_482) (jv_w hts wa_478) (jv_w hts wa_479) rfl (by rw [hml]; exact hl.1) rfl d_D_init_1 (Nat.le_of_ble_eq_true rfl) (Nat.le_of_ble_eq_true rfl) ?_
  refine W.eq (g2 := F0 m 4 ls []) rfl ?_
  refine lv_aload_n hx hb d_D_init_4 rfl (lv_at hl 0 rfl) ?_
  refine lv_sipush (v := (232 : Int32)) hx hb d_D_init_5 (by decide) ?_
  refine va_newa (atype := .int) (a0 := (232, .inl (fun _ => 0))) (N' := 232) hx hb (jv_w hts wa_483) rfl hK hP hD hS hA (fun _ => rfl) (by decide) (by decide) (by decide) (Nat.le_of_ble_eq_true rfl) (Nat.le_of_ble_eq_true rfl) d_D_init_8 (fun q_pl c9 H hK9 hP hD hS => ?_)
  obtain rfl := jv_cI hK9
  have hP : va_P (dC, dI) vwCl [(q_di, .inr (kDisk, [.null, .null, .null, .int (0 : Int32), .int (0 : Int32), .int (0 : Int32)])), (q_pl, .inl (cI, 232, .inl (fun _ => (0 : Int32))))] H := hP
  have hD : va_D A [(q_di, .inr (kDisk, [.null, .null, .null, .int (0 : Int32), .int (0 : Int32), .int (0 : Int32)])), (q_pl, .inl (cI, 232, .inl (fun _ => (0 : Int32))))] := hD
  refine va_putF (D := (dC, dI)) (ci := kDisk) (v := .ref q_pl) (ty := (.array .int)) (C := R_Disk) (T := T_Disk) (N := 6) hx hb hts (fun w h => List.mem_cons_of_mem _ (in_Disk w h)) ty_Disk tyok_Disk nm_Disk hown hK hP hD hS 0 rfl rfl 0 (by decide) (jv_w hts wa_21) (fun _ h9 => h9) rfl hin rfl (by decide +kernel) rfl rfl (Nat.le_of_ble_eq_true rfl) d_D_init_10 (fun H locs hP hD hS => ?_)
  have hP : va_P (dC, dI) vwCl [(q_di, .inr (kDisk, [.ref q_pl, .null, .null, .int (0 : Int32), .int (0 : Int32), .int (0 : Int32)])), (q_pl, .inl (cI, 232, .inl (fun _ => (0 : Int32))))] H := hP
  have hD : va_D A [(q_di, .inr (kDisk, [.ref q_pl, .null, .null, .int (0 : Int32), .int (0 : Int32), .int (0 : Int32)])), (q_pl, .inl (cI, 232, .inl (fun _ => (0 : Int32))))] := hD
  refine lv_aload_n hx hb d_D_init_13 rfl (lv_at hl 0 rfl) ?_
  refine lv_sipush (v := (232 : Int32)) hx hb d_D_init_14 (by decide) ?_
  refine va_newa (atype := .int) (a0 := (232, .inl (fun _ => 0))) (N' := 232) hx hb (jv_w hts wa_483) rfl hK hP hD hS hA (fun _ => rfl) (by decide) (by decide) (by decide) (Nat.le_of_ble_eq_true rfl) (Nat.le_of_ble_eq_true rfl) d_D_init_17 (fun q_dr c9 H hK9 hP hD hS => ?_)
  obtain rfl := jv_cI hK9
  have hP : va_P (dC, dI) vwCl [(q_di, .inr (kDisk, [.ref q_pl, .null, .null, .int (0 : Int32), .int (0 : Int32), .int (0 : Int32)])), (q_pl, .inl (cI, 232, .inl (fun _ => (0 : Int32)))), (q_dr, .inl (cI, 232, .inl (fun _ => (0 : Int32))))] H := hP
  have hD : va_D A [(q_di, .inr (kDisk, [.ref q_pl, .null, .null, .int (0 : Int32), .int (0 : Int32), .int (0 : Int32)])), (q_pl, .inl (cI, 232, .inl (fun _ => (0 : Int32)))), (q_dr, .inl (cI, 232, .inl (fun _ => (0 : Int32))))] := hD
  refine va_putF (D := (dC, dI)) (ci := kDisk) (v := .ref q_dr) (ty := (.array .int)) (C := R_Disk) (T := T_Disk) (N := 6) hx hb hts (fun w h => List.mem_cons_of_mem _ (in_Disk w h)) ty_Disk tyok_Disk nm_Disk hown hK hP hD hS 0 rfl rfl 1 (by decide) (jv_w hts wa_22) (fun _ h9 => h9) rfl hin rfl (by decide +kernel) rfl rfl (Nat.le_of_ble_eq_true rfl) d_D_init_19 (fun H locs hP hD hS => ?_)
  have hP : va_P (dC, dI) vwCl [(q_di, .inr (kDisk, [.ref q_pl, .ref q_dr, .null, .int (0 : Int32), .int (0 : Int32), .int (0 : Int32)])), (q_pl, .inl (cI, 232, .inl (fun _ => (0 : Int32)))), (q_dr, .inl (cI, 232, .inl (fun _ => (0 : Int32))))] H := hP
  have hD : va_D A [(q_di, .inr (kDisk, [.ref q_pl, .ref q_dr, .null, .int (0 : Int32), .int (0 : Int32), .int (0 : Int32)])), (q_pl, .inl (cI, 232, .inl (fun _ => (0 : Int32)))), (q_dr, .inl (cI, 232, .inl (fun _ => (0 : Int32))))] := hD
  refine lv_aload_n hx hb d_D_init_22 rfl (lv_at hl 0 rfl) ?_
  refine lv_sipush (v := (232 : Int32)) hx hb d_D_init_23 (by decide) ?_
  refine va_newa (atype := .int) (a0 := (232, .inl (fun _ => 0))) (N' := 232) hx hb (jv_w hts wa_483) rfl hK hP hD hS hA (fun _ => rfl) (by decide) (by decide) (by decide) (Nat.le_of_ble_eq_true rfl) (Nat.le_of_ble_eq_true rfl) d_D_init_26 (fun q_jo c9 H hK9 hP hD hS => ?_)
  obtain rfl := jv_cI hK9
  have hP : va_P (dC, dI) vwCl [(q_di, .inr (kDisk, [.ref q_pl, .ref q_dr, .null, .int (0 : Int32), .int (0 : Int32), .int (0 : Int32)])), (q_pl, .inl (cI, 232, .inl (fun _ => (0 : Int32)))), (q_dr, .inl (cI, 232, .inl (fun _ => (0 : Int32)))), (q_jo, .inl (cI, 232, .inl (fun _ => (0 : Int32))))] H := hP
  have hD : va_D A [(q_di, .inr (kDisk, [.ref q_pl, .ref q_dr, .null, .int (0 : Int32), .int (0 : Int32), .int (0 : Int32)])), (q_pl, .inl (cI, 232, .inl (fun _ => (0 : Int32)))), (q_dr, .inl (cI, 232, .inl (fun _ => (0 : Int32)))), (q_jo, .inl (cI, 232, .inl (fun _ => (0 : Int32))))] := hD
  refine va_putF (D := (dC, dI)) (ci := kDisk) (v := .ref q_jo) (ty := (.array .int)) (C := R_Disk) (T := T_Disk) (N := 6) hx hb hts (fun w h => List.mem_cons_of_mem _ (in_Disk w h)) ty_Disk tyok_Disk nm_Disk hown hK hP hD hS 0 rfl rfl 2 (by decide) (jv_w hts wa_37) (fun _ h9 => h9) rfl hin rfl (by decide +kernel) rfl rfl (Nat.le_of_ble_eq_true rfl) d_D_init_28 (fun H locs hP hD hS => ?_)
  have hP : va_P (dC, dI) vwCl [(q_di, .inr (kDisk, [.ref q_pl, .ref q_dr, .ref q_jo, .int (0 : Int32), .int (0 : Int32), .int (0 : Int32)])), (q_pl, .inl (cI, 232, .inl (fun _ => (0 : Int32)))), (q_dr, .inl (cI, 232, .inl (fun _ => (0 : Int32)))), (q_jo, .inl (cI, 232, .inl (fun _ => (0 : Int32))))] H := hP
  have hD : va_D A [(q_di, .inr (kDisk, [.ref q_pl, .ref q_dr, .ref q_jo, .int (0 : Int32), .int (0 : Int32), .int (0 : Int32)])), (q_pl, .inl (cI, 232, .inl (fun _ => (0 : Int32)))), (q_dr, .inl (cI, 232, .inl (fun _ => (0 : Int32)))), (q_jo, .inl (cI, 232, .inl (fun _ => (0 : Int32))))] := hD
  refine lv_aload_n hx hb d_D_init_31 rfl (lv_at hl 0 rfl) ?_
  refine lv_iconst (v := (0 : Int32)) hx hb d_D_init_32 (by decide) ?_
  refine va_put (D := (dC, dI)) (ci := kDisk) (v := .int (0 : Int32)) (ty := .int) (C := R_Disk) (T := T_Disk) (N := 6) hx hb hts (fun w h => List.mem_cons_of_mem _ (in_Disk w h)) ty_Disk tyok_Disk nm_Disk hown hK hP hD hS 0 rfl rfl 3 (by decide) (jv_w hts wa_33) (fun _ h9 => h9) rfl (by decide +kernel) rfl rfl (Nat.le_of_ble_eq_true rfl) d_D_init_33 (fun H locs hP hD hS => ?_)
  have hP : va_P (dC, dI) vwCl [(q_di, .inr (kDisk, [.ref q_pl, .ref q_dr, .ref q_jo, .int (0 : Int32), .int (0 : Int32), .int (0 : Int32)])), (q_pl, .inl (cI, 232, .inl (fun _ => (0 : Int32)))), (q_dr, .inl (cI, 232, .inl (fun _ => (0 : Int32)))), (q_jo, .inl (cI, 232, .inl (fun _ => (0 : Int32))))] H := hP
  have hD : va_D A [(q_di, .inr (kDisk, [.ref q_pl, .ref q_dr, .ref q_jo, .int (0 : Int32), .int (0 : Int32), .int (0 : Int32)])), (q_pl, .inl (cI, 232, .inl (fun _ => (0 : Int32)))), (q_dr, .inl (cI, 232, .inl (fun _ => (0 : Int32)))), (q_jo, .inl (cI, 232, .inl (fun _ => (0 : Int32))))] := hD
  refine lv_aload_n hx hb d_D_init_36 rfl (lv_at hl 0 rfl) ?_
  refine lv_iconst (v := (0 : Int32)) hx hb d_D_init_37 (by decide) ?_
  refine va_put (D := (dC, dI)) (ci := kDisk) (v := .int (0 : Int32)) (ty := .boolean) (C := R_Disk) (T := T_Disk) (N := 6) hx hb hts (fun w h => List.mem_cons_of_mem _ (in_Disk w h)) ty_Disk tyok_Disk nm_Disk hown hK hP hD hS 0 rfl rfl 4 (by decide) (jv_w hts wa_27) (fun _ h9 => h9) rfl (by decide +kernel) rfl rfl (Nat.le_of_ble_eq_true rfl) d_D_init_38 (fun H locs hP hD hS => ?_)
  have hP : va_P (dC, dI) vwCl [(q_di, .inr (kDisk, [.ref q_pl, .ref q_dr, .ref q_jo, .int (0 : Int32), .int (0 : Int32), .int (0 : Int32)])), (q_pl, .inl (cI, 232, .inl (fun _ => (0 : Int32)))), (q_dr, .inl (cI, 232, .inl (fun _ => (0 : Int32)))), (q_jo, .inl (cI, 232, .inl (fun _ => (0 : Int32))))] H := hP
  have hD : va_D A [(q_di, .inr (kDisk, [.ref q_pl, .ref q_dr, .ref q_jo, .int (0 : Int32), .int (0 : Int32), .int (0 : Int32)])), (q_pl, .inl (cI, 232, .inl (fun _ => (0 : Int32)))), (q_dr, .inl (cI, 232, .inl (fun _ => (0 : Int32)))), (q_jo, .inl (cI, 232, .inl (fun _ => (0 : Int32))))] := hD
  refine lv_aload_n hx hb d_D_init_41 rfl (lv_at hl 0 rfl) ?_
  refine lv_iconst (v := (0 : Int32)) hx hb d_D_init_42 (by decide) ?_
  refine va_put (D := (dC, dI)) (ci := kDisk) (v := .int (0 : Int32)) (ty := .int) (C := R_Disk) (T := T_Disk) (N := 6) hx hb hts (fun w h => List.mem_cons_of_mem _ (in_Disk w h)) ty_Disk tyok_Disk nm_Disk hown hK hP hD hS 0 rfl rfl 5 (by decide) (jv_w hts wa_46) (fun _ h9 => h9) rfl (by decide +kernel) rfl rfl (Nat.le_of_ble_eq_true rfl) d_D_init_43 (fun H locs hP hD hS => ?_)
  have hP : va_P (dC, dI) vwCl [(q_di, .inr (kDisk, [.ref q_pl, .ref q_dr, .ref q_jo, .int (0 : Int32), .int (0 : Int32), .int (0 : Int32)])), (q_pl, .inl (cI, 232, .inl (fun _ => (0 : Int32)))), (q_dr, .inl (cI, 232, .inl (fun _ => (0 : Int32)))), (q_jo, .inl (cI, 232, .inl (fun _ => (0 : Int32))))] H := hP
  have hD : va_D A [(q_di, .inr (kDisk, [.ref q_pl, .ref q_dr, .ref q_jo, .int (0 : Int32), .int (0 : Int32), .int (0 : Int32)])), (q_pl, .inl (cI, 232, .inl (fun _ => (0 : Int32)))), (q_dr, .inl (cI, 232, .inl (fun _ => (0 : Int32)))), (q_jo, .inl (cI, 232, .inl (fun _ => (0 : Int32))))] := hD
  refine lv_aload_n hx hb d_D_init_46 rfl (lv_at hl 0 rfl) ?_
  refine va_get (D := (dC, dI)) (ci := kDisk) (v := .ref q_pl) (C := R_Disk) (T := T_Disk) (N := 6) hx hb hts (fun w h => List.mem_cons_of_mem _ (in_Disk w h)) hown hK hP 0 rfl rfl 0 (by decide) (jv_w hts wa_21) (fun _ h9 => h9) rfl d_D_init_47 ?_
  refine lv_bipush (v := (8 : Int32)) hx hb d_D_init_50 (by decide) ?_
  refine lv_iconst (v := (1 : Int32)) hx hb d_D_init_52 (by decide) ?_
  refine va_iast hx hb hK hP hD hS 1 0 rfl rfl (by unfold vp_in; decide) d_D_init_53 (fun H locs hP hD hS => ?_)
  have hP : va_P (dC, dI) vwCl [(q_di, .inr (kDisk, [.ref q_pl, .ref q_dr, .ref q_jo, .int (0 : Int32), .int (0 : Int32), .int (0 : Int32)])), (q_pl, .inl (cI, 232, .inl (upd (fun _ => (0 : Int32)) ((8 : Int32)).toNatClampNeg (1 : Int32)))), (q_dr, .inl (cI, 232, .inl (fun _ => (0 : Int32)))), (q_jo, .inl (cI, 232, .inl (fun _ => (0 : Int32))))] H := hP
  have hD : va_D A [(q_di, .inr (kDisk, [.ref q_pl, .ref q_dr, .ref q_jo, .int (0 : Int32), .int (0 : Int32), .int (0 : Int32)])), (q_pl, .inl (cI, 232, .inl (upd (fun _ => (0 : Int32)) ((8 : Int32)).toNatClampNeg (1 : Int32)))), (q_dr, .inl (cI, 232, .inl (fun _ => (0 : Int32)))), (q_jo, .inl (cI, 232, .inl (fun _ => (0 : Int32))))] := hD
  refine lv_aload_n hx hb d_D_init_54 rfl (lv_at hl 0 rfl) ?_
  refine va_get (D := (dC, dI)) (ci := kDisk) (v := .ref q_dr) (C := R_Disk) (T := T_Disk) (N := 6) hx hb hts (fun w h => List.mem_cons_of_mem _ (in_Disk w h)) hown hK hP 0 rfl rfl 1 (by decide) (jv_w hts wa_22) (fun _ h9 => h9) rfl d_D_init_55 ?_
  refine lv_bipush (v := (8 : Int32)) hx hb d_D_init_58 (by decide) ?_
  refine lv_iconst (v := (1 : Int32)) hx hb d_D_init_60 (by decide) ?_
  refine va_iast hx hb hK hP hD hS 2 0 rfl rfl (by unfold vp_in; decide) d_D_init_61 (fun H locs hP hD hS => ?_)
  have hP : va_P (dC, dI) vwCl [(q_di, .inr (kDisk, [.ref q_pl, .ref q_dr, .ref q_jo, .int (0 : Int32), .int (0 : Int32), .int (0 : Int32)])), (q_pl, .inl (cI, 232, .inl (upd (fun _ => (0 : Int32)) ((8 : Int32)).toNatClampNeg (1 : Int32)))), (q_dr, .inl (cI, 232, .inl (upd (fun _ => (0 : Int32)) ((8 : Int32)).toNatClampNeg (1 : Int32)))), (q_jo, .inl (cI, 232, .inl (fun _ => (0 : Int32))))] H := hP
  have hD : va_D A [(q_di, .inr (kDisk, [.ref q_pl, .ref q_dr, .ref q_jo, .int (0 : Int32), .int (0 : Int32), .int (0 : Int32)])), (q_pl, .inl (cI, 232, .inl (upd (fun _ => (0 : Int32)) ((8 : Int32)).toNatClampNeg (1 : Int32)))), (q_dr, .inl (cI, 232, .inl (upd (fun _ => (0 : Int32)) ((8 : Int32)).toNatClampNeg (1 : Int32)))), (q_jo, .inl (cI, 232, .inl (fun _ => (0 : Int32))))] := hD
  refine W.widen (k := 3) (n := 696) (Nat.le_of_ble_eq_true rfl) (Nat.le_of_ble_eq_true rfl) ?_
  exact W.vret hx hb hr (fun t ht hW => ⟨rfl, ⟨q_pl, q_dr, q_jo, by rw [ht]; exact hP, hD⟩, hS.F ht⟩) hS.2.2 d_D_init_62
theorem d_A_init_0 : decode cc_A_init 0 = .ok (.aload_n 0, 1) := by decide +kernel
theorem d_A_init_1 : decode cc_A_init 1 = .ok (.invokespecial 3, 3) := by decide +kernel
theorem d_A_init_4 : decode cc_A_init 4 = .ok (.aload_n 0, 1) := by decide +kernel
theorem d_A_init_5 : decode cc_A_init 5 = .ok (.iconst 4, 1) := by decide +kernel
theorem d_A_init_6 : decode cc_A_init 6 = .ok (.newarray .int, 2) := by decide +kernel
theorem d_A_init_8 : decode cc_A_init 8 = .ok (.putfield 9, 3) := by decide +kernel
theorem d_A_init_11 : decode cc_A_init 11 = .ok (.aload_n 0, 1) := by decide +kernel
theorem d_A_init_12 : decode cc_A_init 12 = .ok (.iload_n 1, 1) := by decide +kernel
theorem d_A_init_13 : decode cc_A_init 13 = .ok (.putfield 15, 3) := by decide +kernel
theorem d_A_init_16 : decode cc_A_init 16 = .ok (.aload_n 0, 1) := by decide +kernel
theorem d_A_init_17 : decode cc_A_init 17 = .ok (.aload_n 2, 1) := by decide +kernel
theorem d_A_init_18 : decode cc_A_init 18 = .ok (.putfield 19, 3) := by decide +kernel
theorem d_A_init_21 : decode cc_A_init 21 = .ok (.aload_n 0, 1) := by decide +kernel
theorem d_A_init_22 : decode cc_A_init 22 = .ok (.new 23, 3) := by decide +kernel
theorem d_A_init_25 : decode cc_A_init 25 = .ok (.dup, 1) := by decide +kernel
theorem d_A_init_26 : decode cc_A_init 26 = .ok (.aload_n 2, 1) := by decide +kernel
theorem d_A_init_27 : decode cc_A_init 27 = .ok (.invokespecial 25, 3) := by decide +kernel
theorem d_A_init_30 : decode cc_A_init 30 = .ok (.putfield 28, 3) := by decide +kernel
theorem d_A_init_33 : decode cc_A_init 33 = .ok (.aload_n 0, 1) := by decide +kernel
theorem d_A_init_34 : decode cc_A_init 34 = .ok (.new 32, 3) := by decide +kernel
theorem d_A_init_37 : decode cc_A_init 37 = .ok (.dup, 1) := by decide +kernel
theorem d_A_init_38 : decode cc_A_init 38 = .ok (.aload_n 2, 1) := by decide +kernel
theorem d_A_init_39 : decode cc_A_init 39 = .ok (.invokespecial 34, 3) := by decide +kernel
theorem d_A_init_42 : decode cc_A_init 42 = .ok (.putfield 35, 3) := by decide +kernel
theorem d_A_init_45 : decode cc_A_init 45 = .ok (.aload_n 0, 1) := by decide +kernel
theorem d_A_init_46 : decode cc_A_init 46 = .ok (.getfield 9, 3) := by decide +kernel
theorem d_A_init_49 : decode cc_A_init 49 = .ok (.iconst (-1), 1) := by decide +kernel
theorem d_A_init_50 : decode cc_A_init 50 = .ok (.invokestatic 39, 3) := by decide +kernel
theorem d_A_init_53 : decode cc_A_init 53 = .ok (.return_, 1) := by decide +kernel
set_option maxHeartbeats 1000000 in
set_option maxRecDepth 100000 in
theorem c_A_init (l : Launch) (dC : Nat → ClassId) (dI : Nat → Nat → Nat) (cI cA cL : ClassId) (q_ar : Nat) (q_di : Nat) (lb : Int32) (sz : Nat) (rF : Nat → Int32) (hF : f_J_fill (-1 : Int32) (fun _ => (0 : Int32)) = some rF) : Met l y_A_init ws_A_init rm_A_init (jv_Pw [.ref q_ar, .int lb, .ref q_di] (dC, dI) (jv_ty cI cA cL) [(q_ar, .inr (kArea, [.int (0 : Int32), .null, .null, .null, .null]))] sz) (jv_Qn (fun H9 => ∃ q_us q_tr q_co : Nat, va_P (dC, dI) vwCl [(q_ar, .inr (kArea, [.int lb, .ref q_us, .ref q_di, .ref q_tr, .ref q_co])), (q_us, .inl (cI, 4, .inl rF)), (q_tr, .inr (kTree, [.ref q_di])), (q_co, .inr (kCont, [.ref q_di]))] H9 ∧ va_D (va_A [(q_ar, .inr (kArea, [.int (0 : Int32), .null, .null, .null, .null]))] sz) [(q_ar, .inr (kArea, [.int lb, .ref q_us, .ref q_di, .ref q_tr, .ref q_co])), (q_us, .inl (cI, 4, .inl rF)), (q_tr, .inr (kTree, [.ref q_di])), (q_co, .inr (kCont, [.ref q_di]))]) (va_A [(q_ar, .inr (kArea, [.int (0 : Int32), .null, .null, .null, .null]))] sz)) 3 6 (va_A [(q_ar, .inr (kArea, [.int (0 : Int32), .null, .null, .null, .null]))] sz) := by
  refine Met.ofW (cc := cc_A_init) (maxL := 3) (ret := none) (by decide) rfl ?_
  intro p e s m args below meth c s₁ B hml hv
  obtain ⟨rfl, hsz, hP, hK, hD0⟩ := hv
  have hx := B.exec
  have hb := B.bytes
  have hr := B.returns
  have hts := atoms_spec (ws := ws_A_init) B.pre
  have hown : s.vm.findClass R_Area = some m.cls := findClass_of_methodNamed B.named
  have hlocks := B.notSynchronized
  have hin : meth.name = "<init>" := (name_of_methodNamed B.named B.method).1
  subst hsz
  have hD := hD0.self (sz := s.heap.size)
  generalize hAe : va_A [(q_ar, .inr (kArea, [.int (0 : Int32), .null, .null, .null, .null]))] s.heap.size = A at hD ⊢
  have hA : ∀ q : Nat, s.heap.size ≤ q → A q := fun q h => by rw [← hAe]; exact Or.inr h
  have hS : va_S A s.heap s.heap [] := va_S.rf
  have hl := lv_entry ([.ref q_ar, .int lb, .ref q_di]) (n := 3) (Nat.le_of_ble_eq_true rfl)
  rw [lg_entry_eq]
  generalize (lg_sl ([.ref q_ar, .int lb, .ref q_di]) ++ List.replicate (3 - (lg_sl ([.ref q_ar, .int lb, .ref q_di])).length) Slot.unset).toArray = ls at hl ⊢
  have hl : lv_has ls 3 [(0, .ref q_ar), (1, .int lb), (2, .ref q_di)] := hl
  refine lv_aload_n hx hb d_A_init_0 rfl (lv_at hl 0 rfl) ?_
  refine W.objInit hx hb hown (jv_w hts wa_484) (jv_w hts wa_478) (jv_w hts wa_479) rfl (by rw [hml]; exact hl.1) rfl d_A_init_1 (Nat.le_of_ble_eq_true rfl) (Nat.le_of_ble_eq_true rfl) ?_
  refine W.eq (g2 := F0 m 4 ls []) rfl ?_
  refine lv_aload_n hx hb d_A_init_4 rfl (lv_at hl 0 rfl) ?_
  refine lv_iconst (v := (4 : Int32)) hx hb d_A_init_5 (by decide) ?_
  refine va_newa (atype := .int) (a0 := (4, .inl (fun _ => 0))) (N' := 4) hx hb (jv_w hts wa_483) rfl hK hP hD hS hA (fun _ => rfl) (by decide) (by decide) (by decide) (Nat.le_of_ble_eq_true rfl) (Nat.le_of_ble_eq_true rfl) d_A_init_6 (fun q_us c9 H hK9 hP hD hS => ?_)
  obtain rfl := jv_cI hK9
  have hP : va_P (dC, dI) vwCl [(q_ar, .inr (kArea, [.int (0 : Int32), .null, .null, .null, .null])), (q_us, .inl (cI, 4, .inl (fun _ => (0 : Int32))))] H := hP
  have hD : va_D A [(q_ar, .inr (kArea, [.int (0 : Int32), .null, .null, .null, .null])), (q_us, .inl (cI, 4, .inl (fun _ => (0 : Int32))))] := hD
  refine va_putF (D := (dC, dI)) (ci := kArea) (v := .ref q_us) (ty := (.array .int)) (C := R_Area) (T := T_Area) (N := 5) hx hb hts (fun w h => List.mem_cons_of_mem _ (in_Area w h)) ty_Area tyok_Area nm_Area hown hK hP hD hS 0 rfl rfl 1 (by decide) (jv_w hts wa_188) (fun _ h9 => h9) rfl hin rfl (by decide +kernel) rfl rfl (Nat.le_of_ble_eq_true rfl) d_A_init_8 (fun H locs hP hD hS => ?_)
  have hP : va_P (dC, dI) vwCl [(q_ar, .inr (kArea, [.int (0 : Int32), .ref q_us, .null, .null, .null])), (q_us, .inl (cI, 4, .inl (fun _ => (0 : Int32))))] H := hP
  have hD : va_D A [(q_ar, .inr (kArea, [.int (0 : Int32), .ref q_us, .null, .null, .null])), (q_us, .inl (cI, 4, .inl (fun _ => (0 : Int32))))] := hD
  refine lv_aload_n hx hb d_A_init_11 rfl (lv_at hl 0 rfl) ?_
  refine lv_iload_n hx hb d_A_init_12 rfl (lv_at hl 1 rfl) ?_
  refine va_putF (D := (dC, dI)) (ci := kArea) (v := .int lb) (ty := .int) (C := R_Area) (T := T_Area) (N := 5) hx hb hts (fun w h => List.mem_cons_of_mem _ (in_Area w h)) ty_Area tyok_Area nm_Area hown hK hP hD hS 0 rfl rfl 0 (by decide) (jv_w hts wa_485) (fun _ h9 => h9) rfl hin rfl (by decide +kernel) rfl rfl (Nat.le_of_ble_eq_true rfl) d_A_init_13 (fun H locs hP hD hS => ?_)
  have hP : va_P (dC, dI) vwCl [(q_ar, .inr (kArea, [.int lb, .ref q_us, .null, .null, .null])), (q_us, .inl (cI, 4, .inl (fun _ => (0 : Int32))))] H := hP
  have hD : va_D A [(q_ar, .inr (kArea, [.int lb, .ref q_us, .null, .null, .null])), (q_us, .inl (cI, 4, .inl (fun _ => (0 : Int32))))] := hD
  refine lv_aload_n hx hb d_A_init_16 rfl (lv_at hl 0 rfl) ?_
  refine lv_aload_n hx hb d_A_init_17 rfl (lv_at hl 2 rfl) ?_
  refine va_putF (D := (dC, dI)) (ci := kArea) (v := .ref q_di) (ty := (.object "LabelVault$Disk")) (C := R_Area) (T := T_Area) (N := 5) hx hb hts (fun w h => List.mem_cons_of_mem _ (in_Area w h)) ty_Area tyok_Area nm_Area hown hK hP hD hS 0 rfl rfl 2 (by decide) (jv_w hts wa_486) (fun _ h9 => h9) rfl hin rfl (by decide +kernel) rfl rfl (Nat.le_of_ble_eq_true rfl) d_A_init_18 (fun H locs hP hD hS => ?_)
  have hP : va_P (dC, dI) vwCl [(q_ar, .inr (kArea, [.int lb, .ref q_us, .ref q_di, .null, .null])), (q_us, .inl (cI, 4, .inl (fun _ => (0 : Int32))))] H := hP
  have hD : va_D A [(q_ar, .inr (kArea, [.int lb, .ref q_us, .ref q_di, .null, .null])), (q_us, .inl (cI, 4, .inl (fun _ => (0 : Int32))))] := hD
  refine lv_aload_n hx hb d_A_init_21 rfl (lv_at hl 0 rfl) ?_
  refine va_new (ci := kTree) (fs := [.null]) (C := R_Tree) (T := T_Tree) (N := 1) hx hb hts (fun w h => List.mem_cons_of_mem _ (in_Tree w h)) ty_Tree tyok_Tree hown (jv_w hts wa_487) (jv_w hts wa_488) (jv_w hts wa_78) hK hP hD hS hA rfl (fun j hj => by rcases j with _ | j <;> first | rfl | omega) (Nat.le_of_ble_eq_true rfl) (Nat.le_of_ble_eq_true rfl) d_A_init_22 (fun q_tr H hP hD hS => ?_)
  have hP : va_P (dC, dI) vwCl [(q_ar, .inr (kArea, [.int lb, .ref q_us, .ref q_di, .null, .null])), (q_us, .inl (cI, 4, .inl (fun _ => (0 : Int32)))), (q_tr, .inr (kTree, [.null]))] H := hP
  have hD : va_D A [(q_ar, .inr (kArea, [.int lb, .ref q_us, .ref q_di, .null, .null])), (q_us, .inl (cI, 4, .inl (fun _ => (0 : Int32)))), (q_tr, .inr (kTree, [.null]))] := hD
  refine lv_dup hx hb d_A_init_25 rfl ?_
  refine lv_aload_n hx hb d_A_init_26 rfl (lv_at hl 2 rfl) ?_
  have hPc := hP.sub (ws' := [(q_tr, .inr (kTree, [.null]))]) [2] rfl
  have hDc := hD.sub (ws' := [(q_tr, .inr (kTree, [.null]))]) [2] (by decide) rfl
  have hFc := va_free (wc := [(q_tr, .inr (kTree, [.null]))]) hD hS hA [2] rfl
  refine jv_cwv (va_runI (As := [.ref q_di]) (rest := [.ref q_tr, .ref q_ar]) (b := q_tr) ⟨hx, hb, hml, hown, hts⟩ (c_T_init l dC dI cI cA cL q_tr q_di H.size) (jv_cwI hts wa_489 wa_78 wa_491 wa_490 rfl rfl yd_T_init ⟨Nat.le_of_ble_eq_true rfl, Nat.le_of_ble_eq_true rfl⟩) (jv_preSW hK hPc hDc) rfl rfl hl.1 rfl (lv_room (Nat.le_of_ble_eq_true rfl)) d_A_init_27 ⟨Nat.le_of_ble_eq_true rfl, Nat.le_of_ble_eq_true rfl⟩) hS hFc (fun H1 locs hP1 hD1 hk1 hS => ?_)
  obtain ⟨hP, hD⟩ := va_join (wc := [(q_tr, .inr (kTree, [.null]))]) (wr := [(q_ar, .inr (kArea, [.int lb, .ref q_us, .ref q_di, .null, .null])), (q_us, .inl (cI, 4, .inl (fun _ => (0 : Int32))))]) (w1 := [(q_tr, .inr (kTree, [.ref q_di]))]) hP hD [2] [0, 1] rfl rfl (by decide) (by decide) hk1 hFc hP1 hD1
  have hP : va_P (dC, dI) vwCl [(q_ar, .inr (kArea, [.int lb, .ref q_us, .ref q_di, .null, .null])), (q_us, .inl (cI, 4, .inl (fun _ => (0 : Int32)))), (q_tr, .inr (kTree, [.ref q_di]))] H1 := hP.sub [0, 1, 2] rfl
  have hD : va_D A [(q_ar, .inr (kArea, [.int lb, .ref q_us, .ref q_di, .null, .null])), (q_us, .inl (cI, 4, .inl (fun _ => (0 : Int32)))), (q_tr, .inr (kTree, [.ref q_di]))] := hD.sub [0, 1, 2] (by decide) rfl
  generalize H1 = H at hP hS ⊢
  refine va_putF (D := (dC, dI)) (ci := kArea) (v := .ref q_tr) (ty := (.object "LabelVault$Tree")) (C := R_Area) (T := T_Area) (N := 5) hx hb hts (fun w h => List.mem_cons_of_mem _ (in_Area w h)) ty_Area tyok_Area nm_Area hown hK hP hD hS 0 rfl rfl 3 (by decide) (jv_w hts wa_492) (fun _ h9 => h9) rfl hin rfl (by decide +kernel) rfl rfl (Nat.le_of_ble_eq_true rfl) d_A_init_30 (fun H locs hP hD hS => ?_)
  have hP : va_P (dC, dI) vwCl [(q_ar, .inr (kArea, [.int lb, .ref q_us, .ref q_di, .ref q_tr, .null])), (q_us, .inl (cI, 4, .inl (fun _ => (0 : Int32)))), (q_tr, .inr (kTree, [.ref q_di]))] H := hP
  have hD : va_D A [(q_ar, .inr (kArea, [.int lb, .ref q_us, .ref q_di, .ref q_tr, .null])), (q_us, .inl (cI, 4, .inl (fun _ => (0 : Int32)))), (q_tr, .inr (kTree, [.ref q_di]))] := hD
  refine lv_aload_n hx hb d_A_init_33 rfl (lv_at hl 0 rfl) ?_
  refine va_new (ci := kCont) (fs := [.null]) (C := R_Cont) (T := T_Cont) (N := 1) hx hb hts (fun w h => List.mem_cons_of_mem _ (in_Cont w h)) ty_Cont tyok_Cont hown (jv_w hts wa_493) (jv_w hts wa_494) (jv_w hts wa_129) hK hP hD hS hA rfl (fun j hj => by rcases j with _ | j <;> first | rfl | omega) (Nat.le_of_ble_eq_true rfl) (Nat.le_of_ble_eq_true rfl) d_A_init_34 (fun q_co H hP hD hS => ?_)
  have hP : va_P (dC, dI) vwCl [(q_ar, .inr (kArea, [.int lb, .ref q_us, .ref q_di, .ref q_tr, .null])), (q_us, .inl (cI, 4, .inl (fun _ => (0 : Int32)))), (q_tr, .inr (kTree, [.ref q_di])), (q_co, .inr (kCont, [.null]))] H := hP
  have hD : va_D A [(q_ar, .inr (kArea, [.int lb, .ref q_us, .ref q_di, .ref q_tr, .null])), (q_us, .inl (cI, 4, .inl (fun _ => (0 : Int32)))), (q_tr, .inr (kTree, [.ref q_di])), (q_co, .inr (kCont, [.null]))] := hD
  refine lv_dup hx hb d_A_init_37 rfl ?_
  refine lv_aload_n hx hb d_A_init_38 rfl (lv_at hl 2 rfl) ?_
  have hPc := hP.sub (ws' := [(q_co, .inr (kCont, [.null]))]) [3] rfl
  have hDc := hD.sub (ws' := [(q_co, .inr (kCont, [.null]))]) [3] (by decide) rfl
  have hFc := va_free (wc := [(q_co, .inr (kCont, [.null]))]) hD hS hA [3] rfl
  refine jv_cwv (va_runI (As := [.ref q_di]) (rest := [.ref q_co, .ref q_ar]) (b := q_co) ⟨hx, hb, hml, hown, hts⟩ (c_C_init l dC dI cI cA cL q_co q_di H.size) (jv_cwI hts wa_495 wa_129 wa_497 wa_496 rfl rfl yd_C_init ⟨Nat.le_of_ble_eq_true rfl, Nat.le_of_ble_eq_true rfl⟩) (jv_preSW hK hPc hDc) rfl rfl hl.1 rfl (lv_room (Nat.le_of_ble_eq_true rfl)) d_A_init_39 ⟨Nat.le_of_ble_eq_true rfl, Nat.le_of_ble_eq_true rfl⟩) hS hFc (fun H1 locs hP1 hD1 hk1 hS => ?_)
  obtain ⟨hP, hD⟩ := va_join (wc := [(q_co, .inr (kCont, [.null]))]) (wr := [(q_ar, .inr (kArea, [.int lb, .ref q_us, .ref q_di, .ref q_tr, .null])), (q_us, .inl (cI, 4, .inl (fun _ => (0 : Int32)))), (q_tr, .inr (kTree, [.ref q_di]))]) (w1 := [(q_co, .inr (kCont, [.ref q_di]))]) hP hD [3] [0, 1, 2] rfl rfl (by decide) (by decide) hk1 hFc hP1 hD1
  have hP : va_P (dC, dI) vwCl [(q_ar, .inr (kArea, [.int lb, .ref q_us, .ref q_di, .ref q_tr, .null])), (q_us, .inl (cI, 4, .inl (fun _ => (0 : Int32)))), (q_tr, .inr (kTree, [.ref q_di])), (q_co, .inr (kCont, [.ref q_di]))] H1 := hP.sub [0, 1, 2, 3] rfl
  have hD : va_D A [(q_ar, .inr (kArea, [.int lb, .ref q_us, .ref q_di, .ref q_tr, .null])), (q_us, .inl (cI, 4, .inl (fun _ => (0 : Int32)))), (q_tr, .inr (kTree, [.ref q_di])), (q_co, .inr (kCont, [.ref q_di]))] := hD.sub [0, 1, 2, 3] (by decide) rfl
  generalize H1 = H at hP hS ⊢
  refine va_putF (D := (dC, dI)) (ci := kArea) (v := .ref q_co) (ty := (.object "LabelVault$Contents")) (C := R_Area) (T := T_Area) (N := 5) hx hb hts (fun w h => List.mem_cons_of_mem _ (in_Area w h)) ty_Area tyok_Area nm_Area hown hK hP hD hS 0 rfl rfl 4 (by decide) (jv_w hts wa_498) (fun _ h9 => h9) rfl hin rfl (by decide +kernel) rfl rfl (Nat.le_of_ble_eq_true rfl) d_A_init_42 (fun H locs hP hD hS => ?_)
  have hP : va_P (dC, dI) vwCl [(q_ar, .inr (kArea, [.int lb, .ref q_us, .ref q_di, .ref q_tr, .ref q_co])), (q_us, .inl (cI, 4, .inl (fun _ => (0 : Int32)))), (q_tr, .inr (kTree, [.ref q_di])), (q_co, .inr (kCont, [.ref q_di]))] H := hP
  have hD : va_D A [(q_ar, .inr (kArea, [.int lb, .ref q_us, .ref q_di, .ref q_tr, .ref q_co])), (q_us, .inl (cI, 4, .inl (fun _ => (0 : Int32)))), (q_tr, .inr (kTree, [.ref q_di])), (q_co, .inr (kCont, [.ref q_di]))] := hD
  refine lv_aload_n hx hb d_A_init_45 rfl (lv_at hl 0 rfl) ?_
  refine va_get (D := (dC, dI)) (ci := kArea) (v := .ref q_us) (C := R_Area) (T := T_Area) (N := 5) hx hb hts (fun w h => List.mem_cons_of_mem _ (in_Area w h)) hown hK hP 0 rfl rfl 1 (by decide) (jv_w hts wa_188) (fun _ h9 => h9) rfl d_A_init_46 ?_
  refine lv_iconst (v := (-1 : Int32)) hx hb d_A_init_49 (by decide) ?_
  have hPc := hP.sub (ws' := (w_arr4 cI q_us (fun _ => (0 : Int32)))) [1] rfl
  have hDc := hD.sub (ws' := (w_arr4 cI q_us (fun _ => (0 : Int32)))) [1] (by decide) rfl
  have hFc := va_free (wc := (w_arr4 cI q_us (fun _ => (0 : Int32)))) hD hS hA [1] rfl
  refine jv_cwv (va_runS (As := [.ref q_us, .int (-1 : Int32)]) (rest := []) ⟨hx, hb, hml, hown, hts⟩ (c_J_fill l dC dI cI cA cL q_us (fun _ => (0 : Int32)) (-1 : Int32) H.size rF hF) (jv_cwS hts wa_189 wa_190 wa_191 wa_192 rfl rfl yd_J_fill ⟨Nat.le_of_ble_eq_true rfl, Nat.le_of_ble_eq_true rfl⟩) (jv_preSW hK hPc hDc) rfl rfl hl.1 rfl (lv_room (Nat.le_of_ble_eq_true rfl)) d_A_init_50 ⟨Nat.le_of_ble_eq_true rfl, Nat.le_of_ble_eq_true rfl⟩) hS hFc (fun H1 locs hP1 hD1 hk1 hS => ?_)
  obtain ⟨hP, hD⟩ := va_join (wc := (w_arr4 cI q_us (fun _ => (0 : Int32)))) (wr := [(q_ar, .inr (kArea, [.int lb, .ref q_us, .ref q_di, .ref q_tr, .ref q_co])), (q_tr, .inr (kTree, [.ref q_di])), (q_co, .inr (kCont, [.ref q_di]))]) (w1 := (w_arr4 cI q_us rF)) hP hD [1] [0, 2, 3] rfl rfl (by decide) (by decide) hk1 hFc hP1 hD1
  have hP : va_P (dC, dI) vwCl [(q_ar, .inr (kArea, [.int lb, .ref q_us, .ref q_di, .ref q_tr, .ref q_co])), (q_us, .inl (cI, 4, .inl rF)), (q_tr, .inr (kTree, [.ref q_di])), (q_co, .inr (kCont, [.ref q_di]))] H1 := hP.sub [0, 3, 1, 2] rfl
  have hD : va_D A [(q_ar, .inr (kArea, [.int lb, .ref q_us, .ref q_di, .ref q_tr, .ref q_co])), (q_us, .inl (cI, 4, .inl rF)), (q_tr, .inr (kTree, [.ref q_di])), (q_co, .inr (kCont, [.ref q_di]))] := hD.sub [0, 3, 1, 2] (by decide) rfl
  generalize H1 = H at hP hS ⊢
  refine W.widen (k := 3) (n := 6) (Nat.le_of_ble_eq_true rfl) (Nat.le_of_ble_eq_true rfl) ?_
  exact W.vret hx hb hr (fun t ht hW => ⟨rfl, ⟨q_us, q_tr, q_co, by rw [ht]; exact hP, hD⟩, hS.F ht⟩) hS.2.2 d_A_init_53
theorem d_V_init_0 : decode cc_V_init 0 = .ok (.aload_n 0, 1) := by decide +kernel
theorem d_V_init_1 : decode cc_V_init 1 = .ok (.invokespecial 1, 3) := by decide +kernel
theorem d_V_init_4 : decode cc_V_init 4 = .ok (.aload_n 0, 1) := by decide +kernel
theorem d_V_init_5 : decode cc_V_init 5 = .ok (.bipush 6, 2) := by decide +kernel
theorem d_V_init_7 : decode cc_V_init 7 = .ok (.anewarray 9, 3) := by decide +kernel
theorem d_V_init_10 : decode cc_V_init 10 = .ok (.putfield 11, 3) := by decide +kernel
theorem d_V_init_13 : decode cc_V_init 13 = .ok (.aload_n 0, 1) := by decide +kernel
theorem d_V_init_14 : decode cc_V_init 14 = .ok (.iconst 0, 1) := by decide +kernel
theorem d_V_init_15 : decode cc_V_init 15 = .ok (.putfield 15, 3) := by decide +kernel
theorem d_V_init_18 : decode cc_V_init 18 = .ok (.aload_n 0, 1) := by decide +kernel
theorem d_V_init_19 : decode cc_V_init 19 = .ok (.iconst 4, 1) := by decide +kernel
theorem d_V_init_20 : decode cc_V_init 20 = .ok (.newarray .int, 2) := by decide +kernel
theorem d_V_init_22 : decode cc_V_init 22 = .ok (.putfield 19, 3) := by decide +kernel
theorem d_V_init_25 : decode cc_V_init 25 = .ok (.aload_n 0, 1) := by decide +kernel
theorem d_V_init_26 : decode cc_V_init 26 = .ok (.new 23, 3) := by decide +kernel
theorem d_V_init_29 : decode cc_V_init 29 = .ok (.dup, 1) := by decide +kernel
theorem d_V_init_30 : decode cc_V_init 30 = .ok (.invokespecial 25, 3) := by decide +kernel
theorem d_V_init_33 : decode cc_V_init 33 = .ok (.putfield 26, 3) := by decide +kernel
theorem d_V_init_36 : decode cc_V_init 36 = .ok (.return_, 1) := by decide +kernel
set_option maxHeartbeats 1000000 in
set_option maxRecDepth 100000 in
theorem c_V_init (l : Launch) (dC : Nat → ClassId) (dI : Nat → Nat → Nat) (cI cA cL : ClassId) (q_va : Nat) (sz : Nat) : Met l y_V_init ws_V_init rm_V_init (va_Pc [.ref q_va] (fun U => U.heap.size = sz ∧ va_P (dC, dI) vwCl [(q_va, .inr (kVault, [.null, .int (0 : Int32), .null, .null]))] U.heap ∧ va_K (dC, dI) vwCl (jv_ty cI cA cL) U ∧ va_D (fun _ => True) [(q_va, .inr (kVault, [.null, .int (0 : Int32), .null, .null]))] ∧ va_AO "LabelVault$Area" U ∧ va_Nw (.methodLinkNest R_Vault 25 y_Fu_init R_Vault) U)) (jv_Qn (fun H9 => ∃ q_aa q_cl q_fu : Nat, va_P (dC, dI) vwCl [(q_va, .inr (kVault, [.ref q_aa, .int (0 : Int32), .ref q_cl, .ref q_fu])), (q_aa, .inl (cA, 6, .inr (.inr (.inr (.inr (fun _ => none)))))), (q_cl, .inl (cI, 4, .inl (fun _ => (0 : Int32)))), (q_fu, .inr (kFuse, [.int (-1 : Int32)]))] H9 ∧ va_D (va_A [(q_va, .inr (kVault, [.null, .int (0 : Int32), .null, .null]))] sz) [(q_va, .inr (kVault, [.ref q_aa, .int (0 : Int32), .ref q_cl, .ref q_fu])), (q_aa, .inl (cA, 6, .inr (.inr (.inr (.inr (fun _ => none)))))), (q_cl, .inl (cI, 4, .inl (fun _ => (0 : Int32)))), (q_fu, .inr (kFuse, [.int (-1 : Int32)]))]) (va_A [(q_va, .inr (kVault, [.null, .int (0 : Int32), .null, .null]))] sz)) 3 11 (va_A [(q_va, .inr (kVault, [.null, .int (0 : Int32), .null, .null]))] sz) := by
  refine Met.ofW (cc := cc_V_init) (maxL := 1) (ret := none) (by decide) rfl ?_
  intro p e s m args below meth c s₁ B hml hv
  obtain ⟨rfl, hsz, hP, hK, hD0, hO, hN⟩ := hv
  have hx := B.exec
  have hb := B.bytes
  have hr := B.returns
  have hts := atoms_spec (ws := ws_V_init) B.pre
  have hown : s.vm.findClass R_Vault = some m.cls := findClass_of_methodNamed B.named
  have hlocks := B.notSynchronized
  have hin : meth.name = "<init>" := (name_of_methodNamed B.named B.method).1
  subst hsz
  have hD := hD0.self (sz := s.heap.size)
  generalize hAe : va_A [(q_va, .inr (kVault, [.null, .int (0 : Int32), .null, .null]))] s.heap.size = A at hD ⊢
  have hA : ∀ q : Nat, s.heap.size ≤ q → A q := fun q h => by rw [← hAe]; exact Or.inr h
  have hS : va_S A s.heap s.heap [] := va_S.rf
  have hO : va_AO "LabelVault$Area" s := hO
  have hN : va_Nw (.methodLinkNest R_Vault 25 y_Fu_init R_Vault) s := hN
  have hl := lv_entry ([.ref q_va]) (n := 1) (Nat.le_of_ble_eq_true rfl)
  rw [lg_entry_eq]
  generalize (lg_sl ([.ref q_va]) ++ List.replicate (1 - (lg_sl ([.ref q_va])).length) Slot.unset).toArray = ls at hl ⊢
  have hl : lv_has ls 1 [(0, .ref q_va)] := hl
  refine lv_aload_n hx hb d_V_init_0 rfl (lv_at hl 0 rfl) ?_
  refine W.objInit hx hb hown (jv_w hts wa_499) (jv_w hts wa_478) (jv_w hts wa_479) rfl (by rw [hml]; exact hl.1) rfl d_V_init_1 (Nat.le_of_ble_eq_true rfl) (Nat.le_of_ble_eq_true rfl) ?_
  refine W.eq (g2 := F0 m 4 ls []) rfl ?_
  refine lv_aload_n hx hb d_V_init_4 rfl (lv_at hl 0 rfl) ?_
  refine lv_bipush (v := (6 : Int32)) hx hb d_V_init_5 (by decide) ?_
  refine va_newq (N' := 6) hx hb hown (jv_w hts wa_500) hO hK hP hD hS hA (by decide) (by decide) (by decide) (Nat.le_of_ble_eq_true rfl) (Nat.le_of_ble_eq_true rfl) d_V_init_7 (fun q_aa c9 H hK9 hP hD hS => ?_)
  obtain rfl := jv_cA hK9
  have hP : va_P (dC, dI) vwCl [(q_va, .inr (kVault, [.null, .int (0 : Int32), .null, .null])), (q_aa, .inl (cA, 6, .inr (.inr (.inr (.inr (fun _ => none))))))] H := hP
  have hD : va_D A [(q_va, .inr (kVault, [.null, .int (0 : Int32), .null, .null])), (q_aa, .inl (cA, 6, .inr (.inr (.inr (.inr (fun _ => none))))))] := hD
  refine va_putF (D := (dC, dI)) (ci := kVault) (v := .ref q_aa) (ty := (.array (.object "LabelVault$Area"))) (C := R_Vault) (T := T_Vault) (N := 4) hx hb hts (fun w h => List.mem_cons_of_mem _ (in_Vault w h)) ty_Vault tyok_Vault nm_Vault hown hK hP hD hS 0 rfl rfl 0 (by decide) (jv_w hts wa_300) (fun _ h9 => h9) rfl hin rfl (by decide +kernel) rfl rfl (Nat.le_of_ble_eq_true rfl) d_V_init_10 (fun H locs hP hD hS => ?_)
  have hP : va_P (dC, dI) vwCl [(q_va, .inr (kVault, [.ref q_aa, .int (0 : Int32), .null, .null])), (q_aa, .inl (cA, 6, .inr (.inr (.inr (.inr (fun _ => none))))))] H := hP
  have hD : va_D A [(q_va, .inr (kVault, [.ref q_aa, .int (0 : Int32), .null, .null])), (q_aa, .inl (cA, 6, .inr (.inr (.inr (.inr (fun _ => none))))))] := hD
  refine lv_aload_n hx hb d_V_init_13 rfl (lv_at hl 0 rfl) ?_
  refine lv_iconst (v := (0 : Int32)) hx hb d_V_init_14 (by decide) ?_
  refine va_put (D := (dC, dI)) (ci := kVault) (v := .int (0 : Int32)) (ty := .int) (C := R_Vault) (T := T_Vault) (N := 4) hx hb hts (fun w h => List.mem_cons_of_mem _ (in_Vault w h)) ty_Vault tyok_Vault nm_Vault hown hK hP hD hS 0 rfl rfl 1 (by decide) (jv_w hts wa_501) (fun _ h9 => h9) rfl (by decide +kernel) rfl rfl (Nat.le_of_ble_eq_true rfl) d_V_init_15 (fun H locs hP hD hS => ?_)
  have hP : va_P (dC, dI) vwCl [(q_va, .inr (kVault, [.ref q_aa, .int (0 : Int32), .null, .null])), (q_aa, .inl (cA, 6, .inr (.inr (.inr (.inr (fun _ => none))))))] H := hP
  have hD : va_D A [(q_va, .inr (kVault, [.ref q_aa, .int (0 : Int32), .null, .null])), (q_aa, .inl (cA, 6, .inr (.inr (.inr (.inr (fun _ => none))))))] := hD
  refine lv_aload_n hx hb d_V_init_18 rfl (lv_at hl 0 rfl) ?_
  refine lv_iconst (v := (4 : Int32)) hx hb d_V_init_19 (by decide) ?_
  refine va_newa (atype := .int) (a0 := (4, .inl (fun _ => 0))) (N' := 4) hx hb (jv_w hts wa_483) rfl hK hP hD hS hA (fun _ => rfl) (by decide) (by decide) (by decide) (Nat.le_of_ble_eq_true rfl) (Nat.le_of_ble_eq_true rfl) d_V_init_20 (fun q_cl c9 H hK9 hP hD hS => ?_)
  obtain rfl := jv_cI hK9
  have hP : va_P (dC, dI) vwCl [(q_va, .inr (kVault, [.ref q_aa, .int (0 : Int32), .null, .null])), (q_aa, .inl (cA, 6, .inr (.inr (.inr (.inr (fun _ => none)))))), (q_cl, .inl (cI, 4, .inl (fun _ => (0 : Int32))))] H := hP
  have hD : va_D A [(q_va, .inr (kVault, [.ref q_aa, .int (0 : Int32), .null, .null])), (q_aa, .inl (cA, 6, .inr (.inr (.inr (.inr (fun _ => none)))))), (q_cl, .inl (cI, 4, .inl (fun _ => (0 : Int32))))] := hD
  refine va_putF (D := (dC, dI)) (ci := kVault) (v := .ref q_cl) (ty := (.array .int)) (C := R_Vault) (T := T_Vault) (N := 4) hx hb hts (fun w h => List.mem_cons_of_mem _ (in_Vault w h)) ty_Vault tyok_Vault nm_Vault hown hK hP hD hS 0 rfl rfl 2 (by decide) (jv_w hts wa_377) (fun _ h9 => h9) rfl hin rfl (by decide +kernel) rfl rfl (Nat.le_of_ble_eq_true rfl) d_V_init_22 (fun H locs hP hD hS => ?_)
  have hP : va_P (dC, dI) vwCl [(q_va, .inr (kVault, [.ref q_aa, .int (0 : Int32), .ref q_cl, .null])), (q_aa, .inl (cA, 6, .inr (.inr (.inr (.inr (fun _ => none)))))), (q_cl, .inl (cI, 4, .inl (fun _ => (0 : Int32))))] H := hP
  have hD : va_D A [(q_va, .inr (kVault, [.ref q_aa, .int (0 : Int32), .ref q_cl, .null])), (q_aa, .inl (cA, 6, .inr (.inr (.inr (.inr (fun _ => none)))))), (q_cl, .inl (cI, 4, .inl (fun _ => (0 : Int32))))] := hD
  refine lv_aload_n hx hb d_V_init_25 rfl (lv_at hl 0 rfl) ?_
  refine va_new (ci := kFuse) (fs := [.int (0 : Int32)]) (C := R_Fuse) (T := T_Fuse) (N := 1) hx hb hts (fun w h => List.mem_cons_of_mem _ (in_Fuse w h)) ty_Fuse tyok_Fuse hown (jv_w hts wa_502) (jv_w hts wa_503) (jv_w hts wa_42) hK hP hD hS hA rfl (fun j hj => by rcases j with _ | j <;> first | rfl | omega) (Nat.le_of_ble_eq_true rfl) (Nat.le_of_ble_eq_true rfl) d_V_init_26 (fun q_fu H hP hD hS => ?_)
  have hP : va_P (dC, dI) vwCl [(q_va, .inr (kVault, [.ref q_aa, .int (0 : Int32), .ref q_cl, .null])), (q_aa, .inl (cA, 6, .inr (.inr (.inr (.inr (fun _ => none)))))), (q_cl, .inl (cI, 4, .inl (fun _ => (0 : Int32)))), (q_fu, .inr (kFuse, [.int (0 : Int32)]))] H := hP
  have hD : va_D A [(q_va, .inr (kVault, [.ref q_aa, .int (0 : Int32), .ref q_cl, .null])), (q_aa, .inl (cA, 6, .inr (.inr (.inr (.inr (fun _ => none)))))), (q_cl, .inl (cI, 4, .inl (fun _ => (0 : Int32)))), (q_fu, .inr (kFuse, [.int (0 : Int32)]))] := hD
  refine lv_dup hx hb d_V_init_29 rfl ?_
  have hPc := hP.sub (ws' := [(q_fu, .inr (kFuse, [.int (0 : Int32)]))]) [3] rfl
  have hDc := hD.sub (ws' := [(q_fu, .inr (kFuse, [.int (0 : Int32)]))]) [3] (by decide) rfl
  have hFc := va_free (wc := [(q_fu, .inr (kFuse, [.int (0 : Int32)]))]) hD hS hA [3] rfl
  refine jv_cwv (va_runIN (As := []) (rest := [.ref q_fu, .ref q_va]) (b := q_fu) ⟨hx, hb, hml, hown, hts⟩ (c_Fu_init l dC dI cI cA cL q_fu H.size) (jv_cwIN hts wa_504 wa_42 wa_505 hN rfl rfl yd_Fu_init ⟨Nat.le_of_ble_eq_true rfl, Nat.le_of_ble_eq_true rfl⟩) (jv_preSW hK hPc hDc) rfl rfl hl.1 rfl (lv_room (Nat.le_of_ble_eq_true rfl)) d_V_init_30 ⟨Nat.le_of_ble_eq_true rfl, Nat.le_of_ble_eq_true rfl⟩) hS hFc (fun H1 locs hP1 hD1 hk1 hS => ?_)
  obtain ⟨hP, hD⟩ := va_join (wc := [(q_fu, .inr (kFuse, [.int (0 : Int32)]))]) (wr := [(q_va, .inr (kVault, [.ref q_aa, .int (0 : Int32), .ref q_cl, .null])), (q_aa, .inl (cA, 6, .inr (.inr (.inr (.inr (fun _ => none)))))), (q_cl, .inl (cI, 4, .inl (fun _ => (0 : Int32))))]) (w1 := [(q_fu, .inr (kFuse, [.int (-1 : Int32)]))]) hP hD [3] [0, 1, 2] rfl rfl (by decide) (by decide) hk1 hFc hP1 hD1
  have hP : va_P (dC, dI) vwCl [(q_va, .inr (kVault, [.ref q_aa, .int (0 : Int32), .ref q_cl, .null])), (q_aa, .inl (cA, 6, .inr (.inr (.inr (.inr (fun _ => none)))))), (q_cl, .inl (cI, 4, .inl (fun _ => (0 : Int32)))), (q_fu, .inr (kFuse, [.int (-1 : Int32)]))] H1 := hP.sub [0, 1, 2, 3] rfl
  have hD : va_D A [(q_va, .inr (kVault, [.ref q_aa, .int (0 : Int32), .ref q_cl, .null])), (q_aa, .inl (cA, 6, .inr (.inr (.inr (.inr (fun _ => none)))))), (q_cl, .inl (cI, 4, .inl (fun _ => (0 : Int32)))), (q_fu, .inr (kFuse, [.int (-1 : Int32)]))] := hD.sub [0, 1, 2, 3] (by decide) rfl
  generalize H1 = H at hP hS ⊢
  refine va_putF (D := (dC, dI)) (ci := kVault) (v := .ref q_fu) (ty := (.object "LabelVault$Fuse")) (C := R_Vault) (T := T_Vault) (N := 4) hx hb hts (fun w h => List.mem_cons_of_mem _ (in_Vault w h)) ty_Vault tyok_Vault nm_Vault hown hK hP hD hS 0 rfl rfl 3 (by decide) (jv_w hts wa_348) (fun _ h9 => h9) rfl hin rfl (by decide +kernel) rfl rfl (Nat.le_of_ble_eq_true rfl) d_V_init_33 (fun H locs hP hD hS => ?_)
  have hP : va_P (dC, dI) vwCl [(q_va, .inr (kVault, [.ref q_aa, .int (0 : Int32), .ref q_cl, .ref q_fu])), (q_aa, .inl (cA, 6, .inr (.inr (.inr (.inr (fun _ => none)))))), (q_cl, .inl (cI, 4, .inl (fun _ => (0 : Int32)))), (q_fu, .inr (kFuse, [.int (-1 : Int32)]))] H := hP
  have hD : va_D A [(q_va, .inr (kVault, [.ref q_aa, .int (0 : Int32), .ref q_cl, .ref q_fu])), (q_aa, .inl (cA, 6, .inr (.inr (.inr (.inr (fun _ => none)))))), (q_cl, .inl (cI, 4, .inl (fun _ => (0 : Int32)))), (q_fu, .inr (kFuse, [.int (-1 : Int32)]))] := hD
  refine W.widen (k := 3) (n := 11) (Nat.le_of_ble_eq_true rfl) (Nat.le_of_ble_eq_true rfl) ?_
  exact W.vret hx hb hr (fun t ht hW => ⟨rfl, ⟨q_aa, q_cl, q_fu, by rw [ht]; exact hP, hD⟩, hS.F ht⟩) hS.2.2 d_V_init_36
theorem d_M_init_0 : decode cc_M_init 0 = .ok (.aload_n 0, 1) := by decide +kernel
theorem d_M_init_1 : decode cc_M_init 1 = .ok (.invokespecial 1, 3) := by decide +kernel
theorem d_M_init_4 : decode cc_M_init 4 = .ok (.aload_n 0, 1) := by decide +kernel
theorem d_M_init_5 : decode cc_M_init 5 = .ok (.bipush 6, 2) := by decide +kernel
theorem d_M_init_7 : decode cc_M_init 7 = .ok (.newarray .int, 2) := by decide +kernel
theorem d_M_init_9 : decode cc_M_init 9 = .ok (.putfield 7, 3) := by decide +kernel
theorem d_M_init_12 : decode cc_M_init 12 = .ok (.aload_n 0, 1) := by decide +kernel
theorem d_M_init_13 : decode cc_M_init 13 = .ok (.iconst 4, 1) := by decide +kernel
theorem d_M_init_14 : decode cc_M_init 14 = .ok (.newarray .int, 2) := by decide +kernel
theorem d_M_init_16 : decode cc_M_init 16 = .ok (.putfield 13, 3) := by decide +kernel
theorem d_M_init_19 : decode cc_M_init 19 = .ok (.aload_n 0, 1) := by decide +kernel
theorem d_M_init_20 : decode cc_M_init 20 = .ok (.bipush 24, 2) := by decide +kernel
theorem d_M_init_22 : decode cc_M_init 22 = .ok (.newarray .int, 2) := by decide +kernel
theorem d_M_init_24 : decode cc_M_init 24 = .ok (.putfield 16, 3) := by decide +kernel
theorem d_M_init_27 : decode cc_M_init 27 = .ok (.aload_n 0, 1) := by decide +kernel
theorem d_M_init_28 : decode cc_M_init 28 = .ok (.bipush 6, 2) := by decide +kernel
theorem d_M_init_30 : decode cc_M_init 30 = .ok (.newarray .int, 2) := by decide +kernel
theorem d_M_init_32 : decode cc_M_init 32 = .ok (.putfield 19, 3) := by decide +kernel
theorem d_M_init_35 : decode cc_M_init 35 = .ok (.aload_n 0, 1) := by decide +kernel
theorem d_M_init_36 : decode cc_M_init 36 = .ok (.sipush 1392, 3) := by decide +kernel
theorem d_M_init_39 : decode cc_M_init 39 = .ok (.newarray .int, 2) := by decide +kernel
theorem d_M_init_41 : decode cc_M_init 41 = .ok (.putfield 22, 3) := by decide +kernel
theorem d_M_init_44 : decode cc_M_init 44 = .ok (.aload_n 0, 1) := by decide +kernel
theorem d_M_init_45 : decode cc_M_init 45 = .ok (.sipush 232, 3) := by decide +kernel
theorem d_M_init_48 : decode cc_M_init 48 = .ok (.newarray .int, 2) := by decide +kernel
theorem d_M_init_50 : decode cc_M_init 50 = .ok (.putfield 25, 3) := by decide +kernel
theorem d_M_init_53 : decode cc_M_init 53 = .ok (.aload_n 0, 1) := by decide +kernel
theorem d_M_init_54 : decode cc_M_init 54 = .ok (.iconst (-1), 1) := by decide +kernel
theorem d_M_init_55 : decode cc_M_init 55 = .ok (.putfield 28, 3) := by decide +kernel
theorem d_M_init_58 : decode cc_M_init 58 = .ok (.return_, 1) := by decide +kernel
set_option maxHeartbeats 1000000 in
set_option maxRecDepth 100000 in
theorem c_M_init (l : Launch) (dC : Nat → ClassId) (dI : Nat → Nat → Nat) (cI cA cL : ClassId) (q_mo : Nat) (sz : Nat) : Met l y_M_init ws_M_init rm_M_init (jv_Pw [.ref q_mo] (dC, dI) (jv_ty cI cA cL) [(q_mo, .inr (kModel, [.int (0 : Int32), .int (0 : Int32), .null, .null, .null, .null, .null, .null, .int (0 : Int32)]))] sz) (jv_Qn (fun H9 => ∃ q_mlb_ q_mcl_ q_mus_ q_mwr_ q_mdk_ q_mcp_ : Nat, va_P (dC, dI) vwCl [(q_mo, .inr (kModel, [.int (0 : Int32), .int (0 : Int32), .ref q_mlb_, .ref q_mcl_, .ref q_mus_, .ref q_mwr_, .ref q_mdk_, .ref q_mcp_, .int (-1 : Int32)])), (q_mlb_, .inl (cI, 6, .inl (fun _ => (0 : Int32)))), (q_mcl_, .inl (cI, 4, .inl (fun _ => (0 : Int32)))), (q_mus_, .inl (cI, 24, .inl (fun _ => (0 : Int32)))), (q_mwr_, .inl (cI, 6, .inl (fun _ => (0 : Int32)))), (q_mdk_, .inl (cI, 1392, .inl (fun _ => (0 : Int32)))), (q_mcp_, .inl (cI, 232, .inl (fun _ => (0 : Int32))))] H9 ∧ va_D (va_A [(q_mo, .inr (kModel, [.int (0 : Int32), .int (0 : Int32), .null, .null, .null, .null, .null, .null, .int (0 : Int32)]))] sz) [(q_mo, .inr (kModel, [.int (0 : Int32), .int (0 : Int32), .ref q_mlb_, .ref q_mcl_, .ref q_mus_, .ref q_mwr_, .ref q_mdk_, .ref q_mcp_, .int (-1 : Int32)])), (q_mlb_, .inl (cI, 6, .inl (fun _ => (0 : Int32)))), (q_mcl_, .inl (cI, 4, .inl (fun _ => (0 : Int32)))), (q_mus_, .inl (cI, 24, .inl (fun _ => (0 : Int32)))), (q_mwr_, .inl (cI, 6, .inl (fun _ => (0 : Int32)))), (q_mdk_, .inl (cI, 1392, .inl (fun _ => (0 : Int32)))), (q_mcp_, .inl (cI, 232, .inl (fun _ => (0 : Int32))))]) (va_A [(q_mo, .inr (kModel, [.int (0 : Int32), .int (0 : Int32), .null, .null, .null, .null, .null, .null, .int (0 : Int32)]))] sz)) 6 1664 (va_A [(q_mo, .inr (kModel, [.int (0 : Int32), .int (0 : Int32), .null, .null, .null, .null, .null, .null, .int (0 : Int32)]))] sz) := by
  refine Met.ofW (cc := cc_M_init) (maxL := 1) (ret := none) (by decide) rfl ?_
  intro p e s m args below meth c s₁ B hml hv
  obtain ⟨rfl, hsz, hP, hK, hD0⟩ := hv
  have hx := B.exec
  have hb := B.bytes
  have hr := B.returns
  have hts := atoms_spec (ws := ws_M_init) B.pre
  have hown : s.vm.findClass R_Model = some m.cls := findClass_of_methodNamed B.named
  have hlocks := B.notSynchronized
  have hin : meth.name = "<init>" := (name_of_methodNamed B.named B.method).1
  subst hsz
  have hD := hD0.self (sz := s.heap.size)
  generalize hAe : va_A [(q_mo, .inr (kModel, [.int (0 : Int32), .int (0 : Int32), .null, .null, .null, .null, .null, .null, .int (0 : Int32)]))] s.heap.size = A at hD ⊢
  have hA : ∀ q : Nat, s.heap.size ≤ q → A q := fun q h => by rw [← hAe]; exact Or.inr h
  have hS : va_S A s.heap s.heap [] := va_S.rf
  have hl := lv_entry ([.ref q_mo]) (n := 1) (Nat.le_of_ble_eq_true rfl)
  rw [lg_entry_eq]
  generalize (lg_sl ([.ref q_mo]) ++ List.replicate (1 - (lg_sl ([.ref q_mo])).length) Slot.unset).toArray = ls at hl ⊢
  have hl : lv_has ls 1 [(0, .ref q_mo)] := hl
  refine lv_aload_n hx hb d_M_init_0 rfl (lv_at hl 0 rfl) ?_
  refine W.objInit hx hb hown (jv_w hts wa_506) (jv_w hts wa_478) (jv_w hts wa_479) rfl (by rw [hml]; exact hl.1) rfl d_M_init_1 (Nat.le_of_ble_eq_true rfl) (Nat.le_of_ble_eq_true rfl) ?_
  refine W.eq (g2 := F0 m 4 ls []) rfl ?_
  refine lv_aload_n hx hb d_M_init_4 rfl (lv_at hl 0 rfl) ?_
  refine lv_bipush (v := (6 : Int32)) hx hb d_M_init_5 (by decide) ?_
  refine va_newa (atype := .int) (a0 := (6, .inl (fun _ => 0))) (N' := 6) hx hb (jv_w hts wa_483) rfl hK hP hD hS hA (fun _ => rfl) (by decide) (by decide) (by decide) (Nat.le_of_ble_eq_true rfl) (Nat.le_of_ble_eq_true rfl) d_M_init_7 (fun q_mlb_ c9 H hK9 hP hD hS => ?_)
  obtain rfl := jv_cI hK9
  have hP : va_P (dC, dI) vwCl [(q_mo, .inr (kModel, [.int (0 : Int32), .int (0 : Int32), .null, .null, .null, .null, .null, .null, .int (0 : Int32)])), (q_mlb_, .inl (cI, 6, .inl (fun _ => (0 : Int32))))] H := hP
  have hD : va_D A [(q_mo, .inr (kModel, [.int (0 : Int32), .int (0 : Int32), .null, .null, .null, .null, .null, .null, .int (0 : Int32)])), (q_mlb_, .inl (cI, 6, .inl (fun _ => (0 : Int32))))] := hD
  refine va_putF (D := (dC, dI)) (ci := kModel) (v := .ref q_mlb_) (ty := (.array .int)) (C := R_Model) (T := T_Model) (N := 9) hx hb hts (fun w h => List.mem_cons_of_mem _ (in_Model w h)) ty_Model tyok_Model nm_Model hown hK hP hD hS 0 rfl rfl 2 (by decide) (jv_w hts wa_215) (fun _ h9 => h9) rfl hin rfl (by decide +kernel) rfl rfl (Nat.le_of_ble_eq_true rfl) d_M_init_9 (fun H locs hP hD hS => ?_)
  have hP : va_P (dC, dI) vwCl [(q_mo, .inr (kModel, [.int (0 : Int32), .int (0 : Int32), .ref q_mlb_, .null, .null, .null, .null, .null, .int (0 : Int32)])), (q_mlb_, .inl (cI, 6, .inl (fun _ => (0 : Int32))))] H := hP
  have hD : va_D A [(q_mo, .inr (kModel, [.int (0 : Int32), .int (0 : Int32), .ref q_mlb_, .null, .null, .null, .null, .null, .int (0 : Int32)])), (q_mlb_, .inl (cI, 6, .inl (fun _ => (0 : Int32))))] := hD
  refine lv_aload_n hx hb d_M_init_12 rfl (lv_at hl 0 rfl) ?_
  refine lv_iconst (v := (4 : Int32)) hx hb d_M_init_13 (by decide) ?_
  refine va_newa (atype := .int) (a0 := (4, .inl (fun _ => 0))) (N' := 4) hx hb (jv_w hts wa_483) rfl hK hP hD hS hA (fun _ => rfl) (by decide) (by decide) (by decide) (Nat.le_of_ble_eq_true rfl) (Nat.le_of_ble_eq_true rfl) d_M_init_14 (fun q_mcl_ c9 H hK9 hP hD hS => ?_)
  obtain rfl := jv_cI hK9
  have hP : va_P (dC, dI) vwCl [(q_mo, .inr (kModel, [.int (0 : Int32), .int (0 : Int32), .ref q_mlb_, .null, .null, .null, .null, .null, .int (0 : Int32)])), (q_mlb_, .inl (cI, 6, .inl (fun _ => (0 : Int32)))), (q_mcl_, .inl (cI, 4, .inl (fun _ => (0 : Int32))))] H := hP
  have hD : va_D A [(q_mo, .inr (kModel, [.int (0 : Int32), .int (0 : Int32), .ref q_mlb_, .null, .null, .null, .null, .null, .int (0 : Int32)])), (q_mlb_, .inl (cI, 6, .inl (fun _ => (0 : Int32)))), (q_mcl_, .inl (cI, 4, .inl (fun _ => (0 : Int32))))] := hD
  refine va_putF (D := (dC, dI)) (ci := kModel) (v := .ref q_mcl_) (ty := (.array .int)) (C := R_Model) (T := T_Model) (N := 9) hx hb hts (fun w h => List.mem_cons_of_mem _ (in_Model w h)) ty_Model tyok_Model nm_Model hown hK hP hD hS 0 rfl rfl 3 (by decide) (jv_w hts wa_246) (fun _ h9 => h9) rfl hin rfl (by decide +kernel) rfl rfl (Nat.le_of_ble_eq_true rfl) d_M_init_16 (fun H locs hP hD hS => ?_)
  have hP : va_P (dC, dI) vwCl [(q_mo, .inr (kModel, [.int (0 : Int32), .int (0 : Int32), .ref q_mlb_, .ref q_mcl_, .null, .null, .null, .null, .int (0 : Int32)])), (q_mlb_, .inl (cI, 6, .inl (fun _ => (0 : Int32)))), (q_mcl_, .inl (cI, 4, .inl (fun _ => (0 : Int32))))] H := hP
  have hD : va_D A [(q_mo, .inr (kModel, [.int (0 : Int32), .int (0 : Int32), .ref q_mlb_, .ref q_mcl_, .null, .null, .null, .null, .int (0 : Int32)])), (q_mlb_, .inl (cI, 6, .inl (fun _ => (0 : Int32)))), (q_mcl_, .inl (cI, 4, .inl (fun _ => (0 : Int32))))] := hD
  refine lv_aload_n hx hb d_M_init_19 rfl (lv_at hl 0 rfl) ?_
  refine lv_bipush (v := (24 : Int32)) hx hb d_M_init_20 (by decide) ?_
  refine va_newa (atype := .int) (a0 := (24, .inl (fun _ => 0))) (N' := 24) hx hb (jv_w hts wa_483) rfl hK hP hD hS hA (fun _ => rfl) (by decide) (by decide) (by decide) (Nat.le_of_ble_eq_true rfl) (Nat.le_of_ble_eq_true rfl) d_M_init_22 (fun q_mus_ c9 H hK9 hP hD hS => ?_)
  obtain rfl := jv_cI hK9
  have hP : va_P (dC, dI) vwCl [(q_mo, .inr (kModel, [.int (0 : Int32), .int (0 : Int32), .ref q_mlb_, .ref q_mcl_, .null, .null, .null, .null, .int (0 : Int32)])), (q_mlb_, .inl (cI, 6, .inl (fun _ => (0 : Int32)))), (q_mcl_, .inl (cI, 4, .inl (fun _ => (0 : Int32)))), (q_mus_, .inl (cI, 24, .inl (fun _ => (0 : Int32))))] H := hP
  have hD : va_D A [(q_mo, .inr (kModel, [.int (0 : Int32), .int (0 : Int32), .ref q_mlb_, .ref q_mcl_, .null, .null, .null, .null, .int (0 : Int32)])), (q_mlb_, .inl (cI, 6, .inl (fun _ => (0 : Int32)))), (q_mcl_, .inl (cI, 4, .inl (fun _ => (0 : Int32)))), (q_mus_, .inl (cI, 24, .inl (fun _ => (0 : Int32))))] := hD
  refine va_putF (D := (dC, dI)) (ci := kModel) (v := .ref q_mus_) (ty := (.array .int)) (C := R_Model) (T := T_Model) (N := 9) hx hb hts (fun w h => List.mem_cons_of_mem _ (in_Model w h)) ty_Model tyok_Model nm_Model hown hK hP hD hS 0 rfl rfl 4 (by decide) (jv_w hts wa_202) (fun _ h9 => h9) rfl hin rfl (by decide +kernel) rfl rfl (Nat.le_of_ble_eq_true rfl) d_M_init_24 (fun H locs hP hD hS => ?_)
  have hP : va_P (dC, dI) vwCl [(q_mo, .inr (kModel, [.int (0 : Int32), .int (0 : Int32), .ref q_mlb_, .ref q_mcl_, .ref q_mus_, .null, .null, .null, .int (0 : Int32)])), (q_mlb_, .inl (cI, 6, .inl (fun _ => (0 : Int32)))), (q_mcl_, .inl (cI, 4, .inl (fun _ => (0 : Int32)))), (q_mus_, .inl (cI, 24, .inl (fun _ => (0 : Int32))))] H := hP
  have hD : va_D A [(q_mo, .inr (kModel, [.int (0 : Int32), .int (0 : Int32), .ref q_mlb_, .ref q_mcl_, .ref q_mus_, .null, .null, .null, .int (0 : Int32)])), (q_mlb_, .inl (cI, 6, .inl (fun _ => (0 : Int32)))), (q_mcl_, .inl (cI, 4, .inl (fun _ => (0 : Int32)))), (q_mus_, .inl (cI, 24, .inl (fun _ => (0 : Int32))))] := hD
  refine lv_aload_n hx hb d_M_init_27 rfl (lv_at hl 0 rfl) ?_
  refine lv_bipush (v := (6 : Int32)) hx hb d_M_init_28 (by decide) ?_
  refine va_newa (atype := .int) (a0 := (6, .inl (fun _ => 0))) (N' := 6) hx hb (jv_w hts wa_483) rfl hK hP hD hS hA (fun _ => rfl) (by decide) (by decide) (by decide) (Nat.le_of_ble_eq_true rfl) (Nat.le_of_ble_eq_true rfl) d_M_init_30 (fun q_mwr_ c9 H hK9 hP hD hS => ?_)
  obtain rfl := jv_cI hK9
  have hP : va_P (dC, dI) vwCl [(q_mo, .inr (kModel, [.int (0 : Int32), .int (0 : Int32), .ref q_mlb_, .ref q_mcl_, .ref q_mus_, .null, .null, .null, .int (0 : Int32)])), (q_mlb_, .inl (cI, 6, .inl (fun _ => (0 : Int32)))), (q_mcl_, .inl (cI, 4, .inl (fun _ => (0 : Int32)))), (q_mus_, .inl (cI, 24, .inl (fun _ => (0 : Int32)))), (q_mwr_, .inl (cI, 6, .inl (fun _ => (0 : Int32))))] H := hP
  have hD : va_D A [(q_mo, .inr (kModel, [.int (0 : Int32), .int (0 : Int32), .ref q_mlb_, .ref q_mcl_, .ref q_mus_, .null, .null, .null, .int (0 : Int32)])), (q_mlb_, .inl (cI, 6, .inl (fun _ => (0 : Int32)))), (q_mcl_, .inl (cI, 4, .inl (fun _ => (0 : Int32)))), (q_mus_, .inl (cI, 24, .inl (fun _ => (0 : Int32)))), (q_mwr_, .inl (cI, 6, .inl (fun _ => (0 : Int32))))] := hD
  refine va_putF (D := (dC, dI)) (ci := kModel) (v := .ref q_mwr_) (ty := (.array .int)) (C := R_Model) (T := T_Model) (N := 9) hx hb hts (fun w h => List.mem_cons_of_mem _ (in_Model w h)) ty_Model tyok_Model nm_Model hown hK hP hD hS 0 rfl rfl 5 (by decide) (jv_w hts wa_248) (fun _ h9 => h9) rfl hin rfl (by decide +kernel) rfl rfl (Nat.le_of_ble_eq_true rfl) d_M_init_32 (fun H locs hP hD hS => ?_)
  have hP : va_P (dC, dI) vwCl [(q_mo, .inr (kModel, [.int (0 : Int32), .int (0 : Int32), .ref q_mlb_, .ref q_mcl_, .ref q_mus_, .ref q_mwr_, .null, .null, .int (0 : Int32)])), (q_mlb_, .inl (cI, 6, .inl (fun _ => (0 : Int32)))), (q_mcl_, .inl (cI, 4, .inl (fun _ => (0 : Int32)))), (q_mus_, .inl (cI, 24, .inl (fun _ => (0 : Int32)))), (q_mwr_, .inl (cI, 6, .inl (fun _ => (0 : Int32))))] H := hP
  have hD : va_D A [(q_mo, .inr (kModel, [.int (0 : Int32), .int (0 : Int32), .ref q_mlb_, .ref q_mcl_, .ref q_mus_, .ref q_mwr_, .null, .null, .int (0 : Int32)])), (q_mlb_, .inl (cI, 6, .inl (fun _ => (0 : Int32)))), (q_mcl_, .inl (cI, 4, .inl (fun _ => (0 : Int32)))), (q_mus_, .inl (cI, 24, .inl (fun _ => (0 : Int32)))), (q_mwr_, .inl (cI, 6, .inl (fun _ => (0 : Int32))))] := hD
  refine lv_aload_n hx hb d_M_init_35 rfl (lv_at hl 0 rfl) ?_
  refine lv_sipush (v := (1392 : Int32)) hx hb d_M_init_36 (by decide) ?_
  refine va_newa (atype := .int) (a0 := (1392, .inl (fun _ => 0))) (N' := 1392) hx hb (jv_w hts wa_483) rfl hK hP hD hS hA (fun _ => rfl) (by decide) (by decide) (by decide) (Nat.le_of_ble_eq_true rfl) (Nat.le_of_ble_eq_true rfl) d_M_init_39 (fun q_mdk_ c9 H hK9 hP hD hS => ?_)
  obtain rfl := jv_cI hK9
  have hP : va_P (dC, dI) vwCl [(q_mo, .inr (kModel, [.int (0 : Int32), .int (0 : Int32), .ref q_mlb_, .ref q_mcl_, .ref q_mus_, .ref q_mwr_, .null, .null, .int (0 : Int32)])), (q_mlb_, .inl (cI, 6, .inl (fun _ => (0 : Int32)))), (q_mcl_, .inl (cI, 4, .inl (fun _ => (0 : Int32)))), (q_mus_, .inl (cI, 24, .inl (fun _ => (0 : Int32)))), (q_mwr_, .inl (cI, 6, .inl (fun _ => (0 : Int32)))), (q_mdk_, .inl (cI, 1392, .inl (fun _ => (0 : Int32))))] H := hP
  have hD : va_D A [(q_mo, .inr (kModel, [.int (0 : Int32), .int (0 : Int32), .ref q_mlb_, .ref q_mcl_, .ref q_mus_, .ref q_mwr_, .null, .null, .int (0 : Int32)])), (q_mlb_, .inl (cI, 6, .inl (fun _ => (0 : Int32)))), (q_mcl_, .inl (cI, 4, .inl (fun _ => (0 : Int32)))), (q_mus_, .inl (cI, 24, .inl (fun _ => (0 : Int32)))), (q_mwr_, .inl (cI, 6, .inl (fun _ => (0 : Int32)))), (q_mdk_, .inl (cI, 1392, .inl (fun _ => (0 : Int32))))] := hD
  refine va_putF (D := (dC, dI)) (ci := kModel) (v := .ref q_mdk_) (ty := (.array .int)) (C := R_Model) (T := T_Model) (N := 9) hx hb hts (fun w h => List.mem_cons_of_mem _ (in_Model w h)) ty_Model tyok_Model nm_Model hown hK hP hD hS 0 rfl rfl 6 (by decide) (jv_w hts wa_203) (fun _ h9 => h9) rfl hin rfl (by decide +kernel) rfl rfl (Nat.le_of_ble_eq_true rfl) d_M_init_41 (fun H locs hP hD hS => ?_)
  have hP : va_P (dC, dI) vwCl [(q_mo, .inr (kModel, [.int (0 : Int32), .int (0 : Int32), .ref q_mlb_, .ref q_mcl_, .ref q_mus_, .ref q_mwr_, .ref q_mdk_, .null, .int (0 : Int32)])), (q_mlb_, .inl (cI, 6, .inl (fun _ => (0 : Int32)))), (q_mcl_, .inl (cI, 4, .inl (fun _ => (0 : Int32)))), (q_mus_, .inl (cI, 24, .inl (fun _ => (0 : Int32)))), (q_mwr_, .inl (cI, 6, .inl (fun _ => (0 : Int32)))), (q_mdk_, .inl (cI, 1392, .inl (fun _ => (0 : Int32))))] H := hP
  have hD : va_D A [(q_mo, .inr (kModel, [.int (0 : Int32), .int (0 : Int32), .ref q_mlb_, .ref q_mcl_, .ref q_mus_, .ref q_mwr_, .ref q_mdk_, .null, .int (0 : Int32)])), (q_mlb_, .inl (cI, 6, .inl (fun _ => (0 : Int32)))), (q_mcl_, .inl (cI, 4, .inl (fun _ => (0 : Int32)))), (q_mus_, .inl (cI, 24, .inl (fun _ => (0 : Int32)))), (q_mwr_, .inl (cI, 6, .inl (fun _ => (0 : Int32)))), (q_mdk_, .inl (cI, 1392, .inl (fun _ => (0 : Int32))))] := hD
  refine lv_aload_n hx hb d_M_init_44 rfl (lv_at hl 0 rfl) ?_
  refine lv_sipush (v := (232 : Int32)) hx hb d_M_init_45 (by decide) ?_
  refine va_newa (atype := .int) (a0 := (232, .inl (fun _ => 0))) (N' := 232) hx hb (jv_w hts wa_483) rfl hK hP hD hS hA (fun _ => rfl) (by decide) (by decide) (by decide) (Nat.le_of_ble_eq_true rfl) (Nat.le_of_ble_eq_true rfl) d_M_init_48 (fun q_mcp_ c9 H hK9 hP hD hS => ?_)
  obtain rfl := jv_cI hK9
  have hP : va_P (dC, dI) vwCl [(q_mo, .inr (kModel, [.int (0 : Int32), .int (0 : Int32), .ref q_mlb_, .ref q_mcl_, .ref q_mus_, .ref q_mwr_, .ref q_mdk_, .null, .int (0 : Int32)])), (q_mlb_, .inl (cI, 6, .inl (fun _ => (0 : Int32)))), (q_mcl_, .inl (cI, 4, .inl (fun _ => (0 : Int32)))), (q_mus_, .inl (cI, 24, .inl (fun _ => (0 : Int32)))), (q_mwr_, .inl (cI, 6, .inl (fun _ => (0 : Int32)))), (q_mdk_, .inl (cI, 1392, .inl (fun _ => (0 : Int32)))), (q_mcp_, .inl (cI, 232, .inl (fun _ => (0 : Int32))))] H := hP
  have hD : va_D A [(q_mo, .inr (kModel, [.int (0 : Int32), .int (0 : Int32), .ref q_mlb_, .ref q_mcl_, .ref q_mus_, .ref q_mwr_, .ref q_mdk_, .null, .int (0 : Int32)])), (q_mlb_, .inl (cI, 6, .inl (fun _ => (0 : Int32)))), (q_mcl_, .inl (cI, 4, .inl (fun _ => (0 : Int32)))), (q_mus_, .inl (cI, 24, .inl (fun _ => (0 : Int32)))), (q_mwr_, .inl (cI, 6, .inl (fun _ => (0 : Int32)))), (q_mdk_, .inl (cI, 1392, .inl (fun _ => (0 : Int32)))), (q_mcp_, .inl (cI, 232, .inl (fun _ => (0 : Int32))))] := hD
  refine va_putF (D := (dC, dI)) (ci := kModel) (v := .ref q_mcp_) (ty := (.array .int)) (C := R_Model) (T := T_Model) (N := 9) hx hb hts (fun w h => List.mem_cons_of_mem _ (in_Model w h)) ty_Model tyok_Model nm_Model hown hK hP hD hS 0 rfl rfl 7 (by decide) (jv_w hts wa_238) (fun _ h9 => h9) rfl hin rfl (by decide +kernel) rfl rfl (Nat.le_of_ble_eq_true rfl) d_M_init_50 (fun H locs hP hD hS => ?_)
  have hP : va_P (dC, dI) vwCl [(q_mo, .inr (kModel, [.int (0 : Int32), .int (0 : Int32), .ref q_mlb_, .ref q_mcl_, .ref q_mus_, .ref q_mwr_, .ref q_mdk_, .ref q_mcp_, .int (0 : Int32)])), (q_mlb_, .inl (cI, 6, .inl (fun _ => (0 : Int32)))), (q_mcl_, .inl (cI, 4, .inl (fun _ => (0 : Int32)))), (q_mus_, .inl (cI, 24, .inl (fun _ => (0 : Int32)))), (q_mwr_, .inl (cI, 6, .inl (fun _ => (0 : Int32)))), (q_mdk_, .inl (cI, 1392, .inl (fun _ => (0 : Int32)))), (q_mcp_, .inl (cI, 232, .inl (fun _ => (0 : Int32))))] H := hP
  have hD : va_D A [(q_mo, .inr (kModel, [.int (0 : Int32), .int (0 : Int32), .ref q_mlb_, .ref q_mcl_, .ref q_mus_, .ref q_mwr_, .ref q_mdk_, .ref q_mcp_, .int (0 : Int32)])), (q_mlb_, .inl (cI, 6, .inl (fun _ => (0 : Int32)))), (q_mcl_, .inl (cI, 4, .inl (fun _ => (0 : Int32)))), (q_mus_, .inl (cI, 24, .inl (fun _ => (0 : Int32)))), (q_mwr_, .inl (cI, 6, .inl (fun _ => (0 : Int32)))), (q_mdk_, .inl (cI, 1392, .inl (fun _ => (0 : Int32)))), (q_mcp_, .inl (cI, 232, .inl (fun _ => (0 : Int32))))] := hD
  refine lv_aload_n hx hb d_M_init_53 rfl (lv_at hl 0 rfl) ?_
  refine lv_iconst (v := (-1 : Int32)) hx hb d_M_init_54 (by decide) ?_
  refine va_put (D := (dC, dI)) (ci := kModel) (v := .int (-1 : Int32)) (ty := .int) (C := R_Model) (T := T_Model) (N := 9) hx hb hts (fun w h => List.mem_cons_of_mem _ (in_Model w h)) ty_Model tyok_Model nm_Model hown hK hP hD hS 0 rfl rfl 8 (by decide) (jv_w hts wa_247) (fun _ h9 => h9) rfl (by decide +kernel) rfl rfl (Nat.le_of_ble_eq_true rfl) d_M_init_55 (fun H locs hP hD hS => ?_)
  have hP : va_P (dC, dI) vwCl [(q_mo, .inr (kModel, [.int (0 : Int32), .int (0 : Int32), .ref q_mlb_, .ref q_mcl_, .ref q_mus_, .ref q_mwr_, .ref q_mdk_, .ref q_mcp_, .int (-1 : Int32)])), (q_mlb_, .inl (cI, 6, .inl (fun _ => (0 : Int32)))), (q_mcl_, .inl (cI, 4, .inl (fun _ => (0 : Int32)))), (q_mus_, .inl (cI, 24, .inl (fun _ => (0 : Int32)))), (q_mwr_, .inl (cI, 6, .inl (fun _ => (0 : Int32)))), (q_mdk_, .inl (cI, 1392, .inl (fun _ => (0 : Int32)))), (q_mcp_, .inl (cI, 232, .inl (fun _ => (0 : Int32))))] H := hP
  have hD : va_D A [(q_mo, .inr (kModel, [.int (0 : Int32), .int (0 : Int32), .ref q_mlb_, .ref q_mcl_, .ref q_mus_, .ref q_mwr_, .ref q_mdk_, .ref q_mcp_, .int (-1 : Int32)])), (q_mlb_, .inl (cI, 6, .inl (fun _ => (0 : Int32)))), (q_mcl_, .inl (cI, 4, .inl (fun _ => (0 : Int32)))), (q_mus_, .inl (cI, 24, .inl (fun _ => (0 : Int32)))), (q_mwr_, .inl (cI, 6, .inl (fun _ => (0 : Int32)))), (q_mdk_, .inl (cI, 1392, .inl (fun _ => (0 : Int32)))), (q_mcp_, .inl (cI, 232, .inl (fun _ => (0 : Int32))))] := hD
  refine W.widen (k := 6) (n := 1664) (Nat.le_of_ble_eq_true rfl) (Nat.le_of_ble_eq_true rfl) ?_
  exact W.vret hx hb hr (fun t ht hW => ⟨rfl, ⟨q_mlb_, q_mcl_, q_mus_, q_mwr_, q_mdk_, q_mcp_, by rw [ht]; exact hP, hD⟩, hS.F ht⟩) hS.2.2 d_M_init_58
