theorem d_T_kindOf_0 : decode cc_T_kindOf 0 = .ok (.aload_n 0, 1) := by decide +kernel
theorem d_T_kindOf_1 : decode cc_T_kindOf 1 = .ok (.getfield 9, 3) := by decide +kernel
theorem d_T_kindOf_4 : decode cc_T_kindOf 4 = .ok (.iload_n 1, 1) := by decide +kernel
theorem d_T_kindOf_5 : decode cc_T_kindOf 5 = .ok (.iconst 0, 1) := by decide +kernel
theorem d_T_kindOf_6 : decode cc_T_kindOf 6 = .ok (.invokevirtual 15, 3) := by decide +kernel
theorem d_T_kindOf_9 : decode cc_T_kindOf 9 = .ok (.ireturn, 1) := by decide +kernel
def f_T_kindOf_0 (vD : Nat → Int32) (y0 : Int32) : Option (Int32) :=
  (f_D_inodeWord vD y0 (0 : Int32)).bind fun x1 => some x1
set_option maxHeartbeats 4000000 in
set_option maxRecDepth 100000 in
theorem b_T_kindOf_0 {l : Launch} {dC : Nat → ClassId} {dI : Nat → Nat → Nat} {cI cA cL : ClassId} {q_tr q_di q_pl q_dr q_jo : Nat} {vjn : Int32} {vmk : Int32} {vwr : Int32} {vP : Nat → Int32} {vD : Nat → Int32} {vJ : Nat → Int32} {p : Program} {e : Env} {s : State} {m : MethodId} {args : Array Value} {below : List Frame} {meth : Method} {c : Code} (cx : jv_cx p s m args meth c cc_T_kindOf 2 R_Tree (some .int) ws_T_kindOf) (hK : va_K (dC, dI) vwCl (jv_ty cI cA cL) s) (hP : va_P (dC, dI) vwCl (w_tree cI q_tr q_di q_pl q_dr q_jo vjn vmk vwr vP vD vJ) s.heap) {r : Int32} {y0 : Int32} {ls : Array Slot} (hl : lv_has ls 2 [(0, .ref q_tr), (1, .int y0)]) (hf : f_T_kindOf_0 vD y0 = some r) : W p l e rm_T_kindOf s m args below meth c s.heap [] 0 0 (MQ below (QcRead r) args s 0 0 (fun _ => False)) (F0 m 0 ls []) := by
  unfold f_T_kindOf_0 at hf
  obtain ⟨hx, hb, hml, hown, hts, hr, hlocks⟩ := id cx
  refine lv_aload_n hx hb d_T_kindOf_0 rfl (lv_at hl 0 rfl) ?_
  refine va_get (D := (dC, dI)) (ci := kTree) (v := .ref q_di) (C := R_Tree) (T := T_Tree) (N := 1) hx hb hts (fun w h => List.mem_cons_of_mem _ (in_Tree w h)) hown hK hP 0 rfl rfl 0 (by decide) (jv_w hts wa_67) (fun _ h9 => h9) rfl d_T_kindOf_1 ?_
  refine lv_iload_n hx hb d_T_kindOf_4 rfl (lv_at hl 1 rfl) ?_
  refine lv_iconst (v := (0 : Int32)) hx hb d_T_kindOf_5 (by decide) ?_
  obtain ⟨x1, g2, hf⟩ := jv_ob hf
  have hPc := hP.sub (ws' := (w_disk cI q_di q_pl q_dr q_jo vjn vmk vwr vP vD vJ)) [1, 2, 3, 4] rfl
  refine jv_cs (W.runV (As := [.int y0, .int (0 : Int32)]) (rest := []) (b := q_di) ⟨hx, hb, hml, hown, hts⟩ (c_D_inodeWord l dC dI cI cA cL q_di q_pl q_dr q_jo vjn vmk vwr vP vD vJ y0 (0 : Int32) x1 g2) (jv_cwV hts wa_68 wa_29 wa_69 wa_70 wa_71 rfl rfl yd_D_inodeWord ⟨Nat.le_of_ble_eq_true rfl, Nat.le_of_ble_eq_true rfl⟩) (jv_preV hK hPc 0 rfl rfl) rfl rfl hl.1 rfl (lv_room (Nat.le_of_ble_eq_true rfl)) d_T_kindOf_6 ⟨Nat.zero_le _, Nat.zero_le _⟩) ?_
  obtain rfl := Option.some.inj hf
  exact W.iret hx hb hr (fun t ht hW => ⟨rfl, ht⟩) (fun q h => by cases h) d_T_kindOf_9
def f_T_kindOf (vD : Nat → Int32) (a0 : Int32) : Option (Int32) := f_T_kindOf_0 vD a0
set_option maxHeartbeats 4000000 in
set_option maxRecDepth 100000 in
theorem c_T_kindOf (l : Launch) (dC : Nat → ClassId) (dI : Nat → Nat → Nat) (cI cA cL : ClassId) (q_tr q_di q_pl q_dr q_jo : Nat) (vjn : Int32) (vmk : Int32) (vwr : Int32) (vP : Nat → Int32) (vD : Nat → Int32) (vJ : Nat → Int32) (a0 : Int32) (r : Int32) (hf : f_T_kindOf vD a0 = some r) : Met l y_T_kindOf ws_T_kindOf rm_T_kindOf (jv_Pr [.ref q_tr, .int a0] (dC, dI) (jv_ty cI cA cL) (w_tree cI q_tr q_di q_pl q_dr q_jo vjn vmk vwr vP vD vJ)) (QcRead r) 0 0 (fun _ => False) := by
  refine Met.ofW (cc := cc_T_kindOf) (maxL := 2) (ret := (some .int)) (by decide) rfl ?_
  intro p e s m args below meth c s₁ B hml hv
  obtain ⟨rfl, hP, hK⟩ := hv
  have cx : jv_cx p s m _ meth c cc_T_kindOf 2 R_Tree (some .int) ws_T_kindOf := ⟨B.exec, B.bytes, hml, findClass_of_methodNamed B.named, atoms_spec (ws := ws_T_kindOf) B.pre, B.returns, B.notSynchronized⟩
  have hl := lv_entry ([.ref q_tr, .int a0]) (n := 2) (Nat.le_of_ble_eq_true rfl)
  rw [lg_entry_eq]
  generalize (lg_sl ([.ref q_tr, .int a0]) ++ List.replicate (2 - (lg_sl ([.ref q_tr, .int a0])).length) Slot.unset).toArray = ls at hl ⊢
  have hl : lv_has ls 2 [(0, .ref q_tr), (1, .int a0)] := hl
  exact b_T_kindOf_0 (y0 := a0) cx hK hP (lv_sub hl [0, 1] rfl) hf
theorem d_T_parentOf_0 : decode cc_T_parentOf 0 = .ok (.aload_n 0, 1) := by decide +kernel
theorem d_T_parentOf_1 : decode cc_T_parentOf 1 = .ok (.getfield 9, 3) := by decide +kernel
theorem d_T_parentOf_4 : decode cc_T_parentOf 4 = .ok (.iload_n 1, 1) := by decide +kernel
theorem d_T_parentOf_5 : decode cc_T_parentOf 5 = .ok (.iconst 1, 1) := by decide +kernel
theorem d_T_parentOf_6 : decode cc_T_parentOf 6 = .ok (.invokevirtual 15, 3) := by decide +kernel
theorem d_T_parentOf_9 : decode cc_T_parentOf 9 = .ok (.ireturn, 1) := by decide +kernel
def f_T_parentOf_0 (vD : Nat → Int32) (y0 : Int32) : Option (Int32) :=
  (f_D_inodeWord vD y0 (1 : Int32)).bind fun x1 => some x1
set_option maxHeartbeats 4000000 in
set_option maxRecDepth 100000 in
theorem b_T_parentOf_0 {l : Launch} {dC : Nat → ClassId} {dI : Nat → Nat → Nat} {cI cA cL : ClassId} {q_tr q_di q_pl q_dr q_jo : Nat} {vjn : Int32} {vmk : Int32} {vwr : Int32} {vP : Nat → Int32} {vD : Nat → Int32} {vJ : Nat → Int32} {p : Program} {e : Env} {s : State} {m : MethodId} {args : Array Value} {below : List Frame} {meth : Method} {c : Code} (cx : jv_cx p s m args meth c cc_T_parentOf 2 R_Tree (some .int) ws_T_parentOf) (hK : va_K (dC, dI) vwCl (jv_ty cI cA cL) s) (hP : va_P (dC, dI) vwCl (w_tree cI q_tr q_di q_pl q_dr q_jo vjn vmk vwr vP vD vJ) s.heap) {r : Int32} {y0 : Int32} {ls : Array Slot} (hl : lv_has ls 2 [(0, .ref q_tr), (1, .int y0)]) (hf : f_T_parentOf_0 vD y0 = some r) : W p l e rm_T_parentOf s m args below meth c s.heap [] 0 0 (MQ below (QcRead r) args s 0 0 (fun _ => False)) (F0 m 0 ls []) := by
  unfold f_T_parentOf_0 at hf
  obtain ⟨hx, hb, hml, hown, hts, hr, hlocks⟩ := id cx
  refine lv_aload_n hx hb d_T_parentOf_0 rfl (lv_at hl 0 rfl) ?_
  refine va_get (D := (dC, dI)) (ci := kTree) (v := .ref q_di) (C := R_Tree) (T := T_Tree) (N := 1) hx hb hts (fun w h => List.mem_cons_of_mem _ (in_Tree w h)) hown hK hP 0 rfl rfl 0 (by decide) (jv_w hts wa_67) (fun _ h9 => h9) rfl d_T_parentOf_1 ?_
  refine lv_iload_n hx hb d_T_parentOf_4 rfl (lv_at hl 1 rfl) ?_
  refine lv_iconst (v := (1 : Int32)) hx hb d_T_parentOf_5 (by decide) ?_
  obtain ⟨x1, g2, hf⟩ := jv_ob hf
  have hPc := hP.sub (ws' := (w_disk cI q_di q_pl q_dr q_jo vjn vmk vwr vP vD vJ)) [1, 2, 3, 4] rfl
  refine jv_cs (W.runV (As := [.int y0, .int (1 : Int32)]) (rest := []) (b := q_di) ⟨hx, hb, hml, hown, hts⟩ (c_D_inodeWord l dC dI cI cA cL q_di q_pl q_dr q_jo vjn vmk vwr vP vD vJ y0 (1 : Int32) x1 g2) (jv_cwV hts wa_68 wa_29 wa_69 wa_70 wa_71 rfl rfl yd_D_inodeWord ⟨Nat.le_of_ble_eq_true rfl, Nat.le_of_ble_eq_true rfl⟩) (jv_preV hK hPc 0 rfl rfl) rfl rfl hl.1 rfl (lv_room (Nat.le_of_ble_eq_true rfl)) d_T_parentOf_6 ⟨Nat.zero_le _, Nat.zero_le _⟩) ?_
  obtain rfl := Option.some.inj hf
  exact W.iret hx hb hr (fun t ht hW => ⟨rfl, ht⟩) (fun q h => by cases h) d_T_parentOf_9
def f_T_parentOf (vD : Nat → Int32) (a0 : Int32) : Option (Int32) := f_T_parentOf_0 vD a0
set_option maxHeartbeats 4000000 in
set_option maxRecDepth 100000 in
theorem c_T_parentOf (l : Launch) (dC : Nat → ClassId) (dI : Nat → Nat → Nat) (cI cA cL : ClassId) (q_tr q_di q_pl q_dr q_jo : Nat) (vjn : Int32) (vmk : Int32) (vwr : Int32) (vP : Nat → Int32) (vD : Nat → Int32) (vJ : Nat → Int32) (a0 : Int32) (r : Int32) (hf : f_T_parentOf vD a0 = some r) : Met l y_T_parentOf ws_T_parentOf rm_T_parentOf (jv_Pr [.ref q_tr, .int a0] (dC, dI) (jv_ty cI cA cL) (w_tree cI q_tr q_di q_pl q_dr q_jo vjn vmk vwr vP vD vJ)) (QcRead r) 0 0 (fun _ => False) := by
  refine Met.ofW (cc := cc_T_parentOf) (maxL := 2) (ret := (some .int)) (by decide) rfl ?_
  intro p e s m args below meth c s₁ B hml hv
  obtain ⟨rfl, hP, hK⟩ := hv
  have cx : jv_cx p s m _ meth c cc_T_parentOf 2 R_Tree (some .int) ws_T_parentOf := ⟨B.exec, B.bytes, hml, findClass_of_methodNamed B.named, atoms_spec (ws := ws_T_parentOf) B.pre, B.returns, B.notSynchronized⟩
  have hl := lv_entry ([.ref q_tr, .int a0]) (n := 2) (Nat.le_of_ble_eq_true rfl)
  rw [lg_entry_eq]
  generalize (lg_sl ([.ref q_tr, .int a0]) ++ List.replicate (2 - (lg_sl ([.ref q_tr, .int a0])).length) Slot.unset).toArray = ls at hl ⊢
  have hl : lv_has ls 2 [(0, .ref q_tr), (1, .int a0)] := hl
  exact b_T_parentOf_0 (y0 := a0) cx hK hP (lv_sub hl [0, 1] rfl) hf
theorem d_T_nameOf_0 : decode cc_T_nameOf 0 = .ok (.aload_n 0, 1) := by decide +kernel
theorem d_T_nameOf_1 : decode cc_T_nameOf 1 = .ok (.getfield 9, 3) := by decide +kernel
theorem d_T_nameOf_4 : decode cc_T_nameOf 4 = .ok (.iload_n 1, 1) := by decide +kernel
theorem d_T_nameOf_5 : decode cc_T_nameOf 5 = .ok (.iconst 2, 1) := by decide +kernel
theorem d_T_nameOf_6 : decode cc_T_nameOf 6 = .ok (.invokevirtual 15, 3) := by decide +kernel
theorem d_T_nameOf_9 : decode cc_T_nameOf 9 = .ok (.ireturn, 1) := by decide +kernel
def f_T_nameOf_0 (vD : Nat → Int32) (y0 : Int32) : Option (Int32) :=
  (f_D_inodeWord vD y0 (2 : Int32)).bind fun x1 => some x1
set_option maxHeartbeats 4000000 in
set_option maxRecDepth 100000 in
theorem b_T_nameOf_0 {l : Launch} {dC : Nat → ClassId} {dI : Nat → Nat → Nat} {cI cA cL : ClassId} {q_tr q_di q_pl q_dr q_jo : Nat} {vjn : Int32} {vmk : Int32} {vwr : Int32} {vP : Nat → Int32} {vD : Nat → Int32} {vJ : Nat → Int32} {p : Program} {e : Env} {s : State} {m : MethodId} {args : Array Value} {below : List Frame} {meth : Method} {c : Code} (cx : jv_cx p s m args meth c cc_T_nameOf 2 R_Tree (some .int) ws_T_nameOf) (hK : va_K (dC, dI) vwCl (jv_ty cI cA cL) s) (hP : va_P (dC, dI) vwCl (w_tree cI q_tr q_di q_pl q_dr q_jo vjn vmk vwr vP vD vJ) s.heap) {r : Int32} {y0 : Int32} {ls : Array Slot} (hl : lv_has ls 2 [(0, .ref q_tr), (1, .int y0)]) (hf : f_T_nameOf_0 vD y0 = some r) : W p l e rm_T_nameOf s m args below meth c s.heap [] 0 0 (MQ below (QcRead r) args s 0 0 (fun _ => False)) (F0 m 0 ls []) := by
  unfold f_T_nameOf_0 at hf
  obtain ⟨hx, hb, hml, hown, hts, hr, hlocks⟩ := id cx
  refine lv_aload_n hx hb d_T_nameOf_0 rfl (lv_at hl 0 rfl) ?_
  refine va_get (D := (dC, dI)) (ci := kTree) (v := .ref q_di) (C := R_Tree) (T := T_Tree) (N := 1) hx hb hts (fun w h => List.mem_cons_of_mem _ (in_Tree w h)) hown hK hP 0 rfl rfl 0 (by decide) (jv_w hts wa_67) (fun _ h9 => h9) rfl d_T_nameOf_1 ?_
  refine lv_iload_n hx hb d_T_nameOf_4 rfl (lv_at hl 1 rfl) ?_
  refine lv_iconst (v := (2 : Int32)) hx hb d_T_nameOf_5 (by decide) ?_
  obtain ⟨x1, g2, hf⟩ := jv_ob hf
  have hPc := hP.sub (ws' := (w_disk cI q_di q_pl q_dr q_jo vjn vmk vwr vP vD vJ)) [1, 2, 3, 4] rfl
  refine jv_cs (W.runV (As := [.int y0, .int (2 : Int32)]) (rest := []) (b := q_di) ⟨hx, hb, hml, hown, hts⟩ (c_D_inodeWord l dC dI cI cA cL q_di q_pl q_dr q_jo vjn vmk vwr vP vD vJ y0 (2 : Int32) x1 g2) (jv_cwV hts wa_68 wa_29 wa_69 wa_70 wa_71 rfl rfl yd_D_inodeWord ⟨Nat.le_of_ble_eq_true rfl, Nat.le_of_ble_eq_true rfl⟩) (jv_preV hK hPc 0 rfl rfl) rfl rfl hl.1 rfl (lv_room (Nat.le_of_ble_eq_true rfl)) d_T_nameOf_6 ⟨Nat.zero_le _, Nat.zero_le _⟩) ?_
  obtain rfl := Option.some.inj hf
  exact W.iret hx hb hr (fun t ht hW => ⟨rfl, ht⟩) (fun q h => by cases h) d_T_nameOf_9
def f_T_nameOf (vD : Nat → Int32) (a0 : Int32) : Option (Int32) := f_T_nameOf_0 vD a0
set_option maxHeartbeats 4000000 in
set_option maxRecDepth 100000 in
theorem c_T_nameOf (l : Launch) (dC : Nat → ClassId) (dI : Nat → Nat → Nat) (cI cA cL : ClassId) (q_tr q_di q_pl q_dr q_jo : Nat) (vjn : Int32) (vmk : Int32) (vwr : Int32) (vP : Nat → Int32) (vD : Nat → Int32) (vJ : Nat → Int32) (a0 : Int32) (r : Int32) (hf : f_T_nameOf vD a0 = some r) : Met l y_T_nameOf ws_T_nameOf rm_T_nameOf (jv_Pr [.ref q_tr, .int a0] (dC, dI) (jv_ty cI cA cL) (w_tree cI q_tr q_di q_pl q_dr q_jo vjn vmk vwr vP vD vJ)) (QcRead r) 0 0 (fun _ => False) := by
  refine Met.ofW (cc := cc_T_nameOf) (maxL := 2) (ret := (some .int)) (by decide) rfl ?_
  intro p e s m args below meth c s₁ B hml hv
  obtain ⟨rfl, hP, hK⟩ := hv
  have cx : jv_cx p s m _ meth c cc_T_nameOf 2 R_Tree (some .int) ws_T_nameOf := ⟨B.exec, B.bytes, hml, findClass_of_methodNamed B.named, atoms_spec (ws := ws_T_nameOf) B.pre, B.returns, B.notSynchronized⟩
  have hl := lv_entry ([.ref q_tr, .int a0]) (n := 2) (Nat.le_of_ble_eq_true rfl)
  rw [lg_entry_eq]
  generalize (lg_sl ([.ref q_tr, .int a0]) ++ List.replicate (2 - (lg_sl ([.ref q_tr, .int a0])).length) Slot.unset).toArray = ls at hl ⊢
  have hl : lv_has ls 2 [(0, .ref q_tr), (1, .int a0)] := hl
  exact b_T_nameOf_0 (y0 := a0) cx hK hP (lv_sub hl [0, 1] rfl) hf
theorem d_T_childNamed_0 : decode cc_T_childNamed 0 = .ok (.iconst 1, 1) := by decide +kernel
theorem d_T_childNamed_1 : decode cc_T_childNamed 1 = .ok (.istore_n 3, 1) := by decide +kernel
theorem d_T_childNamed_2 : decode cc_T_childNamed 2 = .ok (.iload_n 3, 1) := by decide +kernel
theorem d_T_childNamed_3 : decode cc_T_childNamed 3 = .ok (.bipush 8, 2) := by decide +kernel
theorem d_T_childNamed_5 : decode cc_T_childNamed 5 = .ok (.if_icmp .ge 37, 3) := by decide +kernel
theorem d_T_childNamed_42 : decode cc_T_childNamed 42 = .ok (.iconst (-1), 1) := by decide +kernel
theorem d_T_childNamed_43 : decode cc_T_childNamed 43 = .ok (.ireturn, 1) := by decide +kernel
theorem d_T_childNamed_8 : decode cc_T_childNamed 8 = .ok (.aload_n 0, 1) := by decide +kernel
theorem d_T_childNamed_9 : decode cc_T_childNamed 9 = .ok (.getfield 9, 3) := by decide +kernel
theorem d_T_childNamed_12 : decode cc_T_childNamed 12 = .ok (.iload_n 3, 1) := by decide +kernel
theorem d_T_childNamed_13 : decode cc_T_childNamed 13 = .ok (.iconst 1, 1) := by decide +kernel
theorem d_T_childNamed_14 : decode cc_T_childNamed 14 = .ok (.invokevirtual 15, 3) := by decide +kernel
theorem d_T_childNamed_17 : decode cc_T_childNamed 17 = .ok (.iload_n 1, 1) := by decide +kernel
theorem d_T_childNamed_18 : decode cc_T_childNamed 18 = .ok (.if_icmp .ne 18, 3) := by decide +kernel
theorem d_T_childNamed_36 : decode cc_T_childNamed 36 = .ok (.iinc 3 1, 3) := by decide +kernel
theorem d_T_childNamed_39 : decode cc_T_childNamed 39 = .ok (.goto (-37), 3) := by decide +kernel
theorem d_T_childNamed_21 : decode cc_T_childNamed 21 = .ok (.aload_n 0, 1) := by decide +kernel
theorem d_T_childNamed_22 : decode cc_T_childNamed 22 = .ok (.getfield 9, 3) := by decide +kernel
theorem d_T_childNamed_25 : decode cc_T_childNamed 25 = .ok (.iload_n 3, 1) := by decide +kernel
theorem d_T_childNamed_26 : decode cc_T_childNamed 26 = .ok (.iconst 2, 1) := by decide +kernel
theorem d_T_childNamed_27 : decode cc_T_childNamed 27 = .ok (.invokevirtual 15, 3) := by decide +kernel
theorem d_T_childNamed_30 : decode cc_T_childNamed 30 = .ok (.iload_n 2, 1) := by decide +kernel
theorem d_T_childNamed_31 : decode cc_T_childNamed 31 = .ok (.if_icmp .ne 5, 3) := by decide +kernel
theorem d_T_childNamed_34 : decode cc_T_childNamed 34 = .ok (.iload_n 3, 1) := by decide +kernel
theorem d_T_childNamed_35 : decode cc_T_childNamed 35 = .ok (.ireturn, 1) := by decide +kernel
def f_T_childNamed_2 (vD : Nat → Int32) (y0 : Int32) (y1 : Int32) (k2 : (Int32) → Option (Int32)) (a : Int32) : Option (Int32) :=
  if (8 : Int32) ≤ a then (some (-1 : Int32)) else ((f_D_inodeWord vD a (1 : Int32)).bind fun x1 => if x1 = y0 then ((f_D_inodeWord vD a (2 : Int32)).bind fun x3 => if x3 = y1 then (some a) else (k2 (a + (1 : Int32)))) else (k2 (a + (1 : Int32))))
set_option maxHeartbeats 4000000 in
set_option maxRecDepth 100000 in
theorem b_T_childNamed_2 {l : Launch} {dC : Nat → ClassId} {dI : Nat → Nat → Nat} {cI cA cL : ClassId} {q_tr q_di q_pl q_dr q_jo : Nat} {vjn : Int32} {vmk : Int32} {vwr : Int32} {vP : Nat → Int32} {vD : Nat → Int32} {vJ : Nat → Int32} {p : Program} {e : Env} {s : State} {m : MethodId} {args : Array Value} {below : List Frame} {meth : Method} {c : Code} (cx : jv_cx p s m args meth c cc_T_childNamed 4 R_Tree (some .int) ws_T_childNamed) (hK : va_K (dC, dI) vwCl (jv_ty cI cA cL) s) (hP : va_P (dC, dI) vwCl (w_tree cI q_tr q_di q_pl q_dr q_jo vjn vmk vwr vP vD vJ) s.heap) {r : Int32} {y0 : Int32} {y1 : Int32} {k2 : (Int32) → Option (Int32)} (hk2 : ∀ (b0 : Int32) (ls : Array Slot), lv_has ls 4 [(0, .ref q_tr), (1, .int y0), (2, .int y1), (3, .int b0)] → k2 b0 = some r → W p l e rm_T_childNamed s m args below meth c s.heap [] 0 0 (MQ below (QcRead r) args s 0 0 (fun _ => False)) (F0 m 2 ls [])) {a : Int32} {ls : Array Slot} (hl : lv_has ls 4 [(0, .ref q_tr), (1, .int y0), (2, .int y1), (3, .int a)]) (hf : f_T_childNamed_2 vD y0 y1 k2 a = some r) : W p l e rm_T_childNamed s m args below meth c s.heap [] 0 0 (MQ below (QcRead r) args s 0 0 (fun _ => False)) (F0 m 2 ls []) := by
  unfold f_T_childNamed_2 at hf
  obtain ⟨hx, hb, hml, hown, hts, hr, hlocks⟩ := id cx
  refine lv_iload_n hx hb d_T_childNamed_2 rfl (lv_at hl 3 rfl) ?_
  refine lv_bipush (v := (8 : Int32)) hx hb d_T_childNamed_3 (by decide) ?_
  refine lv_icmp_ge (tgt := 42) hx hb d_T_childNamed_5 (by decide) (fun hc => ?_) (fun hc => ?_)
  · have hf := jv_it hf hc
    refine lv_iconst (v := (-1 : Int32)) hx hb d_T_childNamed_42 (by decide) ?_
    obtain rfl := Option.some.inj hf
    exact W.iret hx hb hr (fun t ht hW => ⟨rfl, ht⟩) (fun q h => by cases h) d_T_childNamed_43
  · have hf := jv_if hf hc
    refine lv_aload_n hx hb d_T_childNamed_8 rfl (lv_at hl 0 rfl) ?_
    refine va_get (D := (dC, dI)) (ci := kTree) (v := .ref q_di) (C := R_Tree) (T := T_Tree) (N := 1) hx hb hts (fun w h => List.mem_cons_of_mem _ (in_Tree w h)) hown hK hP 0 rfl rfl 0 (by decide) (jv_w hts wa_67) (fun _ h9 => h9) rfl d_T_childNamed_9 ?_
    refine lv_iload_n hx hb d_T_childNamed_12 rfl (lv_at hl 3 rfl) ?_
    refine lv_iconst (v := (1 : Int32)) hx hb d_T_childNamed_13 (by decide) ?_
    obtain ⟨x1, g2, hf⟩ := jv_ob hf
    have hPc := hP.sub (ws' := (w_disk cI q_di q_pl q_dr q_jo vjn vmk vwr vP vD vJ)) [1, 2, 3, 4] rfl
    refine jv_cs (W.runV (As := [.int a, .int (1 : Int32)]) (rest := []) (b := q_di) ⟨hx, hb, hml, hown, hts⟩ (c_D_inodeWord l dC dI cI cA cL q_di q_pl q_dr q_jo vjn vmk vwr vP vD vJ a (1 : Int32) x1 g2) (jv_cwV hts wa_68 wa_29 wa_69 wa_70 wa_71 rfl rfl yd_D_inodeWord ⟨Nat.le_of_ble_eq_true rfl, Nat.le_of_ble_eq_true rfl⟩) (jv_preV hK hPc 0 rfl rfl) rfl rfl hl.1 rfl (lv_room (Nat.le_of_ble_eq_true rfl)) d_T_childNamed_14 ⟨Nat.zero_le _, Nat.zero_le _⟩) ?_
    refine lv_iload_n hx hb d_T_childNamed_17 rfl (lv_at hl 1 rfl) ?_
    refine lv_icmp_ne (tgt := 36) hx hb d_T_childNamed_18 (by decide) (fun hc => ?_) (fun hc => ?_)
    · have hf := jv_if hf hc
      refine lv_iinc (k := 3) (v := a + (1 : Int32)) (lv' := [(3, .int (a + (1 : Int32))), (0, .ref q_tr), (1, .int y0), (2, .int y1)]) hx hb d_T_childNamed_36 hl rfl (jv_inc _) (by decide) rfl (fun ls hl => ?_)
      refine lv_goto (tgt := 2) hx hb d_T_childNamed_39 (by decide) ?_
      exact hk2 (a + (1 : Int32)) _ (lv_sub hl [1, 2, 3, 0] rfl) hf
    · have hf := jv_it hf hc
      refine lv_aload_n hx hb d_T_childNamed_21 rfl (lv_at hl 0 rfl) ?_
      refine va_get (D := (dC, dI)) (ci := kTree) (v := .ref q_di) (C := R_Tree) (T := T_Tree) (N := 1) hx hb hts (fun w h => List.mem_cons_of_mem _ (in_Tree w h)) hown hK hP 0 rfl rfl 0 (by decide) (jv_w hts wa_67) (fun _ h9 => h9) rfl d_T_childNamed_22 ?_
      refine lv_iload_n hx hb d_T_childNamed_25 rfl (lv_at hl 3 rfl) ?_
      refine lv_iconst (v := (2 : Int32)) hx hb d_T_childNamed_26 (by decide) ?_
      obtain ⟨x3, g4, hf⟩ := jv_ob hf
      have hPc := hP.sub (ws' := (w_disk cI q_di q_pl q_dr q_jo vjn vmk vwr vP vD vJ)) [1, 2, 3, 4] rfl
      refine jv_cs (W.runV (As := [.int a, .int (2 : Int32)]) (rest := []) (b := q_di) ⟨hx, hb, hml, hown, hts⟩ (c_D_inodeWord l dC dI cI cA cL q_di q_pl q_dr q_jo vjn vmk vwr vP vD vJ a (2 : Int32) x3 g4) (jv_cwV hts wa_68 wa_29 wa_69 wa_70 wa_71 rfl rfl yd_D_inodeWord ⟨Nat.le_of_ble_eq_true rfl, Nat.le_of_ble_eq_true rfl⟩) (jv_preV hK hPc 0 rfl rfl) rfl rfl hl.1 rfl (lv_room (Nat.le_of_ble_eq_true rfl)) d_T_childNamed_27 ⟨Nat.zero_le _, Nat.zero_le _⟩) ?_
      refine lv_iload_n hx hb d_T_childNamed_30 rfl (lv_at hl 2 rfl) ?_
      refine lv_icmp_ne (tgt := 36) hx hb d_T_childNamed_31 (by decide) (fun hc => ?_) (fun hc => ?_)
      · have hf := jv_if hf hc
        refine lv_iinc (k := 3) (v := a + (1 : Int32)) (lv' := [(3, .int (a + (1 : Int32))), (0, .ref q_tr), (1, .int y0), (2, .int y1)]) hx hb d_T_childNamed_36 hl rfl (jv_inc _) (by decide) rfl (fun ls hl => ?_)
        refine lv_goto (tgt := 2) hx hb d_T_childNamed_39 (by decide) ?_
        exact hk2 (a + (1 : Int32)) _ (lv_sub hl [1, 2, 3, 0] rfl) hf
      · have hf := jv_it hf hc
        refine lv_iload_n hx hb d_T_childNamed_34 rfl (lv_at hl 3 rfl) ?_
        obtain rfl := Option.some.inj hf
        exact W.iret hx hb hr (fun t ht hW => ⟨rfl, ht⟩) (fun q h => by cases h) d_T_childNamed_35
set_option maxHeartbeats 4000000 in
set_option maxRecDepth 100000 in
theorem l_T_childNamed_2 {l : Launch} {dC : Nat → ClassId} {dI : Nat → Nat → Nat} {cI cA cL : ClassId} {q_tr q_di q_pl q_dr q_jo : Nat} {vjn : Int32} {vmk : Int32} {vwr : Int32} {vP : Nat → Int32} {vD : Nat → Int32} {vJ : Nat → Int32} {p : Program} {e : Env} {s : State} {m : MethodId} {args : Array Value} {below : List Frame} {meth : Method} {c : Code} (cx : jv_cx p s m args meth c cc_T_childNamed 4 R_Tree (some .int) ws_T_childNamed) (hK : va_K (dC, dI) vwCl (jv_ty cI cA cL) s) (hP : va_P (dC, dI) vwCl (w_tree cI q_tr q_di q_pl q_dr q_jo vjn vmk vwr vP vD vJ) s.heap) {r : Int32} {y0 : Int32} {y1 : Int32} : ∀ n : Nat, ∀ (b0 : Int32) (ls : Array Slot), lv_has ls 4 [(0, .ref q_tr), (1, .int y0), (2, .int y1), (3, .int b0)] → jv_fx (f_T_childNamed_2 vD y0 y1) n b0 = some r → W p l e rm_T_childNamed s m args below meth c s.heap [] 0 0 (MQ below (QcRead r) args s 0 0 (fun _ => False)) (F0 m 2 ls []) := by
  intro n
  induction n with
  | zero => intro b0 ls hl hf; exact jv_no hf
  | succ n ih => intro b0 ls hl hf; exact b_T_childNamed_2 (a := b0) cx hK hP ih hl hf
def f_T_childNamed_0 (vD : Nat → Int32) (y0 : Int32) (y1 : Int32) : Option (Int32) :=
  jv_fx (f_T_childNamed_2 vD y0 y1) 300 (1 : Int32)
set_option maxHeartbeats 4000000 in
set_option maxRecDepth 100000 in
theorem b_T_childNamed_0 {l : Launch} {dC : Nat → ClassId} {dI : Nat → Nat → Nat} {cI cA cL : ClassId} {q_tr q_di q_pl q_dr q_jo : Nat} {vjn : Int32} {vmk : Int32} {vwr : Int32} {vP : Nat → Int32} {vD : Nat → Int32} {vJ : Nat → Int32} {p : Program} {e : Env} {s : State} {m : MethodId} {args : Array Value} {below : List Frame} {meth : Method} {c : Code} (cx : jv_cx p s m args meth c cc_T_childNamed 4 R_Tree (some .int) ws_T_childNamed) (hK : va_K (dC, dI) vwCl (jv_ty cI cA cL) s) (hP : va_P (dC, dI) vwCl (w_tree cI q_tr q_di q_pl q_dr q_jo vjn vmk vwr vP vD vJ) s.heap) {r : Int32} {y0 : Int32} {y1 : Int32} {ls : Array Slot} (hl : lv_has ls 4 [(0, .ref q_tr), (1, .int y0), (2, .int y1)]) (hf : f_T_childNamed_0 vD y0 y1 = some r) : W p l e rm_T_childNamed s m args below meth c s.heap [] 0 0 (MQ below (QcRead r) args s 0 0 (fun _ => False)) (F0 m 0 ls []) := by
  unfold f_T_childNamed_0 at hf
  obtain ⟨hx, hb, hml, hown, hts, hr, hlocks⟩ := id cx
  refine lv_iconst (v := (1 : Int32)) hx hb d_T_childNamed_0 (by decide) ?_
  refine lv_istore_n (lv' := [(3, .int (1 : Int32)), (0, .ref q_tr), (1, .int y0), (2, .int y1)]) hx hb d_T_childNamed_1 rfl hl (by decide) rfl (fun ls hl => ?_)
  exact l_T_childNamed_2 (y0 := y0) (y1 := y1) cx hK hP 300 (1 : Int32) _ (lv_sub hl [1, 2, 3, 0] rfl) hf
def f_T_childNamed (vD : Nat → Int32) (a0 : Int32) (a1 : Int32) : Option (Int32) := f_T_childNamed_0 vD a0 a1
set_option maxHeartbeats 4000000 in
set_option maxRecDepth 100000 in
theorem c_T_childNamed (l : Launch) (dC : Nat → ClassId) (dI : Nat → Nat → Nat) (cI cA cL : ClassId) (q_tr q_di q_pl q_dr q_jo : Nat) (vjn : Int32) (vmk : Int32) (vwr : Int32) (vP : Nat → Int32) (vD : Nat → Int32) (vJ : Nat → Int32) (a0 : Int32) (a1 : Int32) (r : Int32) (hf : f_T_childNamed vD a0 a1 = some r) : Met l y_T_childNamed ws_T_childNamed rm_T_childNamed (jv_Pr [.ref q_tr, .int a0, .int a1] (dC, dI) (jv_ty cI cA cL) (w_tree cI q_tr q_di q_pl q_dr q_jo vjn vmk vwr vP vD vJ)) (QcRead r) 0 0 (fun _ => False) := by
  refine Met.ofW (cc := cc_T_childNamed) (maxL := 4) (ret := (some .int)) (by decide) rfl ?_
  intro p e s m args below meth c s₁ B hml hv
  obtain ⟨rfl, hP, hK⟩ := hv
  have cx : jv_cx p s m _ meth c cc_T_childNamed 4 R_Tree (some .int) ws_T_childNamed := ⟨B.exec, B.bytes, hml, findClass_of_methodNamed B.named, atoms_spec (ws := ws_T_childNamed) B.pre, B.returns, B.notSynchronized⟩
  have hl := lv_entry ([.ref q_tr, .int a0, .int a1]) (n := 4) (Nat.le_of_ble_eq_true rfl)
  rw [lg_entry_eq]
  generalize (lg_sl ([.ref q_tr, .int a0, .int a1]) ++ List.replicate (4 - (lg_sl ([.ref q_tr, .int a0, .int a1])).length) Slot.unset).toArray = ls at hl ⊢
  have hl : lv_has ls 4 [(0, .ref q_tr), (1, .int a0), (2, .int a1)] := hl
  exact b_T_childNamed_0 (y0 := a0) (y1 := a1) cx hK hP (lv_sub hl [0, 1, 2] rfl) hf
theorem d_T_find_0 : decode cc_T_find 0 = .ok (.iconst 0, 1) := by decide +kernel
theorem d_T_find_1 : decode cc_T_find 1 = .ok (.istore_n 2, 1) := by decide +kernel
theorem d_T_find_2 : decode cc_T_find 2 = .ok (.iload_n 1, 1) := by decide +kernel
theorem d_T_find_3 : decode cc_T_find 3 = .ok (.invokestatic 21, 3) := by decide +kernel
theorem d_T_find_6 : decode cc_T_find 6 = .ok (.iconst 1, 1) := by decide +kernel
theorem d_T_find_7 : decode cc_T_find 7 = .ok (.isub, 1) := by decide +kernel
theorem d_T_find_8 : decode cc_T_find 8 = .ok (.istore_n 3, 1) := by decide +kernel
theorem d_T_find_9 : decode cc_T_find 9 = .ok (.iload_n 3, 1) := by decide +kernel
theorem d_T_find_10 : decode cc_T_find 10 = .ok (.ifCond .lt 28, 3) := by decide +kernel
theorem d_T_find_38 : decode cc_T_find 38 = .ok (.iload_n 2, 1) := by decide +kernel
theorem d_T_find_39 : decode cc_T_find 39 = .ok (.ireturn, 1) := by decide +kernel
theorem d_T_find_13 : decode cc_T_find 13 = .ok (.iload_n 2, 1) := by decide +kernel
theorem d_T_find_14 : decode cc_T_find 14 = .ok (.iconst (-1), 1) := by decide +kernel
theorem d_T_find_15 : decode cc_T_find 15 = .ok (.if_icmp .eq 23, 3) := by decide +kernel
theorem d_T_find_18 : decode cc_T_find 18 = .ok (.aload_n 0, 1) := by decide +kernel
theorem d_T_find_19 : decode cc_T_find 19 = .ok (.iload_n 2, 1) := by decide +kernel
theorem d_T_find_20 : decode cc_T_find 20 = .ok (.iload_n 1, 1) := by decide +kernel
theorem d_T_find_21 : decode cc_T_find 21 = .ok (.iload_n 3, 1) := by decide +kernel
theorem d_T_find_22 : decode cc_T_find 22 = .ok (.invokestatic 27, 3) := by decide +kernel
theorem d_T_find_25 : decode cc_T_find 25 = .ok (.invokestatic 30, 3) := by decide +kernel
theorem d_T_find_28 : decode cc_T_find 28 = .ok (.invokevirtual 33, 3) := by decide +kernel
theorem d_T_find_31 : decode cc_T_find 31 = .ok (.istore_n 2, 1) := by decide +kernel
theorem d_T_find_32 : decode cc_T_find 32 = .ok (.iinc 3 (-1), 3) := by decide +kernel
theorem d_T_find_35 : decode cc_T_find 35 = .ok (.goto (-26), 3) := by decide +kernel
def f_T_find_9 (vD : Nat → Int32) (y0 : Int32) (k9 : (Int32 × Int32) → Option (Int32)) (a : Int32 × Int32) : Option (Int32) :=
  if a.2 < 0 then (some a.1) else (if a.1 = (-1 : Int32) then (some a.1) else ((f_P_without y0 a.2).bind fun x3 => (f_P_lastName x3).bind fun x5 => (f_T_childNamed vD a.1 x5).bind fun x7 => k9 (x7, a.2 + (-1 : Int32))))
set_option maxHeartbeats 4000000 in
set_option maxRecDepth 100000 in
theorem b_T_find_9 {l : Launch} {dC : Nat → ClassId} {dI : Nat → Nat → Nat} {cI cA cL : ClassId} {q_tr q_di q_pl q_dr q_jo : Nat} {vjn : Int32} {vmk : Int32} {vwr : Int32} {vP : Nat → Int32} {vD : Nat → Int32} {vJ : Nat → Int32} {p : Program} {e : Env} {s : State} {m : MethodId} {args : Array Value} {below : List Frame} {meth : Method} {c : Code} (cx : jv_cx p s m args meth c cc_T_find 4 R_Tree (some .int) ws_T_find) (hK : va_K (dC, dI) vwCl (jv_ty cI cA cL) s) (hP : va_P (dC, dI) vwCl (w_tree cI q_tr q_di q_pl q_dr q_jo vjn vmk vwr vP vD vJ) s.heap) {r : Int32} {y0 : Int32} {k9 : (Int32 × Int32) → Option (Int32)} (hk9 : ∀ (b0 : Int32) (b1 : Int32) (ls : Array Slot), lv_has ls 4 [(0, .ref q_tr), (1, .int y0), (2, .int b0), (3, .int b1)] → k9 (b0, b1) = some r → W p l e rm_T_find s m args below meth c s.heap [] 0 0 (MQ below (QcRead r) args s 0 0 (fun _ => False)) (F0 m 9 ls [])) {a : Int32 × Int32} {ls : Array Slot} (hl : lv_has ls 4 [(0, .ref q_tr), (1, .int y0), (2, .int a.1), (3, .int a.2)]) (hf : f_T_find_9 vD y0 k9 a = some r) : W p l e rm_T_find s m args below meth c s.heap [] 0 0 (MQ below (QcRead r) args s 0 0 (fun _ => False)) (F0 m 9 ls []) := by
  unfold f_T_find_9 at hf
  obtain ⟨hx, hb, hml, hown, hts, hr, hlocks⟩ := id cx
  refine lv_iload_n hx hb d_T_find_9 rfl (lv_at hl 3 rfl) ?_
  refine lv_if_lt (tgt := 38) hx hb d_T_find_10 (by decide) (fun hc => ?_) (fun hc => ?_)
  · have hf := jv_it hf hc
    refine lv_iload_n hx hb d_T_find_38 rfl (lv_at hl 2 rfl) ?_
    obtain rfl := Option.some.inj hf
    exact W.iret hx hb hr (fun t ht hW => ⟨rfl, ht⟩) (fun q h => by cases h) d_T_find_39
  · have hf := jv_if hf hc
    refine lv_iload_n hx hb d_T_find_13 rfl (lv_at hl 2 rfl) ?_
    refine lv_iconst (v := (-1 : Int32)) hx hb d_T_find_14 (by decide) ?_
    refine lv_icmp_eq (tgt := 38) hx hb d_T_find_15 (by decide) (fun hc => ?_) (fun hc => ?_)
    · have hf := jv_it hf hc
      refine lv_iload_n hx hb d_T_find_38 rfl (lv_at hl 2 rfl) ?_
      obtain rfl := Option.some.inj hf
      exact W.iret hx hb hr (fun t ht hW => ⟨rfl, ht⟩) (fun q h => by cases h) d_T_find_39
    · have hf := jv_if hf hc
      refine lv_aload_n hx hb d_T_find_18 rfl (lv_at hl 0 rfl) ?_
      refine lv_iload_n hx hb d_T_find_19 rfl (lv_at hl 2 rfl) ?_
      refine lv_iload_n hx hb d_T_find_20 rfl (lv_at hl 1 rfl) ?_
      refine lv_iload_n hx hb d_T_find_21 rfl (lv_at hl 3 rfl) ?_
      obtain ⟨x3, g4, hf⟩ := jv_ob hf
      refine jv_cs (W.runS (As := [.int y0, .int a.2]) (rest := [.int a.1, .ref q_tr]) ⟨hx, hb, hml, hown, hts⟩ (c_P_without l y0 a.2 x3 g4) (jv_cwS hts wa_17 wa_8 wa_75 wa_19 rfl rfl yd_P_without ⟨Nat.le_of_ble_eq_true rfl, Nat.le_of_ble_eq_true rfl⟩) jv_pre0 rfl rfl hl.1 rfl (lv_room (Nat.le_of_ble_eq_true rfl)) d_T_find_22 ⟨Nat.zero_le _, Nat.zero_le _⟩) ?_
      obtain ⟨x5, g6, hf⟩ := jv_ob hf
      refine jv_cs (W.runS (As := [.int x3]) (rest := [.int a.1, .ref q_tr]) ⟨hx, hb, hml, hown, hts⟩ (c_P_lastName l x3 x5 g6) (jv_cwS hts wa_7 wa_8 wa_76 wa_10 rfl rfl yd_P_lastName ⟨Nat.le_of_ble_eq_true rfl, Nat.le_of_ble_eq_true rfl⟩) jv_pre0 rfl rfl hl.1 rfl (lv_room (Nat.le_of_ble_eq_true rfl)) d_T_find_25 ⟨Nat.zero_le _, Nat.zero_le _⟩) ?_
      obtain ⟨x7, g8, hf⟩ := jv_ob hf
      have hPc := hP.sub (ws' := (w_tree cI q_tr q_di q_pl q_dr q_jo vjn vmk vwr vP vD vJ)) [0, 1, 2, 3, 4] rfl
      refine jv_cs (W.runV (As := [.int a.1, .int x5]) (rest := []) (b := q_tr) ⟨hx, hb, hml, hown, hts⟩ (c_T_childNamed l dC dI cI cA cL q_tr q_di q_pl q_dr q_jo vjn vmk vwr vP vD vJ a.1 x5 x7 g8) (jv_cwV hts wa_77 wa_78 wa_79 wa_80 wa_81 rfl rfl yd_T_childNamed ⟨Nat.le_of_ble_eq_true rfl, Nat.le_of_ble_eq_true rfl⟩) (jv_preV hK hPc 0 rfl rfl) rfl rfl hl.1 rfl (lv_room (Nat.le_of_ble_eq_true rfl)) d_T_find_28 ⟨Nat.zero_le _, Nat.zero_le _⟩) ?_
      refine lv_istore_n (lv' := [(2, .int x7), (0, .ref q_tr), (1, .int y0), (3, .int a.2)]) hx hb d_T_find_31 rfl hl (by decide) rfl (fun ls hl => ?_)
      refine lv_iinc (k := 3) (v := a.2 + (-1 : Int32)) (lv' := [(3, .int (a.2 + (-1 : Int32))), (2, .int x7), (0, .ref q_tr), (1, .int y0)]) hx hb d_T_find_32 hl rfl (jv_dec _) (by decide) rfl (fun ls hl => ?_)
      refine lv_goto (tgt := 9) hx hb d_T_find_35 (by decide) ?_
      exact hk9 x7 (a.2 + (-1 : Int32)) _ (lv_sub hl [2, 3, 1, 0] rfl) hf
set_option maxHeartbeats 4000000 in
set_option maxRecDepth 100000 in
theorem l_T_find_9 {l : Launch} {dC : Nat → ClassId} {dI : Nat → Nat → Nat} {cI cA cL : ClassId} {q_tr q_di q_pl q_dr q_jo : Nat} {vjn : Int32} {vmk : Int32} {vwr : Int32} {vP : Nat → Int32} {vD : Nat → Int32} {vJ : Nat → Int32} {p : Program} {e : Env} {s : State} {m : MethodId} {args : Array Value} {below : List Frame} {meth : Method} {c : Code} (cx : jv_cx p s m args meth c cc_T_find 4 R_Tree (some .int) ws_T_find) (hK : va_K (dC, dI) vwCl (jv_ty cI cA cL) s) (hP : va_P (dC, dI) vwCl (w_tree cI q_tr q_di q_pl q_dr q_jo vjn vmk vwr vP vD vJ) s.heap) {r : Int32} {y0 : Int32} : ∀ n : Nat, ∀ (b0 : Int32) (b1 : Int32) (ls : Array Slot), lv_has ls 4 [(0, .ref q_tr), (1, .int y0), (2, .int b0), (3, .int b1)] → jv_fx (f_T_find_9 vD y0) n (b0, b1) = some r → W p l e rm_T_find s m args below meth c s.heap [] 0 0 (MQ below (QcRead r) args s 0 0 (fun _ => False)) (F0 m 9 ls []) := by
  intro n
  induction n with
  | zero => intro b0 b1 ls hl hf; exact jv_no hf
  | succ n ih => intro b0 b1 ls hl hf; exact b_T_find_9 (a := (b0, b1)) cx hK hP ih hl hf
def f_T_find_0 (vD : Nat → Int32) (y0 : Int32) : Option (Int32) :=
  (f_P_lengthOf y0).bind fun x1 => jv_fx (f_T_find_9 vD y0) 300 ((0 : Int32), x1 - (1 : Int32))
set_option maxHeartbeats 4000000 in
set_option maxRecDepth 100000 in
theorem b_T_find_0 {l : Launch} {dC : Nat → ClassId} {dI : Nat → Nat → Nat} {cI cA cL : ClassId} {q_tr q_di q_pl q_dr q_jo : Nat} {vjn : Int32} {vmk : Int32} {vwr : Int32} {vP : Nat → Int32} {vD : Nat → Int32} {vJ : Nat → Int32} {p : Program} {e : Env} {s : State} {m : MethodId} {args : Array Value} {below : List Frame} {meth : Method} {c : Code} (cx : jv_cx p s m args meth c cc_T_find 4 R_Tree (some .int) ws_T_find) (hK : va_K (dC, dI) vwCl (jv_ty cI cA cL) s) (hP : va_P (dC, dI) vwCl (w_tree cI q_tr q_di q_pl q_dr q_jo vjn vmk vwr vP vD vJ) s.heap) {r : Int32} {y0 : Int32} {ls : Array Slot} (hl : lv_has ls 4 [(0, .ref q_tr), (1, .int y0)]) (hf : f_T_find_0 vD y0 = some r) : W p l e rm_T_find s m args below meth c s.heap [] 0 0 (MQ below (QcRead r) args s 0 0 (fun _ => False)) (F0 m 0 ls []) := by
  unfold f_T_find_0 at hf
  obtain ⟨hx, hb, hml, hown, hts, hr, hlocks⟩ := id cx
  refine lv_iconst (v := (0 : Int32)) hx hb d_T_find_0 (by decide) ?_
  refine lv_istore_n (lv' := [(2, .int (0 : Int32)), (0, .ref q_tr), (1, .int y0)]) hx hb d_T_find_1 rfl hl (by decide) rfl (fun ls hl => ?_)
  refine lv_iload_n hx hb d_T_find_2 rfl (lv_at hl 2 rfl) ?_
  obtain ⟨x1, g2, hf⟩ := jv_ob hf
  refine jv_cs (W.runS (As := [.int y0]) (rest := []) ⟨hx, hb, hml, hown, hts⟩ (c_P_lengthOf l y0 x1 g2) (jv_cwS hts wa_72 wa_8 wa_73 wa_74 rfl rfl yd_P_lengthOf ⟨Nat.le_of_ble_eq_true rfl, Nat.le_of_ble_eq_true rfl⟩) jv_pre0 rfl rfl hl.1 rfl (lv_room (Nat.le_of_ble_eq_true rfl)) d_T_find_3 ⟨Nat.zero_le _, Nat.zero_le _⟩) ?_
  refine lv_iconst (v := (1 : Int32)) hx hb d_T_find_6 (by decide) ?_
  refine lv_isub hx hb d_T_find_7 ?_
  refine lv_istore_n (lv' := [(3, .int (x1 - (1 : Int32))), (2, .int (0 : Int32)), (0, .ref q_tr), (1, .int y0)]) hx hb d_T_find_8 rfl hl (by decide) rfl (fun ls hl => ?_)
  exact l_T_find_9 (y0 := y0) cx hK hP 300 (0 : Int32) (x1 - (1 : Int32)) _ (lv_sub hl [2, 3, 1, 0] rfl) hf
def f_T_find (vD : Nat → Int32) (a0 : Int32) : Option (Int32) := f_T_find_0 vD a0
set_option maxHeartbeats 4000000 in
set_option maxRecDepth 100000 in
theorem c_T_find (l : Launch) (dC : Nat → ClassId) (dI : Nat → Nat → Nat) (cI cA cL : ClassId) (q_tr q_di q_pl q_dr q_jo : Nat) (vjn : Int32) (vmk : Int32) (vwr : Int32) (vP : Nat → Int32) (vD : Nat → Int32) (vJ : Nat → Int32) (a0 : Int32) (r : Int32) (hf : f_T_find vD a0 = some r) : Met l y_T_find ws_T_find rm_T_find (jv_Pr [.ref q_tr, .int a0] (dC, dI) (jv_ty cI cA cL) (w_tree cI q_tr q_di q_pl q_dr q_jo vjn vmk vwr vP vD vJ)) (QcRead r) 0 0 (fun _ => False) := by
  refine Met.ofW (cc := cc_T_find) (maxL := 4) (ret := (some .int)) (by decide) rfl ?_
  intro p e s m args below meth c s₁ B hml hv
  obtain ⟨rfl, hP, hK⟩ := hv
  have cx : jv_cx p s m _ meth c cc_T_find 4 R_Tree (some .int) ws_T_find := ⟨B.exec, B.bytes, hml, findClass_of_methodNamed B.named, atoms_spec (ws := ws_T_find) B.pre, B.returns, B.notSynchronized⟩
  have hl := lv_entry ([.ref q_tr, .int a0]) (n := 4) (Nat.le_of_ble_eq_true rfl)
  rw [lg_entry_eq]
  generalize (lg_sl ([.ref q_tr, .int a0]) ++ List.replicate (4 - (lg_sl ([.ref q_tr, .int a0])).length) Slot.unset).toArray = ls at hl ⊢
  have hl : lv_has ls 4 [(0, .ref q_tr), (1, .int a0)] := hl
  exact b_T_find_0 (y0 := a0) cx hK hP (lv_sub hl [0, 1] rfl) hf
theorem d_T_kindAt_0 : decode cc_T_kindAt 0 = .ok (.aload_n 0, 1) := by decide +kernel
theorem d_T_kindAt_1 : decode cc_T_kindAt 1 = .ok (.iload_n 1, 1) := by decide +kernel
theorem d_T_kindAt_2 : decode cc_T_kindAt 2 = .ok (.invokevirtual 36, 3) := by decide +kernel
theorem d_T_kindAt_5 : decode cc_T_kindAt 5 = .ok (.istore_n 2, 1) := by decide +kernel
theorem d_T_kindAt_6 : decode cc_T_kindAt 6 = .ok (.iload_n 2, 1) := by decide +kernel
theorem d_T_kindAt_7 : decode cc_T_kindAt 7 = .ok (.iconst (-1), 1) := by decide +kernel
theorem d_T_kindAt_8 : decode cc_T_kindAt 8 = .ok (.if_icmp .ne 7, 3) := by decide +kernel
theorem d_T_kindAt_15 : decode cc_T_kindAt 15 = .ok (.aload_n 0, 1) := by decide +kernel
theorem d_T_kindAt_16 : decode cc_T_kindAt 16 = .ok (.iload_n 2, 1) := by decide +kernel
theorem d_T_kindAt_17 : decode cc_T_kindAt 17 = .ok (.invokevirtual 39, 3) := by decide +kernel
theorem d_T_kindAt_20 : decode cc_T_kindAt 20 = .ok (.ireturn, 1) := by decide +kernel
theorem d_T_kindAt_11 : decode cc_T_kindAt 11 = .ok (.iconst 0, 1) := by decide +kernel
theorem d_T_kindAt_12 : decode cc_T_kindAt 12 = .ok (.goto 8, 3) := by decide +kernel
def f_T_kindAt_0 (vD : Nat → Int32) (y0 : Int32) : Option (Int32) :=
  (f_T_find vD y0).bind fun x1 => if x1 = (-1 : Int32) then (some (0 : Int32)) else ((f_T_kindOf vD x1).bind fun x3 => some x3)
set_option maxHeartbeats 4000000 in
set_option maxRecDepth 100000 in
theorem b_T_kindAt_0 {l : Launch} {dC : Nat → ClassId} {dI : Nat → Nat → Nat} {cI cA cL : ClassId} {q_tr q_di q_pl q_dr q_jo : Nat} {vjn : Int32} {vmk : Int32} {vwr : Int32} {vP : Nat → Int32} {vD : Nat → Int32} {vJ : Nat → Int32} {p : Program} {e : Env} {s : State} {m : MethodId} {args : Array Value} {below : List Frame} {meth : Method} {c : Code} (cx : jv_cx p s m args meth c cc_T_kindAt 3 R_Tree (some .int) ws_T_kindAt) (hK : va_K (dC, dI) vwCl (jv_ty cI cA cL) s) (hP : va_P (dC, dI) vwCl (w_tree cI q_tr q_di q_pl q_dr q_jo vjn vmk vwr vP vD vJ) s.heap) {r : Int32} {y0 : Int32} {ls : Array Slot} (hl : lv_has ls 3 [(0, .ref q_tr), (1, .int y0)]) (hf : f_T_kindAt_0 vD y0 = some r) : W p l e rm_T_kindAt s m args below meth c s.heap [] 0 0 (MQ below (QcRead r) args s 0 0 (fun _ => False)) (F0 m 0 ls []) := by
  unfold f_T_kindAt_0 at hf
  obtain ⟨hx, hb, hml, hown, hts, hr, hlocks⟩ := id cx
  refine lv_aload_n hx hb d_T_kindAt_0 rfl (lv_at hl 0 rfl) ?_
  refine lv_iload_n hx hb d_T_kindAt_1 rfl (lv_at hl 1 rfl) ?_
  obtain ⟨x1, g2, hf⟩ := jv_ob hf
  have hPc := hP.sub (ws' := (w_tree cI q_tr q_di q_pl q_dr q_jo vjn vmk vwr vP vD vJ)) [0, 1, 2, 3, 4] rfl
  refine jv_cs (W.runV (As := [.int y0]) (rest := []) (b := q_tr) ⟨hx, hb, hml, hown, hts⟩ (c_T_find l dC dI cI cA cL q_tr q_di q_pl q_dr q_jo vjn vmk vwr vP vD vJ y0 x1 g2) (jv_cwV hts wa_82 wa_78 wa_83 wa_84 wa_85 rfl rfl yd_T_find ⟨Nat.le_of_ble_eq_true rfl, Nat.le_of_ble_eq_true rfl⟩) (jv_preV hK hPc 0 rfl rfl) rfl rfl hl.1 rfl (lv_room (Nat.le_of_ble_eq_true rfl)) d_T_kindAt_2 ⟨Nat.zero_le _, Nat.zero_le _⟩) ?_
  refine lv_istore_n (lv' := [(2, .int x1), (0, .ref q_tr), (1, .int y0)]) hx hb d_T_kindAt_5 rfl hl (by decide) rfl (fun ls hl => ?_)
  refine lv_iload_n hx hb d_T_kindAt_6 rfl (lv_at hl 0 rfl) ?_
  refine lv_iconst (v := (-1 : Int32)) hx hb d_T_kindAt_7 (by decide) ?_
  refine lv_icmp_ne (tgt := 15) hx hb d_T_kindAt_8 (by decide) (fun hc => ?_) (fun hc => ?_)
  · have hf := jv_if hf hc
    refine lv_aload_n hx hb d_T_kindAt_15 rfl (lv_at hl 1 rfl) ?_
    refine lv_iload_n hx hb d_T_kindAt_16 rfl (lv_at hl 0 rfl) ?_
    obtain ⟨x3, g4, hf⟩ := jv_ob hf
    have hPc := hP.sub (ws' := (w_tree cI q_tr q_di q_pl q_dr q_jo vjn vmk vwr vP vD vJ)) [0, 1, 2, 3, 4] rfl
    refine jv_cs (W.runV (As := [.int x1]) (rest := []) (b := q_tr) ⟨hx, hb, hml, hown, hts⟩ (c_T_kindOf l dC dI cI cA cL q_tr q_di q_pl q_dr q_jo vjn vmk vwr vP vD vJ x1 x3 g4) (jv_cwV hts wa_86 wa_78 wa_87 wa_88 wa_89 rfl rfl yd_T_kindOf ⟨Nat.le_of_ble_eq_true rfl, Nat.le_of_ble_eq_true rfl⟩) (jv_preV hK hPc 0 rfl rfl) rfl rfl hl.1 rfl (lv_room (Nat.le_of_ble_eq_true rfl)) d_T_kindAt_17 ⟨Nat.zero_le _, Nat.zero_le _⟩) ?_
    obtain rfl := Option.some.inj hf
    exact W.iret hx hb hr (fun t ht hW => ⟨rfl, ht⟩) (fun q h => by cases h) d_T_kindAt_20
  · have hf := jv_it hf hc
    refine lv_iconst (v := (0 : Int32)) hx hb d_T_kindAt_11 (by decide) ?_
    refine lv_goto (tgt := 20) hx hb d_T_kindAt_12 (by decide) ?_
    obtain rfl := Option.some.inj hf
    exact W.iret hx hb hr (fun t ht hW => ⟨rfl, ht⟩) (fun q h => by cases h) d_T_kindAt_20
def f_T_kindAt (vD : Nat → Int32) (a0 : Int32) : Option (Int32) := f_T_kindAt_0 vD a0
set_option maxHeartbeats 4000000 in
set_option maxRecDepth 100000 in
theorem c_T_kindAt (l : Launch) (dC : Nat → ClassId) (dI : Nat → Nat → Nat) (cI cA cL : ClassId) (q_tr q_di q_pl q_dr q_jo : Nat) (vjn : Int32) (vmk : Int32) (vwr : Int32) (vP : Nat → Int32) (vD : Nat → Int32) (vJ : Nat → Int32) (a0 : Int32) (r : Int32) (hf : f_T_kindAt vD a0 = some r) : Met l y_T_kindAt ws_T_kindAt rm_T_kindAt (jv_Pr [.ref q_tr, .int a0] (dC, dI) (jv_ty cI cA cL) (w_tree cI q_tr q_di q_pl q_dr q_jo vjn vmk vwr vP vD vJ)) (QcRead r) 0 0 (fun _ => False) := by
  refine Met.ofW (cc := cc_T_kindAt) (maxL := 3) (ret := (some .int)) (by decide) rfl ?_
  intro p e s m args below meth c s₁ B hml hv
  obtain ⟨rfl, hP, hK⟩ := hv
  have cx : jv_cx p s m _ meth c cc_T_kindAt 3 R_Tree (some .int) ws_T_kindAt := ⟨B.exec, B.bytes, hml, findClass_of_methodNamed B.named, atoms_spec (ws := ws_T_kindAt) B.pre, B.returns, B.notSynchronized⟩
  have hl := lv_entry ([.ref q_tr, .int a0]) (n := 3) (Nat.le_of_ble_eq_true rfl)
  rw [lg_entry_eq]
  generalize (lg_sl ([.ref q_tr, .int a0]) ++ List.replicate (3 - (lg_sl ([.ref q_tr, .int a0])).length) Slot.unset).toArray = ls at hl ⊢
  have hl : lv_has ls 3 [(0, .ref q_tr), (1, .int a0)] := hl
  exact b_T_kindAt_0 (y0 := a0) cx hK hP (lv_sub hl [0, 1] rfl) hf
theorem d_T_hasFileAbove_0 : decode cc_T_hasFileAbove 0 = .ok (.iconst 1, 1) := by decide +kernel
theorem d_T_hasFileAbove_1 : decode cc_T_hasFileAbove 1 = .ok (.istore_n 2, 1) := by decide +kernel
theorem d_T_hasFileAbove_2 : decode cc_T_hasFileAbove 2 = .ok (.iload_n 2, 1) := by decide +kernel
theorem d_T_hasFileAbove_3 : decode cc_T_hasFileAbove 3 = .ok (.iconst 4, 1) := by decide +kernel
theorem d_T_hasFileAbove_4 : decode cc_T_hasFileAbove 4 = .ok (.if_icmp .ge 24, 3) := by decide +kernel
theorem d_T_hasFileAbove_28 : decode cc_T_hasFileAbove 28 = .ok (.iconst 0, 1) := by decide +kernel
theorem d_T_hasFileAbove_29 : decode cc_T_hasFileAbove 29 = .ok (.ireturn, 1) := by decide +kernel
theorem d_T_hasFileAbove_7 : decode cc_T_hasFileAbove 7 = .ok (.aload_n 0, 1) := by decide +kernel
theorem d_T_hasFileAbove_8 : decode cc_T_hasFileAbove 8 = .ok (.iload_n 1, 1) := by decide +kernel
theorem d_T_hasFileAbove_9 : decode cc_T_hasFileAbove 9 = .ok (.iload_n 2, 1) := by decide +kernel
theorem d_T_hasFileAbove_10 : decode cc_T_hasFileAbove 10 = .ok (.invokestatic 27, 3) := by decide +kernel
theorem d_T_hasFileAbove_13 : decode cc_T_hasFileAbove 13 = .ok (.invokevirtual 42, 3) := by decide +kernel
theorem d_T_hasFileAbove_16 : decode cc_T_hasFileAbove 16 = .ok (.iconst 2, 1) := by decide +kernel
theorem d_T_hasFileAbove_17 : decode cc_T_hasFileAbove 17 = .ok (.if_icmp .ne 5, 3) := by decide +kernel
theorem d_T_hasFileAbove_22 : decode cc_T_hasFileAbove 22 = .ok (.iinc 2 1, 3) := by decide +kernel
theorem d_T_hasFileAbove_25 : decode cc_T_hasFileAbove 25 = .ok (.goto (-23), 3) := by decide +kernel
theorem d_T_hasFileAbove_20 : decode cc_T_hasFileAbove 20 = .ok (.iconst 1, 1) := by decide +kernel
theorem d_T_hasFileAbove_21 : decode cc_T_hasFileAbove 21 = .ok (.ireturn, 1) := by decide +kernel
def f_T_hasFileAbove_2 (vD : Nat → Int32) (y0 : Int32) (k2 : (Int32) → Option (Int32)) (a : Int32) : Option (Int32) :=
  if (4 : Int32) ≤ a then (some (0 : Int32)) else ((f_P_without y0 a).bind fun x1 => (f_T_kindAt vD x1).bind fun x3 => if x3 = (2 : Int32) then (some (1 : Int32)) else (k2 (a + (1 : Int32))))
set_option maxHeartbeats 4000000 in
set_option maxRecDepth 100000 in
theorem b_T_hasFileAbove_2 {l : Launch} {dC : Nat → ClassId} {dI : Nat → Nat → Nat} {cI cA cL : ClassId} {q_tr q_di q_pl q_dr q_jo : Nat} {vjn : Int32} {vmk : Int32} {vwr : Int32} {vP : Nat → Int32} {vD : Nat → Int32} {vJ : Nat → Int32} {p : Program} {e : Env} {s : State} {m : MethodId} {args : Array Value} {below : List Frame} {meth : Method} {c : Code} (cx : jv_cx p s m args meth c cc_T_hasFileAbove 3 R_Tree (some .boolean) ws_T_hasFileAbove) (hK : va_K (dC, dI) vwCl (jv_ty cI cA cL) s) (hP : va_P (dC, dI) vwCl (w_tree cI q_tr q_di q_pl q_dr q_jo vjn vmk vwr vP vD vJ) s.heap) {r : Int32} {y0 : Int32} {k2 : (Int32) → Option (Int32)} (hk2 : ∀ (b0 : Int32) (ls : Array Slot), lv_has ls 3 [(0, .ref q_tr), (1, .int y0), (2, .int b0)] → k2 b0 = some r → W p l e rm_T_hasFileAbove s m args below meth c s.heap [] 0 0 (MQ below (QcRead r) args s 0 0 (fun _ => False)) (F0 m 2 ls [])) {a : Int32} {ls : Array Slot} (hl : lv_has ls 3 [(0, .ref q_tr), (1, .int y0), (2, .int a)]) (hf : f_T_hasFileAbove_2 vD y0 k2 a = some r) : W p l e rm_T_hasFileAbove s m args below meth c s.heap [] 0 0 (MQ below (QcRead r) args s 0 0 (fun _ => False)) (F0 m 2 ls []) := by
  unfold f_T_hasFileAbove_2 at hf
  obtain ⟨hx, hb, hml, hown, hts, hr, hlocks⟩ := id cx
  refine lv_iload_n hx hb d_T_hasFileAbove_2 rfl (lv_at hl 2 rfl) ?_
  refine lv_iconst (v := (4 : Int32)) hx hb d_T_hasFileAbove_3 (by decide) ?_
  refine lv_icmp_ge (tgt := 28) hx hb d_T_hasFileAbove_4 (by decide) (fun hc => ?_) (fun hc => ?_)
  · have hf := jv_it hf hc
    refine lv_iconst (v := (0 : Int32)) hx hb d_T_hasFileAbove_28 (by decide) ?_
    obtain rfl := Option.some.inj hf
    exact W.zret hx hb hr rfl (fun t ht hW => ⟨rfl, ht⟩) (fun q h => by cases h) d_T_hasFileAbove_29
  · have hf := jv_if hf hc
    refine lv_aload_n hx hb d_T_hasFileAbove_7 rfl (lv_at hl 0 rfl) ?_
    refine lv_iload_n hx hb d_T_hasFileAbove_8 rfl (lv_at hl 1 rfl) ?_
    refine lv_iload_n hx hb d_T_hasFileAbove_9 rfl (lv_at hl 2 rfl) ?_
    obtain ⟨x1, g2, hf⟩ := jv_ob hf
    refine jv_cs (W.runS (As := [.int y0, .int a]) (rest := [.ref q_tr]) ⟨hx, hb, hml, hown, hts⟩ (c_P_without l y0 a x1 g2) (jv_cwS hts wa_17 wa_8 wa_75 wa_19 rfl rfl yd_P_without ⟨Nat.le_of_ble_eq_true rfl, Nat.le_of_ble_eq_true rfl⟩) jv_pre0 rfl rfl hl.1 rfl (lv_room (Nat.le_of_ble_eq_true rfl)) d_T_hasFileAbove_10 ⟨Nat.zero_le _, Nat.zero_le _⟩) ?_
    obtain ⟨x3, g4, hf⟩ := jv_ob hf
    have hPc := hP.sub (ws' := (w_tree cI q_tr q_di q_pl q_dr q_jo vjn vmk vwr vP vD vJ)) [0, 1, 2, 3, 4] rfl
    refine jv_cs (W.runV (As := [.int x1]) (rest := []) (b := q_tr) ⟨hx, hb, hml, hown, hts⟩ (c_T_kindAt l dC dI cI cA cL q_tr q_di q_pl q_dr q_jo vjn vmk vwr vP vD vJ x1 x3 g4) (jv_cwV hts wa_90 wa_78 wa_91 wa_92 wa_93 rfl rfl yd_T_kindAt ⟨Nat.le_of_ble_eq_true rfl, Nat.le_of_ble_eq_true rfl⟩) (jv_preV hK hPc 0 rfl rfl) rfl rfl hl.1 rfl (lv_room (Nat.le_of_ble_eq_true rfl)) d_T_hasFileAbove_13 ⟨Nat.zero_le _, Nat.zero_le _⟩) ?_
    refine lv_iconst (v := (2 : Int32)) hx hb d_T_hasFileAbove_16 (by decide) ?_
    refine lv_icmp_ne (tgt := 22) hx hb d_T_hasFileAbove_17 (by decide) (fun hc => ?_) (fun hc => ?_)
    · have hf := jv_if hf hc
      refine lv_iinc (k := 2) (v := a + (1 : Int32)) (lv' := [(2, .int (a + (1 : Int32))), (0, .ref q_tr), (1, .int y0)]) hx hb d_T_hasFileAbove_22 hl rfl (jv_inc _) (by decide) rfl (fun ls hl => ?_)
      refine lv_goto (tgt := 2) hx hb d_T_hasFileAbove_25 (by decide) ?_
      exact hk2 (a + (1 : Int32)) _ (lv_sub hl [1, 2, 0] rfl) hf
    · have hf := jv_it hf hc
      refine lv_iconst (v := (1 : Int32)) hx hb d_T_hasFileAbove_20 (by decide) ?_
      obtain rfl := Option.some.inj hf
      exact W.zret hx hb hr rfl (fun t ht hW => ⟨rfl, ht⟩) (fun q h => by cases h) d_T_hasFileAbove_21
set_option maxHeartbeats 4000000 in
set_option maxRecDepth 100000 in
theorem l_T_hasFileAbove_2 {l : Launch} {dC : Nat → ClassId} {dI : Nat → Nat → Nat} {cI cA cL : ClassId} {q_tr q_di q_pl q_dr q_jo : Nat} {vjn : Int32} {vmk : Int32} {vwr : Int32} {vP : Nat → Int32} {vD : Nat → Int32} {vJ : Nat → Int32} {p : Program} {e : Env} {s : State} {m : MethodId} {args : Array Value} {below : List Frame} {meth : Method} {c : Code} (cx : jv_cx p s m args meth c cc_T_hasFileAbove 3 R_Tree (some .boolean) ws_T_hasFileAbove) (hK : va_K (dC, dI) vwCl (jv_ty cI cA cL) s) (hP : va_P (dC, dI) vwCl (w_tree cI q_tr q_di q_pl q_dr q_jo vjn vmk vwr vP vD vJ) s.heap) {r : Int32} {y0 : Int32} : ∀ n : Nat, ∀ (b0 : Int32) (ls : Array Slot), lv_has ls 3 [(0, .ref q_tr), (1, .int y0), (2, .int b0)] → jv_fx (f_T_hasFileAbove_2 vD y0) n b0 = some r → W p l e rm_T_hasFileAbove s m args below meth c s.heap [] 0 0 (MQ below (QcRead r) args s 0 0 (fun _ => False)) (F0 m 2 ls []) := by
  intro n
  induction n with
  | zero => intro b0 ls hl hf; exact jv_no hf
  | succ n ih => intro b0 ls hl hf; exact b_T_hasFileAbove_2 (a := b0) cx hK hP ih hl hf
def f_T_hasFileAbove_0 (vD : Nat → Int32) (y0 : Int32) : Option (Int32) :=
  jv_fx (f_T_hasFileAbove_2 vD y0) 300 (1 : Int32)
set_option maxHeartbeats 4000000 in
set_option maxRecDepth 100000 in
theorem b_T_hasFileAbove_0 {l : Launch} {dC : Nat → ClassId} {dI : Nat → Nat → Nat} {cI cA cL : ClassId} {q_tr q_di q_pl q_dr q_jo : Nat} {vjn : Int32} {vmk : Int32} {vwr : Int32} {vP : Nat → Int32} {vD : Nat → Int32} {vJ : Nat → Int32} {p : Program} {e : Env} {s : State} {m : MethodId} {args : Array Value} {below : List Frame} {meth : Method} {c : Code} (cx : jv_cx p s m args meth c cc_T_hasFileAbove 3 R_Tree (some .boolean) ws_T_hasFileAbove) (hK : va_K (dC, dI) vwCl (jv_ty cI cA cL) s) (hP : va_P (dC, dI) vwCl (w_tree cI q_tr q_di q_pl q_dr q_jo vjn vmk vwr vP vD vJ) s.heap) {r : Int32} {y0 : Int32} {ls : Array Slot} (hl : lv_has ls 3 [(0, .ref q_tr), (1, .int y0)]) (hf : f_T_hasFileAbove_0 vD y0 = some r) : W p l e rm_T_hasFileAbove s m args below meth c s.heap [] 0 0 (MQ below (QcRead r) args s 0 0 (fun _ => False)) (F0 m 0 ls []) := by
  unfold f_T_hasFileAbove_0 at hf
  obtain ⟨hx, hb, hml, hown, hts, hr, hlocks⟩ := id cx
  refine lv_iconst (v := (1 : Int32)) hx hb d_T_hasFileAbove_0 (by decide) ?_
  refine lv_istore_n (lv' := [(2, .int (1 : Int32)), (0, .ref q_tr), (1, .int y0)]) hx hb d_T_hasFileAbove_1 rfl hl (by decide) rfl (fun ls hl => ?_)
  exact l_T_hasFileAbove_2 (y0 := y0) cx hK hP 300 (1 : Int32) _ (lv_sub hl [1, 2, 0] rfl) hf
def f_T_hasFileAbove (vD : Nat → Int32) (a0 : Int32) : Option (Int32) := f_T_hasFileAbove_0 vD a0
set_option maxHeartbeats 4000000 in
set_option maxRecDepth 100000 in
theorem c_T_hasFileAbove (l : Launch) (dC : Nat → ClassId) (dI : Nat → Nat → Nat) (cI cA cL : ClassId) (q_tr q_di q_pl q_dr q_jo : Nat) (vjn : Int32) (vmk : Int32) (vwr : Int32) (vP : Nat → Int32) (vD : Nat → Int32) (vJ : Nat → Int32) (a0 : Int32) (r : Int32) (hf : f_T_hasFileAbove vD a0 = some r) : Met l y_T_hasFileAbove ws_T_hasFileAbove rm_T_hasFileAbove (jv_Pr [.ref q_tr, .int a0] (dC, dI) (jv_ty cI cA cL) (w_tree cI q_tr q_di q_pl q_dr q_jo vjn vmk vwr vP vD vJ)) (QcRead r) 0 0 (fun _ => False) := by
  refine Met.ofW (cc := cc_T_hasFileAbove) (maxL := 3) (ret := (some .boolean)) (by decide) rfl ?_
  intro p e s m args below meth c s₁ B hml hv
  obtain ⟨rfl, hP, hK⟩ := hv
  have cx : jv_cx p s m _ meth c cc_T_hasFileAbove 3 R_Tree (some .boolean) ws_T_hasFileAbove := ⟨B.exec, B.bytes, hml, findClass_of_methodNamed B.named, atoms_spec (ws := ws_T_hasFileAbove) B.pre, B.returns, B.notSynchronized⟩
  have hl := lv_entry ([.ref q_tr, .int a0]) (n := 3) (Nat.le_of_ble_eq_true rfl)
  rw [lg_entry_eq]
  generalize (lg_sl ([.ref q_tr, .int a0]) ++ List.replicate (3 - (lg_sl ([.ref q_tr, .int a0])).length) Slot.unset).toArray = ls at hl ⊢
  have hl : lv_has ls 3 [(0, .ref q_tr), (1, .int a0)] := hl
  exact b_T_hasFileAbove_0 (y0 := a0) cx hK hP (lv_sub hl [0, 1] rfl) hf
theorem d_T_namesAt_0 : decode cc_T_namesAt 0 = .ok (.aload_n 0, 1) := by decide +kernel
theorem d_T_namesAt_1 : decode cc_T_namesAt 1 = .ok (.iload_n 1, 1) := by decide +kernel
theorem d_T_namesAt_2 : decode cc_T_namesAt 2 = .ok (.invokevirtual 36, 3) := by decide +kernel
theorem d_T_namesAt_5 : decode cc_T_namesAt 5 = .ok (.istore_n 2, 1) := by decide +kernel
theorem d_T_namesAt_6 : decode cc_T_namesAt 6 = .ok (.iconst 0, 1) := by decide +kernel
theorem d_T_namesAt_7 : decode cc_T_namesAt 7 = .ok (.istore_n 3, 1) := by decide +kernel
theorem d_T_namesAt_8 : decode cc_T_namesAt 8 = .ok (.iconst 1, 1) := by decide +kernel
theorem d_T_namesAt_9 : decode cc_T_namesAt 9 = .ok (.istore 4, 2) := by decide +kernel
theorem d_T_namesAt_11 : decode cc_T_namesAt 11 = .ok (.iload 4, 2) := by decide +kernel
theorem d_T_namesAt_13 : decode cc_T_namesAt 13 = .ok (.bipush 8, 2) := by decide +kernel
theorem d_T_namesAt_15 : decode cc_T_namesAt 15 = .ok (.if_icmp .ge 41, 3) := by decide +kernel
theorem d_T_namesAt_56 : decode cc_T_namesAt 56 = .ok (.iload_n 3, 1) := by decide +kernel
theorem d_T_namesAt_57 : decode cc_T_namesAt 57 = .ok (.ireturn, 1) := by decide +kernel
theorem d_T_namesAt_18 : decode cc_T_namesAt 18 = .ok (.aload_n 0, 1) := by decide +kernel
theorem d_T_namesAt_19 : decode cc_T_namesAt 19 = .ok (.iload 4, 2) := by decide +kernel
theorem d_T_namesAt_21 : decode cc_T_namesAt 21 = .ok (.invokevirtual 39, 3) := by decide +kernel
theorem d_T_namesAt_24 : decode cc_T_namesAt 24 = .ok (.ifCond .eq 26, 3) := by decide +kernel
theorem d_T_namesAt_50 : decode cc_T_namesAt 50 = .ok (.iinc 4 1, 3) := by decide +kernel
theorem d_T_namesAt_53 : decode cc_T_namesAt 53 = .ok (.goto (-42), 3) := by decide +kernel
theorem d_T_namesAt_27 : decode cc_T_namesAt 27 = .ok (.aload_n 0, 1) := by decide +kernel
theorem d_T_namesAt_28 : decode cc_T_namesAt 28 = .ok (.iload 4, 2) := by decide +kernel
theorem d_T_namesAt_30 : decode cc_T_namesAt 30 = .ok (.invokevirtual 57, 3) := by decide +kernel
theorem d_T_namesAt_33 : decode cc_T_namesAt 33 = .ok (.iload_n 2, 1) := by decide +kernel
theorem d_T_namesAt_34 : decode cc_T_namesAt 34 = .ok (.if_icmp .ne 16, 3) := by decide +kernel
theorem d_T_namesAt_37 : decode cc_T_namesAt 37 = .ok (.iload_n 3, 1) := by decide +kernel
theorem d_T_namesAt_38 : decode cc_T_namesAt 38 = .ok (.iconst 1, 1) := by decide +kernel
theorem d_T_namesAt_39 : decode cc_T_namesAt 39 = .ok (.aload_n 0, 1) := by decide +kernel
theorem d_T_namesAt_40 : decode cc_T_namesAt 40 = .ok (.iload 4, 2) := by decide +kernel
theorem d_T_namesAt_42 : decode cc_T_namesAt 42 = .ok (.invokevirtual 60, 3) := by decide +kernel
theorem d_T_namesAt_45 : decode cc_T_namesAt 45 = .ok (.iconst 1, 1) := by decide +kernel
theorem d_T_namesAt_46 : decode cc_T_namesAt 46 = .ok (.isub, 1) := by decide +kernel
theorem d_T_namesAt_47 : decode cc_T_namesAt 47 = .ok (.ishl, 1) := by decide +kernel
theorem d_T_namesAt_48 : decode cc_T_namesAt 48 = .ok (.ior, 1) := by decide +kernel
theorem d_T_namesAt_49 : decode cc_T_namesAt 49 = .ok (.istore_n 3, 1) := by decide +kernel
def f_T_namesAt_11 (vD : Nat → Int32) (y0 : Int32) (k11 : (Int32 × Int32) → Option (Int32)) (a : Int32 × Int32) : Option (Int32) :=
  if (8 : Int32) ≤ a.2 then (some a.1) else ((f_T_kindOf vD a.2).bind fun x3 => if x3 = 0 then (k11 (a.1, a.2 + (1 : Int32))) else ((f_T_parentOf vD a.2).bind fun x5 => if x5 = y0 then ((f_T_nameOf vD a.2).bind fun x7 => k11 (a.1 ||| ((1 : Int32) <<< ((x7 - (1 : Int32)) &&& 31)), a.2 + (1 : Int32))) else (k11 (a.1, a.2 + (1 : Int32)))))
set_option maxHeartbeats 4000000 in
set_option maxRecDepth 100000 in
theorem b_T_namesAt_11 {l : Launch} {dC : Nat → ClassId} {dI : Nat → Nat → Nat} {cI cA cL : ClassId} {q_tr q_di q_pl q_dr q_jo : Nat} {vjn : Int32} {vmk : Int32} {vwr : Int32} {vP : Nat → Int32} {vD : Nat → Int32} {vJ : Nat → Int32} {p : Program} {e : Env} {s : State} {m : MethodId} {args : Array Value} {below : List Frame} {meth : Method} {c : Code} (cx : jv_cx p s m args meth c cc_T_namesAt 5 R_Tree (some .int) ws_T_namesAt) (hK : va_K (dC, dI) vwCl (jv_ty cI cA cL) s) (hP : va_P (dC, dI) vwCl (w_tree cI q_tr q_di q_pl q_dr q_jo vjn vmk vwr vP vD vJ) s.heap) {r : Int32} {y0 : Int32} {k11 : (Int32 × Int32) → Option (Int32)} (hk11 : ∀ (b0 : Int32) (b1 : Int32) (ls : Array Slot), lv_has ls 5 [(0, .ref q_tr), (2, .int y0), (3, .int b0), (4, .int b1)] → k11 (b0, b1) = some r → W p l e rm_T_namesAt s m args below meth c s.heap [] 0 0 (MQ below (QcRead r) args s 0 0 (fun _ => False)) (F0 m 11 ls [])) {a : Int32 × Int32} {ls : Array Slot} (hl : lv_has ls 5 [(0, .ref q_tr), (2, .int y0), (3, .int a.1), (4, .int a.2)]) (hf : f_T_namesAt_11 vD y0 k11 a = some r) : W p l e rm_T_namesAt s m args below meth c s.heap [] 0 0 (MQ below (QcRead r) args s 0 0 (fun _ => False)) (F0 m 11 ls []) := by
  unfold f_T_namesAt_11 at hf
  obtain ⟨hx, hb, hml, hown, hts, hr, hlocks⟩ := id cx
  refine lv_iload hx hb d_T_namesAt_11 (lv_at hl 3 rfl) ?_
  refine lv_bipush (v := (8 : Int32)) hx hb d_T_namesAt_13 (by decide) ?_
  refine lv_icmp_ge (tgt := 56) hx hb d_T_namesAt_15 (by decide) (fun hc => ?_) (fun hc => ?_)
  · have hf := jv_it hf hc
    refine lv_iload_n hx hb d_T_namesAt_56 rfl (lv_at hl 2 rfl) ?_
    obtain rfl := Option.some.inj hf
    exact W.iret hx hb hr (fun t ht hW => ⟨rfl, ht⟩) (fun q h => by cases h) d_T_namesAt_57
  · have hf := jv_if hf hc
    refine lv_aload_n hx hb d_T_namesAt_18 rfl (lv_at hl 0 rfl) ?_
    refine lv_iload hx hb d_T_namesAt_19 (lv_at hl 3 rfl) ?_
    obtain ⟨x3, g4, hf⟩ := jv_ob hf
    have hPc := hP.sub (ws' := (w_tree cI q_tr q_di q_pl q_dr q_jo vjn vmk vwr vP vD vJ)) [0, 1, 2, 3, 4] rfl
    refine jv_cs (W.runV (As := [.int a.2]) (rest := []) (b := q_tr) ⟨hx, hb, hml, hown, hts⟩ (c_T_kindOf l dC dI cI cA cL q_tr q_di q_pl q_dr q_jo vjn vmk vwr vP vD vJ a.2 x3 g4) (jv_cwV hts wa_86 wa_78 wa_87 wa_88 wa_89 rfl rfl yd_T_kindOf ⟨Nat.le_of_ble_eq_true rfl, Nat.le_of_ble_eq_true rfl⟩) (jv_preV hK hPc 0 rfl rfl) rfl rfl hl.1 rfl (lv_room (Nat.le_of_ble_eq_true rfl)) d_T_namesAt_21 ⟨Nat.zero_le _, Nat.zero_le _⟩) ?_
    refine lv_if_eq (tgt := 50) hx hb d_T_namesAt_24 (by decide) (fun hc => ?_) (fun hc => ?_)
    · have hf := jv_it hf hc
      refine lv_iinc (k := 3) (v := a.2 + (1 : Int32)) (lv' := [(4, .int (a.2 + (1 : Int32))), (0, .ref q_tr), (2, .int y0), (3, .int a.1)]) hx hb d_T_namesAt_50 hl rfl (jv_inc _) (by decide) rfl (fun ls hl => ?_)
      refine lv_goto (tgt := 11) hx hb d_T_namesAt_53 (by decide) ?_
      exact hk11 a.1 (a.2 + (1 : Int32)) _ (lv_sub hl [1, 2, 3, 0] rfl) hf
    · have hf := jv_if hf hc
      refine lv_aload_n hx hb d_T_namesAt_27 rfl (lv_at hl 0 rfl) ?_
      refine lv_iload hx hb d_T_namesAt_28 (lv_at hl 3 rfl) ?_
      obtain ⟨x5, g6, hf⟩ := jv_ob hf
      have hPc := hP.sub (ws' := (w_tree cI q_tr q_di q_pl q_dr q_jo vjn vmk vwr vP vD vJ)) [0, 1, 2, 3, 4] rfl
      refine jv_cs (W.runV (As := [.int a.2]) (rest := []) (b := q_tr) ⟨hx, hb, hml, hown, hts⟩ (c_T_parentOf l dC dI cI cA cL q_tr q_di q_pl q_dr q_jo vjn vmk vwr vP vD vJ a.2 x5 g6) (jv_cwV hts wa_94 wa_78 wa_95 wa_96 wa_97 rfl rfl yd_T_parentOf ⟨Nat.le_of_ble_eq_true rfl, Nat.le_of_ble_eq_true rfl⟩) (jv_preV hK hPc 0 rfl rfl) rfl rfl hl.1 rfl (lv_room (Nat.le_of_ble_eq_true rfl)) d_T_namesAt_30 ⟨Nat.zero_le _, Nat.zero_le _⟩) ?_
      refine lv_iload_n hx hb d_T_namesAt_33 rfl (lv_at hl 1 rfl) ?_
      refine lv_icmp_ne (tgt := 50) hx hb d_T_namesAt_34 (by decide) (fun hc => ?_) (fun hc => ?_)
      · have hf := jv_if hf hc
        refine lv_iinc (k := 3) (v := a.2 + (1 : Int32)) (lv' := [(4, .int (a.2 + (1 : Int32))), (0, .ref q_tr), (2, .int y0), (3, .int a.1)]) hx hb d_T_namesAt_50 hl rfl (jv_inc _) (by decide) rfl (fun ls hl => ?_)
        refine lv_goto (tgt := 11) hx hb d_T_namesAt_53 (by decide) ?_
        exact hk11 a.1 (a.2 + (1 : Int32)) _ (lv_sub hl [1, 2, 3, 0] rfl) hf
      · have hf := jv_it hf hc
        refine lv_iload_n hx hb d_T_namesAt_37 rfl (lv_at hl 2 rfl) ?_
        refine lv_iconst (v := (1 : Int32)) hx hb d_T_namesAt_38 (by decide) ?_
        refine lv_aload_n hx hb d_T_namesAt_39 rfl (lv_at hl 0 rfl) ?_
        refine lv_iload hx hb d_T_namesAt_40 (lv_at hl 3 rfl) ?_
        obtain ⟨x7, g8, hf⟩ := jv_ob hf
        have hPc := hP.sub (ws' := (w_tree cI q_tr q_di q_pl q_dr q_jo vjn vmk vwr vP vD vJ)) [0, 1, 2, 3, 4] rfl
        refine jv_cs (W.runV (As := [.int a.2]) (rest := [.int (1 : Int32), .int a.1]) (b := q_tr) ⟨hx, hb, hml, hown, hts⟩ (c_T_nameOf l dC dI cI cA cL q_tr q_di q_pl q_dr q_jo vjn vmk vwr vP vD vJ a.2 x7 g8) (jv_cwV hts wa_98 wa_78 wa_99 wa_100 wa_101 rfl rfl yd_T_nameOf ⟨Nat.le_of_ble_eq_true rfl, Nat.le_of_ble_eq_true rfl⟩) (jv_preV hK hPc 0 rfl rfl) rfl rfl hl.1 rfl (lv_room (Nat.le_of_ble_eq_true rfl)) d_T_namesAt_42 ⟨Nat.zero_le _, Nat.zero_le _⟩) ?_
        refine lv_iconst (v := (1 : Int32)) hx hb d_T_namesAt_45 (by decide) ?_
        refine lv_isub hx hb d_T_namesAt_46 ?_
        refine lv_ishl hx hb d_T_namesAt_47 ?_
        refine lv_ior hx hb d_T_namesAt_48 ?_
        refine lv_istore_n (lv' := [(3, .int (a.1 ||| ((1 : Int32) <<< ((x7 - (1 : Int32)) &&& 31)))), (0, .ref q_tr), (2, .int y0), (4, .int a.2)]) hx hb d_T_namesAt_49 rfl hl (by decide) rfl (fun ls hl => ?_)
        refine lv_iinc (k := 3) (v := a.2 + (1 : Int32)) (lv' := [(4, .int (a.2 + (1 : Int32))), (3, .int (a.1 ||| ((1 : Int32) <<< ((x7 - (1 : Int32)) &&& 31)))), (0, .ref q_tr), (2, .int y0)]) hx hb d_T_namesAt_50 hl rfl (jv_inc _) (by decide) rfl (fun ls hl => ?_)
        refine lv_goto (tgt := 11) hx hb d_T_namesAt_53 (by decide) ?_
        exact hk11 (a.1 ||| ((1 : Int32) <<< ((x7 - (1 : Int32)) &&& 31))) (a.2 + (1 : Int32)) _ (lv_sub hl [2, 3, 1, 0] rfl) hf
set_option maxHeartbeats 4000000 in
set_option maxRecDepth 100000 in
theorem l_T_namesAt_11 {l : Launch} {dC : Nat → ClassId} {dI : Nat → Nat → Nat} {cI cA cL : ClassId} {q_tr q_di q_pl q_dr q_jo : Nat} {vjn : Int32} {vmk : Int32} {vwr : Int32} {vP : Nat → Int32} {vD : Nat → Int32} {vJ : Nat → Int32} {p : Program} {e : Env} {s : State} {m : MethodId} {args : Array Value} {below : List Frame} {meth : Method} {c : Code} (cx : jv_cx p s m args meth c cc_T_namesAt 5 R_Tree (some .int) ws_T_namesAt) (hK : va_K (dC, dI) vwCl (jv_ty cI cA cL) s) (hP : va_P (dC, dI) vwCl (w_tree cI q_tr q_di q_pl q_dr q_jo vjn vmk vwr vP vD vJ) s.heap) {r : Int32} {y0 : Int32} : ∀ n : Nat, ∀ (b0 : Int32) (b1 : Int32) (ls : Array Slot), lv_has ls 5 [(0, .ref q_tr), (2, .int y0), (3, .int b0), (4, .int b1)] → jv_fx (f_T_namesAt_11 vD y0) n (b0, b1) = some r → W p l e rm_T_namesAt s m args below meth c s.heap [] 0 0 (MQ below (QcRead r) args s 0 0 (fun _ => False)) (F0 m 11 ls []) := by
  intro n
  induction n with
  | zero => intro b0 b1 ls hl hf; exact jv_no hf
  | succ n ih => intro b0 b1 ls hl hf; exact b_T_namesAt_11 (a := (b0, b1)) cx hK hP ih hl hf
def f_T_namesAt_0 (vD : Nat → Int32) (y0 : Int32) : Option (Int32) :=
  (f_T_find vD y0).bind fun x1 => jv_fx (f_T_namesAt_11 vD x1) 300 ((0 : Int32), (1 : Int32))
set_option maxHeartbeats 4000000 in
set_option maxRecDepth 100000 in
theorem b_T_namesAt_0 {l : Launch} {dC : Nat → ClassId} {dI : Nat → Nat → Nat} {cI cA cL : ClassId} {q_tr q_di q_pl q_dr q_jo : Nat} {vjn : Int32} {vmk : Int32} {vwr : Int32} {vP : Nat → Int32} {vD : Nat → Int32} {vJ : Nat → Int32} {p : Program} {e : Env} {s : State} {m : MethodId} {args : Array Value} {below : List Frame} {meth : Method} {c : Code} (cx : jv_cx p s m args meth c cc_T_namesAt 5 R_Tree (some .int) ws_T_namesAt) (hK : va_K (dC, dI) vwCl (jv_ty cI cA cL) s) (hP : va_P (dC, dI) vwCl (w_tree cI q_tr q_di q_pl q_dr q_jo vjn vmk vwr vP vD vJ) s.heap) {r : Int32} {y0 : Int32} {ls : Array Slot} (hl : lv_has ls 5 [(0, .ref q_tr), (1, .int y0)]) (hf : f_T_namesAt_0 vD y0 = some r) : W p l e rm_T_namesAt s m args below meth c s.heap [] 0 0 (MQ below (QcRead r) args s 0 0 (fun _ => False)) (F0 m 0 ls []) := by
  unfold f_T_namesAt_0 at hf
  obtain ⟨hx, hb, hml, hown, hts, hr, hlocks⟩ := id cx
  refine lv_aload_n hx hb d_T_namesAt_0 rfl (lv_at hl 0 rfl) ?_
  refine lv_iload_n hx hb d_T_namesAt_1 rfl (lv_at hl 1 rfl) ?_
  obtain ⟨x1, g2, hf⟩ := jv_ob hf
  have hPc := hP.sub (ws' := (w_tree cI q_tr q_di q_pl q_dr q_jo vjn vmk vwr vP vD vJ)) [0, 1, 2, 3, 4] rfl
  refine jv_cs (W.runV (As := [.int y0]) (rest := []) (b := q_tr) ⟨hx, hb, hml, hown, hts⟩ (c_T_find l dC dI cI cA cL q_tr q_di q_pl q_dr q_jo vjn vmk vwr vP vD vJ y0 x1 g2) (jv_cwV hts wa_82 wa_78 wa_83 wa_84 wa_85 rfl rfl yd_T_find ⟨Nat.le_of_ble_eq_true rfl, Nat.le_of_ble_eq_true rfl⟩) (jv_preV hK hPc 0 rfl rfl) rfl rfl hl.1 rfl (lv_room (Nat.le_of_ble_eq_true rfl)) d_T_namesAt_2 ⟨Nat.zero_le _, Nat.zero_le _⟩) ?_
  refine lv_istore_n (lv' := [(2, .int x1), (0, .ref q_tr), (1, .int y0)]) hx hb d_T_namesAt_5 rfl hl (by decide) rfl (fun ls hl => ?_)
  refine lv_iconst (v := (0 : Int32)) hx hb d_T_namesAt_6 (by decide) ?_
  refine lv_istore_n (lv' := [(3, .int (0 : Int32)), (2, .int x1), (0, .ref q_tr), (1, .int y0)]) hx hb d_T_namesAt_7 rfl hl (by decide) rfl (fun ls hl => ?_)
  refine lv_iconst (v := (1 : Int32)) hx hb d_T_namesAt_8 (by decide) ?_
  refine lv_istore (lv' := [(4, .int (1 : Int32)), (3, .int (0 : Int32)), (2, .int x1), (0, .ref q_tr), (1, .int y0)]) hx hb d_T_namesAt_9 hl (by decide) rfl (fun ls hl => ?_)
  exact l_T_namesAt_11 (y0 := x1) cx hK hP 300 (0 : Int32) (1 : Int32) _ (lv_sub hl [3, 2, 1, 0] rfl) hf
def f_T_namesAt (vD : Nat → Int32) (a0 : Int32) : Option (Int32) := f_T_namesAt_0 vD a0
set_option maxHeartbeats 4000000 in
set_option maxRecDepth 100000 in
theorem c_T_namesAt (l : Launch) (dC : Nat → ClassId) (dI : Nat → Nat → Nat) (cI cA cL : ClassId) (q_tr q_di q_pl q_dr q_jo : Nat) (vjn : Int32) (vmk : Int32) (vwr : Int32) (vP : Nat → Int32) (vD : Nat → Int32) (vJ : Nat → Int32) (a0 : Int32) (r : Int32) (hf : f_T_namesAt vD a0 = some r) : Met l y_T_namesAt ws_T_namesAt rm_T_namesAt (jv_Pr [.ref q_tr, .int a0] (dC, dI) (jv_ty cI cA cL) (w_tree cI q_tr q_di q_pl q_dr q_jo vjn vmk vwr vP vD vJ)) (QcRead r) 0 0 (fun _ => False) := by
  refine Met.ofW (cc := cc_T_namesAt) (maxL := 5) (ret := (some .int)) (by decide) rfl ?_
  intro p e s m args below meth c s₁ B hml hv
  obtain ⟨rfl, hP, hK⟩ := hv
  have cx : jv_cx p s m _ meth c cc_T_namesAt 5 R_Tree (some .int) ws_T_namesAt := ⟨B.exec, B.bytes, hml, findClass_of_methodNamed B.named, atoms_spec (ws := ws_T_namesAt) B.pre, B.returns, B.notSynchronized⟩
  have hl := lv_entry ([.ref q_tr, .int a0]) (n := 5) (Nat.le_of_ble_eq_true rfl)
  rw [lg_entry_eq]
  generalize (lg_sl ([.ref q_tr, .int a0]) ++ List.replicate (5 - (lg_sl ([.ref q_tr, .int a0])).length) Slot.unset).toArray = ls at hl ⊢
  have hl : lv_has ls 5 [(0, .ref q_tr), (1, .int a0)] := hl
  exact b_T_namesAt_0 (y0 := a0) cx hK hP (lv_sub hl [0, 1] rfl) hf
theorem d_T_childrenOf_0 : decode cc_T_childrenOf 0 = .ok (.iconst 0, 1) := by decide +kernel
theorem d_T_childrenOf_1 : decode cc_T_childrenOf 1 = .ok (.istore_n 2, 1) := by decide +kernel
theorem d_T_childrenOf_2 : decode cc_T_childrenOf 2 = .ok (.iconst 1, 1) := by decide +kernel
theorem d_T_childrenOf_3 : decode cc_T_childrenOf 3 = .ok (.istore_n 3, 1) := by decide +kernel
theorem d_T_childrenOf_4 : decode cc_T_childrenOf 4 = .ok (.iload_n 3, 1) := by decide +kernel
theorem d_T_childrenOf_5 : decode cc_T_childrenOf 5 = .ok (.bipush 8, 2) := by decide +kernel
theorem d_T_childrenOf_7 : decode cc_T_childrenOf 7 = .ok (.if_icmp .ge 35, 3) := by decide +kernel
theorem d_T_childrenOf_42 : decode cc_T_childrenOf 42 = .ok (.iload_n 2, 1) := by decide +kernel
theorem d_T_childrenOf_43 : decode cc_T_childrenOf 43 = .ok (.ireturn, 1) := by decide +kernel
theorem d_T_childrenOf_10 : decode cc_T_childrenOf 10 = .ok (.aload_n 0, 1) := by decide +kernel
theorem d_T_childrenOf_11 : decode cc_T_childrenOf 11 = .ok (.iload_n 3, 1) := by decide +kernel
theorem d_T_childrenOf_12 : decode cc_T_childrenOf 12 = .ok (.invokevirtual 39, 3) := by decide +kernel
theorem d_T_childrenOf_15 : decode cc_T_childrenOf 15 = .ok (.ifCond .eq 21, 3) := by decide +kernel
theorem d_T_childrenOf_36 : decode cc_T_childrenOf 36 = .ok (.iinc 3 1, 3) := by decide +kernel
theorem d_T_childrenOf_39 : decode cc_T_childrenOf 39 = .ok (.goto (-35), 3) := by decide +kernel
theorem d_T_childrenOf_18 : decode cc_T_childrenOf 18 = .ok (.iload_n 1, 1) := by decide +kernel
theorem d_T_childrenOf_19 : decode cc_T_childrenOf 19 = .ok (.aload_n 0, 1) := by decide +kernel
theorem d_T_childrenOf_20 : decode cc_T_childrenOf 20 = .ok (.iload_n 3, 1) := by decide +kernel
theorem d_T_childrenOf_21 : decode cc_T_childrenOf 21 = .ok (.invokevirtual 57, 3) := by decide +kernel
theorem d_T_childrenOf_24 : decode cc_T_childrenOf 24 = .ok (.ishr, 1) := by decide +kernel
theorem d_T_childrenOf_25 : decode cc_T_childrenOf 25 = .ok (.iconst 1, 1) := by decide +kernel
theorem d_T_childrenOf_26 : decode cc_T_childrenOf 26 = .ok (.iand, 1) := by decide +kernel
theorem d_T_childrenOf_27 : decode cc_T_childrenOf 27 = .ok (.ifCond .eq 9, 3) := by decide +kernel
theorem d_T_childrenOf_30 : decode cc_T_childrenOf 30 = .ok (.iload_n 2, 1) := by decide +kernel
theorem d_T_childrenOf_31 : decode cc_T_childrenOf 31 = .ok (.iconst 1, 1) := by decide +kernel
theorem d_T_childrenOf_32 : decode cc_T_childrenOf 32 = .ok (.iload_n 3, 1) := by decide +kernel
theorem d_T_childrenOf_33 : decode cc_T_childrenOf 33 = .ok (.ishl, 1) := by decide +kernel
theorem d_T_childrenOf_34 : decode cc_T_childrenOf 34 = .ok (.ior, 1) := by decide +kernel
theorem d_T_childrenOf_35 : decode cc_T_childrenOf 35 = .ok (.istore_n 2, 1) := by decide +kernel
def f_T_childrenOf_4 (vD : Nat → Int32) (y0 : Int32) (k4 : (Int32 × Int32) → Option (Int32)) (a : Int32 × Int32) : Option (Int32) :=
  if (8 : Int32) ≤ a.2 then (some a.1) else ((f_T_kindOf vD a.2).bind fun x1 => if x1 = 0 then (k4 (a.1, a.2 + (1 : Int32))) else ((f_T_parentOf vD a.2).bind fun x3 => if ((y0 >>> (x3 &&& 31)) &&& (1 : Int32)) = 0 then (k4 (a.1, a.2 + (1 : Int32))) else (k4 (a.1 ||| ((1 : Int32) <<< (a.2 &&& 31)), a.2 + (1 : Int32)))))
set_option maxHeartbeats 4000000 in
set_option maxRecDepth 100000 in
theorem b_T_childrenOf_4 {l : Launch} {dC : Nat → ClassId} {dI : Nat → Nat → Nat} {cI cA cL : ClassId} {q_tr q_di q_pl q_dr q_jo : Nat} {vjn : Int32} {vmk : Int32} {vwr : Int32} {vP : Nat → Int32} {vD : Nat → Int32} {vJ : Nat → Int32} {p : Program} {e : Env} {s : State} {m : MethodId} {args : Array Value} {below : List Frame} {meth : Method} {c : Code} (cx : jv_cx p s m args meth c cc_T_childrenOf 4 R_Tree (some .int) ws_T_childrenOf) (hK : va_K (dC, dI) vwCl (jv_ty cI cA cL) s) (hP : va_P (dC, dI) vwCl (w_tree cI q_tr q_di q_pl q_dr q_jo vjn vmk vwr vP vD vJ) s.heap) {r : Int32} {y0 : Int32} {k4 : (Int32 × Int32) → Option (Int32)} (hk4 : ∀ (b0 : Int32) (b1 : Int32) (ls : Array Slot), lv_has ls 4 [(0, .ref q_tr), (1, .int y0), (2, .int b0), (3, .int b1)] → k4 (b0, b1) = some r → W p l e rm_T_childrenOf s m args below meth c s.heap [] 0 0 (MQ below (QcRead r) args s 0 0 (fun _ => False)) (F0 m 4 ls [])) {a : Int32 × Int32} {ls : Array Slot} (hl : lv_has ls 4 [(0, .ref q_tr), (1, .int y0), (2, .int a.1), (3, .int a.2)]) (hf : f_T_childrenOf_4 vD y0 k4 a = some r) : W p l e rm_T_childrenOf s m args below meth c s.heap [] 0 0 (MQ below (QcRead r) args s 0 0 (fun _ => False)) (F0 m 4 ls []) := by
  unfold f_T_childrenOf_4 at hf
  obtain ⟨hx, hb, hml, hown, hts, hr, hlocks⟩ := id cx
  refine lv_iload_n hx hb d_T_childrenOf_4 rfl (lv_at hl 3 rfl) ?_
  refine lv_bipush (v := (8 : Int32)) hx hb d_T_childrenOf_5 (by decide) ?_
  refine lv_icmp_ge (tgt := 42) hx hb d_T_childrenOf_7 (by decide) (fun hc => ?_) (fun hc => ?_)
  · have hf := jv_it hf hc
    refine lv_iload_n hx hb d_T_childrenOf_42 rfl (lv_at hl 2 rfl) ?_
    obtain rfl := Option.some.inj hf
    exact W.iret hx hb hr (fun t ht hW => ⟨rfl, ht⟩) (fun q h => by cases h) d_T_childrenOf_43
  · have hf := jv_if hf hc
    refine lv_aload_n hx hb d_T_childrenOf_10 rfl (lv_at hl 0 rfl) ?_
    refine lv_iload_n hx hb d_T_childrenOf_11 rfl (lv_at hl 3 rfl) ?_
    obtain ⟨x1, g2, hf⟩ := jv_ob hf
    have hPc := hP.sub (ws' := (w_tree cI q_tr q_di q_pl q_dr q_jo vjn vmk vwr vP vD vJ)) [0, 1, 2, 3, 4] rfl
    refine jv_cs (W.runV (As := [.int a.2]) (rest := []) (b := q_tr) ⟨hx, hb, hml, hown, hts⟩ (c_T_kindOf l dC dI cI cA cL q_tr q_di q_pl q_dr q_jo vjn vmk vwr vP vD vJ a.2 x1 g2) (jv_cwV hts wa_86 wa_78 wa_87 wa_88 wa_89 rfl rfl yd_T_kindOf ⟨Nat.le_of_ble_eq_true rfl, Nat.le_of_ble_eq_true rfl⟩) (jv_preV hK hPc 0 rfl rfl) rfl rfl hl.1 rfl (lv_room (Nat.le_of_ble_eq_true rfl)) d_T_childrenOf_12 ⟨Nat.zero_le _, Nat.zero_le _⟩) ?_
    refine lv_if_eq (tgt := 36) hx hb d_T_childrenOf_15 (by decide) (fun hc => ?_) (fun hc => ?_)
    · have hf := jv_it hf hc
      refine lv_iinc (k := 3) (v := a.2 + (1 : Int32)) (lv' := [(3, .int (a.2 + (1 : Int32))), (0, .ref q_tr), (1, .int y0), (2, .int a.1)]) hx hb d_T_childrenOf_36 hl rfl (jv_inc _) (by decide) rfl (fun ls hl => ?_)
      refine lv_goto (tgt := 4) hx hb d_T_childrenOf_39 (by decide) ?_
      exact hk4 a.1 (a.2 + (1 : Int32)) _ (lv_sub hl [1, 2, 3, 0] rfl) hf
    · have hf := jv_if hf hc
      refine lv_iload_n hx hb d_T_childrenOf_18 rfl (lv_at hl 1 rfl) ?_
      refine lv_aload_n hx hb d_T_childrenOf_19 rfl (lv_at hl 0 rfl) ?_
      refine lv_iload_n hx hb d_T_childrenOf_20 rfl (lv_at hl 3 rfl) ?_
      obtain ⟨x3, g4, hf⟩ := jv_ob hf
      have hPc := hP.sub (ws' := (w_tree cI q_tr q_di q_pl q_dr q_jo vjn vmk vwr vP vD vJ)) [0, 1, 2, 3, 4] rfl
      refine jv_cs (W.runV (As := [.int a.2]) (rest := [.int y0]) (b := q_tr) ⟨hx, hb, hml, hown, hts⟩ (c_T_parentOf l dC dI cI cA cL q_tr q_di q_pl q_dr q_jo vjn vmk vwr vP vD vJ a.2 x3 g4) (jv_cwV hts wa_94 wa_78 wa_95 wa_96 wa_97 rfl rfl yd_T_parentOf ⟨Nat.le_of_ble_eq_true rfl, Nat.le_of_ble_eq_true rfl⟩) (jv_preV hK hPc 0 rfl rfl) rfl rfl hl.1 rfl (lv_room (Nat.le_of_ble_eq_true rfl)) d_T_childrenOf_21 ⟨Nat.zero_le _, Nat.zero_le _⟩) ?_
      refine lv_ishr hx hb d_T_childrenOf_24 ?_
      refine lv_iconst (v := (1 : Int32)) hx hb d_T_childrenOf_25 (by decide) ?_
      refine lv_iand hx hb d_T_childrenOf_26 ?_
      refine lv_if_eq (tgt := 36) hx hb d_T_childrenOf_27 (by decide) (fun hc => ?_) (fun hc => ?_)
      · have hf := jv_it hf hc
        refine lv_iinc (k := 3) (v := a.2 + (1 : Int32)) (lv' := [(3, .int (a.2 + (1 : Int32))), (0, .ref q_tr), (1, .int y0), (2, .int a.1)]) hx hb d_T_childrenOf_36 hl rfl (jv_inc _) (by decide) rfl (fun ls hl => ?_)
        refine lv_goto (tgt := 4) hx hb d_T_childrenOf_39 (by decide) ?_
        exact hk4 a.1 (a.2 + (1 : Int32)) _ (lv_sub hl [1, 2, 3, 0] rfl) hf
      · have hf := jv_if hf hc
        refine lv_iload_n hx hb d_T_childrenOf_30 rfl (lv_at hl 2 rfl) ?_
        refine lv_iconst (v := (1 : Int32)) hx hb d_T_childrenOf_31 (by decide) ?_
        refine lv_iload_n hx hb d_T_childrenOf_32 rfl (lv_at hl 3 rfl) ?_
        refine lv_ishl hx hb d_T_childrenOf_33 ?_
        refine lv_ior hx hb d_T_childrenOf_34 ?_
        refine lv_istore_n (lv' := [(2, .int (a.1 ||| ((1 : Int32) <<< (a.2 &&& 31)))), (0, .ref q_tr), (1, .int y0), (3, .int a.2)]) hx hb d_T_childrenOf_35 rfl hl (by decide) rfl (fun ls hl => ?_)
        refine lv_iinc (k := 3) (v := a.2 + (1 : Int32)) (lv' := [(3, .int (a.2 + (1 : Int32))), (2, .int (a.1 ||| ((1 : Int32) <<< (a.2 &&& 31)))), (0, .ref q_tr), (1, .int y0)]) hx hb d_T_childrenOf_36 hl rfl (jv_inc _) (by decide) rfl (fun ls hl => ?_)
        refine lv_goto (tgt := 4) hx hb d_T_childrenOf_39 (by decide) ?_
        exact hk4 (a.1 ||| ((1 : Int32) <<< (a.2 &&& 31))) (a.2 + (1 : Int32)) _ (lv_sub hl [2, 3, 1, 0] rfl) hf
set_option maxHeartbeats 4000000 in
set_option maxRecDepth 100000 in
theorem l_T_childrenOf_4 {l : Launch} {dC : Nat → ClassId} {dI : Nat → Nat → Nat} {cI cA cL : ClassId} {q_tr q_di q_pl q_dr q_jo : Nat} {vjn : Int32} {vmk : Int32} {vwr : Int32} {vP : Nat → Int32} {vD : Nat → Int32} {vJ : Nat → Int32} {p : Program} {e : Env} {s : State} {m : MethodId} {args : Array Value} {below : List Frame} {meth : Method} {c : Code} (cx : jv_cx p s m args meth c cc_T_childrenOf 4 R_Tree (some .int) ws_T_childrenOf) (hK : va_K (dC, dI) vwCl (jv_ty cI cA cL) s) (hP : va_P (dC, dI) vwCl (w_tree cI q_tr q_di q_pl q_dr q_jo vjn vmk vwr vP vD vJ) s.heap) {r : Int32} {y0 : Int32} : ∀ n : Nat, ∀ (b0 : Int32) (b1 : Int32) (ls : Array Slot), lv_has ls 4 [(0, .ref q_tr), (1, .int y0), (2, .int b0), (3, .int b1)] → jv_fx (f_T_childrenOf_4 vD y0) n (b0, b1) = some r → W p l e rm_T_childrenOf s m args below meth c s.heap [] 0 0 (MQ below (QcRead r) args s 0 0 (fun _ => False)) (F0 m 4 ls []) := by
  intro n
  induction n with
  | zero => intro b0 b1 ls hl hf; exact jv_no hf
  | succ n ih => intro b0 b1 ls hl hf; exact b_T_childrenOf_4 (a := (b0, b1)) cx hK hP ih hl hf
def f_T_childrenOf_0 (vD : Nat → Int32) (y0 : Int32) : Option (Int32) :=
  jv_fx (f_T_childrenOf_4 vD y0) 300 ((0 : Int32), (1 : Int32))
set_option maxHeartbeats 4000000 in
set_option maxRecDepth 100000 in
theorem b_T_childrenOf_0 {l : Launch} {dC : Nat → ClassId} {dI : Nat → Nat → Nat} {cI cA cL : ClassId} {q_tr q_di q_pl q_dr q_jo : Nat} {vjn : Int32} {vmk : Int32} {vwr : Int32} {vP : Nat → Int32} {vD : Nat → Int32} {vJ : Nat → Int32} {p : Program} {e : Env} {s : State} {m : MethodId} {args : Array Value} {below : List Frame} {meth : Method} {c : Code} (cx : jv_cx p s m args meth c cc_T_childrenOf 4 R_Tree (some .int) ws_T_childrenOf) (hK : va_K (dC, dI) vwCl (jv_ty cI cA cL) s) (hP : va_P (dC, dI) vwCl (w_tree cI q_tr q_di q_pl q_dr q_jo vjn vmk vwr vP vD vJ) s.heap) {r : Int32} {y0 : Int32} {ls : Array Slot} (hl : lv_has ls 4 [(0, .ref q_tr), (1, .int y0)]) (hf : f_T_childrenOf_0 vD y0 = some r) : W p l e rm_T_childrenOf s m args below meth c s.heap [] 0 0 (MQ below (QcRead r) args s 0 0 (fun _ => False)) (F0 m 0 ls []) := by
  unfold f_T_childrenOf_0 at hf
  obtain ⟨hx, hb, hml, hown, hts, hr, hlocks⟩ := id cx
  refine lv_iconst (v := (0 : Int32)) hx hb d_T_childrenOf_0 (by decide) ?_
  refine lv_istore_n (lv' := [(2, .int (0 : Int32)), (0, .ref q_tr), (1, .int y0)]) hx hb d_T_childrenOf_1 rfl hl (by decide) rfl (fun ls hl => ?_)
  refine lv_iconst (v := (1 : Int32)) hx hb d_T_childrenOf_2 (by decide) ?_
  refine lv_istore_n (lv' := [(3, .int (1 : Int32)), (2, .int (0 : Int32)), (0, .ref q_tr), (1, .int y0)]) hx hb d_T_childrenOf_3 rfl hl (by decide) rfl (fun ls hl => ?_)
  exact l_T_childrenOf_4 (y0 := y0) cx hK hP 300 (0 : Int32) (1 : Int32) _ (lv_sub hl [2, 3, 1, 0] rfl) hf
def f_T_childrenOf (vD : Nat → Int32) (a0 : Int32) : Option (Int32) := f_T_childrenOf_0 vD a0
set_option maxHeartbeats 4000000 in
set_option maxRecDepth 100000 in
theorem c_T_childrenOf (l : Launch) (dC : Nat → ClassId) (dI : Nat → Nat → Nat) (cI cA cL : ClassId) (q_tr q_di q_pl q_dr q_jo : Nat) (vjn : Int32) (vmk : Int32) (vwr : Int32) (vP : Nat → Int32) (vD : Nat → Int32) (vJ : Nat → Int32) (a0 : Int32) (r : Int32) (hf : f_T_childrenOf vD a0 = some r) : Met l y_T_childrenOf ws_T_childrenOf rm_T_childrenOf (jv_Pr [.ref q_tr, .int a0] (dC, dI) (jv_ty cI cA cL) (w_tree cI q_tr q_di q_pl q_dr q_jo vjn vmk vwr vP vD vJ)) (QcRead r) 0 0 (fun _ => False) := by
  refine Met.ofW (cc := cc_T_childrenOf) (maxL := 4) (ret := (some .int)) (by decide) rfl ?_
  intro p e s m args below meth c s₁ B hml hv
  obtain ⟨rfl, hP, hK⟩ := hv
  have cx : jv_cx p s m _ meth c cc_T_childrenOf 4 R_Tree (some .int) ws_T_childrenOf := ⟨B.exec, B.bytes, hml, findClass_of_methodNamed B.named, atoms_spec (ws := ws_T_childrenOf) B.pre, B.returns, B.notSynchronized⟩
  have hl := lv_entry ([.ref q_tr, .int a0]) (n := 4) (Nat.le_of_ble_eq_true rfl)
  rw [lg_entry_eq]
  generalize (lg_sl ([.ref q_tr, .int a0]) ++ List.replicate (4 - (lg_sl ([.ref q_tr, .int a0])).length) Slot.unset).toArray = ls at hl ⊢
  have hl : lv_has ls 4 [(0, .ref q_tr), (1, .int a0)] := hl
  exact b_T_childrenOf_0 (y0 := a0) cx hK hP (lv_sub hl [0, 1] rfl) hf
theorem d_T_heightOf_0 : decode cc_T_heightOf 0 = .ok (.iconst 0, 1) := by decide +kernel
theorem d_T_heightOf_1 : decode cc_T_heightOf 1 = .ok (.istore_n 2, 1) := by decide +kernel
theorem d_T_heightOf_2 : decode cc_T_heightOf 2 = .ok (.aload_n 0, 1) := by decide +kernel
theorem d_T_heightOf_3 : decode cc_T_heightOf 3 = .ok (.iconst 1, 1) := by decide +kernel
theorem d_T_heightOf_4 : decode cc_T_heightOf 4 = .ok (.iload_n 1, 1) := by decide +kernel
theorem d_T_heightOf_5 : decode cc_T_heightOf 5 = .ok (.ishl, 1) := by decide +kernel
theorem d_T_heightOf_6 : decode cc_T_heightOf 6 = .ok (.invokevirtual 63, 3) := by decide +kernel
theorem d_T_heightOf_9 : decode cc_T_heightOf 9 = .ok (.istore_n 3, 1) := by decide +kernel
theorem d_T_heightOf_10 : decode cc_T_heightOf 10 = .ok (.iconst 0, 1) := by decide +kernel
theorem d_T_heightOf_11 : decode cc_T_heightOf 11 = .ok (.istore 4, 2) := by decide +kernel
theorem d_T_heightOf_13 : decode cc_T_heightOf 13 = .ok (.iload 4, 2) := by decide +kernel
theorem d_T_heightOf_15 : decode cc_T_heightOf 15 = .ok (.bipush 8, 2) := by decide +kernel
theorem d_T_heightOf_17 : decode cc_T_heightOf 17 = .ok (.if_icmp .ge 22, 3) := by decide +kernel
theorem d_T_heightOf_39 : decode cc_T_heightOf 39 = .ok (.iload_n 2, 1) := by decide +kernel
theorem d_T_heightOf_40 : decode cc_T_heightOf 40 = .ok (.ireturn, 1) := by decide +kernel
theorem d_T_heightOf_20 : decode cc_T_heightOf 20 = .ok (.iload_n 3, 1) := by decide +kernel
theorem d_T_heightOf_21 : decode cc_T_heightOf 21 = .ok (.ifCond .eq 18, 3) := by decide +kernel
theorem d_T_heightOf_24 : decode cc_T_heightOf 24 = .ok (.iinc 2 1, 3) := by decide +kernel
theorem d_T_heightOf_27 : decode cc_T_heightOf 27 = .ok (.aload_n 0, 1) := by decide +kernel
theorem d_T_heightOf_28 : decode cc_T_heightOf 28 = .ok (.iload_n 3, 1) := by decide +kernel
theorem d_T_heightOf_29 : decode cc_T_heightOf 29 = .ok (.invokevirtual 63, 3) := by decide +kernel
theorem d_T_heightOf_32 : decode cc_T_heightOf 32 = .ok (.istore_n 3, 1) := by decide +kernel
theorem d_T_heightOf_33 : decode cc_T_heightOf 33 = .ok (.iinc 4 1, 3) := by decide +kernel
theorem d_T_heightOf_36 : decode cc_T_heightOf 36 = .ok (.goto (-23), 3) := by decide +kernel
def f_T_heightOf_13 (vD : Nat → Int32) (k13 : (Int32 × Int32 × Int32) → Option (Int32)) (a : Int32 × Int32 × Int32) : Option (Int32) :=
  if (8 : Int32) ≤ a.2.2 then (some a.1) else (if a.2.1 = 0 then (some a.1) else ((f_T_childrenOf vD a.2.1).bind fun x3 => k13 (a.1 + (1 : Int32), x3, a.2.2 + (1 : Int32))))
set_option maxHeartbeats 4000000 in
set_option maxRecDepth 100000 in
theorem b_T_heightOf_13 {l : Launch} {dC : Nat → ClassId} {dI : Nat → Nat → Nat} {cI cA cL : ClassId} {q_tr q_di q_pl q_dr q_jo : Nat} {vjn : Int32} {vmk : Int32} {vwr : Int32} {vP : Nat → Int32} {vD : Nat → Int32} {vJ : Nat → Int32} {p : Program} {e : Env} {s : State} {m : MethodId} {args : Array Value} {below : List Frame} {meth : Method} {c : Code} (cx : jv_cx p s m args meth c cc_T_heightOf 5 R_Tree (some .int) ws_T_heightOf) (hK : va_K (dC, dI) vwCl (jv_ty cI cA cL) s) (hP : va_P (dC, dI) vwCl (w_tree cI q_tr q_di q_pl q_dr q_jo vjn vmk vwr vP vD vJ) s.heap) {r : Int32} {k13 : (Int32 × Int32 × Int32) → Option (Int32)} (hk13 : ∀ (b0 : Int32) (b1 : Int32) (b2 : Int32) (ls : Array Slot), lv_has ls 5 [(0, .ref q_tr), (2, .int b0), (3, .int b1), (4, .int b2)] → k13 (b0, b1, b2) = some r → W p l e rm_T_heightOf s m args below meth c s.heap [] 0 0 (MQ below (QcRead r) args s 0 0 (fun _ => False)) (F0 m 13 ls [])) {a : Int32 × Int32 × Int32} {ls : Array Slot} (hl : lv_has ls 5 [(0, .ref q_tr), (2, .int a.1), (3, .int a.2.1), (4, .int a.2.2)]) (hf : f_T_heightOf_13 vD k13 a = some r) : W p l e rm_T_heightOf s m args below meth c s.heap [] 0 0 (MQ below (QcRead r) args s 0 0 (fun _ => False)) (F0 m 13 ls []) := by
  unfold f_T_heightOf_13 at hf
  obtain ⟨hx, hb, hml, hown, hts, hr, hlocks⟩ := id cx
  refine lv_iload hx hb d_T_heightOf_13 (lv_at hl 3 rfl) ?_
  refine lv_bipush (v := (8 : Int32)) hx hb d_T_heightOf_15 (by decide) ?_
  refine lv_icmp_ge (tgt := 39) hx hb d_T_heightOf_17 (by decide) (fun hc => ?_) (fun hc => ?_)
  · have hf := jv_it hf hc
    refine lv_iload_n hx hb d_T_heightOf_39 rfl (lv_at hl 1 rfl) ?_
    obtain rfl := Option.some.inj hf
    exact W.iret hx hb hr (fun t ht hW => ⟨rfl, ht⟩) (fun q h => by cases h) d_T_heightOf_40
  · have hf := jv_if hf hc
    refine lv_iload_n hx hb d_T_heightOf_20 rfl (lv_at hl 2 rfl) ?_
    refine lv_if_eq (tgt := 39) hx hb d_T_heightOf_21 (by decide) (fun hc => ?_) (fun hc => ?_)
    · have hf := jv_it hf hc
      refine lv_iload_n hx hb d_T_heightOf_39 rfl (lv_at hl 1 rfl) ?_
      obtain rfl := Option.some.inj hf
      exact W.iret hx hb hr (fun t ht hW => ⟨rfl, ht⟩) (fun q h => by cases h) d_T_heightOf_40
    · have hf := jv_if hf hc
      refine lv_iinc (k := 1) (v := a.1 + (1 : Int32)) (lv' := [(2, .int (a.1 + (1 : Int32))), (0, .ref q_tr), (3, .int a.2.1), (4, .int a.2.2)]) hx hb d_T_heightOf_24 hl rfl (jv_inc _) (by decide) rfl (fun ls hl => ?_)
      refine lv_aload_n hx hb d_T_heightOf_27 rfl (lv_at hl 1 rfl) ?_
      refine lv_iload_n hx hb d_T_heightOf_28 rfl (lv_at hl 2 rfl) ?_
      obtain ⟨x3, g4, hf⟩ := jv_ob hf
      have hPc := hP.sub (ws' := (w_tree cI q_tr q_di q_pl q_dr q_jo vjn vmk vwr vP vD vJ)) [0, 1, 2, 3, 4] rfl
      refine jv_cs (W.runV (As := [.int a.2.1]) (rest := []) (b := q_tr) ⟨hx, hb, hml, hown, hts⟩ (c_T_childrenOf l dC dI cI cA cL q_tr q_di q_pl q_dr q_jo vjn vmk vwr vP vD vJ a.2.1 x3 g4) (jv_cwV hts wa_102 wa_78 wa_103 wa_104 wa_105 rfl rfl yd_T_childrenOf ⟨Nat.le_of_ble_eq_true rfl, Nat.le_of_ble_eq_true rfl⟩) (jv_preV hK hPc 0 rfl rfl) rfl rfl hl.1 rfl (lv_room (Nat.le_of_ble_eq_true rfl)) d_T_heightOf_29 ⟨Nat.zero_le _, Nat.zero_le _⟩) ?_
      refine lv_istore_n (lv' := [(3, .int x3), (2, .int (a.1 + (1 : Int32))), (0, .ref q_tr), (4, .int a.2.2)]) hx hb d_T_heightOf_32 rfl hl (by decide) rfl (fun ls hl => ?_)
      refine lv_iinc (k := 3) (v := a.2.2 + (1 : Int32)) (lv' := [(4, .int (a.2.2 + (1 : Int32))), (3, .int x3), (2, .int (a.1 + (1 : Int32))), (0, .ref q_tr)]) hx hb d_T_heightOf_33 hl rfl (jv_inc _) (by decide) rfl (fun ls hl => ?_)
      refine lv_goto (tgt := 13) hx hb d_T_heightOf_36 (by decide) ?_
      exact hk13 (a.1 + (1 : Int32)) x3 (a.2.2 + (1 : Int32)) _ (lv_sub hl [3, 2, 1, 0] rfl) hf
set_option maxHeartbeats 4000000 in
set_option maxRecDepth 100000 in
theorem l_T_heightOf_13 {l : Launch} {dC : Nat → ClassId} {dI : Nat → Nat → Nat} {cI cA cL : ClassId} {q_tr q_di q_pl q_dr q_jo : Nat} {vjn : Int32} {vmk : Int32} {vwr : Int32} {vP : Nat → Int32} {vD : Nat → Int32} {vJ : Nat → Int32} {p : Program} {e : Env} {s : State} {m : MethodId} {args : Array Value} {below : List Frame} {meth : Method} {c : Code} (cx : jv_cx p s m args meth c cc_T_heightOf 5 R_Tree (some .int) ws_T_heightOf) (hK : va_K (dC, dI) vwCl (jv_ty cI cA cL) s) (hP : va_P (dC, dI) vwCl (w_tree cI q_tr q_di q_pl q_dr q_jo vjn vmk vwr vP vD vJ) s.heap) {r : Int32} : ∀ n : Nat, ∀ (b0 : Int32) (b1 : Int32) (b2 : Int32) (ls : Array Slot), lv_has ls 5 [(0, .ref q_tr), (2, .int b0), (3, .int b1), (4, .int b2)] → jv_fx (f_T_heightOf_13 vD) n (b0, b1, b2) = some r → W p l e rm_T_heightOf s m args below meth c s.heap [] 0 0 (MQ below (QcRead r) args s 0 0 (fun _ => False)) (F0 m 13 ls []) := by
  intro n
  induction n with
  | zero => intro b0 b1 b2 ls hl hf; exact jv_no hf
  | succ n ih => intro b0 b1 b2 ls hl hf; exact b_T_heightOf_13 (a := (b0, b1, b2)) cx hK hP ih hl hf
def f_T_heightOf_0 (vD : Nat → Int32) (y0 : Int32) : Option (Int32) :=
  (f_T_childrenOf vD ((1 : Int32) <<< (y0 &&& 31))).bind fun x1 => jv_fx (f_T_heightOf_13 vD) 300 ((0 : Int32), x1, (0 : Int32))
set_option maxHeartbeats 4000000 in
set_option maxRecDepth 100000 in
theorem b_T_heightOf_0 {l : Launch} {dC : Nat → ClassId} {dI : Nat → Nat → Nat} {cI cA cL : ClassId} {q_tr q_di q_pl q_dr q_jo : Nat} {vjn : Int32} {vmk : Int32} {vwr : Int32} {vP : Nat → Int32} {vD : Nat → Int32} {vJ : Nat → Int32} {p : Program} {e : Env} {s : State} {m : MethodId} {args : Array Value} {below : List Frame} {meth : Method} {c : Code} (cx : jv_cx p s m args meth c cc_T_heightOf 5 R_Tree (some .int) ws_T_heightOf) (hK : va_K (dC, dI) vwCl (jv_ty cI cA cL) s) (hP : va_P (dC, dI) vwCl (w_tree cI q_tr q_di q_pl q_dr q_jo vjn vmk vwr vP vD vJ) s.heap) {r : Int32} {y0 : Int32} {ls : Array Slot} (hl : lv_has ls 5 [(0, .ref q_tr), (1, .int y0)]) (hf : f_T_heightOf_0 vD y0 = some r) : W p l e rm_T_heightOf s m args below meth c s.heap [] 0 0 (MQ below (QcRead r) args s 0 0 (fun _ => False)) (F0 m 0 ls []) := by
  unfold f_T_heightOf_0 at hf
  obtain ⟨hx, hb, hml, hown, hts, hr, hlocks⟩ := id cx
  refine lv_iconst (v := (0 : Int32)) hx hb d_T_heightOf_0 (by decide) ?_
  refine lv_istore_n (lv' := [(2, .int (0 : Int32)), (0, .ref q_tr), (1, .int y0)]) hx hb d_T_heightOf_1 rfl hl (by decide) rfl (fun ls hl => ?_)
  refine lv_aload_n hx hb d_T_heightOf_2 rfl (lv_at hl 1 rfl) ?_
  refine lv_iconst (v := (1 : Int32)) hx hb d_T_heightOf_3 (by decide) ?_
  refine lv_iload_n hx hb d_T_heightOf_4 rfl (lv_at hl 2 rfl) ?_
  refine lv_ishl hx hb d_T_heightOf_5 ?_
  obtain ⟨x1, g2, hf⟩ := jv_ob hf
  have hPc := hP.sub (ws' := (w_tree cI q_tr q_di q_pl q_dr q_jo vjn vmk vwr vP vD vJ)) [0, 1, 2, 3, 4] rfl
  refine jv_cs (W.runV (As := [.int ((1 : Int32) <<< (y0 &&& 31))]) (rest := []) (b := q_tr) ⟨hx, hb, hml, hown, hts⟩ (c_T_childrenOf l dC dI cI cA cL q_tr q_di q_pl q_dr q_jo vjn vmk vwr vP vD vJ ((1 : Int32) <<< (y0 &&& 31)) x1 g2) (jv_cwV hts wa_102 wa_78 wa_103 wa_104 wa_105 rfl rfl yd_T_childrenOf ⟨Nat.le_of_ble_eq_true rfl, Nat.le_of_ble_eq_true rfl⟩) (jv_preV hK hPc 0 rfl rfl) rfl rfl hl.1 rfl (lv_room (Nat.le_of_ble_eq_true rfl)) d_T_heightOf_6 ⟨Nat.zero_le _, Nat.zero_le _⟩) ?_
  refine lv_istore_n (lv' := [(3, .int x1), (2, .int (0 : Int32)), (0, .ref q_tr), (1, .int y0)]) hx hb d_T_heightOf_9 rfl hl (by decide) rfl (fun ls hl => ?_)
  refine lv_iconst (v := (0 : Int32)) hx hb d_T_heightOf_10 (by decide) ?_
  refine lv_istore (lv' := [(4, .int (0 : Int32)), (3, .int x1), (2, .int (0 : Int32)), (0, .ref q_tr), (1, .int y0)]) hx hb d_T_heightOf_11 hl (by decide) rfl (fun ls hl => ?_)
  exact l_T_heightOf_13 cx hK hP 300 (0 : Int32) x1 (0 : Int32) _ (lv_sub hl [3, 2, 1, 0] rfl) hf
def f_T_heightOf (vD : Nat → Int32) (a0 : Int32) : Option (Int32) := f_T_heightOf_0 vD a0
set_option maxHeartbeats 4000000 in
set_option maxRecDepth 100000 in
theorem c_T_heightOf (l : Launch) (dC : Nat → ClassId) (dI : Nat → Nat → Nat) (cI cA cL : ClassId) (q_tr q_di q_pl q_dr q_jo : Nat) (vjn : Int32) (vmk : Int32) (vwr : Int32) (vP : Nat → Int32) (vD : Nat → Int32) (vJ : Nat → Int32) (a0 : Int32) (r : Int32) (hf : f_T_heightOf vD a0 = some r) : Met l y_T_heightOf ws_T_heightOf rm_T_heightOf (jv_Pr [.ref q_tr, .int a0] (dC, dI) (jv_ty cI cA cL) (w_tree cI q_tr q_di q_pl q_dr q_jo vjn vmk vwr vP vD vJ)) (QcRead r) 0 0 (fun _ => False) := by
  refine Met.ofW (cc := cc_T_heightOf) (maxL := 5) (ret := (some .int)) (by decide) rfl ?_
  intro p e s m args below meth c s₁ B hml hv
  obtain ⟨rfl, hP, hK⟩ := hv
  have cx : jv_cx p s m _ meth c cc_T_heightOf 5 R_Tree (some .int) ws_T_heightOf := ⟨B.exec, B.bytes, hml, findClass_of_methodNamed B.named, atoms_spec (ws := ws_T_heightOf) B.pre, B.returns, B.notSynchronized⟩
  have hl := lv_entry ([.ref q_tr, .int a0]) (n := 5) (Nat.le_of_ble_eq_true rfl)
  rw [lg_entry_eq]
  generalize (lg_sl ([.ref q_tr, .int a0]) ++ List.replicate (5 - (lg_sl ([.ref q_tr, .int a0])).length) Slot.unset).toArray = ls at hl ⊢
  have hl : lv_has ls 5 [(0, .ref q_tr), (1, .int a0)] := hl
  exact b_T_heightOf_0 (y0 := a0) cx hK hP (lv_sub hl [0, 1] rfl) hf
theorem d_T_countFree_0 : decode cc_T_countFree 0 = .ok (.iconst 0, 1) := by decide +kernel
theorem d_T_countFree_1 : decode cc_T_countFree 1 = .ok (.istore_n 1, 1) := by decide +kernel
theorem d_T_countFree_2 : decode cc_T_countFree 2 = .ok (.iconst 0, 1) := by decide +kernel
theorem d_T_countFree_3 : decode cc_T_countFree 3 = .ok (.istore_n 2, 1) := by decide +kernel
theorem d_T_countFree_4 : decode cc_T_countFree 4 = .ok (.iload_n 2, 1) := by decide +kernel
theorem d_T_countFree_5 : decode cc_T_countFree 5 = .ok (.bipush 8, 2) := by decide +kernel
theorem d_T_countFree_7 : decode cc_T_countFree 7 = .ok (.if_icmp .ge 20, 3) := by decide +kernel
theorem d_T_countFree_27 : decode cc_T_countFree 27 = .ok (.iload_n 1, 1) := by decide +kernel
theorem d_T_countFree_28 : decode cc_T_countFree 28 = .ok (.ireturn, 1) := by decide +kernel
theorem d_T_countFree_10 : decode cc_T_countFree 10 = .ok (.aload_n 0, 1) := by decide +kernel
theorem d_T_countFree_11 : decode cc_T_countFree 11 = .ok (.iload_n 2, 1) := by decide +kernel
theorem d_T_countFree_12 : decode cc_T_countFree 12 = .ok (.invokevirtual 39, 3) := by decide +kernel
theorem d_T_countFree_15 : decode cc_T_countFree 15 = .ok (.ifCond .ne 6, 3) := by decide +kernel
theorem d_T_countFree_21 : decode cc_T_countFree 21 = .ok (.iinc 2 1, 3) := by decide +kernel
theorem d_T_countFree_24 : decode cc_T_countFree 24 = .ok (.goto (-20), 3) := by decide +kernel
theorem d_T_countFree_18 : decode cc_T_countFree 18 = .ok (.iinc 1 1, 3) := by decide +kernel
def f_T_countFree_4 (vD : Nat → Int32) (k4 : (Int32 × Int32) → Option (Int32)) (a : Int32 × Int32) : Option (Int32) :=
  if (8 : Int32) ≤ a.2 then (some a.1) else ((f_T_kindOf vD a.2).bind fun x1 => if x1 = 0 then (k4 (a.1 + (1 : Int32), a.2 + (1 : Int32))) else (k4 (a.1, a.2 + (1 : Int32))))
set_option maxHeartbeats 4000000 in
set_option maxRecDepth 100000 in
theorem b_T_countFree_4 {l : Launch} {dC : Nat → ClassId} {dI : Nat → Nat → Nat} {cI cA cL : ClassId} {q_tr q_di q_pl q_dr q_jo : Nat} {vjn : Int32} {vmk : Int32} {vwr : Int32} {vP : Nat → Int32} {vD : Nat → Int32} {vJ : Nat → Int32} {p : Program} {e : Env} {s : State} {m : MethodId} {args : Array Value} {below : List Frame} {meth : Method} {c : Code} (cx : jv_cx p s m args meth c cc_T_countFree 3 R_Tree (some .int) ws_T_countFree) (hK : va_K (dC, dI) vwCl (jv_ty cI cA cL) s) (hP : va_P (dC, dI) vwCl (w_tree cI q_tr q_di q_pl q_dr q_jo vjn vmk vwr vP vD vJ) s.heap) {r : Int32} {k4 : (Int32 × Int32) → Option (Int32)} (hk4 : ∀ (b0 : Int32) (b1 : Int32) (ls : Array Slot), lv_has ls 3 [(0, .ref q_tr), (1, .int b0), (2, .int b1)] → k4 (b0, b1) = some r → W p l e rm_T_countFree s m args below meth c s.heap [] 0 0 (MQ below (QcRead r) args s 0 0 (fun _ => False)) (F0 m 4 ls [])) {a : Int32 × Int32} {ls : Array Slot} (hl : lv_has ls 3 [(0, .ref q_tr), (1, .int a.1), (2, .int a.2)]) (hf : f_T_countFree_4 vD k4 a = some r) : W p l e rm_T_countFree s m args below meth c s.heap [] 0 0 (MQ below (QcRead r) args s 0 0 (fun _ => False)) (F0 m 4 ls []) := by
  unfold f_T_countFree_4 at hf
  obtain ⟨hx, hb, hml, hown, hts, hr, hlocks⟩ := id cx
  refine lv_iload_n hx hb d_T_countFree_4 rfl (lv_at hl 2 rfl) ?_
  refine lv_bipush (v := (8 : Int32)) hx hb d_T_countFree_5 (by decide) ?_
  refine lv_icmp_ge (tgt := 27) hx hb d_T_countFree_7 (by decide) (fun hc => ?_) (fun hc => ?_)
  · have hf := jv_it hf hc
    refine lv_iload_n hx hb d_T_countFree_27 rfl (lv_at hl 1 rfl) ?_
    obtain rfl := Option.some.inj hf
    exact W.iret hx hb hr (fun t ht hW => ⟨rfl, ht⟩) (fun q h => by cases h) d_T_countFree_28
  · have hf := jv_if hf hc
    refine lv_aload_n hx hb d_T_countFree_10 rfl (lv_at hl 0 rfl) ?_
    refine lv_iload_n hx hb d_T_countFree_11 rfl (lv_at hl 2 rfl) ?_
    obtain ⟨x1, g2, hf⟩ := jv_ob hf
    have hPc := hP.sub (ws' := (w_tree cI q_tr q_di q_pl q_dr q_jo vjn vmk vwr vP vD vJ)) [0, 1, 2, 3, 4] rfl
    refine jv_cs (W.runV (As := [.int a.2]) (rest := []) (b := q_tr) ⟨hx, hb, hml, hown, hts⟩ (c_T_kindOf l dC dI cI cA cL q_tr q_di q_pl q_dr q_jo vjn vmk vwr vP vD vJ a.2 x1 g2) (jv_cwV hts wa_86 wa_78 wa_87 wa_88 wa_89 rfl rfl yd_T_kindOf ⟨Nat.le_of_ble_eq_true rfl, Nat.le_of_ble_eq_true rfl⟩) (jv_preV hK hPc 0 rfl rfl) rfl rfl hl.1 rfl (lv_room (Nat.le_of_ble_eq_true rfl)) d_T_countFree_12 ⟨Nat.zero_le _, Nat.zero_le _⟩) ?_
    refine lv_if_ne (tgt := 21) hx hb d_T_countFree_15 (by decide) (fun hc => ?_) (fun hc => ?_)
    · have hf := jv_if hf hc
      refine lv_iinc (k := 2) (v := a.2 + (1 : Int32)) (lv' := [(2, .int (a.2 + (1 : Int32))), (0, .ref q_tr), (1, .int a.1)]) hx hb d_T_countFree_21 hl rfl (jv_inc _) (by decide) rfl (fun ls hl => ?_)
      refine lv_goto (tgt := 4) hx hb d_T_countFree_24 (by decide) ?_
      exact hk4 a.1 (a.2 + (1 : Int32)) _ (lv_sub hl [1, 2, 0] rfl) hf
    · have hf := jv_it hf hc
      refine lv_iinc (k := 1) (v := a.1 + (1 : Int32)) (lv' := [(1, .int (a.1 + (1 : Int32))), (0, .ref q_tr), (2, .int a.2)]) hx hb d_T_countFree_18 hl rfl (jv_inc _) (by decide) rfl (fun ls hl => ?_)
      refine lv_iinc (k := 2) (v := a.2 + (1 : Int32)) (lv' := [(2, .int (a.2 + (1 : Int32))), (1, .int (a.1 + (1 : Int32))), (0, .ref q_tr)]) hx hb d_T_countFree_21 hl rfl (jv_inc _) (by decide) rfl (fun ls hl => ?_)
      refine lv_goto (tgt := 4) hx hb d_T_countFree_24 (by decide) ?_
      exact hk4 (a.1 + (1 : Int32)) (a.2 + (1 : Int32)) _ (lv_sub hl [2, 1, 0] rfl) hf
set_option maxHeartbeats 4000000 in
set_option maxRecDepth 100000 in
theorem l_T_countFree_4 {l : Launch} {dC : Nat → ClassId} {dI : Nat → Nat → Nat} {cI cA cL : ClassId} {q_tr q_di q_pl q_dr q_jo : Nat} {vjn : Int32} {vmk : Int32} {vwr : Int32} {vP : Nat → Int32} {vD : Nat → Int32} {vJ : Nat → Int32} {p : Program} {e : Env} {s : State} {m : MethodId} {args : Array Value} {below : List Frame} {meth : Method} {c : Code} (cx : jv_cx p s m args meth c cc_T_countFree 3 R_Tree (some .int) ws_T_countFree) (hK : va_K (dC, dI) vwCl (jv_ty cI cA cL) s) (hP : va_P (dC, dI) vwCl (w_tree cI q_tr q_di q_pl q_dr q_jo vjn vmk vwr vP vD vJ) s.heap) {r : Int32} : ∀ n : Nat, ∀ (b0 : Int32) (b1 : Int32) (ls : Array Slot), lv_has ls 3 [(0, .ref q_tr), (1, .int b0), (2, .int b1)] → jv_fx (f_T_countFree_4 vD) n (b0, b1) = some r → W p l e rm_T_countFree s m args below meth c s.heap [] 0 0 (MQ below (QcRead r) args s 0 0 (fun _ => False)) (F0 m 4 ls []) := by
  intro n
  induction n with
  | zero => intro b0 b1 ls hl hf; exact jv_no hf
  | succ n ih => intro b0 b1 ls hl hf; exact b_T_countFree_4 (a := (b0, b1)) cx hK hP ih hl hf
def f_T_countFree_0 (vD : Nat → Int32) : Option (Int32) :=
  jv_fx (f_T_countFree_4 vD) 300 ((0 : Int32), (0 : Int32))
set_option maxHeartbeats 4000000 in
set_option maxRecDepth 100000 in
theorem b_T_countFree_0 {l : Launch} {dC : Nat → ClassId} {dI : Nat → Nat → Nat} {cI cA cL : ClassId} {q_tr q_di q_pl q_dr q_jo : Nat} {vjn : Int32} {vmk : Int32} {vwr : Int32} {vP : Nat → Int32} {vD : Nat → Int32} {vJ : Nat → Int32} {p : Program} {e : Env} {s : State} {m : MethodId} {args : Array Value} {below : List Frame} {meth : Method} {c : Code} (cx : jv_cx p s m args meth c cc_T_countFree 3 R_Tree (some .int) ws_T_countFree) (hK : va_K (dC, dI) vwCl (jv_ty cI cA cL) s) (hP : va_P (dC, dI) vwCl (w_tree cI q_tr q_di q_pl q_dr q_jo vjn vmk vwr vP vD vJ) s.heap) {r : Int32} {ls : Array Slot} (hl : lv_has ls 3 [(0, .ref q_tr)]) (hf : f_T_countFree_0 vD = some r) : W p l e rm_T_countFree s m args below meth c s.heap [] 0 0 (MQ below (QcRead r) args s 0 0 (fun _ => False)) (F0 m 0 ls []) := by
  unfold f_T_countFree_0 at hf
  obtain ⟨hx, hb, hml, hown, hts, hr, hlocks⟩ := id cx
  refine lv_iconst (v := (0 : Int32)) hx hb d_T_countFree_0 (by decide) ?_
  refine lv_istore_n (lv' := [(1, .int (0 : Int32)), (0, .ref q_tr)]) hx hb d_T_countFree_1 rfl hl (by decide) rfl (fun ls hl => ?_)
  refine lv_iconst (v := (0 : Int32)) hx hb d_T_countFree_2 (by decide) ?_
  refine lv_istore_n (lv' := [(2, .int (0 : Int32)), (1, .int (0 : Int32)), (0, .ref q_tr)]) hx hb d_T_countFree_3 rfl hl (by decide) rfl (fun ls hl => ?_)
  exact l_T_countFree_4 cx hK hP 300 (0 : Int32) (0 : Int32) _ (lv_sub hl [2, 1, 0] rfl) hf
def f_T_countFree (vD : Nat → Int32) : Option (Int32) := f_T_countFree_0 vD
set_option maxHeartbeats 4000000 in
set_option maxRecDepth 100000 in
theorem c_T_countFree (l : Launch) (dC : Nat → ClassId) (dI : Nat → Nat → Nat) (cI cA cL : ClassId) (q_tr q_di q_pl q_dr q_jo : Nat) (vjn : Int32) (vmk : Int32) (vwr : Int32) (vP : Nat → Int32) (vD : Nat → Int32) (vJ : Nat → Int32) (r : Int32) (hf : f_T_countFree vD = some r) : Met l y_T_countFree ws_T_countFree rm_T_countFree (jv_Pr [.ref q_tr] (dC, dI) (jv_ty cI cA cL) (w_tree cI q_tr q_di q_pl q_dr q_jo vjn vmk vwr vP vD vJ)) (QcRead r) 0 0 (fun _ => False) := by
  refine Met.ofW (cc := cc_T_countFree) (maxL := 3) (ret := (some .int)) (by decide) rfl ?_
  intro p e s m args below meth c s₁ B hml hv
  obtain ⟨rfl, hP, hK⟩ := hv
  have cx : jv_cx p s m _ meth c cc_T_countFree 3 R_Tree (some .int) ws_T_countFree := ⟨B.exec, B.bytes, hml, findClass_of_methodNamed B.named, atoms_spec (ws := ws_T_countFree) B.pre, B.returns, B.notSynchronized⟩
  have hl := lv_entry ([.ref q_tr]) (n := 3) (Nat.le_of_ble_eq_true rfl)
  rw [lg_entry_eq]
  generalize (lg_sl ([.ref q_tr]) ++ List.replicate (3 - (lg_sl ([.ref q_tr])).length) Slot.unset).toArray = ls at hl ⊢
  have hl : lv_has ls 3 [(0, .ref q_tr)] := hl
  exact b_T_countFree_0 cx hK hP (lv_sub hl [0] rfl) hf
theorem d_T_hang_0 : decode cc_T_hang 0 = .ok (.aload_n 0, 1) := by decide +kernel
theorem d_T_hang_1 : decode cc_T_hang 1 = .ok (.getfield 9, 3) := by decide +kernel
theorem d_T_hang_4 : decode cc_T_hang 4 = .ok (.iload_n 1, 1) := by decide +kernel
theorem d_T_hang_5 : decode cc_T_hang 5 = .ok (.iconst 1, 1) := by decide +kernel
theorem d_T_hang_6 : decode cc_T_hang 6 = .ok (.iload_n 2, 1) := by decide +kernel
theorem d_T_hang_7 : decode cc_T_hang 7 = .ok (.invokevirtual 49, 3) := by decide +kernel
theorem d_T_hang_10 : decode cc_T_hang 10 = .ok (.aload_n 0, 1) := by decide +kernel
theorem d_T_hang_11 : decode cc_T_hang 11 = .ok (.getfield 9, 3) := by decide +kernel
theorem d_T_hang_14 : decode cc_T_hang 14 = .ok (.iload_n 1, 1) := by decide +kernel
theorem d_T_hang_15 : decode cc_T_hang 15 = .ok (.iconst 2, 1) := by decide +kernel
theorem d_T_hang_16 : decode cc_T_hang 16 = .ok (.iload_n 3, 1) := by decide +kernel
theorem d_T_hang_17 : decode cc_T_hang 17 = .ok (.invokevirtual 49, 3) := by decide +kernel
theorem d_T_hang_20 : decode cc_T_hang 20 = .ok (.return_, 1) := by decide +kernel
def f_T_hang_0 (y0 : Int32) (y1 : Int32) (y2 : Int32) (y3 : Nat → Int32) : Option (Nat → Int32) :=
  (f_D_putInodeWord y0 (1 : Int32) y1 y3).bind fun x1 => (f_D_putInodeWord y0 (2 : Int32) y2 x1).bind fun x3 => some x3
set_option maxHeartbeats 4000000 in
set_option maxRecDepth 100000 in
theorem b_T_hang_0 {l : Launch} {dC : Nat → ClassId} {dI : Nat → Nat → Nat} {cI cA cL : ClassId} {q_tr q_di q_pl q_dr q_jo : Nat} {vjn : Int32} {vmk : Int32} {vwr : Int32} {vP : Nat → Int32} {vJ : Nat → Int32} {p : Program} {e : Env} {s : State} {m : MethodId} {args : Array Value} {below : List Frame} {meth : Method} {c : Code} (cx : jv_cx p s m args meth c cc_T_hang 4 R_Tree none ws_T_hang) (hK : va_K (dC, dI) vwCl (jv_ty cI cA cL) s) {A : Nat → Prop} (hA : ∀ q : Nat, s.heap.size ≤ q → A q) {r : Nat → Int32} {y0 : Int32} {y1 : Int32} {y2 : Int32} {y3 : Nat → Int32} {ls : Array Slot} (hl : lv_has ls 4 [(0, .ref q_tr), (1, .int y0), (2, .int y1), (3, .int y2)]) {H : Heap} {locs : List Loc} (hP : va_P (dC, dI) vwCl (w_tree cI q_tr q_di q_pl q_dr q_jo vjn vmk vwr vP y3 vJ) H) (hD : va_D A (w_tree cI q_tr q_di q_pl q_dr q_jo vjn vmk vwr vP y3 vJ)) (hS : va_S A s.heap H locs) (hf : f_T_hang_0 y0 y1 y2 y3 = some r) : W p l e rm_T_hang s m args below meth c H locs 0 0 (MQ below (jv_Qv (dC, dI) (w_tree cI q_tr q_di q_pl q_dr q_jo vjn vmk vwr vP r vJ) A) args s 0 0 A) (F0 m 0 ls []) := by
  unfold f_T_hang_0 at hf
  obtain ⟨hx, hb, hml, hown, hts, hr, hlocks⟩ := id cx
  refine lv_aload_n hx hb d_T_hang_0 rfl (lv_at hl 0 rfl) ?_
  refine va_get (D := (dC, dI)) (ci := kTree) (v := .ref q_di) (C := R_Tree) (T := T_Tree) (N := 1) hx hb hts (fun w h => List.mem_cons_of_mem _ (in_Tree w h)) hown hK hP 0 rfl rfl 0 (by decide) (jv_w hts wa_67) (fun _ h9 => h9) rfl d_T_hang_1 ?_
  refine lv_iload_n hx hb d_T_hang_4 rfl (lv_at hl 1 rfl) ?_
  refine lv_iconst (v := (1 : Int32)) hx hb d_T_hang_5 (by decide) ?_
  refine lv_iload_n hx hb d_T_hang_6 rfl (lv_at hl 2 rfl) ?_
  obtain ⟨x1, g2, hf⟩ := jv_ob hf
  have hPc := hP.sub (ws' := (w_disk cI q_di q_pl q_dr q_jo vjn vmk vwr vP y3 vJ)) [1, 2, 3, 4] rfl
  have hDc := hD.sub (ws' := (w_disk cI q_di q_pl q_dr q_jo vjn vmk vwr vP y3 vJ)) [1, 2, 3, 4] (by decide) rfl
  have hFc := va_free (wc := (w_disk cI q_di q_pl q_dr q_jo vjn vmk vwr vP y3 vJ)) hD hS hA [1, 2, 3, 4] rfl
  refine jv_cwv (va_runV (As := [.int y0, .int (1 : Int32), .int y1]) (rest := []) (b := q_di) ⟨hx, hb, hml, hown, hts⟩ (c_D_putInodeWord l dC dI cI cA cL q_di q_pl q_dr q_jo vjn vmk vwr vP y3 vJ y0 (1 : Int32) y1 H.size x1 g2) (jv_cwV hts wa_106 wa_29 wa_107 wa_108 wa_109 rfl rfl yd_D_putInodeWord ⟨Nat.le_of_ble_eq_true rfl, Nat.le_of_ble_eq_true rfl⟩) (jv_preVW hK hPc hDc 0 rfl rfl) rfl rfl hl.1 rfl (lv_room (Nat.le_of_ble_eq_true rfl)) d_T_hang_7 ⟨Nat.zero_le _, Nat.zero_le _⟩) hS hFc (fun H1 locs hP1 hD1 hk1 hS => ?_)
  obtain ⟨hP, hD⟩ := va_join (wc := (w_disk cI q_di q_pl q_dr q_jo vjn vmk vwr vP y3 vJ)) (wr := [(q_tr, .inr (kTree, [.ref q_di]))]) (w1 := (w_disk cI q_di q_pl q_dr q_jo vjn vmk vwr vP x1 vJ)) hP hD [1, 2, 3, 4] [0] rfl rfl (by decide) (by decide) hk1 hFc hP1 hD1
  have hP : va_P (dC, dI) vwCl (w_tree cI q_tr q_di q_pl q_dr q_jo vjn vmk vwr vP x1 vJ) H1 := hP.sub [0, 1, 2, 3, 4] rfl
  have hD : va_D A (w_tree cI q_tr q_di q_pl q_dr q_jo vjn vmk vwr vP x1 vJ) := hD.sub [0, 1, 2, 3, 4] (by decide) rfl
  generalize H1 = H at hP hS ⊢
  refine lv_aload_n hx hb d_T_hang_10 rfl (lv_at hl 0 rfl) ?_
  refine va_get (D := (dC, dI)) (ci := kTree) (v := .ref q_di) (C := R_Tree) (T := T_Tree) (N := 1) hx hb hts (fun w h => List.mem_cons_of_mem _ (in_Tree w h)) hown hK hP 0 rfl rfl 0 (by decide) (jv_w hts wa_67) (fun _ h9 => h9) rfl d_T_hang_11 ?_
  refine lv_iload_n hx hb d_T_hang_14 rfl (lv_at hl 1 rfl) ?_
  refine lv_iconst (v := (2 : Int32)) hx hb d_T_hang_15 (by decide) ?_
  refine lv_iload_n hx hb d_T_hang_16 rfl (lv_at hl 3 rfl) ?_
  obtain ⟨x3, g4, hf⟩ := jv_ob hf
  have hPc := hP.sub (ws' := (w_disk cI q_di q_pl q_dr q_jo vjn vmk vwr vP x1 vJ)) [1, 2, 3, 4] rfl
  have hDc := hD.sub (ws' := (w_disk cI q_di q_pl q_dr q_jo vjn vmk vwr vP x1 vJ)) [1, 2, 3, 4] (by decide) rfl
  have hFc := va_free (wc := (w_disk cI q_di q_pl q_dr q_jo vjn vmk vwr vP x1 vJ)) hD hS hA [1, 2, 3, 4] rfl
  refine jv_cwv (va_runV (As := [.int y0, .int (2 : Int32), .int y2]) (rest := []) (b := q_di) ⟨hx, hb, hml, hown, hts⟩ (c_D_putInodeWord l dC dI cI cA cL q_di q_pl q_dr q_jo vjn vmk vwr vP x1 vJ y0 (2 : Int32) y2 H.size x3 g4) (jv_cwV hts wa_106 wa_29 wa_107 wa_108 wa_109 rfl rfl yd_D_putInodeWord ⟨Nat.le_of_ble_eq_true rfl, Nat.le_of_ble_eq_true rfl⟩) (jv_preVW hK hPc hDc 0 rfl rfl) rfl rfl hl.1 rfl (lv_room (Nat.le_of_ble_eq_true rfl)) d_T_hang_17 ⟨Nat.zero_le _, Nat.zero_le _⟩) hS hFc (fun H1 locs hP1 hD1 hk1 hS => ?_)
  obtain ⟨hP, hD⟩ := va_join (wc := (w_disk cI q_di q_pl q_dr q_jo vjn vmk vwr vP x1 vJ)) (wr := [(q_tr, .inr (kTree, [.ref q_di]))]) (w1 := (w_disk cI q_di q_pl q_dr q_jo vjn vmk vwr vP x3 vJ)) hP hD [1, 2, 3, 4] [0] rfl rfl (by decide) (by decide) hk1 hFc hP1 hD1
  have hP : va_P (dC, dI) vwCl (w_tree cI q_tr q_di q_pl q_dr q_jo vjn vmk vwr vP x3 vJ) H1 := hP.sub [0, 1, 2, 3, 4] rfl
  have hD : va_D A (w_tree cI q_tr q_di q_pl q_dr q_jo vjn vmk vwr vP x3 vJ) := hD.sub [0, 1, 2, 3, 4] (by decide) rfl
  generalize H1 = H at hP hS ⊢
  obtain rfl := Option.some.inj hf
  exact W.vret hx hb hr (fun t ht hW => ⟨rfl, by rw [ht]; exact hP, hD, hS.F ht⟩) hS.2.2 d_T_hang_20
def f_T_hang (a0 : Int32) (a1 : Int32) (a2 : Int32) (vD : Nat → Int32) : Option (Nat → Int32) := f_T_hang_0 a0 a1 a2 vD
set_option maxHeartbeats 4000000 in
set_option maxRecDepth 100000 in
theorem c_T_hang (l : Launch) (dC : Nat → ClassId) (dI : Nat → Nat → Nat) (cI cA cL : ClassId) (q_tr q_di q_pl q_dr q_jo : Nat) (vjn : Int32) (vmk : Int32) (vwr : Int32) (vP : Nat → Int32) (vD : Nat → Int32) (vJ : Nat → Int32) (a0 : Int32) (a1 : Int32) (a2 : Int32) (sz : Nat) (r : Nat → Int32) (hf : f_T_hang a0 a1 a2 vD = some r) : Met l y_T_hang ws_T_hang rm_T_hang (jv_Pw [.ref q_tr, .int a0, .int a1, .int a2] (dC, dI) (jv_ty cI cA cL) (w_tree cI q_tr q_di q_pl q_dr q_jo vjn vmk vwr vP vD vJ) sz) (jv_Qv (dC, dI) (w_tree cI q_tr q_di q_pl q_dr q_jo vjn vmk vwr vP r vJ) (va_A (w_tree cI q_tr q_di q_pl q_dr q_jo vjn vmk vwr vP vD vJ) sz)) 0 0 (va_A (w_tree cI q_tr q_di q_pl q_dr q_jo vjn vmk vwr vP vD vJ) sz) := by
  refine Met.ofW (cc := cc_T_hang) (maxL := 4) (ret := none) (by decide) rfl ?_
  intro p e s m args below meth c s₁ B hml hv
  obtain ⟨rfl, hsz, hP, hK, hD0⟩ := hv
  have cx : jv_cx p s m _ meth c cc_T_hang 4 R_Tree none ws_T_hang := ⟨B.exec, B.bytes, hml, findClass_of_methodNamed B.named, atoms_spec (ws := ws_T_hang) B.pre, B.returns, B.notSynchronized⟩
  subst hsz
  have hD := hD0.self (sz := s.heap.size)
  generalize hAe : va_A (w_tree cI q_tr q_di q_pl q_dr q_jo vjn vmk vwr vP vD vJ) s.heap.size = A at hD ⊢
  have hA : ∀ q : Nat, s.heap.size ≤ q → A q := fun q h => by rw [← hAe]; exact Or.inr h
  have hS : va_S A s.heap s.heap [] := va_S.rf
  have hl := lv_entry ([.ref q_tr, .int a0, .int a1, .int a2]) (n := 4) (Nat.le_of_ble_eq_true rfl)
  rw [lg_entry_eq]
  generalize (lg_sl ([.ref q_tr, .int a0, .int a1, .int a2]) ++ List.replicate (4 - (lg_sl ([.ref q_tr, .int a0, .int a1, .int a2])).length) Slot.unset).toArray = ls at hl ⊢
  have hl : lv_has ls 4 [(0, .ref q_tr), (1, .int a0), (2, .int a1), (3, .int a2)] := hl
  exact b_T_hang_0 (y0 := a0) (y1 := a1) (y2 := a2) (y3 := vD) cx hK hA (lv_sub hl [0, 1, 2, 3] rfl) hP hD hS hf
theorem d_T_erase_0 : decode cc_T_erase 0 = .ok (.aload_n 0, 1) := by decide +kernel
theorem d_T_erase_1 : decode cc_T_erase 1 = .ok (.getfield 9, 3) := by decide +kernel
theorem d_T_erase_4 : decode cc_T_erase 4 = .ok (.iconst 1, 1) := by decide +kernel
theorem d_T_erase_5 : decode cc_T_erase 5 = .ok (.iload_n 1, 1) := by decide +kernel
theorem d_T_erase_6 : decode cc_T_erase 6 = .ok (.iadd, 1) := by decide +kernel
theorem d_T_erase_7 : decode cc_T_erase 7 = .ok (.iconst 0, 1) := by decide +kernel
theorem d_T_erase_8 : decode cc_T_erase 8 = .ok (.invokevirtual 53, 3) := by decide +kernel
theorem d_T_erase_11 : decode cc_T_erase 11 = .ok (.return_, 1) := by decide +kernel
def f_T_erase_0 (y0 : Int32) (y1 : Nat → Int32) : Option (Nat → Int32) :=
  (f_D_zeroFrom ((1 : Int32) + y0) (0 : Int32) y1).bind fun x1 => some x1
set_option maxHeartbeats 4000000 in
set_option maxRecDepth 100000 in
theorem b_T_erase_0 {l : Launch} {dC : Nat → ClassId} {dI : Nat → Nat → Nat} {cI cA cL : ClassId} {q_tr q_di q_pl q_dr q_jo : Nat} {vjn : Int32} {vmk : Int32} {vwr : Int32} {vP : Nat → Int32} {vJ : Nat → Int32} {p : Program} {e : Env} {s : State} {m : MethodId} {args : Array Value} {below : List Frame} {meth : Method} {c : Code} (cx : jv_cx p s m args meth c cc_T_erase 2 R_Tree none ws_T_erase) (hK : va_K (dC, dI) vwCl (jv_ty cI cA cL) s) {A : Nat → Prop} (hA : ∀ q : Nat, s.heap.size ≤ q → A q) {r : Nat → Int32} {y0 : Int32} {y1 : Nat → Int32} {ls : Array Slot} (hl : lv_has ls 2 [(0, .ref q_tr), (1, .int y0)]) {H : Heap} {locs : List Loc} (hP : va_P (dC, dI) vwCl (w_tree cI q_tr q_di q_pl q_dr q_jo vjn vmk vwr vP y1 vJ) H) (hD : va_D A (w_tree cI q_tr q_di q_pl q_dr q_jo vjn vmk vwr vP y1 vJ)) (hS : va_S A s.heap H locs) (hf : f_T_erase_0 y0 y1 = some r) : W p l e rm_T_erase s m args below meth c H locs 0 0 (MQ below (jv_Qv (dC, dI) (w_tree cI q_tr q_di q_pl q_dr q_jo vjn vmk vwr vP r vJ) A) args s 0 0 A) (F0 m 0 ls []) := by
  unfold f_T_erase_0 at hf
  obtain ⟨hx, hb, hml, hown, hts, hr, hlocks⟩ := id cx
  refine lv_aload_n hx hb d_T_erase_0 rfl (lv_at hl 0 rfl) ?_
  refine va_get (D := (dC, dI)) (ci := kTree) (v := .ref q_di) (C := R_Tree) (T := T_Tree) (N := 1) hx hb hts (fun w h => List.mem_cons_of_mem _ (in_Tree w h)) hown hK hP 0 rfl rfl 0 (by decide) (jv_w hts wa_67) (fun _ h9 => h9) rfl d_T_erase_1 ?_
  refine lv_iconst (v := (1 : Int32)) hx hb d_T_erase_4 (by decide) ?_
  refine lv_iload_n hx hb d_T_erase_5 rfl (lv_at hl 1 rfl) ?_
  refine lv_iadd hx hb d_T_erase_6 ?_
  refine lv_iconst (v := (0 : Int32)) hx hb d_T_erase_7 (by decide) ?_
  obtain ⟨x1, g2, hf⟩ := jv_ob hf
  have hPc := hP.sub (ws' := (w_disk cI q_di q_pl q_dr q_jo vjn vmk vwr vP y1 vJ)) [1, 2, 3, 4] rfl
  have hDc := hD.sub (ws' := (w_disk cI q_di q_pl q_dr q_jo vjn vmk vwr vP y1 vJ)) [1, 2, 3, 4] (by decide) rfl
  have hFc := va_free (wc := (w_disk cI q_di q_pl q_dr q_jo vjn vmk vwr vP y1 vJ)) hD hS hA [1, 2, 3, 4] rfl
  refine jv_cwv (va_runV (As := [.int ((1 : Int32) + y0), .int (0 : Int32)]) (rest := []) (b := q_di) ⟨hx, hb, hml, hown, hts⟩ (c_D_zeroFrom l dC dI cI cA cL q_di q_pl q_dr q_jo vjn vmk vwr vP y1 vJ ((1 : Int32) + y0) (0 : Int32) H.size x1 g2) (jv_cwV hts wa_110 wa_29 wa_111 wa_112 wa_113 rfl rfl yd_D_zeroFrom ⟨Nat.le_of_ble_eq_true rfl, Nat.le_of_ble_eq_true rfl⟩) (jv_preVW hK hPc hDc 0 rfl rfl) rfl rfl hl.1 rfl (lv_room (Nat.le_of_ble_eq_true rfl)) d_T_erase_8 ⟨Nat.zero_le _, Nat.zero_le _⟩) hS hFc (fun H1 locs hP1 hD1 hk1 hS => ?_)
  obtain ⟨hP, hD⟩ := va_join (wc := (w_disk cI q_di q_pl q_dr q_jo vjn vmk vwr vP y1 vJ)) (wr := [(q_tr, .inr (kTree, [.ref q_di]))]) (w1 := (w_disk cI q_di q_pl q_dr q_jo vjn vmk vwr vP x1 vJ)) hP hD [1, 2, 3, 4] [0] rfl rfl (by decide) (by decide) hk1 hFc hP1 hD1
  have hP : va_P (dC, dI) vwCl (w_tree cI q_tr q_di q_pl q_dr q_jo vjn vmk vwr vP x1 vJ) H1 := hP.sub [0, 1, 2, 3, 4] rfl
  have hD : va_D A (w_tree cI q_tr q_di q_pl q_dr q_jo vjn vmk vwr vP x1 vJ) := hD.sub [0, 1, 2, 3, 4] (by decide) rfl
  generalize H1 = H at hP hS ⊢
  obtain rfl := Option.some.inj hf
  exact W.vret hx hb hr (fun t ht hW => ⟨rfl, by rw [ht]; exact hP, hD, hS.F ht⟩) hS.2.2 d_T_erase_11
def f_T_erase (a0 : Int32) (vD : Nat → Int32) : Option (Nat → Int32) := f_T_erase_0 a0 vD
set_option maxHeartbeats 4000000 in
set_option maxRecDepth 100000 in
theorem c_T_erase (l : Launch) (dC : Nat → ClassId) (dI : Nat → Nat → Nat) (cI cA cL : ClassId) (q_tr q_di q_pl q_dr q_jo : Nat) (vjn : Int32) (vmk : Int32) (vwr : Int32) (vP : Nat → Int32) (vD : Nat → Int32) (vJ : Nat → Int32) (a0 : Int32) (sz : Nat) (r : Nat → Int32) (hf : f_T_erase a0 vD = some r) : Met l y_T_erase ws_T_erase rm_T_erase (jv_Pw [.ref q_tr, .int a0] (dC, dI) (jv_ty cI cA cL) (w_tree cI q_tr q_di q_pl q_dr q_jo vjn vmk vwr vP vD vJ) sz) (jv_Qv (dC, dI) (w_tree cI q_tr q_di q_pl q_dr q_jo vjn vmk vwr vP r vJ) (va_A (w_tree cI q_tr q_di q_pl q_dr q_jo vjn vmk vwr vP vD vJ) sz)) 0 0 (va_A (w_tree cI q_tr q_di q_pl q_dr q_jo vjn vmk vwr vP vD vJ) sz) := by
  refine Met.ofW (cc := cc_T_erase) (maxL := 2) (ret := none) (by decide) rfl ?_
  intro p e s m args below meth c s₁ B hml hv
  obtain ⟨rfl, hsz, hP, hK, hD0⟩ := hv
  have cx : jv_cx p s m _ meth c cc_T_erase 2 R_Tree none ws_T_erase := ⟨B.exec, B.bytes, hml, findClass_of_methodNamed B.named, atoms_spec (ws := ws_T_erase) B.pre, B.returns, B.notSynchronized⟩
  subst hsz
  have hD := hD0.self (sz := s.heap.size)
  generalize hAe : va_A (w_tree cI q_tr q_di q_pl q_dr q_jo vjn vmk vwr vP vD vJ) s.heap.size = A at hD ⊢
  have hA : ∀ q : Nat, s.heap.size ≤ q → A q := fun q h => by rw [← hAe]; exact Or.inr h
  have hS : va_S A s.heap s.heap [] := va_S.rf
  have hl := lv_entry ([.ref q_tr, .int a0]) (n := 2) (Nat.le_of_ble_eq_true rfl)
  rw [lg_entry_eq]
  generalize (lg_sl ([.ref q_tr, .int a0]) ++ List.replicate (2 - (lg_sl ([.ref q_tr, .int a0])).length) Slot.unset).toArray = ls at hl ⊢
  have hl : lv_has ls 2 [(0, .ref q_tr), (1, .int a0)] := hl
  exact b_T_erase_0 (y0 := a0) (y1 := vD) cx hK hA (lv_sub hl [0, 1] rfl) hP hD hS hf
theorem d_T_take_0 : decode cc_T_take 0 = .ok (.iconst 1, 1) := by decide +kernel
theorem d_T_take_1 : decode cc_T_take 1 = .ok (.istore 4, 2) := by decide +kernel
theorem d_T_take_3 : decode cc_T_take 3 = .ok (.iload 4, 2) := by decide +kernel
theorem d_T_take_5 : decode cc_T_take 5 = .ok (.bipush 8, 2) := by decide +kernel
theorem d_T_take_7 : decode cc_T_take 7 = .ok (.if_icmp .ge 40, 3) := by decide +kernel
theorem d_T_take_47 : decode cc_T_take 47 = .ok (.iconst (-1), 1) := by decide +kernel
theorem d_T_take_48 : decode cc_T_take 48 = .ok (.ireturn, 1) := by decide +kernel
theorem d_T_take_10 : decode cc_T_take 10 = .ok (.aload_n 0, 1) := by decide +kernel
theorem d_T_take_11 : decode cc_T_take 11 = .ok (.iload 4, 2) := by decide +kernel
theorem d_T_take_13 : decode cc_T_take 13 = .ok (.invokevirtual 39, 3) := by decide +kernel
theorem d_T_take_16 : decode cc_T_take 16 = .ok (.ifCond .ne 25, 3) := by decide +kernel
theorem d_T_take_41 : decode cc_T_take 41 = .ok (.iinc 4 1, 3) := by decide +kernel
theorem d_T_take_44 : decode cc_T_take 44 = .ok (.goto (-41), 3) := by decide +kernel
theorem d_T_take_19 : decode cc_T_take 19 = .ok (.aload_n 0, 1) := by decide +kernel
theorem d_T_take_20 : decode cc_T_take 20 = .ok (.getfield 9, 3) := by decide +kernel
theorem d_T_take_23 : decode cc_T_take 23 = .ok (.iload 4, 2) := by decide +kernel
theorem d_T_take_25 : decode cc_T_take 25 = .ok (.iconst 0, 1) := by decide +kernel
theorem d_T_take_26 : decode cc_T_take 26 = .ok (.iload_n 1, 1) := by decide +kernel
theorem d_T_take_27 : decode cc_T_take 27 = .ok (.invokevirtual 49, 3) := by decide +kernel
theorem d_T_take_30 : decode cc_T_take 30 = .ok (.aload_n 0, 1) := by decide +kernel
theorem d_T_take_31 : decode cc_T_take 31 = .ok (.iload 4, 2) := by decide +kernel
theorem d_T_take_33 : decode cc_T_take 33 = .ok (.iload_n 2, 1) := by decide +kernel
theorem d_T_take_34 : decode cc_T_take 34 = .ok (.iload_n 3, 1) := by decide +kernel
theorem d_T_take_35 : decode cc_T_take 35 = .ok (.invokevirtual 66, 3) := by decide +kernel
theorem d_T_take_38 : decode cc_T_take 38 = .ok (.iload 4, 2) := by decide +kernel
theorem d_T_take_40 : decode cc_T_take 40 = .ok (.ireturn, 1) := by decide +kernel
def f_T_take_3 (y0 : Int32) (y1 : Int32) (y2 : Int32) (y3 : Nat → Int32) (k3 : (Int32) → Option (Int32 × (Nat → Int32))) (a : Int32) : Option (Int32 × (Nat → Int32)) :=
  if (8 : Int32) ≤ a then (some ((-1 : Int32), y3)) else ((f_T_kindOf y3 a).bind fun x1 => if x1 = 0 then ((f_D_putInodeWord a (0 : Int32) y0 y3).bind fun x3 => (f_T_hang a y1 y2 x3).bind fun x5 => some (a, x5)) else (k3 (a + (1 : Int32))))
set_option maxHeartbeats 4000000 in
set_option maxRecDepth 100000 in
theorem b_T_take_3 {l : Launch} {dC : Nat → ClassId} {dI : Nat → Nat → Nat} {cI cA cL : ClassId} {q_tr q_di q_pl q_dr q_jo : Nat} {vjn : Int32} {vmk : Int32} {vwr : Int32} {vP : Nat → Int32} {vJ : Nat → Int32} {p : Program} {e : Env} {s : State} {m : MethodId} {args : Array Value} {below : List Frame} {meth : Method} {c : Code} (cx : jv_cx p s m args meth c cc_T_take 5 R_Tree (some .int) ws_T_take) (hK : va_K (dC, dI) vwCl (jv_ty cI cA cL) s) {A : Nat → Prop} (hA : ∀ q : Nat, s.heap.size ≤ q → A q) {r : Int32 × (Nat → Int32)} {y0 : Int32} {y1 : Int32} {y2 : Int32} {y3 : Nat → Int32} {k3 : (Int32) → Option (Int32 × (Nat → Int32))} (hk3 : ∀ (b0 : Int32) (ls : Array Slot) (H : Heap) (locs : List Loc), lv_has ls 5 [(0, .ref q_tr), (1, .int y0), (2, .int y1), (3, .int y2), (4, .int b0)] → va_P (dC, dI) vwCl (w_tree cI q_tr q_di q_pl q_dr q_jo vjn vmk vwr vP y3 vJ) H → va_D A (w_tree cI q_tr q_di q_pl q_dr q_jo vjn vmk vwr vP y3 vJ) → va_S A s.heap H locs → k3 b0 = some r → W p l e rm_T_take s m args below meth c H locs 0 0 (MQ below (jv_Qi r.1 (dC, dI) (w_tree cI q_tr q_di q_pl q_dr q_jo vjn vmk vwr vP r.2 vJ) A) args s 0 0 A) (F0 m 3 ls [])) {a : Int32} {ls : Array Slot} (hl : lv_has ls 5 [(0, .ref q_tr), (1, .int y0), (2, .int y1), (3, .int y2), (4, .int a)]) {H : Heap} {locs : List Loc} (hP : va_P (dC, dI) vwCl (w_tree cI q_tr q_di q_pl q_dr q_jo vjn vmk vwr vP y3 vJ) H) (hD : va_D A (w_tree cI q_tr q_di q_pl q_dr q_jo vjn vmk vwr vP y3 vJ)) (hS : va_S A s.heap H locs) (hf : f_T_take_3 y0 y1 y2 y3 k3 a = some r) : W p l e rm_T_take s m args below meth c H locs 0 0 (MQ below (jv_Qi r.1 (dC, dI) (w_tree cI q_tr q_di q_pl q_dr q_jo vjn vmk vwr vP r.2 vJ) A) args s 0 0 A) (F0 m 3 ls []) := by
  unfold f_T_take_3 at hf
  obtain ⟨hx, hb, hml, hown, hts, hr, hlocks⟩ := id cx
  refine lv_iload hx hb d_T_take_3 (lv_at hl 4 rfl) ?_
  refine lv_bipush (v := (8 : Int32)) hx hb d_T_take_5 (by decide) ?_
  refine lv_icmp_ge (tgt := 47) hx hb d_T_take_7 (by decide) (fun hc => ?_) (fun hc => ?_)
  · have hf := jv_it hf hc
    refine lv_iconst (v := (-1 : Int32)) hx hb d_T_take_47 (by decide) ?_
    obtain rfl := Option.some.inj hf
    exact W.iret hx hb hr (fun t ht hW => ⟨rfl, by rw [ht]; exact hP, hD, hS.F ht⟩) hS.2.2 d_T_take_48
  · have hf := jv_if hf hc
    refine lv_aload_n hx hb d_T_take_10 rfl (lv_at hl 0 rfl) ?_
    refine lv_iload hx hb d_T_take_11 (lv_at hl 4 rfl) ?_
    obtain ⟨x1, g2, hf⟩ := jv_ob hf
    have hPc := hP.sub (ws' := (w_tree cI q_tr q_di q_pl q_dr q_jo vjn vmk vwr vP y3 vJ)) [0, 1, 2, 3, 4] rfl
    refine jv_cs (W.runV (As := [.int a]) (rest := []) (b := q_tr) ⟨hx, hb, hml, hown, hts⟩ (c_T_kindOf l dC dI cI cA cL q_tr q_di q_pl q_dr q_jo vjn vmk vwr vP y3 vJ a x1 g2) (jv_cwV hts wa_86 wa_78 wa_87 wa_88 wa_89 rfl rfl yd_T_kindOf ⟨Nat.le_of_ble_eq_true rfl, Nat.le_of_ble_eq_true rfl⟩) (jv_preV hK hPc 0 rfl rfl) rfl rfl hl.1 rfl (lv_room (Nat.le_of_ble_eq_true rfl)) d_T_take_13 ⟨Nat.zero_le _, Nat.zero_le _⟩) ?_
    refine lv_if_ne (tgt := 41) hx hb d_T_take_16 (by decide) (fun hc => ?_) (fun hc => ?_)
    · have hf := jv_if hf hc
      refine lv_iinc (k := 4) (v := a + (1 : Int32)) (lv' := [(4, .int (a + (1 : Int32))), (0, .ref q_tr), (1, .int y0), (2, .int y1), (3, .int y2)]) hx hb d_T_take_41 hl rfl (jv_inc _) (by decide) rfl (fun ls hl => ?_)
      refine lv_goto (tgt := 3) hx hb d_T_take_44 (by decide) ?_
      exact hk3 (a + (1 : Int32)) _ _ _ (lv_sub hl [1, 2, 3, 4, 0] rfl) hP hD hS hf
    · have hf := jv_it hf hc
      refine lv_aload_n hx hb d_T_take_19 rfl (lv_at hl 0 rfl) ?_
      refine va_get (D := (dC, dI)) (ci := kTree) (v := .ref q_di) (C := R_Tree) (T := T_Tree) (N := 1) hx hb hts (fun w h => List.mem_cons_of_mem _ (in_Tree w h)) hown hK hP 0 rfl rfl 0 (by decide) (jv_w hts wa_67) (fun _ h9 => h9) rfl d_T_take_20 ?_
      refine lv_iload hx hb d_T_take_23 (lv_at hl 4 rfl) ?_
      refine lv_iconst (v := (0 : Int32)) hx hb d_T_take_25 (by decide) ?_
      refine lv_iload_n hx hb d_T_take_26 rfl (lv_at hl 1 rfl) ?_
      obtain ⟨x3, g4, hf⟩ := jv_ob hf
      have hPc := hP.sub (ws' := (w_disk cI q_di q_pl q_dr q_jo vjn vmk vwr vP y3 vJ)) [1, 2, 3, 4] rfl
      have hDc := hD.sub (ws' := (w_disk cI q_di q_pl q_dr q_jo vjn vmk vwr vP y3 vJ)) [1, 2, 3, 4] (by decide) rfl
      have hFc := va_free (wc := (w_disk cI q_di q_pl q_dr q_jo vjn vmk vwr vP y3 vJ)) hD hS hA [1, 2, 3, 4] rfl
      refine jv_cwv (va_runV (As := [.int a, .int (0 : Int32), .int y0]) (rest := []) (b := q_di) ⟨hx, hb, hml, hown, hts⟩ (c_D_putInodeWord l dC dI cI cA cL q_di q_pl q_dr q_jo vjn vmk vwr vP y3 vJ a (0 : Int32) y0 H.size x3 g4) (jv_cwV hts wa_106 wa_29 wa_107 wa_108 wa_109 rfl rfl yd_D_putInodeWord ⟨Nat.le_of_ble_eq_true rfl, Nat.le_of_ble_eq_true rfl⟩) (jv_preVW hK hPc hDc 0 rfl rfl) rfl rfl hl.1 rfl (lv_room (Nat.le_of_ble_eq_true rfl)) d_T_take_27 ⟨Nat.zero_le _, Nat.zero_le _⟩) hS hFc (fun H1 locs hP1 hD1 hk1 hS => ?_)
      obtain ⟨hP, hD⟩ := va_join (wc := (w_disk cI q_di q_pl q_dr q_jo vjn vmk vwr vP y3 vJ)) (wr := [(q_tr, .inr (kTree, [.ref q_di]))]) (w1 := (w_disk cI q_di q_pl q_dr q_jo vjn vmk vwr vP x3 vJ)) hP hD [1, 2, 3, 4] [0] rfl rfl (by decide) (by decide) hk1 hFc hP1 hD1
      have hP : va_P (dC, dI) vwCl (w_tree cI q_tr q_di q_pl q_dr q_jo vjn vmk vwr vP x3 vJ) H1 := hP.sub [0, 1, 2, 3, 4] rfl
      have hD : va_D A (w_tree cI q_tr q_di q_pl q_dr q_jo vjn vmk vwr vP x3 vJ) := hD.sub [0, 1, 2, 3, 4] (by decide) rfl
      generalize H1 = H at hP hS ⊢
      refine lv_aload_n hx hb d_T_take_30 rfl (lv_at hl 0 rfl) ?_
      refine lv_iload hx hb d_T_take_31 (lv_at hl 4 rfl) ?_
      refine lv_iload_n hx hb d_T_take_33 rfl (lv_at hl 2 rfl) ?_
      refine lv_iload_n hx hb d_T_take_34 rfl (lv_at hl 3 rfl) ?_
      obtain ⟨x5, g6, hf⟩ := jv_ob hf
      have hPc := hP.sub (ws' := (w_tree cI q_tr q_di q_pl q_dr q_jo vjn vmk vwr vP x3 vJ)) [0, 1, 2, 3, 4] rfl
      have hDc := hD.sub (ws' := (w_tree cI q_tr q_di q_pl q_dr q_jo vjn vmk vwr vP x3 vJ)) [0, 1, 2, 3, 4] (by decide) rfl
      have hFc := va_free (wc := (w_tree cI q_tr q_di q_pl q_dr q_jo vjn vmk vwr vP x3 vJ)) hD hS hA [0, 1, 2, 3, 4] rfl
      refine jv_cwv (va_runV (As := [.int a, .int y1, .int y2]) (rest := []) (b := q_tr) ⟨hx, hb, hml, hown, hts⟩ (c_T_hang l dC dI cI cA cL q_tr q_di q_pl q_dr q_jo vjn vmk vwr vP x3 vJ a y1 y2 H.size x5 g6) (jv_cwV hts wa_114 wa_78 wa_115 wa_116 wa_117 rfl rfl yd_T_hang ⟨Nat.le_of_ble_eq_true rfl, Nat.le_of_ble_eq_true rfl⟩) (jv_preVW hK hPc hDc 0 rfl rfl) rfl rfl hl.1 rfl (lv_room (Nat.le_of_ble_eq_true rfl)) d_T_take_35 ⟨Nat.zero_le _, Nat.zero_le _⟩) hS hFc (fun H1 locs hP1 hD1 hk1 hS => ?_)
      have hP : va_P (dC, dI) vwCl (w_tree cI q_tr q_di q_pl q_dr q_jo vjn vmk vwr vP x5 vJ) H1 := hP1.sub [0, 1, 2, 3, 4] rfl
      have hD : va_D A (w_tree cI q_tr q_di q_pl q_dr q_jo vjn vmk vwr vP x5 vJ) := (hD1.weaken (fun _ q _ h => hFc q.1 h)).sub [0, 1, 2, 3, 4] (by decide) rfl
      generalize H1 = H at hP hS ⊢
      refine lv_iload hx hb d_T_take_38 (lv_at hl 4 rfl) ?_
      obtain rfl := Option.some.inj hf
      exact W.iret hx hb hr (fun t ht hW => ⟨rfl, by rw [ht]; exact hP, hD, hS.F ht⟩) hS.2.2 d_T_take_40
set_option maxHeartbeats 4000000 in
set_option maxRecDepth 100000 in
theorem l_T_take_3 {l : Launch} {dC : Nat → ClassId} {dI : Nat → Nat → Nat} {cI cA cL : ClassId} {q_tr q_di q_pl q_dr q_jo : Nat} {vjn : Int32} {vmk : Int32} {vwr : Int32} {vP : Nat → Int32} {vJ : Nat → Int32} {p : Program} {e : Env} {s : State} {m : MethodId} {args : Array Value} {below : List Frame} {meth : Method} {c : Code} (cx : jv_cx p s m args meth c cc_T_take 5 R_Tree (some .int) ws_T_take) (hK : va_K (dC, dI) vwCl (jv_ty cI cA cL) s) {A : Nat → Prop} (hA : ∀ q : Nat, s.heap.size ≤ q → A q) {r : Int32 × (Nat → Int32)} {y0 : Int32} {y1 : Int32} {y2 : Int32} {y3 : Nat → Int32} : ∀ n : Nat, ∀ (b0 : Int32) (ls : Array Slot) (H : Heap) (locs : List Loc), lv_has ls 5 [(0, .ref q_tr), (1, .int y0), (2, .int y1), (3, .int y2), (4, .int b0)] → va_P (dC, dI) vwCl (w_tree cI q_tr q_di q_pl q_dr q_jo vjn vmk vwr vP y3 vJ) H → va_D A (w_tree cI q_tr q_di q_pl q_dr q_jo vjn vmk vwr vP y3 vJ) → va_S A s.heap H locs → jv_fx (f_T_take_3 y0 y1 y2 y3) n b0 = some r → W p l e rm_T_take s m args below meth c H locs 0 0 (MQ below (jv_Qi r.1 (dC, dI) (w_tree cI q_tr q_di q_pl q_dr q_jo vjn vmk vwr vP r.2 vJ) A) args s 0 0 A) (F0 m 3 ls []) := by
  intro n
  induction n with
  | zero => intro b0 ls H locs hl hP hD hS hf; exact jv_no hf
  | succ n ih => intro b0 ls H locs hl hP hD hS hf; exact b_T_take_3 (a := b0) cx hK hA ih hl hP hD hS hf
def f_T_take_0 (y0 : Int32) (y1 : Int32) (y2 : Int32) (y3 : Nat → Int32) : Option (Int32 × (Nat → Int32)) :=
  jv_fx (f_T_take_3 y0 y1 y2 y3) 300 (1 : Int32)
set_option maxHeartbeats 4000000 in
set_option maxRecDepth 100000 in
theorem b_T_take_0 {l : Launch} {dC : Nat → ClassId} {dI : Nat → Nat → Nat} {cI cA cL : ClassId} {q_tr q_di q_pl q_dr q_jo : Nat} {vjn : Int32} {vmk : Int32} {vwr : Int32} {vP : Nat → Int32} {vJ : Nat → Int32} {p : Program} {e : Env} {s : State} {m : MethodId} {args : Array Value} {below : List Frame} {meth : Method} {c : Code} (cx : jv_cx p s m args meth c cc_T_take 5 R_Tree (some .int) ws_T_take) (hK : va_K (dC, dI) vwCl (jv_ty cI cA cL) s) {A : Nat → Prop} (hA : ∀ q : Nat, s.heap.size ≤ q → A q) {r : Int32 × (Nat → Int32)} {y0 : Int32} {y1 : Int32} {y2 : Int32} {y3 : Nat → Int32} {ls : Array Slot} (hl : lv_has ls 5 [(0, .ref q_tr), (1, .int y0), (2, .int y1), (3, .int y2)]) {H : Heap} {locs : List Loc} (hP : va_P (dC, dI) vwCl (w_tree cI q_tr q_di q_pl q_dr q_jo vjn vmk vwr vP y3 vJ) H) (hD : va_D A (w_tree cI q_tr q_di q_pl q_dr q_jo vjn vmk vwr vP y3 vJ)) (hS : va_S A s.heap H locs) (hf : f_T_take_0 y0 y1 y2 y3 = some r) : W p l e rm_T_take s m args below meth c H locs 0 0 (MQ below (jv_Qi r.1 (dC, dI) (w_tree cI q_tr q_di q_pl q_dr q_jo vjn vmk vwr vP r.2 vJ) A) args s 0 0 A) (F0 m 0 ls []) := by
  unfold f_T_take_0 at hf
  obtain ⟨hx, hb, hml, hown, hts, hr, hlocks⟩ := id cx
  refine lv_iconst (v := (1 : Int32)) hx hb d_T_take_0 (by decide) ?_
  refine lv_istore (lv' := [(4, .int (1 : Int32)), (0, .ref q_tr), (1, .int y0), (2, .int y1), (3, .int y2)]) hx hb d_T_take_1 hl (by decide) rfl (fun ls hl => ?_)
  exact l_T_take_3 (y0 := y0) (y1 := y1) (y2 := y2) (y3 := y3) cx hK hA 300 (1 : Int32) _ _ _ (lv_sub hl [1, 2, 3, 4, 0] rfl) hP hD hS hf
def f_T_take (a0 : Int32) (a1 : Int32) (a2 : Int32) (vD : Nat → Int32) : Option (Int32 × (Nat → Int32)) := f_T_take_0 a0 a1 a2 vD
set_option maxHeartbeats 4000000 in
set_option maxRecDepth 100000 in
theorem c_T_take (l : Launch) (dC : Nat → ClassId) (dI : Nat → Nat → Nat) (cI cA cL : ClassId) (q_tr q_di q_pl q_dr q_jo : Nat) (vjn : Int32) (vmk : Int32) (vwr : Int32) (vP : Nat → Int32) (vD : Nat → Int32) (vJ : Nat → Int32) (a0 : Int32) (a1 : Int32) (a2 : Int32) (sz : Nat) (r : Int32 × (Nat → Int32)) (hf : f_T_take a0 a1 a2 vD = some r) : Met l y_T_take ws_T_take rm_T_take (jv_Pw [.ref q_tr, .int a0, .int a1, .int a2] (dC, dI) (jv_ty cI cA cL) (w_tree cI q_tr q_di q_pl q_dr q_jo vjn vmk vwr vP vD vJ) sz) (jv_Qi r.1 (dC, dI) (w_tree cI q_tr q_di q_pl q_dr q_jo vjn vmk vwr vP r.2 vJ) (va_A (w_tree cI q_tr q_di q_pl q_dr q_jo vjn vmk vwr vP vD vJ) sz)) 0 0 (va_A (w_tree cI q_tr q_di q_pl q_dr q_jo vjn vmk vwr vP vD vJ) sz) := by
  refine Met.ofW (cc := cc_T_take) (maxL := 5) (ret := (some .int)) (by decide) rfl ?_
  intro p e s m args below meth c s₁ B hml hv
  obtain ⟨rfl, hsz, hP, hK, hD0⟩ := hv
  have cx : jv_cx p s m _ meth c cc_T_take 5 R_Tree (some .int) ws_T_take := ⟨B.exec, B.bytes, hml, findClass_of_methodNamed B.named, atoms_spec (ws := ws_T_take) B.pre, B.returns, B.notSynchronized⟩
  subst hsz
  have hD := hD0.self (sz := s.heap.size)
  generalize hAe : va_A (w_tree cI q_tr q_di q_pl q_dr q_jo vjn vmk vwr vP vD vJ) s.heap.size = A at hD ⊢
  have hA : ∀ q : Nat, s.heap.size ≤ q → A q := fun q h => by rw [← hAe]; exact Or.inr h
  have hS : va_S A s.heap s.heap [] := va_S.rf
  have hl := lv_entry ([.ref q_tr, .int a0, .int a1, .int a2]) (n := 5) (Nat.le_of_ble_eq_true rfl)
  rw [lg_entry_eq]
  generalize (lg_sl ([.ref q_tr, .int a0, .int a1, .int a2]) ++ List.replicate (5 - (lg_sl ([.ref q_tr, .int a0, .int a1, .int a2])).length) Slot.unset).toArray = ls at hl ⊢
  have hl : lv_has ls 5 [(0, .ref q_tr), (1, .int a0), (2, .int a1), (3, .int a2)] := hl
  exact b_T_take_0 (y0 := a0) (y1 := a1) (y2 := a2) (y3 := vD) cx hK hA (lv_sub hl [0, 1, 2, 3] rfl) hP hD hS hf
theorem d_T_create_0 : decode cc_T_create 0 = .ok (.iconst 0, 1) := by decide +kernel
theorem d_T_create_1 : decode cc_T_create 1 = .ok (.istore_n 3, 1) := by decide +kernel
theorem d_T_create_2 : decode cc_T_create 2 = .ok (.iload_n 1, 1) := by decide +kernel
theorem d_T_create_3 : decode cc_T_create 3 = .ok (.invokestatic 21, 3) := by decide +kernel
theorem d_T_create_6 : decode cc_T_create 6 = .ok (.iconst 1, 1) := by decide +kernel
theorem d_T_create_7 : decode cc_T_create 7 = .ok (.isub, 1) := by decide +kernel
theorem d_T_create_8 : decode cc_T_create 8 = .ok (.istore 4, 2) := by decide +kernel
theorem d_T_create_10 : decode cc_T_create 10 = .ok (.iload 4, 2) := by decide +kernel
theorem d_T_create_12 : decode cc_T_create 12 = .ok (.ifCond .lt 62, 3) := by decide +kernel
theorem d_T_create_74 : decode cc_T_create 74 = .ok (.iload_n 3, 1) := by decide +kernel
theorem d_T_create_75 : decode cc_T_create 75 = .ok (.ireturn, 1) := by decide +kernel
theorem d_T_create_15 : decode cc_T_create 15 = .ok (.iload_n 3, 1) := by decide +kernel
theorem d_T_create_16 : decode cc_T_create 16 = .ok (.iconst (-1), 1) := by decide +kernel
theorem d_T_create_17 : decode cc_T_create 17 = .ok (.if_icmp .eq 57, 3) := by decide +kernel
theorem d_T_create_20 : decode cc_T_create 20 = .ok (.iload_n 1, 1) := by decide +kernel
theorem d_T_create_21 : decode cc_T_create 21 = .ok (.iload 4, 2) := by decide +kernel
theorem d_T_create_23 : decode cc_T_create 23 = .ok (.invokestatic 27, 3) := by decide +kernel
theorem d_T_create_26 : decode cc_T_create 26 = .ok (.invokestatic 30, 3) := by decide +kernel
theorem d_T_create_29 : decode cc_T_create 29 = .ok (.istore 5, 2) := by decide +kernel
theorem d_T_create_31 : decode cc_T_create 31 = .ok (.aload_n 0, 1) := by decide +kernel
theorem d_T_create_32 : decode cc_T_create 32 = .ok (.iload_n 3, 1) := by decide +kernel
theorem d_T_create_33 : decode cc_T_create 33 = .ok (.iload 5, 2) := by decide +kernel
theorem d_T_create_35 : decode cc_T_create 35 = .ok (.invokevirtual 33, 3) := by decide +kernel
theorem d_T_create_38 : decode cc_T_create 38 = .ok (.istore 6, 2) := by decide +kernel
theorem d_T_create_40 : decode cc_T_create 40 = .ok (.iload 6, 2) := by decide +kernel
theorem d_T_create_42 : decode cc_T_create 42 = .ok (.iconst (-1), 1) := by decide +kernel
theorem d_T_create_43 : decode cc_T_create 43 = .ok (.if_icmp .ne 22, 3) := by decide +kernel
theorem d_T_create_65 : decode cc_T_create 65 = .ok (.iload 6, 2) := by decide +kernel
theorem d_T_create_67 : decode cc_T_create 67 = .ok (.istore_n 3, 1) := by decide +kernel
theorem d_T_create_68 : decode cc_T_create 68 = .ok (.iinc 4 (-1), 3) := by decide +kernel
theorem d_T_create_71 : decode cc_T_create 71 = .ok (.goto (-61), 3) := by decide +kernel
theorem d_T_create_46 : decode cc_T_create 46 = .ok (.aload_n 0, 1) := by decide +kernel
theorem d_T_create_47 : decode cc_T_create 47 = .ok (.iload 4, 2) := by decide +kernel
theorem d_T_create_49 : decode cc_T_create 49 = .ok (.ifCond .ne 7, 3) := by decide +kernel
theorem d_T_create_56 : decode cc_T_create 56 = .ok (.iconst 1, 1) := by decide +kernel
theorem d_T_create_57 : decode cc_T_create 57 = .ok (.iload_n 3, 1) := by decide +kernel
theorem d_T_create_58 : decode cc_T_create 58 = .ok (.iload 5, 2) := by decide +kernel
theorem d_T_create_60 : decode cc_T_create 60 = .ok (.invokevirtual 45, 3) := by decide +kernel
theorem d_T_create_63 : decode cc_T_create 63 = .ok (.istore 6, 2) := by decide +kernel
theorem d_T_create_52 : decode cc_T_create 52 = .ok (.iload_n 2, 1) := by decide +kernel
theorem d_T_create_53 : decode cc_T_create 53 = .ok (.goto 4, 3) := by decide +kernel
def f_T_create_10 (y0 : Int32) (y1 : Int32) (k10 : (Int32 × Int32 × (Nat → Int32)) → Option (Int32 × (Nat → Int32))) (a : Int32 × Int32 × (Nat → Int32)) : Option (Int32 × (Nat → Int32)) :=
  if a.2.1 < 0 then (some (a.1, a.2.2)) else (if a.1 = (-1 : Int32) then (some (a.1, a.2.2)) else ((f_P_without y0 a.2.1).bind fun x3 => (f_P_lastName x3).bind fun x5 => (f_T_childNamed a.2.2 a.1 x5).bind fun x7 => if x7 = (-1 : Int32) then (if a.2.1 = 0 then ((f_T_take y1 a.1 x5 a.2.2).bind fun x11 => k10 (x11.1, a.2.1 + (-1 : Int32), x11.2)) else ((f_T_take (1 : Int32) a.1 x5 a.2.2).bind fun x9 => k10 (x9.1, a.2.1 + (-1 : Int32), x9.2))) else (k10 (x7, a.2.1 + (-1 : Int32), a.2.2))))
set_option maxHeartbeats 4000000 in
set_option maxRecDepth 100000 in
theorem b_T_create_10 {l : Launch} {dC : Nat → ClassId} {dI : Nat → Nat → Nat} {cI cA cL : ClassId} {q_tr q_di q_pl q_dr q_jo : Nat} {vjn : Int32} {vmk : Int32} {vwr : Int32} {vP : Nat → Int32} {vJ : Nat → Int32} {p : Program} {e : Env} {s : State} {m : MethodId} {args : Array Value} {below : List Frame} {meth : Method} {c : Code} (cx : jv_cx p s m args meth c cc_T_create 7 R_Tree (some .int) ws_T_create) (hK : va_K (dC, dI) vwCl (jv_ty cI cA cL) s) {A : Nat → Prop} (hA : ∀ q : Nat, s.heap.size ≤ q → A q) {r : Int32 × (Nat → Int32)} {y0 : Int32} {y1 : Int32} {k10 : (Int32 × Int32 × (Nat → Int32)) → Option (Int32 × (Nat → Int32))} (hk10 : ∀ (b0 : Int32) (b1 : Int32) (b2 : Nat → Int32) (ls : Array Slot) (H : Heap) (locs : List Loc), lv_has ls 7 [(0, .ref q_tr), (1, .int y0), (2, .int y1), (3, .int b0), (4, .int b1)] → va_P (dC, dI) vwCl (w_tree cI q_tr q_di q_pl q_dr q_jo vjn vmk vwr vP b2 vJ) H → va_D A (w_tree cI q_tr q_di q_pl q_dr q_jo vjn vmk vwr vP b2 vJ) → va_S A s.heap H locs → k10 (b0, b1, b2) = some r → W p l e rm_T_create s m args below meth c H locs 0 0 (MQ below (jv_Qi r.1 (dC, dI) (w_tree cI q_tr q_di q_pl q_dr q_jo vjn vmk vwr vP r.2 vJ) A) args s 0 0 A) (F0 m 10 ls [])) {a : Int32 × Int32 × (Nat → Int32)} {ls : Array Slot} (hl : lv_has ls 7 [(0, .ref q_tr), (1, .int y0), (2, .int y1), (3, .int a.1), (4, .int a.2.1)]) {H : Heap} {locs : List Loc} (hP : va_P (dC, dI) vwCl (w_tree cI q_tr q_di q_pl q_dr q_jo vjn vmk vwr vP a.2.2 vJ) H) (hD : va_D A (w_tree cI q_tr q_di q_pl q_dr q_jo vjn vmk vwr vP a.2.2 vJ)) (hS : va_S A s.heap H locs) (hf : f_T_create_10 y0 y1 k10 a = some r) : W p l e rm_T_create s m args below meth c H locs 0 0 (MQ below (jv_Qi r.1 (dC, dI) (w_tree cI q_tr q_di q_pl q_dr q_jo vjn vmk vwr vP r.2 vJ) A) args s 0 0 A) (F0 m 10 ls []) := by
  unfold f_T_create_10 at hf
  obtain ⟨hx, hb, hml, hown, hts, hr, hlocks⟩ := id cx
  refine lv_iload hx hb d_T_create_10 (lv_at hl 4 rfl) ?_
  refine lv_if_lt (tgt := 74) hx hb d_T_create_12 (by decide) (fun hc => ?_) (fun hc => ?_)
  · have hf := jv_it hf hc
    refine lv_iload_n hx hb d_T_create_74 rfl (lv_at hl 3 rfl) ?_
    obtain rfl := Option.some.inj hf
    exact W.iret hx hb hr (fun t ht hW => ⟨rfl, by rw [ht]; exact hP, hD, hS.F ht⟩) hS.2.2 d_T_create_75
  · have hf := jv_if hf hc
    refine lv_iload_n hx hb d_T_create_15 rfl (lv_at hl 3 rfl) ?_
    refine lv_iconst (v := (-1 : Int32)) hx hb d_T_create_16 (by decide) ?_
    refine lv_icmp_eq (tgt := 74) hx hb d_T_create_17 (by decide) (fun hc => ?_) (fun hc => ?_)
    · have hf := jv_it hf hc
      refine lv_iload_n hx hb d_T_create_74 rfl (lv_at hl 3 rfl) ?_
      obtain rfl := Option.some.inj hf
      exact W.iret hx hb hr (fun t ht hW => ⟨rfl, by rw [ht]; exact hP, hD, hS.F ht⟩) hS.2.2 d_T_create_75
    · have hf := jv_if hf hc
      refine lv_iload_n hx hb d_T_create_20 rfl (lv_at hl 1 rfl) ?_
      refine lv_iload hx hb d_T_create_21 (lv_at hl 4 rfl) ?_
      obtain ⟨x3, g4, hf⟩ := jv_ob hf
      refine jv_cs (W.runS (As := [.int y0, .int a.2.1]) (rest := []) ⟨hx, hb, hml, hown, hts⟩ (c_P_without l y0 a.2.1 x3 g4) (jv_cwS hts wa_17 wa_8 wa_75 wa_19 rfl rfl yd_P_without ⟨Nat.le_of_ble_eq_true rfl, Nat.le_of_ble_eq_true rfl⟩) jv_pre0 rfl rfl hl.1 rfl (lv_room (Nat.le_of_ble_eq_true rfl)) d_T_create_23 ⟨Nat.zero_le _, Nat.zero_le _⟩) ?_
      obtain ⟨x5, g6, hf⟩ := jv_ob hf
      refine jv_cs (W.runS (As := [.int x3]) (rest := []) ⟨hx, hb, hml, hown, hts⟩ (c_P_lastName l x3 x5 g6) (jv_cwS hts wa_7 wa_8 wa_76 wa_10 rfl rfl yd_P_lastName ⟨Nat.le_of_ble_eq_true rfl, Nat.le_of_ble_eq_true rfl⟩) jv_pre0 rfl rfl hl.1 rfl (lv_room (Nat.le_of_ble_eq_true rfl)) d_T_create_26 ⟨Nat.zero_le _, Nat.zero_le _⟩) ?_
      refine lv_istore (lv' := [(5, .int x5), (0, .ref q_tr), (1, .int y0), (2, .int y1), (3, .int a.1), (4, .int a.2.1)]) hx hb d_T_create_29 hl (by decide) rfl (fun ls hl => ?_)
      refine lv_aload_n hx hb d_T_create_31 rfl (lv_at hl 1 rfl) ?_
      refine lv_iload_n hx hb d_T_create_32 rfl (lv_at hl 4 rfl) ?_
      refine lv_iload hx hb d_T_create_33 (lv_at hl 0 rfl) ?_
      obtain ⟨x7, g8, hf⟩ := jv_ob hf
      have hPc := hP.sub (ws' := (w_tree cI q_tr q_di q_pl q_dr q_jo vjn vmk vwr vP a.2.2 vJ)) [0, 1, 2, 3, 4] rfl
      refine jv_cs (W.runV (As := [.int a.1, .int x5]) (rest := []) (b := q_tr) ⟨hx, hb, hml, hown, hts⟩ (c_T_childNamed l dC dI cI cA cL q_tr q_di q_pl q_dr q_jo vjn vmk vwr vP a.2.2 vJ a.1 x5 x7 g8) (jv_cwV hts wa_77 wa_78 wa_79 wa_80 wa_81 rfl rfl yd_T_childNamed ⟨Nat.le_of_ble_eq_true rfl, Nat.le_of_ble_eq_true rfl⟩) (jv_preV hK hPc 0 rfl rfl) rfl rfl hl.1 rfl (lv_room (Nat.le_of_ble_eq_true rfl)) d_T_create_35 ⟨Nat.zero_le _, Nat.zero_le _⟩) ?_
      refine lv_istore (lv' := [(6, .int x7), (5, .int x5), (0, .ref q_tr), (1, .int y0), (2, .int y1), (3, .int a.1), (4, .int a.2.1)]) hx hb d_T_create_38 hl (by decide) rfl (fun ls hl => ?_)
      refine lv_iload hx hb d_T_create_40 (lv_at hl 0 rfl) ?_
      refine lv_iconst (v := (-1 : Int32)) hx hb d_T_create_42 (by decide) ?_
      refine lv_icmp_ne (tgt := 65) hx hb d_T_create_43 (by decide) (fun hc => ?_) (fun hc => ?_)
      · have hf := jv_if hf hc
        refine lv_iload hx hb d_T_create_65 (lv_at hl 0 rfl) ?_
        refine lv_istore_n (lv' := [(3, .int x7), (6, .int x7), (5, .int x5), (0, .ref q_tr), (1, .int y0), (2, .int y1), (4, .int a.2.1)]) hx hb d_T_create_67 rfl hl (by decide) rfl (fun ls hl => ?_)
        refine lv_iinc (k := 6) (v := a.2.1 + (-1 : Int32)) (lv' := [(4, .int (a.2.1 + (-1 : Int32))), (3, .int x7), (6, .int x7), (5, .int x5), (0, .ref q_tr), (1, .int y0), (2, .int y1)]) hx hb d_T_create_68 hl rfl (jv_dec _) (by decide) rfl (fun ls hl => ?_)
        refine lv_goto (tgt := 10) hx hb d_T_create_71 (by decide) ?_
        exact hk10 x7 (a.2.1 + (-1 : Int32)) a.2.2 _ _ _ (lv_sub hl [4, 5, 6, 1, 0] rfl) hP hD hS hf
      · have hf := jv_it hf hc
        refine lv_aload_n hx hb d_T_create_46 rfl (lv_at hl 2 rfl) ?_
        refine lv_iload hx hb d_T_create_47 (lv_at hl 6 rfl) ?_
        refine lv_if_ne (tgt := 56) hx hb d_T_create_49 (by decide) (fun hc => ?_) (fun hc => ?_)
        · have hf := jv_if hf hc
          refine lv_iconst (v := (1 : Int32)) hx hb d_T_create_56 (by decide) ?_
          refine lv_iload_n hx hb d_T_create_57 rfl (lv_at hl 5 rfl) ?_
          refine lv_iload hx hb d_T_create_58 (lv_at hl 1 rfl) ?_
          obtain ⟨x9, g10, hf⟩ := jv_ob hf
          have hPc := hP.sub (ws' := (w_tree cI q_tr q_di q_pl q_dr q_jo vjn vmk vwr vP a.2.2 vJ)) [0, 1, 2, 3, 4] rfl
          have hDc := hD.sub (ws' := (w_tree cI q_tr q_di q_pl q_dr q_jo vjn vmk vwr vP a.2.2 vJ)) [0, 1, 2, 3, 4] (by decide) rfl
          have hFc := va_free (wc := (w_tree cI q_tr q_di q_pl q_dr q_jo vjn vmk vwr vP a.2.2 vJ)) hD hS hA [0, 1, 2, 3, 4] rfl
          refine jv_cwi (va_runV (As := [.int (1 : Int32), .int a.1, .int x5]) (rest := []) (b := q_tr) ⟨hx, hb, hml, hown, hts⟩ (c_T_take l dC dI cI cA cL q_tr q_di q_pl q_dr q_jo vjn vmk vwr vP a.2.2 vJ (1 : Int32) a.1 x5 H.size x9 g10) (jv_cwV hts wa_118 wa_78 wa_119 wa_120 wa_121 rfl rfl yd_T_take ⟨Nat.le_of_ble_eq_true rfl, Nat.le_of_ble_eq_true rfl⟩) (jv_preVW hK hPc hDc 0 rfl rfl) rfl rfl hl.1 rfl (lv_room (Nat.le_of_ble_eq_true rfl)) d_T_create_60 ⟨Nat.zero_le _, Nat.zero_le _⟩) hS hFc (fun H1 locs hP1 hD1 hk1 hS => ?_)
          have hP : va_P (dC, dI) vwCl (w_tree cI q_tr q_di q_pl q_dr q_jo vjn vmk vwr vP x9.2 vJ) H1 := hP1.sub [0, 1, 2, 3, 4] rfl
          have hD : va_D A (w_tree cI q_tr q_di q_pl q_dr q_jo vjn vmk vwr vP x9.2 vJ) := (hD1.weaken (fun _ q _ h => hFc q.1 h)).sub [0, 1, 2, 3, 4] (by decide) rfl
          generalize H1 = H at hP hS ⊢
          refine lv_istore (lv' := [(6, .int x9.1), (5, .int x5), (0, .ref q_tr), (1, .int y0), (2, .int y1), (3, .int a.1), (4, .int a.2.1)]) hx hb d_T_create_63 hl (by decide) rfl (fun ls hl => ?_)
          refine lv_iload hx hb d_T_create_65 (lv_at hl 0 rfl) ?_
          refine lv_istore_n (lv' := [(3, .int x9.1), (6, .int x9.1), (5, .int x5), (0, .ref q_tr), (1, .int y0), (2, .int y1), (4, .int a.2.1)]) hx hb d_T_create_67 rfl hl (by decide) rfl (fun ls hl => ?_)
          refine lv_iinc (k := 6) (v := a.2.1 + (-1 : Int32)) (lv' := [(4, .int (a.2.1 + (-1 : Int32))), (3, .int x9.1), (6, .int x9.1), (5, .int x5), (0, .ref q_tr), (1, .int y0), (2, .int y1)]) hx hb d_T_create_68 hl rfl (jv_dec _) (by decide) rfl (fun ls hl => ?_)
          refine lv_goto (tgt := 10) hx hb d_T_create_71 (by decide) ?_
          exact hk10 x9.1 (a.2.1 + (-1 : Int32)) x9.2 _ _ _ (lv_sub hl [4, 5, 6, 1, 0] rfl) hP hD hS hf
        · have hf := jv_it hf hc
          refine lv_iload_n hx hb d_T_create_52 rfl (lv_at hl 4 rfl) ?_
          refine lv_goto (tgt := 57) hx hb d_T_create_53 (by decide) ?_
          refine lv_iload_n hx hb d_T_create_57 rfl (lv_at hl 5 rfl) ?_
          refine lv_iload hx hb d_T_create_58 (lv_at hl 1 rfl) ?_
          obtain ⟨x11, g12, hf⟩ := jv_ob hf
          have hPc := hP.sub (ws' := (w_tree cI q_tr q_di q_pl q_dr q_jo vjn vmk vwr vP a.2.2 vJ)) [0, 1, 2, 3, 4] rfl
          have hDc := hD.sub (ws' := (w_tree cI q_tr q_di q_pl q_dr q_jo vjn vmk vwr vP a.2.2 vJ)) [0, 1, 2, 3, 4] (by decide) rfl
          have hFc := va_free (wc := (w_tree cI q_tr q_di q_pl q_dr q_jo vjn vmk vwr vP a.2.2 vJ)) hD hS hA [0, 1, 2, 3, 4] rfl
          refine jv_cwi (va_runV (As := [.int y1, .int a.1, .int x5]) (rest := []) (b := q_tr) ⟨hx, hb, hml, hown, hts⟩ (c_T_take l dC dI cI cA cL q_tr q_di q_pl q_dr q_jo vjn vmk vwr vP a.2.2 vJ y1 a.1 x5 H.size x11 g12) (jv_cwV hts wa_118 wa_78 wa_119 wa_120 wa_121 rfl rfl yd_T_take ⟨Nat.le_of_ble_eq_true rfl, Nat.le_of_ble_eq_true rfl⟩) (jv_preVW hK hPc hDc 0 rfl rfl) rfl rfl hl.1 rfl (lv_room (Nat.le_of_ble_eq_true rfl)) d_T_create_60 ⟨Nat.zero_le _, Nat.zero_le _⟩) hS hFc (fun H1 locs hP1 hD1 hk1 hS => ?_)
          have hP : va_P (dC, dI) vwCl (w_tree cI q_tr q_di q_pl q_dr q_jo vjn vmk vwr vP x11.2 vJ) H1 := hP1.sub [0, 1, 2, 3, 4] rfl
          have hD : va_D A (w_tree cI q_tr q_di q_pl q_dr q_jo vjn vmk vwr vP x11.2 vJ) := (hD1.weaken (fun _ q _ h => hFc q.1 h)).sub [0, 1, 2, 3, 4] (by decide) rfl
          generalize H1 = H at hP hS ⊢
          refine lv_istore (lv' := [(6, .int x11.1), (5, .int x5), (0, .ref q_tr), (1, .int y0), (2, .int y1), (3, .int a.1), (4, .int a.2.1)]) hx hb d_T_create_63 hl (by decide) rfl (fun ls hl => ?_)
          refine lv_iload hx hb d_T_create_65 (lv_at hl 0 rfl) ?_
          refine lv_istore_n (lv' := [(3, .int x11.1), (6, .int x11.1), (5, .int x5), (0, .ref q_tr), (1, .int y0), (2, .int y1), (4, .int a.2.1)]) hx hb d_T_create_67 rfl hl (by decide) rfl (fun ls hl => ?_)
          refine lv_iinc (k := 6) (v := a.2.1 + (-1 : Int32)) (lv' := [(4, .int (a.2.1 + (-1 : Int32))), (3, .int x11.1), (6, .int x11.1), (5, .int x5), (0, .ref q_tr), (1, .int y0), (2, .int y1)]) hx hb d_T_create_68 hl rfl (jv_dec _) (by decide) rfl (fun ls hl => ?_)
          refine lv_goto (tgt := 10) hx hb d_T_create_71 (by decide) ?_
          exact hk10 x11.1 (a.2.1 + (-1 : Int32)) x11.2 _ _ _ (lv_sub hl [4, 5, 6, 1, 0] rfl) hP hD hS hf
set_option maxHeartbeats 4000000 in
set_option maxRecDepth 100000 in
theorem l_T_create_10 {l : Launch} {dC : Nat → ClassId} {dI : Nat → Nat → Nat} {cI cA cL : ClassId} {q_tr q_di q_pl q_dr q_jo : Nat} {vjn : Int32} {vmk : Int32} {vwr : Int32} {vP : Nat → Int32} {vJ : Nat → Int32} {p : Program} {e : Env} {s : State} {m : MethodId} {args : Array Value} {below : List Frame} {meth : Method} {c : Code} (cx : jv_cx p s m args meth c cc_T_create 7 R_Tree (some .int) ws_T_create) (hK : va_K (dC, dI) vwCl (jv_ty cI cA cL) s) {A : Nat → Prop} (hA : ∀ q : Nat, s.heap.size ≤ q → A q) {r : Int32 × (Nat → Int32)} {y0 : Int32} {y1 : Int32} : ∀ n : Nat, ∀ (b0 : Int32) (b1 : Int32) (b2 : Nat → Int32) (ls : Array Slot) (H : Heap) (locs : List Loc), lv_has ls 7 [(0, .ref q_tr), (1, .int y0), (2, .int y1), (3, .int b0), (4, .int b1)] → va_P (dC, dI) vwCl (w_tree cI q_tr q_di q_pl q_dr q_jo vjn vmk vwr vP b2 vJ) H → va_D A (w_tree cI q_tr q_di q_pl q_dr q_jo vjn vmk vwr vP b2 vJ) → va_S A s.heap H locs → jv_fx (f_T_create_10 y0 y1) n (b0, b1, b2) = some r → W p l e rm_T_create s m args below meth c H locs 0 0 (MQ below (jv_Qi r.1 (dC, dI) (w_tree cI q_tr q_di q_pl q_dr q_jo vjn vmk vwr vP r.2 vJ) A) args s 0 0 A) (F0 m 10 ls []) := by
  intro n
  induction n with
  | zero => intro b0 b1 b2 ls H locs hl hP hD hS hf; exact jv_no hf
  | succ n ih => intro b0 b1 b2 ls H locs hl hP hD hS hf; exact b_T_create_10 (a := (b0, b1, b2)) cx hK hA ih hl hP hD hS hf
def f_T_create_0 (y0 : Int32) (y1 : Int32) (y2 : Nat → Int32) : Option (Int32 × (Nat → Int32)) :=
  (f_P_lengthOf y0).bind fun x1 => jv_fx (f_T_create_10 y0 y1) 300 ((0 : Int32), x1 - (1 : Int32), y2)
set_option maxHeartbeats 4000000 in
set_option maxRecDepth 100000 in
theorem b_T_create_0 {l : Launch} {dC : Nat → ClassId} {dI : Nat → Nat → Nat} {cI cA cL : ClassId} {q_tr q_di q_pl q_dr q_jo : Nat} {vjn : Int32} {vmk : Int32} {vwr : Int32} {vP : Nat → Int32} {vJ : Nat → Int32} {p : Program} {e : Env} {s : State} {m : MethodId} {args : Array Value} {below : List Frame} {meth : Method} {c : Code} (cx : jv_cx p s m args meth c cc_T_create 7 R_Tree (some .int) ws_T_create) (hK : va_K (dC, dI) vwCl (jv_ty cI cA cL) s) {A : Nat → Prop} (hA : ∀ q : Nat, s.heap.size ≤ q → A q) {r : Int32 × (Nat → Int32)} {y0 : Int32} {y1 : Int32} {y2 : Nat → Int32} {ls : Array Slot} (hl : lv_has ls 7 [(0, .ref q_tr), (1, .int y0), (2, .int y1)]) {H : Heap} {locs : List Loc} (hP : va_P (dC, dI) vwCl (w_tree cI q_tr q_di q_pl q_dr q_jo vjn vmk vwr vP y2 vJ) H) (hD : va_D A (w_tree cI q_tr q_di q_pl q_dr q_jo vjn vmk vwr vP y2 vJ)) (hS : va_S A s.heap H locs) (hf : f_T_create_0 y0 y1 y2 = some r) : W p l e rm_T_create s m args below meth c H locs 0 0 (MQ below (jv_Qi r.1 (dC, dI) (w_tree cI q_tr q_di q_pl q_dr q_jo vjn vmk vwr vP r.2 vJ) A) args s 0 0 A) (F0 m 0 ls []) := by
  unfold f_T_create_0 at hf
  obtain ⟨hx, hb, hml, hown, hts, hr, hlocks⟩ := id cx
  refine lv_iconst (v := (0 : Int32)) hx hb d_T_create_0 (by decide) ?_
  refine lv_istore_n (lv' := [(3, .int (0 : Int32)), (0, .ref q_tr), (1, .int y0), (2, .int y1)]) hx hb d_T_create_1 rfl hl (by decide) rfl (fun ls hl => ?_)
  refine lv_iload_n hx hb d_T_create_2 rfl (lv_at hl 2 rfl) ?_
  obtain ⟨x1, g2, hf⟩ := jv_ob hf
  refine jv_cs (W.runS (As := [.int y0]) (rest := []) ⟨hx, hb, hml, hown, hts⟩ (c_P_lengthOf l y0 x1 g2) (jv_cwS hts wa_72 wa_8 wa_73 wa_74 rfl rfl yd_P_lengthOf ⟨Nat.le_of_ble_eq_true rfl, Nat.le_of_ble_eq_true rfl⟩) jv_pre0 rfl rfl hl.1 rfl (lv_room (Nat.le_of_ble_eq_true rfl)) d_T_create_3 ⟨Nat.zero_le _, Nat.zero_le _⟩) ?_
  refine lv_iconst (v := (1 : Int32)) hx hb d_T_create_6 (by decide) ?_
  refine lv_isub hx hb d_T_create_7 ?_
  refine lv_istore (lv' := [(4, .int (x1 - (1 : Int32))), (3, .int (0 : Int32)), (0, .ref q_tr), (1, .int y0), (2, .int y1)]) hx hb d_T_create_8 hl (by decide) rfl (fun ls hl => ?_)
  exact l_T_create_10 (y0 := y0) (y1 := y1) cx hK hA 300 (0 : Int32) (x1 - (1 : Int32)) y2 _ _ _ (lv_sub hl [2, 3, 4, 1, 0] rfl) hP hD hS hf
def f_T_create (a0 : Int32) (a1 : Int32) (vD : Nat → Int32) : Option (Int32 × (Nat → Int32)) := f_T_create_0 a0 a1 vD
set_option maxHeartbeats 4000000 in
set_option maxRecDepth 100000 in
theorem c_T_create (l : Launch) (dC : Nat → ClassId) (dI : Nat → Nat → Nat) (cI cA cL : ClassId) (q_tr q_di q_pl q_dr q_jo : Nat) (vjn : Int32) (vmk : Int32) (vwr : Int32) (vP : Nat → Int32) (vD : Nat → Int32) (vJ : Nat → Int32) (a0 : Int32) (a1 : Int32) (sz : Nat) (r : Int32 × (Nat → Int32)) (hf : f_T_create a0 a1 vD = some r) : Met l y_T_create ws_T_create rm_T_create (jv_Pw [.ref q_tr, .int a0, .int a1] (dC, dI) (jv_ty cI cA cL) (w_tree cI q_tr q_di q_pl q_dr q_jo vjn vmk vwr vP vD vJ) sz) (jv_Qi r.1 (dC, dI) (w_tree cI q_tr q_di q_pl q_dr q_jo vjn vmk vwr vP r.2 vJ) (va_A (w_tree cI q_tr q_di q_pl q_dr q_jo vjn vmk vwr vP vD vJ) sz)) 0 0 (va_A (w_tree cI q_tr q_di q_pl q_dr q_jo vjn vmk vwr vP vD vJ) sz) := by
  refine Met.ofW (cc := cc_T_create) (maxL := 7) (ret := (some .int)) (by decide) rfl ?_
  intro p e s m args below meth c s₁ B hml hv
  obtain ⟨rfl, hsz, hP, hK, hD0⟩ := hv
  have cx : jv_cx p s m _ meth c cc_T_create 7 R_Tree (some .int) ws_T_create := ⟨B.exec, B.bytes, hml, findClass_of_methodNamed B.named, atoms_spec (ws := ws_T_create) B.pre, B.returns, B.notSynchronized⟩
  subst hsz
  have hD := hD0.self (sz := s.heap.size)
  generalize hAe : va_A (w_tree cI q_tr q_di q_pl q_dr q_jo vjn vmk vwr vP vD vJ) s.heap.size = A at hD ⊢
  have hA : ∀ q : Nat, s.heap.size ≤ q → A q := fun q h => by rw [← hAe]; exact Or.inr h
  have hS : va_S A s.heap s.heap [] := va_S.rf
  have hl := lv_entry ([.ref q_tr, .int a0, .int a1]) (n := 7) (Nat.le_of_ble_eq_true rfl)
  rw [lg_entry_eq]
  generalize (lg_sl ([.ref q_tr, .int a0, .int a1]) ++ List.replicate (7 - (lg_sl ([.ref q_tr, .int a0, .int a1])).length) Slot.unset).toArray = ls at hl ⊢
  have hl : lv_has ls 7 [(0, .ref q_tr), (1, .int a0), (2, .int a1)] := hl
  exact b_T_create_0 (y0 := a0) (y1 := a1) (y2 := vD) cx hK hA (lv_sub hl [0, 1, 2] rfl) hP hD hS hf
