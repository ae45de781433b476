theorem d_D_wordInPlace_0 : decode cc_D_wordInPlace 0 = .ok (.aload_n 0, 1) := by decide +kernel
theorem d_D_wordInPlace_1 : decode cc_D_wordInPlace 1 = .ok (.getfield 11, 3) := by decide +kernel
theorem d_D_wordInPlace_4 : decode cc_D_wordInPlace 4 = .ok (.iload_n 1, 1) := by decide +kernel
theorem d_D_wordInPlace_5 : decode cc_D_wordInPlace 5 = .ok (.bipush 8, 2) := by decide +kernel
theorem d_D_wordInPlace_7 : decode cc_D_wordInPlace 7 = .ok (.imul, 1) := by decide +kernel
theorem d_D_wordInPlace_8 : decode cc_D_wordInPlace 8 = .ok (.iload_n 2, 1) := by decide +kernel
theorem d_D_wordInPlace_9 : decode cc_D_wordInPlace 9 = .ok (.iadd, 1) := by decide +kernel
theorem d_D_wordInPlace_10 : decode cc_D_wordInPlace 10 = .ok (.iaload, 1) := by decide +kernel
theorem d_D_wordInPlace_11 : decode cc_D_wordInPlace 11 = .ok (.ireturn, 1) := by decide +kernel
def f_D_wordInPlace_0 (vP : Nat → Int32) (y0 : Int32) (y1 : Int32) : Option (Int32) :=
  (jv_ga vP 232 ((y0 * (8 : Int32)) + y1)).bind fun x1 => some x1
set_option maxHeartbeats 4000000 in
set_option maxRecDepth 100000 in
theorem b_D_wordInPlace_0 {l : Launch} {dC : Nat → ClassId} {dI : Nat → Nat → Nat} {cI cA cL : ClassId} {q_di q_pl q_dr q_jo : Nat} {vjn : Int32} {vmk : Int32} {vwr : Int32} {vP : Nat → Int32} {vD : Nat → Int32} {vJ : Nat → Int32} {p : Program} {e : Env} {s : State} {m : MethodId} {args : Array Value} {below : List Frame} {meth : Method} {c : Code} (cx : jv_cx p s m args meth c cc_D_wordInPlace 3 R_Disk (some .int) ws_D_wordInPlace) (hK : va_K (dC, dI) vwCl (jv_ty cI cA cL) s) (hP : va_P (dC, dI) vwCl (w_disk cI q_di q_pl q_dr q_jo vjn vmk vwr vP vD vJ) s.heap) {r : Int32} {y0 : Int32} {y1 : Int32} {ls : Array Slot} (hl : lv_has ls 3 [(0, .ref q_di), (1, .int y0), (2, .int y1)]) (hf : f_D_wordInPlace_0 vP y0 y1 = some r) : W p l e rm_D_wordInPlace s m args below meth c s.heap [] 0 0 (MQ below (QcRead r) args s 0 0 (fun _ => False)) (F0 m 0 ls []) := by
  unfold f_D_wordInPlace_0 at hf
  obtain ⟨hx, hb, hml, hown, hts, hr, hlocks⟩ := id cx
  refine lv_aload_n hx hb d_D_wordInPlace_0 rfl (lv_at hl 0 rfl) ?_
  refine va_get (D := (dC, dI)) (ci := kDisk) (v := .ref q_pl) (C := R_Disk) (T := T_Disk) (N := 6) hx hb hts (fun w h => List.mem_cons_of_mem _ (in_Disk w h)) hown hK hP 0 rfl rfl 0 (by decide) (jv_w hts wa_21) (fun _ h9 => h9) rfl d_D_wordInPlace_1 ?_
  refine lv_iload_n hx hb d_D_wordInPlace_4 rfl (lv_at hl 1 rfl) ?_
  refine lv_bipush (v := (8 : Int32)) hx hb d_D_wordInPlace_5 (by decide) ?_
  refine lv_imul hx hb d_D_wordInPlace_7 ?_
  refine lv_iload_n hx hb d_D_wordInPlace_8 rfl (lv_at hl 2 rfl) ?_
  refine lv_iadd hx hb d_D_wordInPlace_9 ?_
  obtain ⟨x1, g2, hf⟩ := jv_ob hf
  refine jv_iald hx hb hK hP 1 0 rfl rfl g2 d_D_wordInPlace_10 ?_
  obtain rfl := Option.some.inj hf
  exact W.iret hx hb hr (fun t ht hW => ⟨rfl, ht⟩) (fun q h => by cases h) d_D_wordInPlace_11
def f_D_wordInPlace (vP : Nat → Int32) (a0 : Int32) (a1 : Int32) : Option (Int32) := f_D_wordInPlace_0 vP a0 a1
set_option maxHeartbeats 4000000 in
set_option maxRecDepth 100000 in
theorem c_D_wordInPlace (l : Launch) (dC : Nat → ClassId) (dI : Nat → Nat → Nat) (cI cA cL : ClassId) (q_di q_pl q_dr q_jo : Nat) (vjn : Int32) (vmk : Int32) (vwr : Int32) (vP : Nat → Int32) (vD : Nat → Int32) (vJ : Nat → Int32) (a0 : Int32) (a1 : Int32) (r : Int32) (hf : f_D_wordInPlace vP a0 a1 = some r) : Met l y_D_wordInPlace ws_D_wordInPlace rm_D_wordInPlace (jv_Pr [.ref q_di, .int a0, .int a1] (dC, dI) (jv_ty cI cA cL) (w_disk cI q_di q_pl q_dr q_jo vjn vmk vwr vP vD vJ)) (QcRead r) 0 0 (fun _ => False) := by
  refine Met.ofW (cc := cc_D_wordInPlace) (maxL := 3) (ret := (some .int)) (by decide) rfl ?_
  intro p e s m args below meth c s₁ B hml hv
  obtain ⟨rfl, hP, hK⟩ := hv
  have cx : jv_cx p s m _ meth c cc_D_wordInPlace 3 R_Disk (some .int) ws_D_wordInPlace := ⟨B.exec, B.bytes, hml, findClass_of_methodNamed B.named, atoms_spec (ws := ws_D_wordInPlace) B.pre, B.returns, B.notSynchronized⟩
  have hl := lv_entry ([.ref q_di, .int a0, .int a1]) (n := 3) (Nat.le_of_ble_eq_true rfl)
  rw [lg_entry_eq]
  generalize (lg_sl ([.ref q_di, .int a0, .int a1]) ++ List.replicate (3 - (lg_sl ([.ref q_di, .int a0, .int a1])).length) Slot.unset).toArray = ls at hl ⊢
  have hl : lv_has ls 3 [(0, .ref q_di), (1, .int a0), (2, .int a1)] := hl
  exact b_D_wordInPlace_0 (y0 := a0) (y1 := a1) cx hK hP (lv_sub hl [0, 1, 2] rfl) hf
theorem d_D_get_0 : decode cc_D_get 0 = .ok (.aload_n 0, 1) := by decide +kernel
theorem d_D_get_1 : decode cc_D_get 1 = .ok (.getfield 15, 3) := by decide +kernel
theorem d_D_get_4 : decode cc_D_get 4 = .ok (.iload_n 1, 1) := by decide +kernel
theorem d_D_get_5 : decode cc_D_get 5 = .ok (.bipush 8, 2) := by decide +kernel
theorem d_D_get_7 : decode cc_D_get 7 = .ok (.imul, 1) := by decide +kernel
theorem d_D_get_8 : decode cc_D_get 8 = .ok (.iload_n 2, 1) := by decide +kernel
theorem d_D_get_9 : decode cc_D_get 9 = .ok (.iadd, 1) := by decide +kernel
theorem d_D_get_10 : decode cc_D_get 10 = .ok (.iaload, 1) := by decide +kernel
theorem d_D_get_11 : decode cc_D_get 11 = .ok (.ireturn, 1) := by decide +kernel
def f_D_get_0 (vD : Nat → Int32) (y0 : Int32) (y1 : Int32) : Option (Int32) :=
  (jv_ga vD 232 ((y0 * (8 : Int32)) + y1)).bind fun x1 => some x1
set_option maxHeartbeats 4000000 in
set_option maxRecDepth 100000 in
theorem b_D_get_0 {l : Launch} {dC : Nat → ClassId} {dI : Nat → Nat → Nat} {cI cA cL : ClassId} {q_di q_pl q_dr q_jo : Nat} {vjn : Int32} {vmk : Int32} {vwr : Int32} {vP : Nat → Int32} {vD : Nat → Int32} {vJ : Nat → Int32} {p : Program} {e : Env} {s : State} {m : MethodId} {args : Array Value} {below : List Frame} {meth : Method} {c : Code} (cx : jv_cx p s m args meth c cc_D_get 3 R_Disk (some .int) ws_D_get) (hK : va_K (dC, dI) vwCl (jv_ty cI cA cL) s) (hP : va_P (dC, dI) vwCl (w_disk cI q_di q_pl q_dr q_jo vjn vmk vwr vP vD vJ) s.heap) {r : Int32} {y0 : Int32} {y1 : Int32} {ls : Array Slot} (hl : lv_has ls 3 [(0, .ref q_di), (1, .int y0), (2, .int y1)]) (hf : f_D_get_0 vD y0 y1 = some r) : W p l e rm_D_get s m args below meth c s.heap [] 0 0 (MQ below (QcRead r) args s 0 0 (fun _ => False)) (F0 m 0 ls []) := by
  unfold f_D_get_0 at hf
  obtain ⟨hx, hb, hml, hown, hts, hr, hlocks⟩ := id cx
  refine lv_aload_n hx hb d_D_get_0 rfl (lv_at hl 0 rfl) ?_
  refine va_get (D := (dC, dI)) (ci := kDisk) (v := .ref q_dr) (C := R_Disk) (T := T_Disk) (N := 6) hx hb hts (fun w h => List.mem_cons_of_mem _ (in_Disk w h)) hown hK hP 0 rfl rfl 1 (by decide) (jv_w hts wa_22) (fun _ h9 => h9) rfl d_D_get_1 ?_
  refine lv_iload_n hx hb d_D_get_4 rfl (lv_at hl 1 rfl) ?_
  refine lv_bipush (v := (8 : Int32)) hx hb d_D_get_5 (by decide) ?_
  refine lv_imul hx hb d_D_get_7 ?_
  refine lv_iload_n hx hb d_D_get_8 rfl (lv_at hl 2 rfl) ?_
  refine lv_iadd hx hb d_D_get_9 ?_
  obtain ⟨x1, g2, hf⟩ := jv_ob hf
  refine jv_iald hx hb hK hP 2 0 rfl rfl g2 d_D_get_10 ?_
  obtain rfl := Option.some.inj hf
  exact W.iret hx hb hr (fun t ht hW => ⟨rfl, ht⟩) (fun q h => by cases h) d_D_get_11
def f_D_get (vD : Nat → Int32) (a0 : Int32) (a1 : Int32) : Option (Int32) := f_D_get_0 vD a0 a1
set_option maxHeartbeats 4000000 in
set_option maxRecDepth 100000 in
theorem c_D_get (l : Launch) (dC : Nat → ClassId) (dI : Nat → Nat → Nat) (cI cA cL : ClassId) (q_di q_pl q_dr q_jo : Nat) (vjn : Int32) (vmk : Int32) (vwr : Int32) (vP : Nat → Int32) (vD : Nat → Int32) (vJ : Nat → Int32) (a0 : Int32) (a1 : Int32) (r : Int32) (hf : f_D_get vD a0 a1 = some r) : Met l y_D_get ws_D_get rm_D_get (jv_Pr [.ref q_di, .int a0, .int a1] (dC, dI) (jv_ty cI cA cL) (w_disk cI q_di q_pl q_dr q_jo vjn vmk vwr vP vD vJ)) (QcRead r) 0 0 (fun _ => False) := by
  refine Met.ofW (cc := cc_D_get) (maxL := 3) (ret := (some .int)) (by decide) rfl ?_
  intro p e s m args below meth c s₁ B hml hv
  obtain ⟨rfl, hP, hK⟩ := hv
  have cx : jv_cx p s m _ meth c cc_D_get 3 R_Disk (some .int) ws_D_get := ⟨B.exec, B.bytes, hml, findClass_of_methodNamed B.named, atoms_spec (ws := ws_D_get) B.pre, B.returns, B.notSynchronized⟩
  have hl := lv_entry ([.ref q_di, .int a0, .int a1]) (n := 3) (Nat.le_of_ble_eq_true rfl)
  rw [lg_entry_eq]
  generalize (lg_sl ([.ref q_di, .int a0, .int a1]) ++ List.replicate (3 - (lg_sl ([.ref q_di, .int a0, .int a1])).length) Slot.unset).toArray = ls at hl ⊢
  have hl : lv_has ls 3 [(0, .ref q_di), (1, .int a0), (2, .int a1)] := hl
  exact b_D_get_0 (y0 := a0) (y1 := a1) cx hK hP (lv_sub hl [0, 1, 2] rfl) hf
theorem d_D_inodeWord_0 : decode cc_D_inodeWord 0 = .ok (.aload_n 0, 1) := by decide +kernel
theorem d_D_inodeWord_1 : decode cc_D_inodeWord 1 = .ok (.getfield 15, 3) := by decide +kernel
theorem d_D_inodeWord_4 : decode cc_D_inodeWord 4 = .ok (.iconst 1, 1) := by decide +kernel
theorem d_D_inodeWord_5 : decode cc_D_inodeWord 5 = .ok (.iload_n 1, 1) := by decide +kernel
theorem d_D_inodeWord_6 : decode cc_D_inodeWord 6 = .ok (.iadd, 1) := by decide +kernel
theorem d_D_inodeWord_7 : decode cc_D_inodeWord 7 = .ok (.bipush 8, 2) := by decide +kernel
theorem d_D_inodeWord_9 : decode cc_D_inodeWord 9 = .ok (.imul, 1) := by decide +kernel
theorem d_D_inodeWord_10 : decode cc_D_inodeWord 10 = .ok (.iload_n 2, 1) := by decide +kernel
theorem d_D_inodeWord_11 : decode cc_D_inodeWord 11 = .ok (.iadd, 1) := by decide +kernel
theorem d_D_inodeWord_12 : decode cc_D_inodeWord 12 = .ok (.iaload, 1) := by decide +kernel
theorem d_D_inodeWord_13 : decode cc_D_inodeWord 13 = .ok (.ireturn, 1) := by decide +kernel
def f_D_inodeWord_0 (vD : Nat → Int32) (y0 : Int32) (y1 : Int32) : Option (Int32) :=
  (jv_ga vD 232 ((((1 : Int32) + y0) * (8 : Int32)) + y1)).bind fun x1 => some x1
set_option maxHeartbeats 4000000 in
set_option maxRecDepth 100000 in
theorem b_D_inodeWord_0 {l : Launch} {dC : Nat → ClassId} {dI : Nat → Nat → Nat} {cI cA cL : ClassId} {q_di q_pl q_dr q_jo : Nat} {vjn : Int32} {vmk : Int32} {vwr : Int32} {vP : Nat → Int32} {vD : Nat → Int32} {vJ : Nat → Int32} {p : Program} {e : Env} {s : State} {m : MethodId} {args : Array Value} {below : List Frame} {meth : Method} {c : Code} (cx : jv_cx p s m args meth c cc_D_inodeWord 3 R_Disk (some .int) ws_D_inodeWord) (hK : va_K (dC, dI) vwCl (jv_ty cI cA cL) s) (hP : va_P (dC, dI) vwCl (w_disk cI q_di q_pl q_dr q_jo vjn vmk vwr vP vD vJ) s.heap) {r : Int32} {y0 : Int32} {y1 : Int32} {ls : Array Slot} (hl : lv_has ls 3 [(0, .ref q_di), (1, .int y0), (2, .int y1)]) (hf : f_D_inodeWord_0 vD y0 y1 = some r) : W p l e rm_D_inodeWord s m args below meth c s.heap [] 0 0 (MQ below (QcRead r) args s 0 0 (fun _ => False)) (F0 m 0 ls []) := by
  unfold f_D_inodeWord_0 at hf
  obtain ⟨hx, hb, hml, hown, hts, hr, hlocks⟩ := id cx
  refine lv_aload_n hx hb d_D_inodeWord_0 rfl (lv_at hl 0 rfl) ?_
  refine va_get (D := (dC, dI)) (ci := kDisk) (v := .ref q_dr) (C := R_Disk) (T := T_Disk) (N := 6) hx hb hts (fun w h => List.mem_cons_of_mem _ (in_Disk w h)) hown hK hP 0 rfl rfl 1 (by decide) (jv_w hts wa_22) (fun _ h9 => h9) rfl d_D_inodeWord_1 ?_
  refine lv_iconst (v := (1 : Int32)) hx hb d_D_inodeWord_4 (by decide) ?_
  refine lv_iload_n hx hb d_D_inodeWord_5 rfl (lv_at hl 1 rfl) ?_
  refine lv_iadd hx hb d_D_inodeWord_6 ?_
  refine lv_bipush (v := (8 : Int32)) hx hb d_D_inodeWord_7 (by decide) ?_
  refine lv_imul hx hb d_D_inodeWord_9 ?_
  refine lv_iload_n hx hb d_D_inodeWord_10 rfl (lv_at hl 2 rfl) ?_
  refine lv_iadd hx hb d_D_inodeWord_11 ?_
  obtain ⟨x1, g2, hf⟩ := jv_ob hf
  refine jv_iald hx hb hK hP 2 0 rfl rfl g2 d_D_inodeWord_12 ?_
  obtain rfl := Option.some.inj hf
  exact W.iret hx hb hr (fun t ht hW => ⟨rfl, ht⟩) (fun q h => by cases h) d_D_inodeWord_13
def f_D_inodeWord (vD : Nat → Int32) (a0 : Int32) (a1 : Int32) : Option (Int32) := f_D_inodeWord_0 vD a0 a1
set_option maxHeartbeats 4000000 in
set_option maxRecDepth 100000 in
theorem c_D_inodeWord (l : Launch) (dC : Nat → ClassId) (dI : Nat → Nat → Nat) (cI cA cL : ClassId) (q_di q_pl q_dr q_jo : Nat) (vjn : Int32) (vmk : Int32) (vwr : Int32) (vP : Nat → Int32) (vD : Nat → Int32) (vJ : Nat → Int32) (a0 : Int32) (a1 : Int32) (r : Int32) (hf : f_D_inodeWord vD a0 a1 = some r) : Met l y_D_inodeWord ws_D_inodeWord rm_D_inodeWord (jv_Pr [.ref q_di, .int a0, .int a1] (dC, dI) (jv_ty cI cA cL) (w_disk cI q_di q_pl q_dr q_jo vjn vmk vwr vP vD vJ)) (QcRead r) 0 0 (fun _ => False) := by
  refine Met.ofW (cc := cc_D_inodeWord) (maxL := 3) (ret := (some .int)) (by decide) rfl ?_
  intro p e s m args below meth c s₁ B hml hv
  obtain ⟨rfl, hP, hK⟩ := hv
  have cx : jv_cx p s m _ meth c cc_D_inodeWord 3 R_Disk (some .int) ws_D_inodeWord := ⟨B.exec, B.bytes, hml, findClass_of_methodNamed B.named, atoms_spec (ws := ws_D_inodeWord) B.pre, B.returns, B.notSynchronized⟩
  have hl := lv_entry ([.ref q_di, .int a0, .int a1]) (n := 3) (Nat.le_of_ble_eq_true rfl)
  rw [lg_entry_eq]
  generalize (lg_sl ([.ref q_di, .int a0, .int a1]) ++ List.replicate (3 - (lg_sl ([.ref q_di, .int a0, .int a1])).length) Slot.unset).toArray = ls at hl ⊢
  have hl : lv_has ls 3 [(0, .ref q_di), (1, .int a0), (2, .int a1)] := hl
  exact b_D_inodeWord_0 (y0 := a0) (y1 := a1) cx hK hP (lv_sub hl [0, 1, 2] rfl) hf
theorem d_D_put_0 : decode cc_D_put 0 = .ok (.aload_n 0, 1) := by decide +kernel
theorem d_D_put_1 : decode cc_D_put 1 = .ok (.getfield 15, 3) := by decide +kernel
theorem d_D_put_4 : decode cc_D_put 4 = .ok (.iload_n 1, 1) := by decide +kernel
theorem d_D_put_5 : decode cc_D_put 5 = .ok (.bipush 8, 2) := by decide +kernel
theorem d_D_put_7 : decode cc_D_put 7 = .ok (.imul, 1) := by decide +kernel
theorem d_D_put_8 : decode cc_D_put 8 = .ok (.iload_n 2, 1) := by decide +kernel
theorem d_D_put_9 : decode cc_D_put 9 = .ok (.iadd, 1) := by decide +kernel
theorem d_D_put_10 : decode cc_D_put 10 = .ok (.iload_n 3, 1) := by decide +kernel
theorem d_D_put_11 : decode cc_D_put 11 = .ok (.iastore, 1) := by decide +kernel
theorem d_D_put_12 : decode cc_D_put 12 = .ok (.return_, 1) := by decide +kernel
def f_D_put_0 (y0 : Int32) (y1 : Int32) (y2 : Int32) (y3 : Nat → Int32) : Option (Nat → Int32) :=
  (jv_sa y3 232 ((y0 * (8 : Int32)) + y1) y2).bind fun F1 => some F1
set_option maxHeartbeats 4000000 in
set_option maxRecDepth 100000 in
theorem b_D_put_0 {l : Launch} {dC : Nat → ClassId} {dI : Nat → Nat → Nat} {cI cA cL : ClassId} {q_di q_pl q_dr q_jo : Nat} {vjn : Int32} {vmk : Int32} {vwr : Int32} {vP : Nat → Int32} {vJ : Nat → Int32} {p : Program} {e : Env} {s : State} {m : MethodId} {args : Array Value} {below : List Frame} {meth : Method} {c : Code} (cx : jv_cx p s m args meth c cc_D_put 4 R_Disk none ws_D_put) (hK : va_K (dC, dI) vwCl (jv_ty cI cA cL) s) {A : Nat → Prop} (hA : ∀ q : Nat, s.heap.size ≤ q → A q) {r : Nat → Int32} {y0 : Int32} {y1 : Int32} {y2 : Int32} {y3 : Nat → Int32} {ls : Array Slot} (hl : lv_has ls 4 [(0, .ref q_di), (1, .int y0), (2, .int y1), (3, .int y2)]) {H : Heap} {locs : List Loc} (hP : va_P (dC, dI) vwCl (w_disk cI q_di q_pl q_dr q_jo vjn vmk vwr vP y3 vJ) H) (hD : va_D A (w_disk cI q_di q_pl q_dr q_jo vjn vmk vwr vP y3 vJ)) (hS : va_S A s.heap H locs) (hf : f_D_put_0 y0 y1 y2 y3 = some r) : W p l e rm_D_put s m args below meth c H locs 0 0 (MQ below (jv_Qv (dC, dI) (w_disk cI q_di q_pl q_dr q_jo vjn vmk vwr vP r vJ) A) args s 0 0 A) (F0 m 0 ls []) := by
  unfold f_D_put_0 at hf
  obtain ⟨hx, hb, hml, hown, hts, hr, hlocks⟩ := id cx
  refine lv_aload_n hx hb d_D_put_0 rfl (lv_at hl 0 rfl) ?_
  refine va_get (D := (dC, dI)) (ci := kDisk) (v := .ref q_dr) (C := R_Disk) (T := T_Disk) (N := 6) hx hb hts (fun w h => List.mem_cons_of_mem _ (in_Disk w h)) hown hK hP 0 rfl rfl 1 (by decide) (jv_w hts wa_22) (fun _ h9 => h9) rfl d_D_put_1 ?_
  refine lv_iload_n hx hb d_D_put_4 rfl (lv_at hl 1 rfl) ?_
  refine lv_bipush (v := (8 : Int32)) hx hb d_D_put_5 (by decide) ?_
  refine lv_imul hx hb d_D_put_7 ?_
  refine lv_iload_n hx hb d_D_put_8 rfl (lv_at hl 2 rfl) ?_
  refine lv_iadd hx hb d_D_put_9 ?_
  refine lv_iload_n hx hb d_D_put_10 rfl (lv_at hl 3 rfl) ?_
  obtain ⟨F1, g2, hf⟩ := jv_ob hf
  refine jv_iast hx hb hK hP hD hS 2 0 rfl rfl g2 d_D_put_11 (fun H locs hP hD hS => ?_)
  have hP : va_P (dC, dI) vwCl (w_disk cI q_di q_pl q_dr q_jo vjn vmk vwr vP F1 vJ) H := hP
  have hD : va_D A (w_disk cI q_di q_pl q_dr q_jo vjn vmk vwr vP F1 vJ) := hD
  obtain rfl := Option.some.inj hf
  exact W.vret hx hb hr (fun t ht hW => ⟨rfl, by rw [ht]; exact hP, hD, hS.F ht⟩) hS.2.2 d_D_put_12
def f_D_put (a0 : Int32) (a1 : Int32) (a2 : Int32) (vD : Nat → Int32) : Option (Nat → Int32) := f_D_put_0 a0 a1 a2 vD
set_option maxHeartbeats 4000000 in
set_option maxRecDepth 100000 in
theorem c_D_put (l : Launch) (dC : Nat → ClassId) (dI : Nat → Nat → Nat) (cI cA cL : ClassId) (q_di q_pl q_dr q_jo : Nat) (vjn : Int32) (vmk : Int32) (vwr : Int32) (vP : Nat → Int32) (vD : Nat → Int32) (vJ : Nat → Int32) (a0 : Int32) (a1 : Int32) (a2 : Int32) (sz : Nat) (r : Nat → Int32) (hf : f_D_put a0 a1 a2 vD = some r) : Met l y_D_put ws_D_put rm_D_put (jv_Pw [.ref q_di, .int a0, .int a1, .int a2] (dC, dI) (jv_ty cI cA cL) (w_disk cI q_di q_pl q_dr q_jo vjn vmk vwr vP vD vJ) sz) (jv_Qv (dC, dI) (w_disk cI q_di q_pl q_dr q_jo vjn vmk vwr vP r vJ) (va_A (w_disk cI q_di q_pl q_dr q_jo vjn vmk vwr vP vD vJ) sz)) 0 0 (va_A (w_disk cI q_di q_pl q_dr q_jo vjn vmk vwr vP vD vJ) sz) := by
  refine Met.ofW (cc := cc_D_put) (maxL := 4) (ret := none) (by decide) rfl ?_
  intro p e s m args below meth c s₁ B hml hv
  obtain ⟨rfl, hsz, hP, hK, hD0⟩ := hv
  have cx : jv_cx p s m _ meth c cc_D_put 4 R_Disk none ws_D_put := ⟨B.exec, B.bytes, hml, findClass_of_methodNamed B.named, atoms_spec (ws := ws_D_put) B.pre, B.returns, B.notSynchronized⟩
  subst hsz
  have hD := hD0.self (sz := s.heap.size)
  generalize hAe : va_A (w_disk cI q_di q_pl q_dr q_jo vjn vmk vwr vP vD vJ) s.heap.size = A at hD ⊢
  have hA : ∀ q : Nat, s.heap.size ≤ q → A q := fun q h => by rw [← hAe]; exact Or.inr h
  have hS : va_S A s.heap s.heap [] := va_S.rf
  have hl := lv_entry ([.ref q_di, .int a0, .int a1, .int a2]) (n := 4) (Nat.le_of_ble_eq_true rfl)
  rw [lg_entry_eq]
  generalize (lg_sl ([.ref q_di, .int a0, .int a1, .int a2]) ++ List.replicate (4 - (lg_sl ([.ref q_di, .int a0, .int a1, .int a2])).length) Slot.unset).toArray = ls at hl ⊢
  have hl : lv_has ls 4 [(0, .ref q_di), (1, .int a0), (2, .int a1), (3, .int a2)] := hl
  exact b_D_put_0 (y0 := a0) (y1 := a1) (y2 := a2) (y3 := vD) cx hK hA (lv_sub hl [0, 1, 2, 3] rfl) hP hD hS hf
theorem d_D_putInodeWord_0 : decode cc_D_putInodeWord 0 = .ok (.aload_n 0, 1) := by decide +kernel
theorem d_D_putInodeWord_1 : decode cc_D_putInodeWord 1 = .ok (.getfield 15, 3) := by decide +kernel
theorem d_D_putInodeWord_4 : decode cc_D_putInodeWord 4 = .ok (.iconst 1, 1) := by decide +kernel
theorem d_D_putInodeWord_5 : decode cc_D_putInodeWord 5 = .ok (.iload_n 1, 1) := by decide +kernel
theorem d_D_putInodeWord_6 : decode cc_D_putInodeWord 6 = .ok (.iadd, 1) := by decide +kernel
theorem d_D_putInodeWord_7 : decode cc_D_putInodeWord 7 = .ok (.bipush 8, 2) := by decide +kernel
theorem d_D_putInodeWord_9 : decode cc_D_putInodeWord 9 = .ok (.imul, 1) := by decide +kernel
theorem d_D_putInodeWord_10 : decode cc_D_putInodeWord 10 = .ok (.iload_n 2, 1) := by decide +kernel
theorem d_D_putInodeWord_11 : decode cc_D_putInodeWord 11 = .ok (.iadd, 1) := by decide +kernel
theorem d_D_putInodeWord_12 : decode cc_D_putInodeWord 12 = .ok (.iload_n 3, 1) := by decide +kernel
theorem d_D_putInodeWord_13 : decode cc_D_putInodeWord 13 = .ok (.iastore, 1) := by decide +kernel
theorem d_D_putInodeWord_14 : decode cc_D_putInodeWord 14 = .ok (.return_, 1) := by decide +kernel
def f_D_putInodeWord_0 (y0 : Int32) (y1 : Int32) (y2 : Int32) (y3 : Nat → Int32) : Option (Nat → Int32) :=
  (jv_sa y3 232 ((((1 : Int32) + y0) * (8 : Int32)) + y1) y2).bind fun F1 => some F1
set_option maxHeartbeats 4000000 in
set_option maxRecDepth 100000 in
theorem b_D_putInodeWord_0 {l : Launch} {dC : Nat → ClassId} {dI : Nat → Nat → Nat} {cI cA cL : ClassId} {q_di q_pl q_dr q_jo : Nat} {vjn : Int32} {vmk : Int32} {vwr : Int32} {vP : Nat → Int32} {vJ : Nat → Int32} {p : Program} {e : Env} {s : State} {m : MethodId} {args : Array Value} {below : List Frame} {meth : Method} {c : Code} (cx : jv_cx p s m args meth c cc_D_putInodeWord 4 R_Disk none ws_D_putInodeWord) (hK : va_K (dC, dI) vwCl (jv_ty cI cA cL) s) {A : Nat → Prop} (hA : ∀ q : Nat, s.heap.size ≤ q → A q) {r : Nat → Int32} {y0 : Int32} {y1 : Int32} {y2 : Int32} {y3 : Nat → Int32} {ls : Array Slot} (hl : lv_has ls 4 [(0, .ref q_di), (1, .int y0), (2, .int y1), (3, .int y2)]) {H : Heap} {locs : List Loc} (hP : va_P (dC, dI) vwCl (w_disk cI q_di q_pl q_dr q_jo vjn vmk vwr vP y3 vJ) H) (hD : va_D A (w_disk cI q_di q_pl q_dr q_jo vjn vmk vwr vP y3 vJ)) (hS : va_S A s.heap H locs) (hf : f_D_putInodeWord_0 y0 y1 y2 y3 = some r) : W p l e rm_D_putInodeWord s m args below meth c H locs 0 0 (MQ below (jv_Qv (dC, dI) (w_disk cI q_di q_pl q_dr q_jo vjn vmk vwr vP r vJ) A) args s 0 0 A) (F0 m 0 ls []) := by
  unfold f_D_putInodeWord_0 at hf
  obtain ⟨hx, hb, hml, hown, hts, hr, hlocks⟩ := id cx
  refine lv_aload_n hx hb d_D_putInodeWord_0 rfl (lv_at hl 0 rfl) ?_
  refine va_get (D := (dC, dI)) (ci := kDisk) (v := .ref q_dr) (C := R_Disk) (T := T_Disk) (N := 6) hx hb hts (fun w h => List.mem_cons_of_mem _ (in_Disk w h)) hown hK hP 0 rfl rfl 1 (by decide) (jv_w hts wa_22) (fun _ h9 => h9) rfl d_D_putInodeWord_1 ?_
  refine lv_iconst (v := (1 : Int32)) hx hb d_D_putInodeWord_4 (by decide) ?_
  refine lv_iload_n hx hb d_D_putInodeWord_5 rfl (lv_at hl 1 rfl) ?_
  refine lv_iadd hx hb d_D_putInodeWord_6 ?_
  refine lv_bipush (v := (8 : Int32)) hx hb d_D_putInodeWord_7 (by decide) ?_
  refine lv_imul hx hb d_D_putInodeWord_9 ?_
  refine lv_iload_n hx hb d_D_putInodeWord_10 rfl (lv_at hl 2 rfl) ?_
  refine lv_iadd hx hb d_D_putInodeWord_11 ?_
  refine lv_iload_n hx hb d_D_putInodeWord_12 rfl (lv_at hl 3 rfl) ?_
  obtain ⟨F1, g2, hf⟩ := jv_ob hf
  refine jv_iast hx hb hK hP hD hS 2 0 rfl rfl g2 d_D_putInodeWord_13 (fun H locs hP hD hS => ?_)
  have hP : va_P (dC, dI) vwCl (w_disk cI q_di q_pl q_dr q_jo vjn vmk vwr vP F1 vJ) H := hP
  have hD : va_D A (w_disk cI q_di q_pl q_dr q_jo vjn vmk vwr vP F1 vJ) := hD
  obtain rfl := Option.some.inj hf
  exact W.vret hx hb hr (fun t ht hW => ⟨rfl, by rw [ht]; exact hP, hD, hS.F ht⟩) hS.2.2 d_D_putInodeWord_14
def f_D_putInodeWord (a0 : Int32) (a1 : Int32) (a2 : Int32) (vD : Nat → Int32) : Option (Nat → Int32) := f_D_putInodeWord_0 a0 a1 a2 vD
set_option maxHeartbeats 4000000 in
set_option maxRecDepth 100000 in
theorem c_D_putInodeWord (l : Launch) (dC : Nat → ClassId) (dI : Nat → Nat → Nat) (cI cA cL : ClassId) (q_di q_pl q_dr q_jo : Nat) (vjn : Int32) (vmk : Int32) (vwr : Int32) (vP : Nat → Int32) (vD : Nat → Int32) (vJ : Nat → Int32) (a0 : Int32) (a1 : Int32) (a2 : Int32) (sz : Nat) (r : Nat → Int32) (hf : f_D_putInodeWord a0 a1 a2 vD = some r) : Met l y_D_putInodeWord ws_D_putInodeWord rm_D_putInodeWord (jv_Pw [.ref q_di, .int a0, .int a1, .int a2] (dC, dI) (jv_ty cI cA cL) (w_disk cI q_di q_pl q_dr q_jo vjn vmk vwr vP vD vJ) sz) (jv_Qv (dC, dI) (w_disk cI q_di q_pl q_dr q_jo vjn vmk vwr vP r vJ) (va_A (w_disk cI q_di q_pl q_dr q_jo vjn vmk vwr vP vD vJ) sz)) 0 0 (va_A (w_disk cI q_di q_pl q_dr q_jo vjn vmk vwr vP vD vJ) sz) := by
  refine Met.ofW (cc := cc_D_putInodeWord) (maxL := 4) (ret := none) (by decide) rfl ?_
  intro p e s m args below meth c s₁ B hml hv
  obtain ⟨rfl, hsz, hP, hK, hD0⟩ := hv
  have cx : jv_cx p s m _ meth c cc_D_putInodeWord 4 R_Disk none ws_D_putInodeWord := ⟨B.exec, B.bytes, hml, findClass_of_methodNamed B.named, atoms_spec (ws := ws_D_putInodeWord) B.pre, B.returns, B.notSynchronized⟩
  subst hsz
  have hD := hD0.self (sz := s.heap.size)
  generalize hAe : va_A (w_disk cI q_di q_pl q_dr q_jo vjn vmk vwr vP vD vJ) s.heap.size = A at hD ⊢
  have hA : ∀ q : Nat, s.heap.size ≤ q → A q := fun q h => by rw [← hAe]; exact Or.inr h
  have hS : va_S A s.heap s.heap [] := va_S.rf
  have hl := lv_entry ([.ref q_di, .int a0, .int a1, .int a2]) (n := 4) (Nat.le_of_ble_eq_true rfl)
  rw [lg_entry_eq]
  generalize (lg_sl ([.ref q_di, .int a0, .int a1, .int a2]) ++ List.replicate (4 - (lg_sl ([.ref q_di, .int a0, .int a1, .int a2])).length) Slot.unset).toArray = ls at hl ⊢
  have hl : lv_has ls 4 [(0, .ref q_di), (1, .int a0), (2, .int a1), (3, .int a2)] := hl
  exact b_D_putInodeWord_0 (y0 := a0) (y1 := a1) (y2 := a2) (y3 := vD) cx hK hA (lv_sub hl [0, 1, 2, 3] rfl) hP hD hS hf
theorem d_D_zeroFrom_0 : decode cc_D_zeroFrom 0 = .ok (.iload_n 2, 1) := by decide +kernel
theorem d_D_zeroFrom_1 : decode cc_D_zeroFrom 1 = .ok (.istore_n 3, 1) := by decide +kernel
theorem d_D_zeroFrom_2 : decode cc_D_zeroFrom 2 = .ok (.iload_n 3, 1) := by decide +kernel
theorem d_D_zeroFrom_3 : decode cc_D_zeroFrom 3 = .ok (.bipush 8, 2) := by decide +kernel
theorem d_D_zeroFrom_5 : decode cc_D_zeroFrom 5 = .ok (.if_icmp .ge 21, 3) := by decide +kernel
theorem d_D_zeroFrom_26 : decode cc_D_zeroFrom 26 = .ok (.return_, 1) := by decide +kernel
theorem d_D_zeroFrom_8 : decode cc_D_zeroFrom 8 = .ok (.aload_n 0, 1) := by decide +kernel
theorem d_D_zeroFrom_9 : decode cc_D_zeroFrom 9 = .ok (.getfield 15, 3) := by decide +kernel
theorem d_D_zeroFrom_12 : decode cc_D_zeroFrom 12 = .ok (.iload_n 1, 1) := by decide +kernel
theorem d_D_zeroFrom_13 : decode cc_D_zeroFrom 13 = .ok (.bipush 8, 2) := by decide +kernel
theorem d_D_zeroFrom_15 : decode cc_D_zeroFrom 15 = .ok (.imul, 1) := by decide +kernel
theorem d_D_zeroFrom_16 : decode cc_D_zeroFrom 16 = .ok (.iload_n 3, 1) := by decide +kernel
theorem d_D_zeroFrom_17 : decode cc_D_zeroFrom 17 = .ok (.iadd, 1) := by decide +kernel
theorem d_D_zeroFrom_18 : decode cc_D_zeroFrom 18 = .ok (.iconst 0, 1) := by decide +kernel
theorem d_D_zeroFrom_19 : decode cc_D_zeroFrom 19 = .ok (.iastore, 1) := by decide +kernel
theorem d_D_zeroFrom_20 : decode cc_D_zeroFrom 20 = .ok (.iinc 3 1, 3) := by decide +kernel
theorem d_D_zeroFrom_23 : decode cc_D_zeroFrom 23 = .ok (.goto (-21), 3) := by decide +kernel
def f_D_zeroFrom_2 (y0 : Int32) (k2 : (Int32 × (Nat → Int32)) → Option (Nat → Int32)) (a : Int32 × (Nat → Int32)) : Option (Nat → Int32) :=
  if (8 : Int32) ≤ a.1 then (some a.2) else ((jv_sa a.2 232 ((y0 * (8 : Int32)) + a.1) (0 : Int32)).bind fun F1 => k2 (a.1 + (1 : Int32), F1))
set_option maxHeartbeats 4000000 in
set_option maxRecDepth 100000 in
theorem b_D_zeroFrom_2 {l : Launch} {dC : Nat → ClassId} {dI : Nat → Nat → Nat} {cI cA cL : ClassId} {q_di q_pl q_dr q_jo : Nat} {vjn : Int32} {vmk : Int32} {vwr : Int32} {vP : Nat → Int32} {vJ : Nat → Int32} {p : Program} {e : Env} {s : State} {m : MethodId} {args : Array Value} {below : List Frame} {meth : Method} {c : Code} (cx : jv_cx p s m args meth c cc_D_zeroFrom 4 R_Disk none ws_D_zeroFrom) (hK : va_K (dC, dI) vwCl (jv_ty cI cA cL) s) {A : Nat → Prop} (hA : ∀ q : Nat, s.heap.size ≤ q → A q) {r : Nat → Int32} {y0 : Int32} {k2 : (Int32 × (Nat → Int32)) → Option (Nat → Int32)} (hk2 : ∀ (b0 : Int32) (b1 : Nat → Int32) (ls : Array Slot) (H : Heap) (locs : List Loc), lv_has ls 4 [(0, .ref q_di), (1, .int y0), (3, .int b0)] → va_P (dC, dI) vwCl (w_disk cI q_di q_pl q_dr q_jo vjn vmk vwr vP b1 vJ) H → va_D A (w_disk cI q_di q_pl q_dr q_jo vjn vmk vwr vP b1 vJ) → va_S A s.heap H locs → k2 (b0, b1) = some r → W p l e rm_D_zeroFrom s m args below meth c H locs 0 0 (MQ below (jv_Qv (dC, dI) (w_disk cI q_di q_pl q_dr q_jo vjn vmk vwr vP r vJ) A) args s 0 0 A) (F0 m 2 ls [])) {a : Int32 × (Nat → Int32)} {ls : Array Slot} (hl : lv_has ls 4 [(0, .ref q_di), (1, .int y0), (3, .int a.1)]) {H : Heap} {locs : List Loc} (hP : va_P (dC, dI) vwCl (w_disk cI q_di q_pl q_dr q_jo vjn vmk vwr vP a.2 vJ) H) (hD : va_D A (w_disk cI q_di q_pl q_dr q_jo vjn vmk vwr vP a.2 vJ)) (hS : va_S A s.heap H locs) (hf : f_D_zeroFrom_2 y0 k2 a = some r) : W p l e rm_D_zeroFrom s m args below meth c H locs 0 0 (MQ below (jv_Qv (dC, dI) (w_disk cI q_di q_pl q_dr q_jo vjn vmk vwr vP r vJ) A) args s 0 0 A) (F0 m 2 ls []) := by
  unfold f_D_zeroFrom_2 at hf
  obtain ⟨hx, hb, hml, hown, hts, hr, hlocks⟩ := id cx
  refine lv_iload_n hx hb d_D_zeroFrom_2 rfl (lv_at hl 2 rfl) ?_
  refine lv_bipush (v := (8 : Int32)) hx hb d_D_zeroFrom_3 (by decide) ?_
  refine lv_icmp_ge (tgt := 26) hx hb d_D_zeroFrom_5 (by decide) (fun hc => ?_) (fun hc => ?_)
  · have hf := jv_it hf hc
    obtain rfl := Option.some.inj hf
    exact W.vret hx hb hr (fun t ht hW => ⟨rfl, by rw [ht]; exact hP, hD, hS.F ht⟩) hS.2.2 d_D_zeroFrom_26
  · have hf := jv_if hf hc
    refine lv_aload_n hx hb d_D_zeroFrom_8 rfl (lv_at hl 0 rfl) ?_
    refine va_get (D := (dC, dI)) (ci := kDisk) (v := .ref q_dr) (C := R_Disk) (T := T_Disk) (N := 6) hx hb hts (fun w h => List.mem_cons_of_mem _ (in_Disk w h)) hown hK hP 0 rfl rfl 1 (by decide) (jv_w hts wa_22) (fun _ h9 => h9) rfl d_D_zeroFrom_9 ?_
    refine lv_iload_n hx hb d_D_zeroFrom_12 rfl (lv_at hl 1 rfl) ?_
    refine lv_bipush (v := (8 : Int32)) hx hb d_D_zeroFrom_13 (by decide) ?_
    refine lv_imul hx hb d_D_zeroFrom_15 ?_
    refine lv_iload_n hx hb d_D_zeroFrom_16 rfl (lv_at hl 2 rfl) ?_
    refine lv_iadd hx hb d_D_zeroFrom_17 ?_
    refine lv_iconst (v := (0 : Int32)) hx hb d_D_zeroFrom_18 (by decide) ?_
    obtain ⟨F1, g2, hf⟩ := jv_ob hf
    refine jv_iast hx hb hK hP hD hS 2 0 rfl rfl g2 d_D_zeroFrom_19 (fun H locs hP hD hS => ?_)
    have hP : va_P (dC, dI) vwCl (w_disk cI q_di q_pl q_dr q_jo vjn vmk vwr vP F1 vJ) H := hP
    have hD : va_D A (w_disk cI q_di q_pl q_dr q_jo vjn vmk vwr vP F1 vJ) := hD
    refine lv_iinc (k := 2) (v := a.1 + (1 : Int32)) (lv' := [(3, .int (a.1 + (1 : Int32))), (0, .ref q_di), (1, .int y0)]) hx hb d_D_zeroFrom_20 hl rfl (jv_inc _) (by decide) rfl (fun ls hl => ?_)
    refine lv_goto (tgt := 2) hx hb d_D_zeroFrom_23 (by decide) ?_
    exact hk2 (a.1 + (1 : Int32)) F1 _ _ _ (lv_sub hl [1, 2, 0] rfl) hP hD hS hf
set_option maxHeartbeats 4000000 in
set_option maxRecDepth 100000 in
theorem l_D_zeroFrom_2 {l : Launch} {dC : Nat → ClassId} {dI : Nat → Nat → Nat} {cI cA cL : ClassId} {q_di q_pl q_dr q_jo : Nat} {vjn : Int32} {vmk : Int32} {vwr : Int32} {vP : Nat → Int32} {vJ : Nat → Int32} {p : Program} {e : Env} {s : State} {m : MethodId} {args : Array Value} {below : List Frame} {meth : Method} {c : Code} (cx : jv_cx p s m args meth c cc_D_zeroFrom 4 R_Disk none ws_D_zeroFrom) (hK : va_K (dC, dI) vwCl (jv_ty cI cA cL) s) {A : Nat → Prop} (hA : ∀ q : Nat, s.heap.size ≤ q → A q) {r : Nat → Int32} {y0 : Int32} : ∀ n : Nat, ∀ (b0 : Int32) (b1 : Nat → Int32) (ls : Array Slot) (H : Heap) (locs : List Loc), lv_has ls 4 [(0, .ref q_di), (1, .int y0), (3, .int b0)] → va_P (dC, dI) vwCl (w_disk cI q_di q_pl q_dr q_jo vjn vmk vwr vP b1 vJ) H → va_D A (w_disk cI q_di q_pl q_dr q_jo vjn vmk vwr vP b1 vJ) → va_S A s.heap H locs → jv_fx (f_D_zeroFrom_2 y0) n (b0, b1) = some r → W p l e rm_D_zeroFrom s m args below meth c H locs 0 0 (MQ below (jv_Qv (dC, dI) (w_disk cI q_di q_pl q_dr q_jo vjn vmk vwr vP r vJ) A) args s 0 0 A) (F0 m 2 ls []) := by
  intro n
  induction n with
  | zero => intro b0 b1 ls H locs hl hP hD hS hf; exact jv_no hf
  | succ n ih => intro b0 b1 ls H locs hl hP hD hS hf; exact b_D_zeroFrom_2 (a := (b0, b1)) cx hK hA ih hl hP hD hS hf
def f_D_zeroFrom_0 (y0 : Int32) (y1 : Int32) (y2 : Nat → Int32) : Option (Nat → Int32) :=
  jv_fx (f_D_zeroFrom_2 y0) 300 (y1, y2)
set_option maxHeartbeats 4000000 in
set_option maxRecDepth 100000 in
theorem b_D_zeroFrom_0 {l : Launch} {dC : Nat → ClassId} {dI : Nat → Nat → Nat} {cI cA cL : ClassId} {q_di q_pl q_dr q_jo : Nat} {vjn : Int32} {vmk : Int32} {vwr : Int32} {vP : Nat → Int32} {vJ : Nat → Int32} {p : Program} {e : Env} {s : State} {m : MethodId} {args : Array Value} {below : List Frame} {meth : Method} {c : Code} (cx : jv_cx p s m args meth c cc_D_zeroFrom 4 R_Disk none ws_D_zeroFrom) (hK : va_K (dC, dI) vwCl (jv_ty cI cA cL) s) {A : Nat → Prop} (hA : ∀ q : Nat, s.heap.size ≤ q → A q) {r : Nat → Int32} {y0 : Int32} {y1 : Int32} {y2 : Nat → Int32} {ls : Array Slot} (hl : lv_has ls 4 [(0, .ref q_di), (1, .int y0), (2, .int y1)]) {H : Heap} {locs : List Loc} (hP : va_P (dC, dI) vwCl (w_disk cI q_di q_pl q_dr q_jo vjn vmk vwr vP y2 vJ) H) (hD : va_D A (w_disk cI q_di q_pl q_dr q_jo vjn vmk vwr vP y2 vJ)) (hS : va_S A s.heap H locs) (hf : f_D_zeroFrom_0 y0 y1 y2 = some r) : W p l e rm_D_zeroFrom s m args below meth c H locs 0 0 (MQ below (jv_Qv (dC, dI) (w_disk cI q_di q_pl q_dr q_jo vjn vmk vwr vP r vJ) A) args s 0 0 A) (F0 m 0 ls []) := by
  unfold f_D_zeroFrom_0 at hf
  obtain ⟨hx, hb, hml, hown, hts, hr, hlocks⟩ := id cx
  refine lv_iload_n hx hb d_D_zeroFrom_0 rfl (lv_at hl 2 rfl) ?_
  refine lv_istore_n (lv' := [(3, .int y1), (0, .ref q_di), (1, .int y0), (2, .int y1)]) hx hb d_D_zeroFrom_1 rfl hl (by decide) rfl (fun ls hl => ?_)
  exact l_D_zeroFrom_2 (y0 := y0) cx hK hA 300 y1 y2 _ _ _ (lv_sub hl [1, 2, 0] rfl) hP hD hS hf
def f_D_zeroFrom (a0 : Int32) (a1 : Int32) (vD : Nat → Int32) : Option (Nat → Int32) := f_D_zeroFrom_0 a0 a1 vD
set_option maxHeartbeats 4000000 in
set_option maxRecDepth 100000 in
theorem c_D_zeroFrom (l : Launch) (dC : Nat → ClassId) (dI : Nat → Nat → Nat) (cI cA cL : ClassId) (q_di q_pl q_dr q_jo : Nat) (vjn : Int32) (vmk : Int32) (vwr : Int32) (vP : Nat → Int32) (vD : Nat → Int32) (vJ : Nat → Int32) (a0 : Int32) (a1 : Int32) (sz : Nat) (r : Nat → Int32) (hf : f_D_zeroFrom a0 a1 vD = some r) : Met l y_D_zeroFrom ws_D_zeroFrom rm_D_zeroFrom (jv_Pw [.ref q_di, .int a0, .int a1] (dC, dI) (jv_ty cI cA cL) (w_disk cI q_di q_pl q_dr q_jo vjn vmk vwr vP vD vJ) sz) (jv_Qv (dC, dI) (w_disk cI q_di q_pl q_dr q_jo vjn vmk vwr vP r vJ) (va_A (w_disk cI q_di q_pl q_dr q_jo vjn vmk vwr vP vD vJ) sz)) 0 0 (va_A (w_disk cI q_di q_pl q_dr q_jo vjn vmk vwr vP vD vJ) sz) := by
  refine Met.ofW (cc := cc_D_zeroFrom) (maxL := 4) (ret := none) (by decide) rfl ?_
  intro p e s m args below meth c s₁ B hml hv
  obtain ⟨rfl, hsz, hP, hK, hD0⟩ := hv
  have cx : jv_cx p s m _ meth c cc_D_zeroFrom 4 R_Disk none ws_D_zeroFrom := ⟨B.exec, B.bytes, hml, findClass_of_methodNamed B.named, atoms_spec (ws := ws_D_zeroFrom) B.pre, B.returns, B.notSynchronized⟩
  subst hsz
  have hD := hD0.self (sz := s.heap.size)
  generalize hAe : va_A (w_disk cI q_di q_pl q_dr q_jo vjn vmk vwr vP vD vJ) s.heap.size = A at hD ⊢
  have hA : ∀ q : Nat, s.heap.size ≤ q → A q := fun q h => by rw [← hAe]; exact Or.inr h
  have hS : va_S A s.heap s.heap [] := va_S.rf
  have hl := lv_entry ([.ref q_di, .int a0, .int a1]) (n := 4) (Nat.le_of_ble_eq_true rfl)
  rw [lg_entry_eq]
  generalize (lg_sl ([.ref q_di, .int a0, .int a1]) ++ List.replicate (4 - (lg_sl ([.ref q_di, .int a0, .int a1])).length) Slot.unset).toArray = ls at hl ⊢
  have hl : lv_has ls 4 [(0, .ref q_di), (1, .int a0), (2, .int a1)] := hl
  exact b_D_zeroFrom_0 (y0 := a0) (y1 := a1) (y2 := vD) cx hK hA (lv_sub hl [0, 1, 2] rfl) hP hD hS hf
theorem d_D_isIn_0 : decode cc_D_isIn 0 = .ok (.iload_n 0, 1) := by decide +kernel
theorem d_D_isIn_1 : decode cc_D_isIn 1 = .ok (.iload_n 1, 1) := by decide +kernel
theorem d_D_isIn_2 : decode cc_D_isIn 2 = .ok (.ishr, 1) := by decide +kernel
theorem d_D_isIn_3 : decode cc_D_isIn 3 = .ok (.iconst 1, 1) := by decide +kernel
theorem d_D_isIn_4 : decode cc_D_isIn 4 = .ok (.iand, 1) := by decide +kernel
theorem d_D_isIn_5 : decode cc_D_isIn 5 = .ok (.ifCond .eq 7, 3) := by decide +kernel
theorem d_D_isIn_12 : decode cc_D_isIn 12 = .ok (.iconst 0, 1) := by decide +kernel
theorem d_D_isIn_13 : decode cc_D_isIn 13 = .ok (.ireturn, 1) := by decide +kernel
theorem d_D_isIn_8 : decode cc_D_isIn 8 = .ok (.iconst 1, 1) := by decide +kernel
theorem d_D_isIn_9 : decode cc_D_isIn 9 = .ok (.goto 4, 3) := by decide +kernel
def f_D_isIn_0 (y0 : Int32) (y1 : Int32) : Option (Int32) :=
  if ((y0 >>> (y1 &&& 31)) &&& (1 : Int32)) = 0 then (some (0 : Int32)) else (some (1 : Int32))
set_option maxHeartbeats 4000000 in
set_option maxRecDepth 100000 in
theorem b_D_isIn_0 {l : Launch} {p : Program} {e : Env} {s : State} {m : MethodId} {args : Array Value} {below : List Frame} {meth : Method} {c : Code} (cx : jv_cx p s m args meth c cc_D_isIn 2 R_Disk (some .boolean) ws_D_isIn) {r : Int32} {y0 : Int32} {y1 : Int32} {ls : Array Slot} (hl : lv_has ls 2 [(0, .int y0), (1, .int y1)]) (hf : f_D_isIn_0 y0 y1 = some r) : W p l e rm_D_isIn s m args below meth c s.heap [] 0 0 (MQ below (QcRead r) args s 0 0 (fun _ => False)) (F0 m 0 ls []) := by
  unfold f_D_isIn_0 at hf
  obtain ⟨hx, hb, hml, hown, hts, hr, hlocks⟩ := id cx
  refine lv_iload_n hx hb d_D_isIn_0 rfl (lv_at hl 0 rfl) ?_
  refine lv_iload_n hx hb d_D_isIn_1 rfl (lv_at hl 1 rfl) ?_
  refine lv_ishr hx hb d_D_isIn_2 ?_
  refine lv_iconst (v := (1 : Int32)) hx hb d_D_isIn_3 (by decide) ?_
  refine lv_iand hx hb d_D_isIn_4 ?_
  refine lv_if_eq (tgt := 12) hx hb d_D_isIn_5 (by decide) (fun hc => ?_) (fun hc => ?_)
  · have hf := jv_it hf hc
    refine lv_iconst (v := (0 : Int32)) hx hb d_D_isIn_12 (by decide) ?_
    obtain rfl := Option.some.inj hf
    exact W.zret hx hb hr rfl (fun t ht hW => ⟨rfl, ht⟩) (fun q h => by cases h) d_D_isIn_13
  · have hf := jv_if hf hc
    refine lv_iconst (v := (1 : Int32)) hx hb d_D_isIn_8 (by decide) ?_
    refine lv_goto (tgt := 13) hx hb d_D_isIn_9 (by decide) ?_
    obtain rfl := Option.some.inj hf
    exact W.zret hx hb hr rfl (fun t ht hW => ⟨rfl, ht⟩) (fun q h => by cases h) d_D_isIn_13
def f_D_isIn (a0 : Int32) (a1 : Int32) : Option (Int32) := f_D_isIn_0 a0 a1
set_option maxHeartbeats 4000000 in
set_option maxRecDepth 100000 in
theorem c_D_isIn (l : Launch) (a0 : Int32) (a1 : Int32) (r : Int32) (hf : f_D_isIn a0 a1 = some r) : Met l y_D_isIn ws_D_isIn rm_D_isIn (jv_P0 [.int a0, .int a1]) (QcRead r) 0 0 (fun _ => False) := by
  refine Met.ofW (cc := cc_D_isIn) (maxL := 2) (ret := (some .boolean)) (by decide) rfl ?_
  intro p e s m args below meth c s₁ B hml hv
  obtain ⟨rfl, -⟩ := hv
  have cx : jv_cx p s m _ meth c cc_D_isIn 2 R_Disk (some .boolean) ws_D_isIn := ⟨B.exec, B.bytes, hml, findClass_of_methodNamed B.named, atoms_spec (ws := ws_D_isIn) B.pre, B.returns, B.notSynchronized⟩
  have hl := lv_entry ([.int a0, .int a1]) (n := 2) (Nat.le_of_ble_eq_true rfl)
  rw [lg_entry_eq]
  generalize (lg_sl ([.int a0, .int a1]) ++ List.replicate (2 - (lg_sl ([.int a0, .int a1])).length) Slot.unset).toArray = ls at hl ⊢
  have hl : lv_has ls 2 [(0, .int a0), (1, .int a1)] := hl
  exact b_D_isIn_0 (y0 := a0) (y1 := a1) cx (lv_sub hl [0, 1] rfl) hf
theorem d_D_changedBlocks_0 : decode cc_D_changedBlocks 0 = .ok (.iconst 0, 1) := by decide +kernel
theorem d_D_changedBlocks_1 : decode cc_D_changedBlocks 1 = .ok (.istore_n 1, 1) := by decide +kernel
theorem d_D_changedBlocks_2 : decode cc_D_changedBlocks 2 = .ok (.iconst 0, 1) := by decide +kernel
theorem d_D_changedBlocks_3 : decode cc_D_changedBlocks 3 = .ok (.istore_n 2, 1) := by decide +kernel
theorem d_D_changedBlocks_4 : decode cc_D_changedBlocks 4 = .ok (.iload_n 2, 1) := by decide +kernel
theorem d_D_changedBlocks_5 : decode cc_D_changedBlocks 5 = .ok (.sipush 232, 3) := by decide +kernel
theorem d_D_changedBlocks_8 : decode cc_D_changedBlocks 8 = .ok (.if_icmp .ge 33, 3) := by decide +kernel
theorem d_D_changedBlocks_41 : decode cc_D_changedBlocks 41 = .ok (.iload_n 1, 1) := by decide +kernel
theorem d_D_changedBlocks_42 : decode cc_D_changedBlocks 42 = .ok (.ireturn, 1) := by decide +kernel
theorem d_D_changedBlocks_11 : decode cc_D_changedBlocks 11 = .ok (.aload_n 0, 1) := by decide +kernel
theorem d_D_changedBlocks_12 : decode cc_D_changedBlocks 12 = .ok (.getfield 15, 3) := by decide +kernel
theorem d_D_changedBlocks_15 : decode cc_D_changedBlocks 15 = .ok (.iload_n 2, 1) := by decide +kernel
theorem d_D_changedBlocks_16 : decode cc_D_changedBlocks 16 = .ok (.iaload, 1) := by decide +kernel
theorem d_D_changedBlocks_17 : decode cc_D_changedBlocks 17 = .ok (.aload_n 0, 1) := by decide +kernel
theorem d_D_changedBlocks_18 : decode cc_D_changedBlocks 18 = .ok (.getfield 11, 3) := by decide +kernel
theorem d_D_changedBlocks_21 : decode cc_D_changedBlocks 21 = .ok (.iload_n 2, 1) := by decide +kernel
theorem d_D_changedBlocks_22 : decode cc_D_changedBlocks 22 = .ok (.iaload, 1) := by decide +kernel
theorem d_D_changedBlocks_23 : decode cc_D_changedBlocks 23 = .ok (.if_icmp .eq 12, 3) := by decide +kernel
theorem d_D_changedBlocks_35 : decode cc_D_changedBlocks 35 = .ok (.iinc 2 1, 3) := by decide +kernel
theorem d_D_changedBlocks_38 : decode cc_D_changedBlocks 38 = .ok (.goto (-34), 3) := by decide +kernel
theorem d_D_changedBlocks_26 : decode cc_D_changedBlocks 26 = .ok (.iload_n 1, 1) := by decide +kernel
theorem d_D_changedBlocks_27 : decode cc_D_changedBlocks 27 = .ok (.iconst 1, 1) := by decide +kernel
theorem d_D_changedBlocks_28 : decode cc_D_changedBlocks 28 = .ok (.iload_n 2, 1) := by decide +kernel
theorem d_D_changedBlocks_29 : decode cc_D_changedBlocks 29 = .ok (.bipush 8, 2) := by decide +kernel
theorem d_D_changedBlocks_31 : decode cc_D_changedBlocks 31 = .ok (.idiv, 1) := by decide +kernel
theorem d_D_changedBlocks_32 : decode cc_D_changedBlocks 32 = .ok (.ishl, 1) := by decide +kernel
theorem d_D_changedBlocks_33 : decode cc_D_changedBlocks 33 = .ok (.ior, 1) := by decide +kernel
theorem d_D_changedBlocks_34 : decode cc_D_changedBlocks 34 = .ok (.istore_n 1, 1) := by decide +kernel
def f_D_changedBlocks_4 (vP : Nat → Int32) (vD : Nat → Int32) (k4 : (Int32 × Int32) → Option (Int32)) (a : Int32 × Int32) : Option (Int32) :=
  if (232 : Int32) ≤ a.2 then (some a.1) else ((jv_ga vD 232 a.2).bind fun x1 => (jv_ga vP 232 a.2).bind fun x3 => if x1 = x3 then (k4 (a.1, a.2 + (1 : Int32))) else (k4 (a.1 ||| ((1 : Int32) <<< ((a.2 / (8 : Int32)) &&& 31)), a.2 + (1 : Int32))))
set_option maxHeartbeats 4000000 in
set_option maxRecDepth 100000 in
theorem b_D_changedBlocks_4 {l : Launch} {dC : Nat → ClassId} {dI : Nat → Nat → Nat} {cI cA cL : ClassId} {q_di q_pl q_dr q_jo : Nat} {vjn : Int32} {vmk : Int32} {vwr : Int32} {vP : Nat → Int32} {vD : Nat → Int32} {vJ : Nat → Int32} {p : Program} {e : Env} {s : State} {m : MethodId} {args : Array Value} {below : List Frame} {meth : Method} {c : Code} (cx : jv_cx p s m args meth c cc_D_changedBlocks 3 R_Disk (some .int) ws_D_changedBlocks) (hK : va_K (dC, dI) vwCl (jv_ty cI cA cL) s) (hP : va_P (dC, dI) vwCl (w_disk cI q_di q_pl q_dr q_jo vjn vmk vwr vP vD vJ) s.heap) {r : Int32} {k4 : (Int32 × Int32) → Option (Int32)} (hk4 : ∀ (b0 : Int32) (b1 : Int32) (ls : Array Slot), lv_has ls 3 [(0, .ref q_di), (1, .int b0), (2, .int b1)] → k4 (b0, b1) = some r → W p l e rm_D_changedBlocks s m args below meth c s.heap [] 0 0 (MQ below (QcRead r) args s 0 0 (fun _ => False)) (F0 m 4 ls [])) {a : Int32 × Int32} {ls : Array Slot} (hl : lv_has ls 3 [(0, .ref q_di), (1, .int a.1), (2, .int a.2)]) (hf : f_D_changedBlocks_4 vP vD k4 a = some r) : W p l e rm_D_changedBlocks s m args below meth c s.heap [] 0 0 (MQ below (QcRead r) args s 0 0 (fun _ => False)) (F0 m 4 ls []) := by
  unfold f_D_changedBlocks_4 at hf
  obtain ⟨hx, hb, hml, hown, hts, hr, hlocks⟩ := id cx
  refine lv_iload_n hx hb d_D_changedBlocks_4 rfl (lv_at hl 2 rfl) ?_
  refine lv_sipush (v := (232 : Int32)) hx hb d_D_changedBlocks_5 (by decide) ?_
  refine lv_icmp_ge (tgt := 41) hx hb d_D_changedBlocks_8 (by decide) (fun hc => ?_) (fun hc => ?_)
  · have hf := jv_it hf hc
    refine lv_iload_n hx hb d_D_changedBlocks_41 rfl (lv_at hl 1 rfl) ?_
    obtain rfl := Option.some.inj hf
    exact W.iret hx hb hr (fun t ht hW => ⟨rfl, ht⟩) (fun q h => by cases h) d_D_changedBlocks_42
  · have hf := jv_if hf hc
    refine lv_aload_n hx hb d_D_changedBlocks_11 rfl (lv_at hl 0 rfl) ?_
    refine va_get (D := (dC, dI)) (ci := kDisk) (v := .ref q_dr) (C := R_Disk) (T := T_Disk) (N := 6) hx hb hts (fun w h => List.mem_cons_of_mem _ (in_Disk w h)) hown hK hP 0 rfl rfl 1 (by decide) (jv_w hts wa_22) (fun _ h9 => h9) rfl d_D_changedBlocks_12 ?_
    refine lv_iload_n hx hb d_D_changedBlocks_15 rfl (lv_at hl 2 rfl) ?_
    obtain ⟨x1, g2, hf⟩ := jv_ob hf
    refine jv_iald hx hb hK hP 2 0 rfl rfl g2 d_D_changedBlocks_16 ?_
    refine lv_aload_n hx hb d_D_changedBlocks_17 rfl (lv_at hl 0 rfl) ?_
    refine va_get (D := (dC, dI)) (ci := kDisk) (v := .ref q_pl) (C := R_Disk) (T := T_Disk) (N := 6) hx hb hts (fun w h => List.mem_cons_of_mem _ (in_Disk w h)) hown hK hP 0 rfl rfl 0 (by decide) (jv_w hts wa_21) (fun _ h9 => h9) rfl d_D_changedBlocks_18 ?_
    refine lv_iload_n hx hb d_D_changedBlocks_21 rfl (lv_at hl 2 rfl) ?_
    obtain ⟨x3, g4, hf⟩ := jv_ob hf
    refine jv_iald hx hb hK hP 1 0 rfl rfl g4 d_D_changedBlocks_22 ?_
    refine lv_icmp_eq (tgt := 35) hx hb d_D_changedBlocks_23 (by decide) (fun hc => ?_) (fun hc => ?_)
    · have hf := jv_it hf hc
      refine lv_iinc (k := 2) (v := a.2 + (1 : Int32)) (lv' := [(2, .int (a.2 + (1 : Int32))), (0, .ref q_di), (1, .int a.1)]) hx hb d_D_changedBlocks_35 hl rfl (jv_inc _) (by decide) rfl (fun ls hl => ?_)
      refine lv_goto (tgt := 4) hx hb d_D_changedBlocks_38 (by decide) ?_
      exact hk4 a.1 (a.2 + (1 : Int32)) _ (lv_sub hl [1, 2, 0] rfl) hf
    · have hf := jv_if hf hc
      refine lv_iload_n hx hb d_D_changedBlocks_26 rfl (lv_at hl 1 rfl) ?_
      refine lv_iconst (v := (1 : Int32)) hx hb d_D_changedBlocks_27 (by decide) ?_
      refine lv_iload_n hx hb d_D_changedBlocks_28 rfl (lv_at hl 2 rfl) ?_
      refine lv_bipush (v := (8 : Int32)) hx hb d_D_changedBlocks_29 (by decide) ?_
      refine lv_idiv hx hb d_D_changedBlocks_31 (by decide) ?_
      refine lv_ishl hx hb d_D_changedBlocks_32 ?_
      refine lv_ior hx hb d_D_changedBlocks_33 ?_
      refine lv_istore_n (lv' := [(1, .int (a.1 ||| ((1 : Int32) <<< ((a.2 / (8 : Int32)) &&& 31)))), (0, .ref q_di), (2, .int a.2)]) hx hb d_D_changedBlocks_34 rfl hl (by decide) rfl (fun ls hl => ?_)
      refine lv_iinc (k := 2) (v := a.2 + (1 : Int32)) (lv' := [(2, .int (a.2 + (1 : Int32))), (1, .int (a.1 ||| ((1 : Int32) <<< ((a.2 / (8 : Int32)) &&& 31)))), (0, .ref q_di)]) hx hb d_D_changedBlocks_35 hl rfl (jv_inc _) (by decide) rfl (fun ls hl => ?_)
      refine lv_goto (tgt := 4) hx hb d_D_changedBlocks_38 (by decide) ?_
      exact hk4 (a.1 ||| ((1 : Int32) <<< ((a.2 / (8 : Int32)) &&& 31))) (a.2 + (1 : Int32)) _ (lv_sub hl [2, 1, 0] rfl) hf
set_option maxHeartbeats 4000000 in
set_option maxRecDepth 100000 in
theorem l_D_changedBlocks_4 {l : Launch} {dC : Nat → ClassId} {dI : Nat → Nat → Nat} {cI cA cL : ClassId} {q_di q_pl q_dr q_jo : Nat} {vjn : Int32} {vmk : Int32} {vwr : Int32} {vP : Nat → Int32} {vD : Nat → Int32} {vJ : Nat → Int32} {p : Program} {e : Env} {s : State} {m : MethodId} {args : Array Value} {below : List Frame} {meth : Method} {c : Code} (cx : jv_cx p s m args meth c cc_D_changedBlocks 3 R_Disk (some .int) ws_D_changedBlocks) (hK : va_K (dC, dI) vwCl (jv_ty cI cA cL) s) (hP : va_P (dC, dI) vwCl (w_disk cI q_di q_pl q_dr q_jo vjn vmk vwr vP vD vJ) s.heap) {r : Int32} : ∀ n : Nat, ∀ (b0 : Int32) (b1 : Int32) (ls : Array Slot), lv_has ls 3 [(0, .ref q_di), (1, .int b0), (2, .int b1)] → jv_fx (f_D_changedBlocks_4 vP vD) n (b0, b1) = some r → W p l e rm_D_changedBlocks s m args below meth c s.heap [] 0 0 (MQ below (QcRead r) args s 0 0 (fun _ => False)) (F0 m 4 ls []) := by
  intro n
  induction n with
  | zero => intro b0 b1 ls hl hf; exact jv_no hf
  | succ n ih => intro b0 b1 ls hl hf; exact b_D_changedBlocks_4 (a := (b0, b1)) cx hK hP ih hl hf
def f_D_changedBlocks_0 (vP : Nat → Int32) (vD : Nat → Int32) : Option (Int32) :=
  jv_fx (f_D_changedBlocks_4 vP vD) 300 ((0 : Int32), (0 : Int32))
set_option maxHeartbeats 4000000 in
set_option maxRecDepth 100000 in
theorem b_D_changedBlocks_0 {l : Launch} {dC : Nat → ClassId} {dI : Nat → Nat → Nat} {cI cA cL : ClassId} {q_di q_pl q_dr q_jo : Nat} {vjn : Int32} {vmk : Int32} {vwr : Int32} {vP : Nat → Int32} {vD : Nat → Int32} {vJ : Nat → Int32} {p : Program} {e : Env} {s : State} {m : MethodId} {args : Array Value} {below : List Frame} {meth : Method} {c : Code} (cx : jv_cx p s m args meth c cc_D_changedBlocks 3 R_Disk (some .int) ws_D_changedBlocks) (hK : va_K (dC, dI) vwCl (jv_ty cI cA cL) s) (hP : va_P (dC, dI) vwCl (w_disk cI q_di q_pl q_dr q_jo vjn vmk vwr vP vD vJ) s.heap) {r : Int32} {ls : Array Slot} (hl : lv_has ls 3 [(0, .ref q_di)]) (hf : f_D_changedBlocks_0 vP vD = some r) : W p l e rm_D_changedBlocks s m args below meth c s.heap [] 0 0 (MQ below (QcRead r) args s 0 0 (fun _ => False)) (F0 m 0 ls []) := by
  unfold f_D_changedBlocks_0 at hf
  obtain ⟨hx, hb, hml, hown, hts, hr, hlocks⟩ := id cx
  refine lv_iconst (v := (0 : Int32)) hx hb d_D_changedBlocks_0 (by decide) ?_
  refine lv_istore_n (lv' := [(1, .int (0 : Int32)), (0, .ref q_di)]) hx hb d_D_changedBlocks_1 rfl hl (by decide) rfl (fun ls hl => ?_)
  refine lv_iconst (v := (0 : Int32)) hx hb d_D_changedBlocks_2 (by decide) ?_
  refine lv_istore_n (lv' := [(2, .int (0 : Int32)), (1, .int (0 : Int32)), (0, .ref q_di)]) hx hb d_D_changedBlocks_3 rfl hl (by decide) rfl (fun ls hl => ?_)
  exact l_D_changedBlocks_4 cx hK hP 300 (0 : Int32) (0 : Int32) _ (lv_sub hl [2, 1, 0] rfl) hf
def f_D_changedBlocks (vP : Nat → Int32) (vD : Nat → Int32) : Option (Int32) := f_D_changedBlocks_0 vP vD
set_option maxHeartbeats 4000000 in
set_option maxRecDepth 100000 in
theorem c_D_changedBlocks (l : Launch) (dC : Nat → ClassId) (dI : Nat → Nat → Nat) (cI cA cL : ClassId) (q_di q_pl q_dr q_jo : Nat) (vjn : Int32) (vmk : Int32) (vwr : Int32) (vP : Nat → Int32) (vD : Nat → Int32) (vJ : Nat → Int32) (r : Int32) (hf : f_D_changedBlocks vP vD = some r) : Met l y_D_changedBlocks ws_D_changedBlocks rm_D_changedBlocks (jv_Pr [.ref q_di] (dC, dI) (jv_ty cI cA cL) (w_disk cI q_di q_pl q_dr q_jo vjn vmk vwr vP vD vJ)) (QcRead r) 0 0 (fun _ => False) := by
  refine Met.ofW (cc := cc_D_changedBlocks) (maxL := 3) (ret := (some .int)) (by decide) rfl ?_
  intro p e s m args below meth c s₁ B hml hv
  obtain ⟨rfl, hP, hK⟩ := hv
  have cx : jv_cx p s m _ meth c cc_D_changedBlocks 3 R_Disk (some .int) ws_D_changedBlocks := ⟨B.exec, B.bytes, hml, findClass_of_methodNamed B.named, atoms_spec (ws := ws_D_changedBlocks) B.pre, B.returns, B.notSynchronized⟩
  have hl := lv_entry ([.ref q_di]) (n := 3) (Nat.le_of_ble_eq_true rfl)
  rw [lg_entry_eq]
  generalize (lg_sl ([.ref q_di]) ++ List.replicate (3 - (lg_sl ([.ref q_di])).length) Slot.unset).toArray = ls at hl ⊢
  have hl : lv_has ls 3 [(0, .ref q_di)] := hl
  exact b_D_changedBlocks_0 cx hK hP (lv_sub hl [0] rfl) hf
theorem d_D_copyBlock_0 : decode cc_D_copyBlock 0 = .ok (.aload_n 0, 1) := by decide +kernel
theorem d_D_copyBlock_1 : decode cc_D_copyBlock 1 = .ok (.iload_n 2, 1) := by decide +kernel
theorem d_D_copyBlock_2 : decode cc_D_copyBlock 2 = .ok (.bipush 8, 2) := by decide +kernel
theorem d_D_copyBlock_4 : decode cc_D_copyBlock 4 = .ok (.imul, 1) := by decide +kernel
theorem d_D_copyBlock_5 : decode cc_D_copyBlock 5 = .ok (.aload_n 1, 1) := by decide +kernel
theorem d_D_copyBlock_6 : decode cc_D_copyBlock 6 = .ok (.iload_n 2, 1) := by decide +kernel
theorem d_D_copyBlock_7 : decode cc_D_copyBlock 7 = .ok (.bipush 8, 2) := by decide +kernel
theorem d_D_copyBlock_9 : decode cc_D_copyBlock 9 = .ok (.imul, 1) := by decide +kernel
theorem d_D_copyBlock_10 : decode cc_D_copyBlock 10 = .ok (.bipush 8, 2) := by decide +kernel
theorem d_D_copyBlock_12 : decode cc_D_copyBlock 12 = .ok (.invokestatic 32, 3) := by decide +kernel
theorem d_D_copyBlock_15 : decode cc_D_copyBlock 15 = .ok (.return_, 1) := by decide +kernel
def f_D_copyBlock_0 (vF : Nat → Int32) (y0 : Int32) (y1 : Nat → Int32) : Option (Nat → Int32) :=
  (jv_cp vF 232 y1 232 (y0 * (8 : Int32)) (y0 * (8 : Int32)) (8 : Int32)).bind fun F1 => some F1
set_option maxHeartbeats 4000000 in
set_option maxRecDepth 100000 in
theorem b_D_copyBlock_0 {l : Launch} {dC : Nat → ClassId} {dI : Nat → Nat → Nat} {cI cA cL : ClassId} {q_fr q_to : Nat} {vF : Nat → Int32} {p : Program} {e : Env} {s : State} {m : MethodId} {args : Array Value} {below : List Frame} {meth : Method} {c : Code} (cx : jv_cx p s m args meth c cc_D_copyBlock 3 R_Disk none ws_D_copyBlock) (hK : va_K (dC, dI) vwCl (jv_ty cI cA cL) s) {A : Nat → Prop} (hA : ∀ q : Nat, s.heap.size ≤ q → A q) {r : Nat → Int32} {y0 : Int32} {y1 : Nat → Int32} {ls : Array Slot} (hl : lv_has ls 3 [(0, .ref q_fr), (1, .ref q_to), (2, .int y0)]) {H : Heap} {locs : List Loc} (hP : va_P (dC, dI) vwCl (w_two cI q_fr q_to vF y1) H) (hD : va_D A (w_two cI q_fr q_to vF y1)) (hS : va_S A s.heap H locs) (hf : f_D_copyBlock_0 vF y0 y1 = some r) : W p l e rm_D_copyBlock s m args below meth c H locs 0 0 (MQ below (jv_Qv (dC, dI) (w_two cI q_fr q_to vF r) A) args s 0 0 A) (F0 m 0 ls []) := by
  unfold f_D_copyBlock_0 at hf
  obtain ⟨hx, hb, hml, hown, hts, hr, hlocks⟩ := id cx
  refine lv_aload_n hx hb d_D_copyBlock_0 rfl (lv_at hl 0 rfl) ?_
  refine lv_iload_n hx hb d_D_copyBlock_1 rfl (lv_at hl 2 rfl) ?_
  refine lv_bipush (v := (8 : Int32)) hx hb d_D_copyBlock_2 (by decide) ?_
  refine lv_imul hx hb d_D_copyBlock_4 ?_
  refine lv_aload_n hx hb d_D_copyBlock_5 rfl (lv_at hl 1 rfl) ?_
  refine lv_iload_n hx hb d_D_copyBlock_6 rfl (lv_at hl 2 rfl) ?_
  refine lv_bipush (v := (8 : Int32)) hx hb d_D_copyBlock_7 (by decide) ?_
  refine lv_imul hx hb d_D_copyBlock_9 ?_
  refine lv_bipush (v := (8 : Int32)) hx hb d_D_copyBlock_10 (by decide) ?_
  obtain ⟨F1, g2, hf⟩ := jv_ob hf
  refine jv_copy hx hb (hml.trans hl.1.symm) hown (jv_w hts wa_23) (jv_w hts wa_24) (jv_w hts wa_25) (jv_w hts wa_26) hK hP hD hS 0 1 0 0 rfl rfl rfl rfl g2 (Nat.le_of_ble_eq_true rfl) (Nat.le_of_ble_eq_true rfl) d_D_copyBlock_12 (fun H locs hP hD hS => ?_)
  have hP : va_P (dC, dI) vwCl (w_two cI q_fr q_to vF F1) H := hP
  have hD : va_D A (w_two cI q_fr q_to vF F1) := hD
  obtain rfl := Option.some.inj hf
  exact W.vret hx hb hr (fun t ht hW => ⟨rfl, by rw [ht]; exact hP, hD, hS.F ht⟩) hS.2.2 d_D_copyBlock_15
def f_D_copyBlock (vF : Nat → Int32) (a2 : Int32) (vT : Nat → Int32) : Option (Nat → Int32) := f_D_copyBlock_0 vF a2 vT
set_option maxHeartbeats 4000000 in
set_option maxRecDepth 100000 in
theorem c_D_copyBlock (l : Launch) (dC : Nat → ClassId) (dI : Nat → Nat → Nat) (cI cA cL : ClassId) (q_fr q_to : Nat) (vF : Nat → Int32) (vT : Nat → Int32) (a2 : Int32) (sz : Nat) (r : Nat → Int32) (hf : f_D_copyBlock vF a2 vT = some r) : Met l y_D_copyBlock ws_D_copyBlock rm_D_copyBlock (jv_Pw [.ref q_fr, .ref q_to, .int a2] (dC, dI) (jv_ty cI cA cL) (w_two cI q_fr q_to vF vT) sz) (jv_Qv (dC, dI) (w_two cI q_fr q_to vF r) (va_A (w_two cI q_fr q_to vF vT) sz)) 0 0 (va_A (w_two cI q_fr q_to vF vT) sz) := by
  refine Met.ofW (cc := cc_D_copyBlock) (maxL := 3) (ret := none) (by decide) rfl ?_
  intro p e s m args below meth c s₁ B hml hv
  obtain ⟨rfl, hsz, hP, hK, hD0⟩ := hv
  have cx : jv_cx p s m _ meth c cc_D_copyBlock 3 R_Disk none ws_D_copyBlock := ⟨B.exec, B.bytes, hml, findClass_of_methodNamed B.named, atoms_spec (ws := ws_D_copyBlock) B.pre, B.returns, B.notSynchronized⟩
  subst hsz
  have hD := hD0.self (sz := s.heap.size)
  generalize hAe : va_A (w_two cI q_fr q_to vF vT) s.heap.size = A at hD ⊢
  have hA : ∀ q : Nat, s.heap.size ≤ q → A q := fun q h => by rw [← hAe]; exact Or.inr h
  have hS : va_S A s.heap s.heap [] := va_S.rf
  have hl := lv_entry ([.ref q_fr, .ref q_to, .int a2]) (n := 3) (Nat.le_of_ble_eq_true rfl)
  rw [lg_entry_eq]
  generalize (lg_sl ([.ref q_fr, .ref q_to, .int a2]) ++ List.replicate (3 - (lg_sl ([.ref q_fr, .ref q_to, .int a2])).length) Slot.unset).toArray = ls at hl ⊢
  have hl : lv_has ls 3 [(0, .ref q_fr), (1, .ref q_to), (2, .int a2)] := hl
  exact b_D_copyBlock_0 (y0 := a2) (y1 := vT) cx hK hA (lv_sub hl [0, 1, 2] rfl) hP hD hS hf
theorem d_D_dropDraft_0 : decode cc_D_dropDraft 0 = .ok (.aload_n 0, 1) := by decide +kernel
theorem d_D_dropDraft_1 : decode cc_D_dropDraft 1 = .ok (.getfield 11, 3) := by decide +kernel
theorem d_D_dropDraft_4 : decode cc_D_dropDraft 4 = .ok (.iconst 0, 1) := by decide +kernel
theorem d_D_dropDraft_5 : decode cc_D_dropDraft 5 = .ok (.aload_n 0, 1) := by decide +kernel
theorem d_D_dropDraft_6 : decode cc_D_dropDraft 6 = .ok (.getfield 15, 3) := by decide +kernel
theorem d_D_dropDraft_9 : decode cc_D_dropDraft 9 = .ok (.iconst 0, 1) := by decide +kernel
theorem d_D_dropDraft_10 : decode cc_D_dropDraft 10 = .ok (.sipush 232, 3) := by decide +kernel
theorem d_D_dropDraft_13 : decode cc_D_dropDraft 13 = .ok (.invokestatic 32, 3) := by decide +kernel
theorem d_D_dropDraft_16 : decode cc_D_dropDraft 16 = .ok (.return_, 1) := by decide +kernel
def f_D_dropDraft_0 (vP : Nat → Int32) (y0 : Nat → Int32) : Option (Nat → Int32) :=
  (jv_cp vP 232 y0 232 (0 : Int32) (0 : Int32) (232 : Int32)).bind fun F1 => some F1
set_option maxHeartbeats 4000000 in
set_option maxRecDepth 100000 in
theorem b_D_dropDraft_0 {l : Launch} {dC : Nat → ClassId} {dI : Nat → Nat → Nat} {cI cA cL : ClassId} {q_di q_pl q_dr q_jo : Nat} {vjn : Int32} {vmk : Int32} {vwr : Int32} {vP : Nat → Int32} {vJ : Nat → Int32} {p : Program} {e : Env} {s : State} {m : MethodId} {args : Array Value} {below : List Frame} {meth : Method} {c : Code} (cx : jv_cx p s m args meth c cc_D_dropDraft 1 R_Disk none ws_D_dropDraft) (hK : va_K (dC, dI) vwCl (jv_ty cI cA cL) s) {A : Nat → Prop} (hA : ∀ q : Nat, s.heap.size ≤ q → A q) {r : Nat → Int32} {y0 : Nat → Int32} {ls : Array Slot} (hl : lv_has ls 1 [(0, .ref q_di)]) {H : Heap} {locs : List Loc} (hP : va_P (dC, dI) vwCl (w_disk cI q_di q_pl q_dr q_jo vjn vmk vwr vP y0 vJ) H) (hD : va_D A (w_disk cI q_di q_pl q_dr q_jo vjn vmk vwr vP y0 vJ)) (hS : va_S A s.heap H locs) (hf : f_D_dropDraft_0 vP y0 = some r) : W p l e rm_D_dropDraft s m args below meth c H locs 0 0 (MQ below (jv_Qv (dC, dI) (w_disk cI q_di q_pl q_dr q_jo vjn vmk vwr vP r vJ) A) args s 0 0 A) (F0 m 0 ls []) := by
  unfold f_D_dropDraft_0 at hf
  obtain ⟨hx, hb, hml, hown, hts, hr, hlocks⟩ := id cx
  refine lv_aload_n hx hb d_D_dropDraft_0 rfl (lv_at hl 0 rfl) ?_
  refine va_get (D := (dC, dI)) (ci := kDisk) (v := .ref q_pl) (C := R_Disk) (T := T_Disk) (N := 6) hx hb hts (fun w h => List.mem_cons_of_mem _ (in_Disk w h)) hown hK hP 0 rfl rfl 0 (by decide) (jv_w hts wa_21) (fun _ h9 => h9) rfl d_D_dropDraft_1 ?_
  refine lv_iconst (v := (0 : Int32)) hx hb d_D_dropDraft_4 (by decide) ?_
  refine lv_aload_n hx hb d_D_dropDraft_5 rfl (lv_at hl 0 rfl) ?_
  refine va_get (D := (dC, dI)) (ci := kDisk) (v := .ref q_dr) (C := R_Disk) (T := T_Disk) (N := 6) hx hb hts (fun w h => List.mem_cons_of_mem _ (in_Disk w h)) hown hK hP 0 rfl rfl 1 (by decide) (jv_w hts wa_22) (fun _ h9 => h9) rfl d_D_dropDraft_6 ?_
  refine lv_iconst (v := (0 : Int32)) hx hb d_D_dropDraft_9 (by decide) ?_
  refine lv_sipush (v := (232 : Int32)) hx hb d_D_dropDraft_10 (by decide) ?_
  obtain ⟨F1, g2, hf⟩ := jv_ob hf
  refine jv_copy hx hb (hml.trans hl.1.symm) hown (jv_w hts wa_23) (jv_w hts wa_24) (jv_w hts wa_25) (jv_w hts wa_26) hK hP hD hS 1 2 0 0 rfl rfl rfl rfl g2 (Nat.le_of_ble_eq_true rfl) (Nat.le_of_ble_eq_true rfl) d_D_dropDraft_13 (fun H locs hP hD hS => ?_)
  have hP : va_P (dC, dI) vwCl (w_disk cI q_di q_pl q_dr q_jo vjn vmk vwr vP F1 vJ) H := hP
  have hD : va_D A (w_disk cI q_di q_pl q_dr q_jo vjn vmk vwr vP F1 vJ) := hD
  obtain rfl := Option.some.inj hf
  exact W.vret hx hb hr (fun t ht hW => ⟨rfl, by rw [ht]; exact hP, hD, hS.F ht⟩) hS.2.2 d_D_dropDraft_16
def f_D_dropDraft (vP : Nat → Int32) (vD : Nat → Int32) : Option (Nat → Int32) := f_D_dropDraft_0 vP vD
set_option maxHeartbeats 4000000 in
set_option maxRecDepth 100000 in
theorem c_D_dropDraft (l : Launch) (dC : Nat → ClassId) (dI : Nat → Nat → Nat) (cI cA cL : ClassId) (q_di q_pl q_dr q_jo : Nat) (vjn : Int32) (vmk : Int32) (vwr : Int32) (vP : Nat → Int32) (vD : Nat → Int32) (vJ : Nat → Int32) (sz : Nat) (r : Nat → Int32) (hf : f_D_dropDraft vP vD = some r) : Met l y_D_dropDraft ws_D_dropDraft rm_D_dropDraft (jv_Pw [.ref q_di] (dC, dI) (jv_ty cI cA cL) (w_disk cI q_di q_pl q_dr q_jo vjn vmk vwr vP vD vJ) sz) (jv_Qv (dC, dI) (w_disk cI q_di q_pl q_dr q_jo vjn vmk vwr vP r vJ) (va_A (w_disk cI q_di q_pl q_dr q_jo vjn vmk vwr vP vD vJ) sz)) 0 0 (va_A (w_disk cI q_di q_pl q_dr q_jo vjn vmk vwr vP vD vJ) sz) := by
  refine Met.ofW (cc := cc_D_dropDraft) (maxL := 1) (ret := none) (by decide) rfl ?_
  intro p e s m args below meth c s₁ B hml hv
  obtain ⟨rfl, hsz, hP, hK, hD0⟩ := hv
  have cx : jv_cx p s m _ meth c cc_D_dropDraft 1 R_Disk none ws_D_dropDraft := ⟨B.exec, B.bytes, hml, findClass_of_methodNamed B.named, atoms_spec (ws := ws_D_dropDraft) B.pre, B.returns, B.notSynchronized⟩
  subst hsz
  have hD := hD0.self (sz := s.heap.size)
  generalize hAe : va_A (w_disk cI q_di q_pl q_dr q_jo vjn vmk vwr vP vD vJ) s.heap.size = A at hD ⊢
  have hA : ∀ q : Nat, s.heap.size ≤ q → A q := fun q h => by rw [← hAe]; exact Or.inr h
  have hS : va_S A s.heap s.heap [] := va_S.rf
  have hl := lv_entry ([.ref q_di]) (n := 1) (Nat.le_of_ble_eq_true rfl)
  rw [lg_entry_eq]
  generalize (lg_sl ([.ref q_di]) ++ List.replicate (1 - (lg_sl ([.ref q_di])).length) Slot.unset).toArray = ls at hl ⊢
  have hl : lv_has ls 1 [(0, .ref q_di)] := hl
  exact b_D_dropDraft_0 (y0 := vD) cx hK hA (lv_sub hl [0] rfl) hP hD hS hf
theorem d_D_recover_0 : decode cc_D_recover 0 = .ok (.aload_n 0, 1) := by decide +kernel
theorem d_D_recover_1 : decode cc_D_recover 1 = .ok (.getfield 25, 3) := by decide +kernel
theorem d_D_recover_4 : decode cc_D_recover 4 = .ok (.ifCond .eq 40, 3) := by decide +kernel
theorem d_D_recover_44 : decode cc_D_recover 44 = .ok (.aload_n 0, 1) := by decide +kernel
theorem d_D_recover_45 : decode cc_D_recover 45 = .ok (.iconst 0, 1) := by decide +kernel
theorem d_D_recover_46 : decode cc_D_recover 46 = .ok (.putfield 25, 3) := by decide +kernel
theorem d_D_recover_49 : decode cc_D_recover 49 = .ok (.aload_n 0, 1) := by decide +kernel
theorem d_D_recover_50 : decode cc_D_recover 50 = .ok (.invokevirtual 62, 3) := by decide +kernel
theorem d_D_recover_53 : decode cc_D_recover 53 = .ok (.return_, 1) := by decide +kernel
theorem d_D_recover_7 : decode cc_D_recover 7 = .ok (.iconst 0, 1) := by decide +kernel
theorem d_D_recover_8 : decode cc_D_recover 8 = .ok (.istore_n 1, 1) := by decide +kernel
theorem d_D_recover_9 : decode cc_D_recover 9 = .ok (.iload_n 1, 1) := by decide +kernel
theorem d_D_recover_10 : decode cc_D_recover 10 = .ok (.bipush 29, 2) := by decide +kernel
theorem d_D_recover_12 : decode cc_D_recover 12 = .ok (.if_icmp .ge 32, 3) := by decide +kernel
theorem d_D_recover_15 : decode cc_D_recover 15 = .ok (.aload_n 0, 1) := by decide +kernel
theorem d_D_recover_16 : decode cc_D_recover 16 = .ok (.getfield 21, 3) := by decide +kernel
theorem d_D_recover_19 : decode cc_D_recover 19 = .ok (.iload_n 1, 1) := by decide +kernel
theorem d_D_recover_20 : decode cc_D_recover 20 = .ok (.invokestatic 54, 3) := by decide +kernel
theorem d_D_recover_23 : decode cc_D_recover 23 = .ok (.ifCond .eq 15, 3) := by decide +kernel
theorem d_D_recover_38 : decode cc_D_recover 38 = .ok (.iinc 1 1, 3) := by decide +kernel
theorem d_D_recover_41 : decode cc_D_recover 41 = .ok (.goto (-32), 3) := by decide +kernel
theorem d_D_recover_26 : decode cc_D_recover 26 = .ok (.aload_n 0, 1) := by decide +kernel
theorem d_D_recover_27 : decode cc_D_recover 27 = .ok (.getfield 18, 3) := by decide +kernel
theorem d_D_recover_30 : decode cc_D_recover 30 = .ok (.aload_n 0, 1) := by decide +kernel
theorem d_D_recover_31 : decode cc_D_recover 31 = .ok (.getfield 11, 3) := by decide +kernel
theorem d_D_recover_34 : decode cc_D_recover 34 = .ok (.iload_n 1, 1) := by decide +kernel
theorem d_D_recover_35 : decode cc_D_recover 35 = .ok (.invokestatic 58, 3) := by decide +kernel
def f_D_recover_9 (vjn : Int32) (vJ : Nat → Int32) (y0 : Int32) (y1 : Nat → Int32) (k9 : (Int32 × (Nat → Int32)) → Option (Int32 × (Nat → Int32) × (Nat → Int32))) (a : Int32 × (Nat → Int32)) : Option (Int32 × (Nat → Int32) × (Nat → Int32)) :=
  if (29 : Int32) ≤ a.1 then ((f_D_dropDraft a.2 y1).bind fun x3 => some ((0 : Int32), a.2, x3)) else ((f_D_isIn vjn a.1).bind fun x5 => if x5 = 0 then (k9 (a.1 + (1 : Int32), a.2)) else ((f_D_copyBlock vJ a.1 a.2).bind fun x7 => k9 (a.1 + (1 : Int32), x7)))
set_option maxHeartbeats 4000000 in
set_option maxRecDepth 100000 in
theorem b_D_recover_9 {l : Launch} {dC : Nat → ClassId} {dI : Nat → Nat → Nat} {cI cA cL : ClassId} {q_di q_pl q_dr q_jo : Nat} {vjn : Int32} {vwr : Int32} {vJ : Nat → Int32} {p : Program} {e : Env} {s : State} {m : MethodId} {args : Array Value} {below : List Frame} {meth : Method} {c : Code} (cx : jv_cx p s m args meth c cc_D_recover 2 R_Disk none ws_D_recover) (hK : va_K (dC, dI) vwCl (jv_ty cI cA cL) s) {A : Nat → Prop} (hA : ∀ q : Nat, s.heap.size ≤ q → A q) {r : Int32 × (Nat → Int32) × (Nat → Int32)} {y0 : Int32} {y1 : Nat → Int32} {k9 : (Int32 × (Nat → Int32)) → Option (Int32 × (Nat → Int32) × (Nat → Int32))} (hk9 : ∀ (b0 : Int32) (b1 : Nat → Int32) (ls : Array Slot) (H : Heap) (locs : List Loc), lv_has ls 2 [(0, .ref q_di), (1, .int b0)] → va_P (dC, dI) vwCl (w_disk cI q_di q_pl q_dr q_jo vjn y0 vwr b1 y1 vJ) H → va_D A (w_disk cI q_di q_pl q_dr q_jo vjn y0 vwr b1 y1 vJ) → va_S A s.heap H locs → k9 (b0, b1) = some r → W p l e rm_D_recover s m args below meth c H locs 0 0 (MQ below (jv_Qv (dC, dI) (w_disk cI q_di q_pl q_dr q_jo vjn r.1 vwr r.2.1 r.2.2 vJ) A) args s 0 0 A) (F0 m 9 ls [])) {a : Int32 × (Nat → Int32)} {ls : Array Slot} (hl : lv_has ls 2 [(0, .ref q_di), (1, .int a.1)]) {H : Heap} {locs : List Loc} (hP : va_P (dC, dI) vwCl (w_disk cI q_di q_pl q_dr q_jo vjn y0 vwr a.2 y1 vJ) H) (hD : va_D A (w_disk cI q_di q_pl q_dr q_jo vjn y0 vwr a.2 y1 vJ)) (hS : va_S A s.heap H locs) (hf : f_D_recover_9 vjn vJ y0 y1 k9 a = some r) : W p l e rm_D_recover s m args below meth c H locs 0 0 (MQ below (jv_Qv (dC, dI) (w_disk cI q_di q_pl q_dr q_jo vjn r.1 vwr r.2.1 r.2.2 vJ) A) args s 0 0 A) (F0 m 9 ls []) := by
  unfold f_D_recover_9 at hf
  obtain ⟨hx, hb, hml, hown, hts, hr, hlocks⟩ := id cx
  refine lv_iload_n hx hb d_D_recover_9 rfl (lv_at hl 1 rfl) ?_
  refine lv_bipush (v := (29 : Int32)) hx hb d_D_recover_10 (by decide) ?_
  refine lv_icmp_ge (tgt := 44) hx hb d_D_recover_12 (by decide) (fun hc => ?_) (fun hc => ?_)
  · have hf := jv_it hf hc
    refine lv_aload_n hx hb d_D_recover_44 rfl (lv_at hl 0 rfl) ?_
    refine lv_iconst (v := (0 : Int32)) hx hb d_D_recover_45 (by decide) ?_
    refine va_put (D := (dC, dI)) (ci := kDisk) (v := .int (0 : Int32)) (ty := .boolean) (C := R_Disk) (T := T_Disk) (N := 6) hx hb hts (fun w h => List.mem_cons_of_mem _ (in_Disk w h)) ty_Disk tyok_Disk nm_Disk hown hK hP hD hS 0 rfl rfl 4 (by decide) (jv_w hts wa_27) (fun _ h9 => h9) rfl (by decide +kernel) rfl rfl (Nat.le_of_ble_eq_true rfl) d_D_recover_46 (fun H locs hP hD hS => ?_)
    have hP : va_P (dC, dI) vwCl (w_disk cI q_di q_pl q_dr q_jo vjn (0 : Int32) vwr a.2 y1 vJ) H := hP
    have hD : va_D A (w_disk cI q_di q_pl q_dr q_jo vjn (0 : Int32) vwr a.2 y1 vJ) := hD
    refine lv_aload_n hx hb d_D_recover_49 rfl (lv_at hl 0 rfl) ?_
    obtain ⟨x3, g4, hf⟩ := jv_ob hf
    have hPc := hP.sub (ws' := (w_disk cI q_di q_pl q_dr q_jo vjn (0 : Int32) vwr a.2 y1 vJ)) [0, 1, 2, 3] rfl
    have hDc := hD.sub (ws' := (w_disk cI q_di q_pl q_dr q_jo vjn (0 : Int32) vwr a.2 y1 vJ)) [0, 1, 2, 3] (by decide) rfl
    have hFc := va_free (wc := (w_disk cI q_di q_pl q_dr q_jo vjn (0 : Int32) vwr a.2 y1 vJ)) hD hS hA [0, 1, 2, 3] rfl
    refine jv_cwv (va_runV (As := []) (rest := []) (b := q_di) ⟨hx, hb, hml, hown, hts⟩ (c_D_dropDraft l dC dI cI cA cL q_di q_pl q_dr q_jo vjn (0 : Int32) vwr a.2 y1 vJ H.size x3 g4) (jv_cwV hts wa_28 wa_29 wa_30 wa_31 wa_32 rfl rfl yd_D_dropDraft ⟨Nat.le_of_ble_eq_true rfl, Nat.le_of_ble_eq_true rfl⟩) (jv_preVW hK hPc hDc 0 rfl rfl) rfl rfl hl.1 rfl (lv_room (Nat.le_of_ble_eq_true rfl)) d_D_recover_50 ⟨Nat.zero_le _, Nat.zero_le _⟩) hS hFc (fun H1 locs hP1 hD1 hk1 hS => ?_)
    have hP : va_P (dC, dI) vwCl (w_disk cI q_di q_pl q_dr q_jo vjn (0 : Int32) vwr a.2 x3 vJ) H1 := hP1.sub [0, 1, 2, 3] rfl
    have hD : va_D A (w_disk cI q_di q_pl q_dr q_jo vjn (0 : Int32) vwr a.2 x3 vJ) := (hD1.weaken (fun _ q _ h => hFc q.1 h)).sub [0, 1, 2, 3] (by decide) rfl
    generalize H1 = H at hP hS ⊢
    obtain rfl := Option.some.inj hf
    exact W.vret hx hb hr (fun t ht hW => ⟨rfl, by rw [ht]; exact hP, hD, hS.F ht⟩) hS.2.2 d_D_recover_53
  · have hf := jv_if hf hc
    refine lv_aload_n hx hb d_D_recover_15 rfl (lv_at hl 0 rfl) ?_
    refine va_get (D := (dC, dI)) (ci := kDisk) (v := .int vjn) (C := R_Disk) (T := T_Disk) (N := 6) hx hb hts (fun w h => List.mem_cons_of_mem _ (in_Disk w h)) hown hK hP 0 rfl rfl 3 (by decide) (jv_w hts wa_33) (fun _ h9 => h9) rfl d_D_recover_16 ?_
    refine lv_iload_n hx hb d_D_recover_19 rfl (lv_at hl 1 rfl) ?_
    obtain ⟨x5, g6, hf⟩ := jv_ob hf
    refine jv_cs (W.runS (As := [.int vjn, .int a.1]) (rest := []) ⟨hx, hb, hml, hown, hts⟩ (c_D_isIn l vjn a.1 x5 g6) (jv_cwS hts wa_34 wa_29 wa_35 wa_36 rfl rfl yd_D_isIn ⟨Nat.le_of_ble_eq_true rfl, Nat.le_of_ble_eq_true rfl⟩) jv_pre0 rfl rfl hl.1 rfl (lv_room (Nat.le_of_ble_eq_true rfl)) d_D_recover_20 ⟨Nat.zero_le _, Nat.zero_le _⟩) ?_
    refine lv_if_eq (tgt := 38) hx hb d_D_recover_23 (by decide) (fun hc => ?_) (fun hc => ?_)
    · have hf := jv_it hf hc
      refine lv_iinc (k := 1) (v := a.1 + (1 : Int32)) (lv' := [(1, .int (a.1 + (1 : Int32))), (0, .ref q_di)]) hx hb d_D_recover_38 hl rfl (jv_inc _) (by decide) rfl (fun ls hl => ?_)
      refine lv_goto (tgt := 9) hx hb d_D_recover_41 (by decide) ?_
      exact hk9 (a.1 + (1 : Int32)) a.2 _ _ _ (lv_sub hl [1, 0] rfl) hP hD hS hf
    · have hf := jv_if hf hc
      refine lv_aload_n hx hb d_D_recover_26 rfl (lv_at hl 0 rfl) ?_
      refine va_get (D := (dC, dI)) (ci := kDisk) (v := .ref q_jo) (C := R_Disk) (T := T_Disk) (N := 6) hx hb hts (fun w h => List.mem_cons_of_mem _ (in_Disk w h)) hown hK hP 0 rfl rfl 2 (by decide) (jv_w hts wa_37) (fun _ h9 => h9) rfl d_D_recover_27 ?_
      refine lv_aload_n hx hb d_D_recover_30 rfl (lv_at hl 0 rfl) ?_
      refine va_get (D := (dC, dI)) (ci := kDisk) (v := .ref q_pl) (C := R_Disk) (T := T_Disk) (N := 6) hx hb hts (fun w h => List.mem_cons_of_mem _ (in_Disk w h)) hown hK hP 0 rfl rfl 0 (by decide) (jv_w hts wa_21) (fun _ h9 => h9) rfl d_D_recover_31 ?_
      refine lv_iload_n hx hb d_D_recover_34 rfl (lv_at hl 1 rfl) ?_
      obtain ⟨x7, g8, hf⟩ := jv_ob hf
      have hPc := hP.sub (ws' := (w_two cI q_jo q_pl vJ a.2)) [3, 1] rfl
      have hDc := hD.sub (ws' := (w_two cI q_jo q_pl vJ a.2)) [3, 1] (by decide) rfl
      have hFc := va_free (wc := (w_two cI q_jo q_pl vJ a.2)) hD hS hA [3, 1] rfl
      refine jv_cwv (va_runS (As := [.ref q_jo, .ref q_pl, .int a.1]) (rest := []) ⟨hx, hb, hml, hown, hts⟩ (c_D_copyBlock l dC dI cI cA cL q_jo q_pl vJ a.2 a.1 H.size x7 g8) (jv_cwS hts wa_38 wa_29 wa_39 wa_40 rfl rfl yd_D_copyBlock ⟨Nat.le_of_ble_eq_true rfl, Nat.le_of_ble_eq_true rfl⟩) (jv_preSW hK hPc hDc) rfl rfl hl.1 rfl (lv_room (Nat.le_of_ble_eq_true rfl)) d_D_recover_35 ⟨Nat.zero_le _, Nat.zero_le _⟩) hS hFc (fun H1 locs hP1 hD1 hk1 hS => ?_)
      obtain ⟨hP, hD⟩ := va_join (wc := (w_two cI q_jo q_pl vJ a.2)) (wr := [(q_di, .inr (kDisk, [.ref q_pl, .ref q_dr, .ref q_jo, .int vjn, .int y0, .int vwr])), (q_dr, .inl (cI, 232, .inl y1))]) (w1 := (w_two cI q_jo q_pl vJ x7)) hP hD [3, 1] [0, 2] rfl rfl (by decide) (by decide) hk1 hFc hP1 hD1
      have hP : va_P (dC, dI) vwCl (w_disk cI q_di q_pl q_dr q_jo vjn y0 vwr x7 y1 vJ) H1 := hP.sub [0, 3, 1, 2] rfl
      have hD : va_D A (w_disk cI q_di q_pl q_dr q_jo vjn y0 vwr x7 y1 vJ) := hD.sub [0, 3, 1, 2] (by decide) rfl
      generalize H1 = H at hP hS ⊢
      refine lv_iinc (k := 1) (v := a.1 + (1 : Int32)) (lv' := [(1, .int (a.1 + (1 : Int32))), (0, .ref q_di)]) hx hb d_D_recover_38 hl rfl (jv_inc _) (by decide) rfl (fun ls hl => ?_)
      refine lv_goto (tgt := 9) hx hb d_D_recover_41 (by decide) ?_
      exact hk9 (a.1 + (1 : Int32)) x7 _ _ _ (lv_sub hl [1, 0] rfl) hP hD hS hf
set_option maxHeartbeats 4000000 in
set_option maxRecDepth 100000 in
theorem l_D_recover_9 {l : Launch} {dC : Nat → ClassId} {dI : Nat → Nat → Nat} {cI cA cL : ClassId} {q_di q_pl q_dr q_jo : Nat} {vjn : Int32} {vwr : Int32} {vJ : Nat → Int32} {p : Program} {e : Env} {s : State} {m : MethodId} {args : Array Value} {below : List Frame} {meth : Method} {c : Code} (cx : jv_cx p s m args meth c cc_D_recover 2 R_Disk none ws_D_recover) (hK : va_K (dC, dI) vwCl (jv_ty cI cA cL) s) {A : Nat → Prop} (hA : ∀ q : Nat, s.heap.size ≤ q → A q) {r : Int32 × (Nat → Int32) × (Nat → Int32)} {y0 : Int32} {y1 : Nat → Int32} : ∀ n : Nat, ∀ (b0 : Int32) (b1 : Nat → Int32) (ls : Array Slot) (H : Heap) (locs : List Loc), lv_has ls 2 [(0, .ref q_di), (1, .int b0)] → va_P (dC, dI) vwCl (w_disk cI q_di q_pl q_dr q_jo vjn y0 vwr b1 y1 vJ) H → va_D A (w_disk cI q_di q_pl q_dr q_jo vjn y0 vwr b1 y1 vJ) → va_S A s.heap H locs → jv_fx (f_D_recover_9 vjn vJ y0 y1) n (b0, b1) = some r → W p l e rm_D_recover s m args below meth c H locs 0 0 (MQ below (jv_Qv (dC, dI) (w_disk cI q_di q_pl q_dr q_jo vjn r.1 vwr r.2.1 r.2.2 vJ) A) args s 0 0 A) (F0 m 9 ls []) := by
  intro n
  induction n with
  | zero => intro b0 b1 ls H locs hl hP hD hS hf; exact jv_no hf
  | succ n ih => intro b0 b1 ls H locs hl hP hD hS hf; exact b_D_recover_9 (a := (b0, b1)) cx hK hA ih hl hP hD hS hf
def f_D_recover_0 (vjn : Int32) (vJ : Nat → Int32) (y0 : Int32) (y1 : Nat → Int32) (y2 : Nat → Int32) : Option (Int32 × (Nat → Int32) × (Nat → Int32)) :=
  if y0 = 0 then ((f_D_dropDraft y1 y2).bind fun x1 => some ((0 : Int32), y1, x1)) else (jv_fx (f_D_recover_9 vjn vJ y0 y2) 300 ((0 : Int32), y1))
set_option maxHeartbeats 4000000 in
set_option maxRecDepth 100000 in
theorem b_D_recover_0 {l : Launch} {dC : Nat → ClassId} {dI : Nat → Nat → Nat} {cI cA cL : ClassId} {q_di q_pl q_dr q_jo : Nat} {vjn : Int32} {vwr : Int32} {vJ : Nat → Int32} {p : Program} {e : Env} {s : State} {m : MethodId} {args : Array Value} {below : List Frame} {meth : Method} {c : Code} (cx : jv_cx p s m args meth c cc_D_recover 2 R_Disk none ws_D_recover) (hK : va_K (dC, dI) vwCl (jv_ty cI cA cL) s) {A : Nat → Prop} (hA : ∀ q : Nat, s.heap.size ≤ q → A q) {r : Int32 × (Nat → Int32) × (Nat → Int32)} {y0 : Int32} {y1 : Nat → Int32} {y2 : Nat → Int32} {ls : Array Slot} (hl : lv_has ls 2 [(0, .ref q_di)]) {H : Heap} {locs : List Loc} (hP : va_P (dC, dI) vwCl (w_disk cI q_di q_pl q_dr q_jo vjn y0 vwr y1 y2 vJ) H) (hD : va_D A (w_disk cI q_di q_pl q_dr q_jo vjn y0 vwr y1 y2 vJ)) (hS : va_S A s.heap H locs) (hf : f_D_recover_0 vjn vJ y0 y1 y2 = some r) : W p l e rm_D_recover s m args below meth c H locs 0 0 (MQ below (jv_Qv (dC, dI) (w_disk cI q_di q_pl q_dr q_jo vjn r.1 vwr r.2.1 r.2.2 vJ) A) args s 0 0 A) (F0 m 0 ls []) := by
  unfold f_D_recover_0 at hf
  obtain ⟨hx, hb, hml, hown, hts, hr, hlocks⟩ := id cx
  refine lv_aload_n hx hb d_D_recover_0 rfl (lv_at hl 0 rfl) ?_
  refine va_get (D := (dC, dI)) (ci := kDisk) (v := .int y0) (C := R_Disk) (T := T_Disk) (N := 6) hx hb hts (fun w h => List.mem_cons_of_mem _ (in_Disk w h)) hown hK hP 0 rfl rfl 4 (by decide) (jv_w hts wa_27) (fun _ h9 => h9) rfl d_D_recover_1 ?_
  refine lv_if_eq (tgt := 44) hx hb d_D_recover_4 (by decide) (fun hc => ?_) (fun hc => ?_)
  · have hf := jv_it hf hc
    refine lv_aload_n hx hb d_D_recover_44 rfl (lv_at hl 0 rfl) ?_
    refine lv_iconst (v := (0 : Int32)) hx hb d_D_recover_45 (by decide) ?_
    refine va_put (D := (dC, dI)) (ci := kDisk) (v := .int (0 : Int32)) (ty := .boolean) (C := R_Disk) (T := T_Disk) (N := 6) hx hb hts (fun w h => List.mem_cons_of_mem _ (in_Disk w h)) ty_Disk tyok_Disk nm_Disk hown hK hP hD hS 0 rfl rfl 4 (by decide) (jv_w hts wa_27) (fun _ h9 => h9) rfl (by decide +kernel) rfl rfl (Nat.le_of_ble_eq_true rfl) d_D_recover_46 (fun H locs hP hD hS => ?_)
    have hP : va_P (dC, dI) vwCl (w_disk cI q_di q_pl q_dr q_jo vjn (0 : Int32) vwr y1 y2 vJ) H := hP
    have hD : va_D A (w_disk cI q_di q_pl q_dr q_jo vjn (0 : Int32) vwr y1 y2 vJ) := hD
    refine lv_aload_n hx hb d_D_recover_49 rfl (lv_at hl 0 rfl) ?_
    obtain ⟨x1, g2, hf⟩ := jv_ob hf
    have hPc := hP.sub (ws' := (w_disk cI q_di q_pl q_dr q_jo vjn (0 : Int32) vwr y1 y2 vJ)) [0, 1, 2, 3] rfl
    have hDc := hD.sub (ws' := (w_disk cI q_di q_pl q_dr q_jo vjn (0 : Int32) vwr y1 y2 vJ)) [0, 1, 2, 3] (by decide) rfl
    have hFc := va_free (wc := (w_disk cI q_di q_pl q_dr q_jo vjn (0 : Int32) vwr y1 y2 vJ)) hD hS hA [0, 1, 2, 3] rfl
    refine jv_cwv (va_runV (As := []) (rest := []) (b := q_di) ⟨hx, hb, hml, hown, hts⟩ (c_D_dropDraft l dC dI cI cA cL q_di q_pl q_dr q_jo vjn (0 : Int32) vwr y1 y2 vJ H.size x1 g2) (jv_cwV hts wa_28 wa_29 wa_30 wa_31 wa_32 rfl rfl yd_D_dropDraft ⟨Nat.le_of_ble_eq_true rfl, Nat.le_of_ble_eq_true rfl⟩) (jv_preVW hK hPc hDc 0 rfl rfl) rfl rfl hl.1 rfl (lv_room (Nat.le_of_ble_eq_true rfl)) d_D_recover_50 ⟨Nat.zero_le _, Nat.zero_le _⟩) hS hFc (fun H1 locs hP1 hD1 hk1 hS => ?_)
    have hP : va_P (dC, dI) vwCl (w_disk cI q_di q_pl q_dr q_jo vjn (0 : Int32) vwr y1 x1 vJ) H1 := hP1.sub [0, 1, 2, 3] rfl
    have hD : va_D A (w_disk cI q_di q_pl q_dr q_jo vjn (0 : Int32) vwr y1 x1 vJ) := (hD1.weaken (fun _ q _ h => hFc q.1 h)).sub [0, 1, 2, 3] (by decide) rfl
    generalize H1 = H at hP hS ⊢
    obtain rfl := Option.some.inj hf
    exact W.vret hx hb hr (fun t ht hW => ⟨rfl, by rw [ht]; exact hP, hD, hS.F ht⟩) hS.2.2 d_D_recover_53
  · have hf := jv_if hf hc
    refine lv_iconst (v := (0 : Int32)) hx hb d_D_recover_7 (by decide) ?_
    refine lv_istore_n (lv' := [(1, .int (0 : Int32)), (0, .ref q_di)]) hx hb d_D_recover_8 rfl hl (by decide) rfl (fun ls hl => ?_)
    exact l_D_recover_9 (y0 := y0) (y1 := y2) cx hK hA 300 (0 : Int32) y1 _ _ _ (lv_sub hl [1, 0] rfl) hP hD hS hf
def f_D_recover (vjn : Int32) (vJ : Nat → Int32) (vmk : Int32) (vP : Nat → Int32) (vD : Nat → Int32) : Option (Int32 × (Nat → Int32) × (Nat → Int32)) := f_D_recover_0 vjn vJ vmk vP vD
set_option maxHeartbeats 4000000 in
set_option maxRecDepth 100000 in
theorem c_D_recover (l : Launch) (dC : Nat → ClassId) (dI : Nat → Nat → Nat) (cI cA cL : ClassId) (q_di q_pl q_dr q_jo : Nat) (vjn : Int32) (vmk : Int32) (vwr : Int32) (vP : Nat → Int32) (vD : Nat → Int32) (vJ : Nat → Int32) (sz : Nat) (r : Int32 × (Nat → Int32) × (Nat → Int32)) (hf : f_D_recover vjn vJ vmk vP vD = some r) : Met l y_D_recover ws_D_recover rm_D_recover (jv_Pw [.ref q_di] (dC, dI) (jv_ty cI cA cL) (w_disk cI q_di q_pl q_dr q_jo vjn vmk vwr vP vD vJ) sz) (jv_Qv (dC, dI) (w_disk cI q_di q_pl q_dr q_jo vjn r.1 vwr r.2.1 r.2.2 vJ) (va_A (w_disk cI q_di q_pl q_dr q_jo vjn vmk vwr vP vD vJ) sz)) 0 0 (va_A (w_disk cI q_di q_pl q_dr q_jo vjn vmk vwr vP vD vJ) sz) := by
  refine Met.ofW (cc := cc_D_recover) (maxL := 2) (ret := none) (by decide) rfl ?_
  intro p e s m args below meth c s₁ B hml hv
  obtain ⟨rfl, hsz, hP, hK, hD0⟩ := hv
  have cx : jv_cx p s m _ meth c cc_D_recover 2 R_Disk none ws_D_recover := ⟨B.exec, B.bytes, hml, findClass_of_methodNamed B.named, atoms_spec (ws := ws_D_recover) B.pre, B.returns, B.notSynchronized⟩
  subst hsz
  have hD := hD0.self (sz := s.heap.size)
  generalize hAe : va_A (w_disk cI q_di q_pl q_dr q_jo vjn vmk vwr vP vD vJ) s.heap.size = A at hD ⊢
  have hA : ∀ q : Nat, s.heap.size ≤ q → A q := fun q h => by rw [← hAe]; exact Or.inr h
  have hS : va_S A s.heap s.heap [] := va_S.rf
  have hl := lv_entry ([.ref q_di]) (n := 2) (Nat.le_of_ble_eq_true rfl)
  rw [lg_entry_eq]
  generalize (lg_sl ([.ref q_di]) ++ List.replicate (2 - (lg_sl ([.ref q_di])).length) Slot.unset).toArray = ls at hl ⊢
  have hl : lv_has ls 2 [(0, .ref q_di)] := hl
  exact b_D_recover_0 (y0 := vmk) (y1 := vP) (y2 := vD) cx hK hA (lv_sub hl [0] rfl) hP hD hS hf
theorem d_D_countWrite_0 : decode cc_D_countWrite 0 = .ok (.aload_n 1, 1) := by decide +kernel
theorem d_D_countWrite_1 : decode cc_D_countWrite 1 = .ok (.invokevirtual 68, 3) := by decide +kernel
theorem d_D_countWrite_4 : decode cc_D_countWrite 4 = .ok (.ifCond .ne 5, 3) := by decide +kernel
theorem d_D_countWrite_9 : decode cc_D_countWrite 9 = .ok (.aload_n 0, 1) := by decide +kernel
theorem d_D_countWrite_10 : decode cc_D_countWrite 10 = .ok (.dup, 1) := by decide +kernel
theorem d_D_countWrite_11 : decode cc_D_countWrite 11 = .ok (.getfield 29, 3) := by decide +kernel
theorem d_D_countWrite_14 : decode cc_D_countWrite 14 = .ok (.iconst 1, 1) := by decide +kernel
theorem d_D_countWrite_15 : decode cc_D_countWrite 15 = .ok (.iadd, 1) := by decide +kernel
theorem d_D_countWrite_16 : decode cc_D_countWrite 16 = .ok (.putfield 29, 3) := by decide +kernel
theorem d_D_countWrite_19 : decode cc_D_countWrite 19 = .ok (.iconst 1, 1) := by decide +kernel
theorem d_D_countWrite_20 : decode cc_D_countWrite 20 = .ok (.ireturn, 1) := by decide +kernel
theorem d_D_countWrite_7 : decode cc_D_countWrite 7 = .ok (.iconst 0, 1) := by decide +kernel
theorem d_D_countWrite_8 : decode cc_D_countWrite 8 = .ok (.ireturn, 1) := by decide +kernel
def f_D_countWrite_0 (y0 : Int32) (y1 : Int32) : Option (Int32 × Int32 × Int32) :=
  (f_Fu_letsPass y1).bind fun x1 => if x1.1 = 0 then (some ((0 : Int32), y0, x1.2)) else (some ((1 : Int32), y0 + (1 : Int32), x1.2))
set_option maxHeartbeats 4000000 in
set_option maxRecDepth 100000 in
theorem b_D_countWrite_0 {l : Launch} {dC : Nat → ClassId} {dI : Nat → Nat → Nat} {cI cA cL : ClassId} {q_di q_pl q_dr q_jo q_fu : Nat} {vjn : Int32} {vmk : Int32} {vP : Nat → Int32} {vD : Nat → Int32} {vJ : Nat → Int32} {p : Program} {e : Env} {s : State} {m : MethodId} {args : Array Value} {below : List Frame} {meth : Method} {c : Code} (cx : jv_cx p s m args meth c cc_D_countWrite 2 R_Disk (some .boolean) ws_D_countWrite) (hK : va_K (dC, dI) vwCl (jv_ty cI cA cL) s) {A : Nat → Prop} (hA : ∀ q : Nat, s.heap.size ≤ q → A q) {r : Int32 × Int32 × Int32} {y0 : Int32} {y1 : Int32} {ls : Array Slot} (hl : lv_has ls 2 [(0, .ref q_di), (1, .ref q_fu)]) {H : Heap} {locs : List Loc} (hP : va_P (dC, dI) vwCl (w_dfu cI q_di q_pl q_dr q_jo q_fu vjn vmk y0 vP vD vJ y1) H) (hD : va_D A (w_dfu cI q_di q_pl q_dr q_jo q_fu vjn vmk y0 vP vD vJ y1)) (hS : va_S A s.heap H locs) (hf : f_D_countWrite_0 y0 y1 = some r) : W p l e rm_D_countWrite s m args below meth c H locs 0 0 (MQ below (jv_Qi r.1 (dC, dI) (w_dfu cI q_di q_pl q_dr q_jo q_fu vjn vmk r.2.1 vP vD vJ r.2.2) A) args s 0 0 A) (F0 m 0 ls []) := by
  unfold f_D_countWrite_0 at hf
  obtain ⟨hx, hb, hml, hown, hts, hr, hlocks⟩ := id cx
  refine lv_aload_n hx hb d_D_countWrite_0 rfl (lv_at hl 1 rfl) ?_
  obtain ⟨x1, g2, hf⟩ := jv_ob hf
  have hPc := hP.sub (ws' := (w_fuse cI q_fu y1)) [4] rfl
  have hDc := hD.sub (ws' := (w_fuse cI q_fu y1)) [4] (by decide) rfl
  have hFc := va_free (wc := (w_fuse cI q_fu y1)) hD hS hA [4] rfl
  refine jv_cwi (va_runV (As := []) (rest := []) (b := q_fu) ⟨hx, hb, hml, hown, hts⟩ (c_Fu_letsPass l dC dI cI cA cL q_fu y1 H.size x1 g2) (jv_cwV hts wa_41 wa_42 wa_43 wa_44 wa_45 rfl rfl yd_Fu_letsPass ⟨Nat.le_of_ble_eq_true rfl, Nat.le_of_ble_eq_true rfl⟩) (jv_preVW hK hPc hDc 0 rfl rfl) rfl rfl hl.1 rfl (lv_room (Nat.le_of_ble_eq_true rfl)) d_D_countWrite_1 ⟨Nat.zero_le _, Nat.zero_le _⟩) hS hFc (fun H1 locs hP1 hD1 hk1 hS => ?_)
  obtain ⟨hP, hD⟩ := va_join (wc := (w_fuse cI q_fu y1)) (wr := [(q_di, .inr (kDisk, [.ref q_pl, .ref q_dr, .ref q_jo, .int vjn, .int vmk, .int y0])), (q_pl, .inl (cI, 232, .inl vP)), (q_dr, .inl (cI, 232, .inl vD)), (q_jo, .inl (cI, 232, .inl vJ))]) (w1 := (w_fuse cI q_fu x1.2)) hP hD [4] [0, 1, 2, 3] rfl rfl (by decide) (by decide) hk1 hFc hP1 hD1
  have hP : va_P (dC, dI) vwCl (w_dfu cI q_di q_pl q_dr q_jo q_fu vjn vmk y0 vP vD vJ x1.2) H1 := hP.sub [0, 1, 2, 3, 4] rfl
  have hD : va_D A (w_dfu cI q_di q_pl q_dr q_jo q_fu vjn vmk y0 vP vD vJ x1.2) := hD.sub [0, 1, 2, 3, 4] (by decide) rfl
  generalize H1 = H at hP hS ⊢
  refine lv_if_ne (tgt := 9) hx hb d_D_countWrite_4 (by decide) (fun hc => ?_) (fun hc => ?_)
  · have hf := jv_if hf hc
    refine lv_aload_n hx hb d_D_countWrite_9 rfl (lv_at hl 0 rfl) ?_
    refine lv_dup hx hb d_D_countWrite_10 rfl ?_
    refine va_get (D := (dC, dI)) (ci := kDisk) (v := .int y0) (C := R_Disk) (T := T_Disk) (N := 6) hx hb hts (fun w h => List.mem_cons_of_mem _ (in_Disk w h)) hown hK hP 0 rfl rfl 5 (by decide) (jv_w hts wa_46) (fun _ h9 => h9) rfl d_D_countWrite_11 ?_
    refine lv_iconst (v := (1 : Int32)) hx hb d_D_countWrite_14 (by decide) ?_
    refine lv_iadd hx hb d_D_countWrite_15 ?_
    refine va_put (D := (dC, dI)) (ci := kDisk) (v := .int (y0 + (1 : Int32))) (ty := .int) (C := R_Disk) (T := T_Disk) (N := 6) hx hb hts (fun w h => List.mem_cons_of_mem _ (in_Disk w h)) ty_Disk tyok_Disk nm_Disk hown hK hP hD hS 0 rfl rfl 5 (by decide) (jv_w hts wa_46) (fun _ h9 => h9) rfl (by decide +kernel) rfl rfl (Nat.le_of_ble_eq_true rfl) d_D_countWrite_16 (fun H locs hP hD hS => ?_)
    have hP : va_P (dC, dI) vwCl (w_dfu cI q_di q_pl q_dr q_jo q_fu vjn vmk (y0 + (1 : Int32)) vP vD vJ x1.2) H := hP
    have hD : va_D A (w_dfu cI q_di q_pl q_dr q_jo q_fu vjn vmk (y0 + (1 : Int32)) vP vD vJ x1.2) := hD
    refine lv_iconst (v := (1 : Int32)) hx hb d_D_countWrite_19 (by decide) ?_
    obtain rfl := Option.some.inj hf
    exact W.zret hx hb hr rfl (fun t ht hW => ⟨rfl, by rw [ht]; exact hP, hD, hS.F ht⟩) hS.2.2 d_D_countWrite_20
  · have hf := jv_it hf hc
    refine lv_iconst (v := (0 : Int32)) hx hb d_D_countWrite_7 (by decide) ?_
    obtain rfl := Option.some.inj hf
    exact W.zret hx hb hr rfl (fun t ht hW => ⟨rfl, by rw [ht]; exact hP, hD, hS.F ht⟩) hS.2.2 d_D_countWrite_8
def f_D_countWrite (vwr : Int32) (vat : Int32) : Option (Int32 × Int32 × Int32) := f_D_countWrite_0 vwr vat
set_option maxHeartbeats 4000000 in
set_option maxRecDepth 100000 in
theorem c_D_countWrite (l : Launch) (dC : Nat → ClassId) (dI : Nat → Nat → Nat) (cI cA cL : ClassId) (q_di q_pl q_dr q_jo q_fu : Nat) (vjn : Int32) (vmk : Int32) (vwr : Int32) (vP : Nat → Int32) (vD : Nat → Int32) (vJ : Nat → Int32) (vat : Int32) (sz : Nat) (r : Int32 × Int32 × Int32) (hf : f_D_countWrite vwr vat = some r) : Met l y_D_countWrite ws_D_countWrite rm_D_countWrite (jv_Pw [.ref q_di, .ref q_fu] (dC, dI) (jv_ty cI cA cL) (w_dfu cI q_di q_pl q_dr q_jo q_fu vjn vmk vwr vP vD vJ vat) sz) (jv_Qi r.1 (dC, dI) (w_dfu cI q_di q_pl q_dr q_jo q_fu vjn vmk r.2.1 vP vD vJ r.2.2) (va_A (w_dfu cI q_di q_pl q_dr q_jo q_fu vjn vmk vwr vP vD vJ vat) sz)) 0 0 (va_A (w_dfu cI q_di q_pl q_dr q_jo q_fu vjn vmk vwr vP vD vJ vat) sz) := by
  refine Met.ofW (cc := cc_D_countWrite) (maxL := 2) (ret := (some .boolean)) (by decide) rfl ?_
  intro p e s m args below meth c s₁ B hml hv
  obtain ⟨rfl, hsz, hP, hK, hD0⟩ := hv
  have cx : jv_cx p s m _ meth c cc_D_countWrite 2 R_Disk (some .boolean) ws_D_countWrite := ⟨B.exec, B.bytes, hml, findClass_of_methodNamed B.named, atoms_spec (ws := ws_D_countWrite) B.pre, B.returns, B.notSynchronized⟩
  subst hsz
  have hD := hD0.self (sz := s.heap.size)
  generalize hAe : va_A (w_dfu cI q_di q_pl q_dr q_jo q_fu vjn vmk vwr vP vD vJ vat) s.heap.size = A at hD ⊢
  have hA : ∀ q : Nat, s.heap.size ≤ q → A q := fun q h => by rw [← hAe]; exact Or.inr h
  have hS : va_S A s.heap s.heap [] := va_S.rf
  have hl := lv_entry ([.ref q_di, .ref q_fu]) (n := 2) (Nat.le_of_ble_eq_true rfl)
  rw [lg_entry_eq]
  generalize (lg_sl ([.ref q_di, .ref q_fu]) ++ List.replicate (2 - (lg_sl ([.ref q_di, .ref q_fu])).length) Slot.unset).toArray = ls at hl ⊢
  have hl : lv_has ls 2 [(0, .ref q_di), (1, .ref q_fu)] := hl
  exact b_D_countWrite_0 (y0 := vwr) (y1 := vat) cx hK hA (lv_sub hl [0, 1] rfl) hP hD hS hf
theorem d_D_setMark_0 : decode cc_D_setMark 0 = .ok (.aload_n 0, 1) := by decide +kernel
theorem d_D_setMark_1 : decode cc_D_setMark 1 = .ok (.aload_n 2, 1) := by decide +kernel
theorem d_D_setMark_2 : decode cc_D_setMark 2 = .ok (.invokevirtual 65, 3) := by decide +kernel
theorem d_D_setMark_5 : decode cc_D_setMark 5 = .ok (.ifCond .ne 5, 3) := by decide +kernel
theorem d_D_setMark_10 : decode cc_D_setMark 10 = .ok (.aload_n 0, 1) := by decide +kernel
theorem d_D_setMark_11 : decode cc_D_setMark 11 = .ok (.iload_n 1, 1) := by decide +kernel
theorem d_D_setMark_12 : decode cc_D_setMark 12 = .ok (.putfield 25, 3) := by decide +kernel
theorem d_D_setMark_15 : decode cc_D_setMark 15 = .ok (.iconst 1, 1) := by decide +kernel
theorem d_D_setMark_16 : decode cc_D_setMark 16 = .ok (.ireturn, 1) := by decide +kernel
theorem d_D_setMark_8 : decode cc_D_setMark 8 = .ok (.iconst 0, 1) := by decide +kernel
theorem d_D_setMark_9 : decode cc_D_setMark 9 = .ok (.ireturn, 1) := by decide +kernel
def f_D_setMark_0 (y0 : Int32) (y1 : Int32) (y2 : Int32) (y3 : Int32) : Option (Int32 × Int32 × Int32 × Int32) :=
  (f_D_countWrite y2 y3).bind fun x1 => if x1.1 = 0 then (some ((0 : Int32), y1, x1.2.1, x1.2.2)) else (if y0 = 0 ∨ y0 = 1 then (some ((1 : Int32), y0, x1.2.1, x1.2.2)) else none)
set_option maxHeartbeats 4000000 in
set_option maxRecDepth 100000 in
theorem b_D_setMark_0 {l : Launch} {dC : Nat → ClassId} {dI : Nat → Nat → Nat} {cI cA cL : ClassId} {q_di q_pl q_dr q_jo q_fu : Nat} {vjn : Int32} {vP : Nat → Int32} {vD : Nat → Int32} {vJ : Nat → Int32} {p : Program} {e : Env} {s : State} {m : MethodId} {args : Array Value} {below : List Frame} {meth : Method} {c : Code} (cx : jv_cx p s m args meth c cc_D_setMark 3 R_Disk (some .boolean) ws_D_setMark) (hK : va_K (dC, dI) vwCl (jv_ty cI cA cL) s) {A : Nat → Prop} (hA : ∀ q : Nat, s.heap.size ≤ q → A q) {r : Int32 × Int32 × Int32 × Int32} {y0 : Int32} {y1 : Int32} {y2 : Int32} {y3 : Int32} {ls : Array Slot} (hl : lv_has ls 3 [(0, .ref q_di), (1, .int y0), (2, .ref q_fu)]) {H : Heap} {locs : List Loc} (hP : va_P (dC, dI) vwCl (w_dfu cI q_di q_pl q_dr q_jo q_fu vjn y1 y2 vP vD vJ y3) H) (hD : va_D A (w_dfu cI q_di q_pl q_dr q_jo q_fu vjn y1 y2 vP vD vJ y3)) (hS : va_S A s.heap H locs) (hf : f_D_setMark_0 y0 y1 y2 y3 = some r) : W p l e rm_D_setMark s m args below meth c H locs 0 0 (MQ below (jv_Qi r.1 (dC, dI) (w_dfu cI q_di q_pl q_dr q_jo q_fu vjn r.2.1 r.2.2.1 vP vD vJ r.2.2.2) A) args s 0 0 A) (F0 m 0 ls []) := by
  unfold f_D_setMark_0 at hf
  obtain ⟨hx, hb, hml, hown, hts, hr, hlocks⟩ := id cx
  refine lv_aload_n hx hb d_D_setMark_0 rfl (lv_at hl 0 rfl) ?_
  refine lv_aload_n hx hb d_D_setMark_1 rfl (lv_at hl 2 rfl) ?_
  obtain ⟨x1, g2, hf⟩ := jv_ob hf
  have hPc := hP.sub (ws' := (w_dfu cI q_di q_pl q_dr q_jo q_fu vjn y1 y2 vP vD vJ y3)) [0, 1, 2, 3, 4] rfl
  have hDc := hD.sub (ws' := (w_dfu cI q_di q_pl q_dr q_jo q_fu vjn y1 y2 vP vD vJ y3)) [0, 1, 2, 3, 4] (by decide) rfl
  have hFc := va_free (wc := (w_dfu cI q_di q_pl q_dr q_jo q_fu vjn y1 y2 vP vD vJ y3)) hD hS hA [0, 1, 2, 3, 4] rfl
  refine jv_cwi (va_runV (As := [.ref q_fu]) (rest := []) (b := q_di) ⟨hx, hb, hml, hown, hts⟩ (c_D_countWrite l dC dI cI cA cL q_di q_pl q_dr q_jo q_fu vjn y1 y2 vP vD vJ y3 H.size x1 g2) (jv_cwV hts wa_47 wa_29 wa_48 wa_49 wa_50 rfl rfl yd_D_countWrite ⟨Nat.le_of_ble_eq_true rfl, Nat.le_of_ble_eq_true rfl⟩) (jv_preVW hK hPc hDc 0 rfl rfl) rfl rfl hl.1 rfl (lv_room (Nat.le_of_ble_eq_true rfl)) d_D_setMark_2 ⟨Nat.zero_le _, Nat.zero_le _⟩) hS hFc (fun H1 locs hP1 hD1 hk1 hS => ?_)
  have hP : va_P (dC, dI) vwCl (w_dfu cI q_di q_pl q_dr q_jo q_fu vjn y1 x1.2.1 vP vD vJ x1.2.2) H1 := hP1.sub [0, 1, 2, 3, 4] rfl
  have hD : va_D A (w_dfu cI q_di q_pl q_dr q_jo q_fu vjn y1 x1.2.1 vP vD vJ x1.2.2) := (hD1.weaken (fun _ q _ h => hFc q.1 h)).sub [0, 1, 2, 3, 4] (by decide) rfl
  generalize H1 = H at hP hS ⊢
  refine lv_if_ne (tgt := 10) hx hb d_D_setMark_5 (by decide) (fun hc => ?_) (fun hc => ?_)
  · have hf := jv_if hf hc
    refine lv_aload_n hx hb d_D_setMark_10 rfl (lv_at hl 0 rfl) ?_
    refine lv_iload_n hx hb d_D_setMark_11 rfl (lv_at hl 1 rfl) ?_
    obtain ⟨hb3, hf⟩ := jv_gd hf
    refine va_put (D := (dC, dI)) (ci := kDisk) (v := .int y0) (ty := .boolean) (C := R_Disk) (T := T_Disk) (N := 6) hx hb hts (fun w h => List.mem_cons_of_mem _ (in_Disk w h)) ty_Disk tyok_Disk nm_Disk hown hK hP hD hS 0 rfl rfl 4 (by decide) (jv_w hts wa_27) (fun _ h9 => h9) rfl (by decide +kernel) (jv_nb hb3) (jv_fb hb3) (Nat.le_of_ble_eq_true rfl) d_D_setMark_12 (fun H locs hP hD hS => ?_)
    have hP : va_P (dC, dI) vwCl (w_dfu cI q_di q_pl q_dr q_jo q_fu vjn y0 x1.2.1 vP vD vJ x1.2.2) H := hP
    have hD : va_D A (w_dfu cI q_di q_pl q_dr q_jo q_fu vjn y0 x1.2.1 vP vD vJ x1.2.2) := hD
    refine lv_iconst (v := (1 : Int32)) hx hb d_D_setMark_15 (by decide) ?_
    obtain rfl := Option.some.inj hf
    exact W.zret hx hb hr rfl (fun t ht hW => ⟨rfl, by rw [ht]; exact hP, hD, hS.F ht⟩) hS.2.2 d_D_setMark_16
  · have hf := jv_it hf hc
    refine lv_iconst (v := (0 : Int32)) hx hb d_D_setMark_8 (by decide) ?_
    obtain rfl := Option.some.inj hf
    exact W.zret hx hb hr rfl (fun t ht hW => ⟨rfl, by rw [ht]; exact hP, hD, hS.F ht⟩) hS.2.2 d_D_setMark_9
def f_D_setMark (a0 : Int32) (vmk : Int32) (vwr : Int32) (vat : Int32) : Option (Int32 × Int32 × Int32 × Int32) := f_D_setMark_0 a0 vmk vwr vat
set_option maxHeartbeats 4000000 in
set_option maxRecDepth 100000 in
theorem c_D_setMark (l : Launch) (dC : Nat → ClassId) (dI : Nat → Nat → Nat) (cI cA cL : ClassId) (q_di q_pl q_dr q_jo q_fu : Nat) (vjn : Int32) (vmk : Int32) (vwr : Int32) (vP : Nat → Int32) (vD : Nat → Int32) (vJ : Nat → Int32) (vat : Int32) (a0 : Int32) (sz : Nat) (r : Int32 × Int32 × Int32 × Int32) (hf : f_D_setMark a0 vmk vwr vat = some r) : Met l y_D_setMark ws_D_setMark rm_D_setMark (jv_Pw [.ref q_di, .int a0, .ref q_fu] (dC, dI) (jv_ty cI cA cL) (w_dfu cI q_di q_pl q_dr q_jo q_fu vjn vmk vwr vP vD vJ vat) sz) (jv_Qi r.1 (dC, dI) (w_dfu cI q_di q_pl q_dr q_jo q_fu vjn r.2.1 r.2.2.1 vP vD vJ r.2.2.2) (va_A (w_dfu cI q_di q_pl q_dr q_jo q_fu vjn vmk vwr vP vD vJ vat) sz)) 0 0 (va_A (w_dfu cI q_di q_pl q_dr q_jo q_fu vjn vmk vwr vP vD vJ vat) sz) := by
  refine Met.ofW (cc := cc_D_setMark) (maxL := 3) (ret := (some .boolean)) (by decide) rfl ?_
  intro p e s m args below meth c s₁ B hml hv
  obtain ⟨rfl, hsz, hP, hK, hD0⟩ := hv
  have cx : jv_cx p s m _ meth c cc_D_setMark 3 R_Disk (some .boolean) ws_D_setMark := ⟨B.exec, B.bytes, hml, findClass_of_methodNamed B.named, atoms_spec (ws := ws_D_setMark) B.pre, B.returns, B.notSynchronized⟩
  subst hsz
  have hD := hD0.self (sz := s.heap.size)
  generalize hAe : va_A (w_dfu cI q_di q_pl q_dr q_jo q_fu vjn vmk vwr vP vD vJ vat) s.heap.size = A at hD ⊢
  have hA : ∀ q : Nat, s.heap.size ≤ q → A q := fun q h => by rw [← hAe]; exact Or.inr h
  have hS : va_S A s.heap s.heap [] := va_S.rf
  have hl := lv_entry ([.ref q_di, .int a0, .ref q_fu]) (n := 3) (Nat.le_of_ble_eq_true rfl)
  rw [lg_entry_eq]
  generalize (lg_sl ([.ref q_di, .int a0, .ref q_fu]) ++ List.replicate (3 - (lg_sl ([.ref q_di, .int a0, .ref q_fu])).length) Slot.unset).toArray = ls at hl ⊢
  have hl : lv_has ls 3 [(0, .ref q_di), (1, .int a0), (2, .ref q_fu)] := hl
  exact b_D_setMark_0 (y0 := a0) (y1 := vmk) (y2 := vwr) (y3 := vat) cx hK hA (lv_sub hl [0, 1, 2] rfl) hP hD hS hf
theorem d_D_fillJournal_0 : decode cc_D_fillJournal 0 = .ok (.aload_n 0, 1) := by decide +kernel
theorem d_D_fillJournal_1 : decode cc_D_fillJournal 1 = .ok (.iconst 0, 1) := by decide +kernel
theorem d_D_fillJournal_2 : decode cc_D_fillJournal 2 = .ok (.putfield 21, 3) := by decide +kernel
theorem d_D_fillJournal_5 : decode cc_D_fillJournal 5 = .ok (.iconst 0, 1) := by decide +kernel
theorem d_D_fillJournal_6 : decode cc_D_fillJournal 6 = .ok (.istore_n 3, 1) := by decide +kernel
theorem d_D_fillJournal_7 : decode cc_D_fillJournal 7 = .ok (.iload_n 3, 1) := by decide +kernel
theorem d_D_fillJournal_8 : decode cc_D_fillJournal 8 = .ok (.bipush 29, 2) := by decide +kernel
theorem d_D_fillJournal_10 : decode cc_D_fillJournal 10 = .ok (.if_icmp .ge 51, 3) := by decide +kernel
theorem d_D_fillJournal_61 : decode cc_D_fillJournal 61 = .ok (.iconst 1, 1) := by decide +kernel
theorem d_D_fillJournal_62 : decode cc_D_fillJournal 62 = .ok (.ireturn, 1) := by decide +kernel
theorem d_D_fillJournal_13 : decode cc_D_fillJournal 13 = .ok (.iload_n 1, 1) := by decide +kernel
theorem d_D_fillJournal_14 : decode cc_D_fillJournal 14 = .ok (.iload_n 3, 1) := by decide +kernel
theorem d_D_fillJournal_15 : decode cc_D_fillJournal 15 = .ok (.invokestatic 54, 3) := by decide +kernel
theorem d_D_fillJournal_18 : decode cc_D_fillJournal 18 = .ok (.ifCond .eq 37, 3) := by decide +kernel
theorem d_D_fillJournal_55 : decode cc_D_fillJournal 55 = .ok (.iinc 3 1, 3) := by decide +kernel
theorem d_D_fillJournal_58 : decode cc_D_fillJournal 58 = .ok (.goto (-51), 3) := by decide +kernel
theorem d_D_fillJournal_21 : decode cc_D_fillJournal 21 = .ok (.aload_n 0, 1) := by decide +kernel
theorem d_D_fillJournal_22 : decode cc_D_fillJournal 22 = .ok (.aload_n 2, 1) := by decide +kernel
theorem d_D_fillJournal_23 : decode cc_D_fillJournal 23 = .ok (.invokevirtual 65, 3) := by decide +kernel
theorem d_D_fillJournal_26 : decode cc_D_fillJournal 26 = .ok (.ifCond .ne 5, 3) := by decide +kernel
theorem d_D_fillJournal_31 : decode cc_D_fillJournal 31 = .ok (.aload_n 0, 1) := by decide +kernel
theorem d_D_fillJournal_32 : decode cc_D_fillJournal 32 = .ok (.getfield 15, 3) := by decide +kernel
theorem d_D_fillJournal_35 : decode cc_D_fillJournal 35 = .ok (.aload_n 0, 1) := by decide +kernel
theorem d_D_fillJournal_36 : decode cc_D_fillJournal 36 = .ok (.getfield 18, 3) := by decide +kernel
theorem d_D_fillJournal_39 : decode cc_D_fillJournal 39 = .ok (.iload_n 3, 1) := by decide +kernel
theorem d_D_fillJournal_40 : decode cc_D_fillJournal 40 = .ok (.invokestatic 58, 3) := by decide +kernel
theorem d_D_fillJournal_43 : decode cc_D_fillJournal 43 = .ok (.aload_n 0, 1) := by decide +kernel
theorem d_D_fillJournal_44 : decode cc_D_fillJournal 44 = .ok (.dup, 1) := by decide +kernel
theorem d_D_fillJournal_45 : decode cc_D_fillJournal 45 = .ok (.getfield 21, 3) := by decide +kernel
theorem d_D_fillJournal_48 : decode cc_D_fillJournal 48 = .ok (.iconst 1, 1) := by decide +kernel
theorem d_D_fillJournal_49 : decode cc_D_fillJournal 49 = .ok (.iload_n 3, 1) := by decide +kernel
theorem d_D_fillJournal_50 : decode cc_D_fillJournal 50 = .ok (.ishl, 1) := by decide +kernel
theorem d_D_fillJournal_51 : decode cc_D_fillJournal 51 = .ok (.ior, 1) := by decide +kernel
theorem d_D_fillJournal_52 : decode cc_D_fillJournal 52 = .ok (.putfield 21, 3) := by decide +kernel
theorem d_D_fillJournal_29 : decode cc_D_fillJournal 29 = .ok (.iconst 0, 1) := by decide +kernel
theorem d_D_fillJournal_30 : decode cc_D_fillJournal 30 = .ok (.ireturn, 1) := by decide +kernel
def f_D_fillJournal_7 (vD : Nat → Int32) (y0 : Int32) (k7 : (Int32 × Int32 × Int32 × (Nat → Int32) × Int32) → Option (Int32 × Int32 × Int32 × (Nat → Int32) × Int32)) (a : Int32 × Int32 × Int32 × (Nat → Int32) × Int32) : Option (Int32 × Int32 × Int32 × (Nat → Int32) × Int32) :=
  if (29 : Int32) ≤ a.1 then (some ((1 : Int32), a.2.1, a.2.2.1, a.2.2.2.1, a.2.2.2.2)) else ((f_D_isIn y0 a.1).bind fun x1 => if x1 = 0 then (k7 (a.1 + (1 : Int32), a.2.1, a.2.2.1, a.2.2.2.1, a.2.2.2.2)) else ((f_D_countWrite a.2.2.1 a.2.2.2.2).bind fun x3 => if x3.1 = 0 then (some ((0 : Int32), a.2.1, x3.2.1, a.2.2.2.1, x3.2.2)) else ((f_D_copyBlock vD a.1 a.2.2.2.1).bind fun x5 => k7 (a.1 + (1 : Int32), a.2.1 ||| ((1 : Int32) <<< (a.1 &&& 31)), x3.2.1, x5, x3.2.2))))
set_option maxHeartbeats 4000000 in
set_option maxRecDepth 100000 in
theorem b_D_fillJournal_7 {l : Launch} {dC : Nat → ClassId} {dI : Nat → Nat → Nat} {cI cA cL : ClassId} {q_di q_pl q_dr q_jo q_fu : Nat} {vmk : Int32} {vP : Nat → Int32} {vD : Nat → Int32} {p : Program} {e : Env} {s : State} {m : MethodId} {args : Array Value} {below : List Frame} {meth : Method} {c : Code} (cx : jv_cx p s m args meth c cc_D_fillJournal 4 R_Disk (some .boolean) ws_D_fillJournal) (hK : va_K (dC, dI) vwCl (jv_ty cI cA cL) s) {A : Nat → Prop} (hA : ∀ q : Nat, s.heap.size ≤ q → A q) {r : Int32 × Int32 × Int32 × (Nat → Int32) × Int32} {y0 : Int32} {k7 : (Int32 × Int32 × Int32 × (Nat → Int32) × Int32) → Option (Int32 × Int32 × Int32 × (Nat → Int32) × Int32)} (hk7 : ∀ (b0 : Int32) (b1 : Int32) (b2 : Int32) (b3 : Nat → Int32) (b4 : Int32) (ls : Array Slot) (H : Heap) (locs : List Loc), lv_has ls 4 [(0, .ref q_di), (1, .int y0), (2, .ref q_fu), (3, .int b0)] → va_P (dC, dI) vwCl (w_dfu cI q_di q_pl q_dr q_jo q_fu b1 vmk b2 vP vD b3 b4) H → va_D A (w_dfu cI q_di q_pl q_dr q_jo q_fu b1 vmk b2 vP vD b3 b4) → va_S A s.heap H locs → k7 (b0, b1, b2, b3, b4) = some r → W p l e rm_D_fillJournal s m args below meth c H locs 0 0 (MQ below (jv_Qi r.1 (dC, dI) (w_dfu cI q_di q_pl q_dr q_jo q_fu r.2.1 vmk r.2.2.1 vP vD r.2.2.2.1 r.2.2.2.2) A) args s 0 0 A) (F0 m 7 ls [])) {a : Int32 × Int32 × Int32 × (Nat → Int32) × Int32} {ls : Array Slot} (hl : lv_has ls 4 [(0, .ref q_di), (1, .int y0), (2, .ref q_fu), (3, .int a.1)]) {H : Heap} {locs : List Loc} (hP : va_P (dC, dI) vwCl (w_dfu cI q_di q_pl q_dr q_jo q_fu a.2.1 vmk a.2.2.1 vP vD a.2.2.2.1 a.2.2.2.2) H) (hD : va_D A (w_dfu cI q_di q_pl q_dr q_jo q_fu a.2.1 vmk a.2.2.1 vP vD a.2.2.2.1 a.2.2.2.2)) (hS : va_S A s.heap H locs) (hf : f_D_fillJournal_7 vD y0 k7 a = some r) : W p l e rm_D_fillJournal s m args below meth c H locs 0 0 (MQ below (jv_Qi r.1 (dC, dI) (w_dfu cI q_di q_pl q_dr q_jo q_fu r.2.1 vmk r.2.2.1 vP vD r.2.2.2.1 r.2.2.2.2) A) args s 0 0 A) (F0 m 7 ls []) := by
  unfold f_D_fillJournal_7 at hf
  obtain ⟨hx, hb, hml, hown, hts, hr, hlocks⟩ := id cx
  refine lv_iload_n hx hb d_D_fillJournal_7 rfl (lv_at hl 3 rfl) ?_
  refine lv_bipush (v := (29 : Int32)) hx hb d_D_fillJournal_8 (by decide) ?_
  refine lv_icmp_ge (tgt := 61) hx hb d_D_fillJournal_10 (by decide) (fun hc => ?_) (fun hc => ?_)
  · have hf := jv_it hf hc
    refine lv_iconst (v := (1 : Int32)) hx hb d_D_fillJournal_61 (by decide) ?_
    obtain rfl := Option.some.inj hf
    exact W.zret hx hb hr rfl (fun t ht hW => ⟨rfl, by rw [ht]; exact hP, hD, hS.F ht⟩) hS.2.2 d_D_fillJournal_62
  · have hf := jv_if hf hc
    refine lv_iload_n hx hb d_D_fillJournal_13 rfl (lv_at hl 1 rfl) ?_
    refine lv_iload_n hx hb d_D_fillJournal_14 rfl (lv_at hl 3 rfl) ?_
    obtain ⟨x1, g2, hf⟩ := jv_ob hf
    refine jv_cs (W.runS (As := [.int y0, .int a.1]) (rest := []) ⟨hx, hb, hml, hown, hts⟩ (c_D_isIn l y0 a.1 x1 g2) (jv_cwS hts wa_34 wa_29 wa_35 wa_36 rfl rfl yd_D_isIn ⟨Nat.le_of_ble_eq_true rfl, Nat.le_of_ble_eq_true rfl⟩) jv_pre0 rfl rfl hl.1 rfl (lv_room (Nat.le_of_ble_eq_true rfl)) d_D_fillJournal_15 ⟨Nat.zero_le _, Nat.zero_le _⟩) ?_
    refine lv_if_eq (tgt := 55) hx hb d_D_fillJournal_18 (by decide) (fun hc => ?_) (fun hc => ?_)
    · have hf := jv_it hf hc
      refine lv_iinc (k := 3) (v := a.1 + (1 : Int32)) (lv' := [(3, .int (a.1 + (1 : Int32))), (0, .ref q_di), (1, .int y0), (2, .ref q_fu)]) hx hb d_D_fillJournal_55 hl rfl (jv_inc _) (by decide) rfl (fun ls hl => ?_)
      refine lv_goto (tgt := 7) hx hb d_D_fillJournal_58 (by decide) ?_
      exact hk7 (a.1 + (1 : Int32)) a.2.1 a.2.2.1 a.2.2.2.1 a.2.2.2.2 _ _ _ (lv_sub hl [1, 2, 3, 0] rfl) hP hD hS hf
    · have hf := jv_if hf hc
      refine lv_aload_n hx hb d_D_fillJournal_21 rfl (lv_at hl 0 rfl) ?_
      refine lv_aload_n hx hb d_D_fillJournal_22 rfl (lv_at hl 2 rfl) ?_
      obtain ⟨x3, g4, hf⟩ := jv_ob hf
      have hPc := hP.sub (ws' := (w_dfu cI q_di q_pl q_dr q_jo q_fu a.2.1 vmk a.2.2.1 vP vD a.2.2.2.1 a.2.2.2.2)) [0, 1, 2, 3, 4] rfl
      have hDc := hD.sub (ws' := (w_dfu cI q_di q_pl q_dr q_jo q_fu a.2.1 vmk a.2.2.1 vP vD a.2.2.2.1 a.2.2.2.2)) [0, 1, 2, 3, 4] (by decide) rfl
      have hFc := va_free (wc := (w_dfu cI q_di q_pl q_dr q_jo q_fu a.2.1 vmk a.2.2.1 vP vD a.2.2.2.1 a.2.2.2.2)) hD hS hA [0, 1, 2, 3, 4] rfl
      refine jv_cwi (va_runV (As := [.ref q_fu]) (rest := []) (b := q_di) ⟨hx, hb, hml, hown, hts⟩ (c_D_countWrite l dC dI cI cA cL q_di q_pl q_dr q_jo q_fu a.2.1 vmk a.2.2.1 vP vD a.2.2.2.1 a.2.2.2.2 H.size x3 g4) (jv_cwV hts wa_47 wa_29 wa_48 wa_49 wa_50 rfl rfl yd_D_countWrite ⟨Nat.le_of_ble_eq_true rfl, Nat.le_of_ble_eq_true rfl⟩) (jv_preVW hK hPc hDc 0 rfl rfl) rfl rfl hl.1 rfl (lv_room (Nat.le_of_ble_eq_true rfl)) d_D_fillJournal_23 ⟨Nat.zero_le _, Nat.zero_le _⟩) hS hFc (fun H1 locs hP1 hD1 hk1 hS => ?_)
      have hP : va_P (dC, dI) vwCl (w_dfu cI q_di q_pl q_dr q_jo q_fu a.2.1 vmk x3.2.1 vP vD a.2.2.2.1 x3.2.2) H1 := hP1.sub [0, 1, 2, 3, 4] rfl
      have hD : va_D A (w_dfu cI q_di q_pl q_dr q_jo q_fu a.2.1 vmk x3.2.1 vP vD a.2.2.2.1 x3.2.2) := (hD1.weaken (fun _ q _ h => hFc q.1 h)).sub [0, 1, 2, 3, 4] (by decide) rfl
      generalize H1 = H at hP hS ⊢
      refine lv_if_ne (tgt := 31) hx hb d_D_fillJournal_26 (by decide) (fun hc => ?_) (fun hc => ?_)
      · have hf := jv_if hf hc
        refine lv_aload_n hx hb d_D_fillJournal_31 rfl (lv_at hl 0 rfl) ?_
        refine va_get (D := (dC, dI)) (ci := kDisk) (v := .ref q_dr) (C := R_Disk) (T := T_Disk) (N := 6) hx hb hts (fun w h => List.mem_cons_of_mem _ (in_Disk w h)) hown hK hP 0 rfl rfl 1 (by decide) (jv_w hts wa_22) (fun _ h9 => h9) rfl d_D_fillJournal_32 ?_
        refine lv_aload_n hx hb d_D_fillJournal_35 rfl (lv_at hl 0 rfl) ?_
        refine va_get (D := (dC, dI)) (ci := kDisk) (v := .ref q_jo) (C := R_Disk) (T := T_Disk) (N := 6) hx hb hts (fun w h => List.mem_cons_of_mem _ (in_Disk w h)) hown hK hP 0 rfl rfl 2 (by decide) (jv_w hts wa_37) (fun _ h9 => h9) rfl d_D_fillJournal_36 ?_
        refine lv_iload_n hx hb d_D_fillJournal_39 rfl (lv_at hl 3 rfl) ?_
        obtain ⟨x5, g6, hf⟩ := jv_ob hf
        have hPc := hP.sub (ws' := (w_two cI q_dr q_jo vD a.2.2.2.1)) [2, 3] rfl
        have hDc := hD.sub (ws' := (w_two cI q_dr q_jo vD a.2.2.2.1)) [2, 3] (by decide) rfl
        have hFc := va_free (wc := (w_two cI q_dr q_jo vD a.2.2.2.1)) hD hS hA [2, 3] rfl
        refine jv_cwv (va_runS (As := [.ref q_dr, .ref q_jo, .int a.1]) (rest := []) ⟨hx, hb, hml, hown, hts⟩ (c_D_copyBlock l dC dI cI cA cL q_dr q_jo vD a.2.2.2.1 a.1 H.size x5 g6) (jv_cwS hts wa_38 wa_29 wa_39 wa_40 rfl rfl yd_D_copyBlock ⟨Nat.le_of_ble_eq_true rfl, Nat.le_of_ble_eq_true rfl⟩) (jv_preSW hK hPc hDc) rfl rfl hl.1 rfl (lv_room (Nat.le_of_ble_eq_true rfl)) d_D_fillJournal_40 ⟨Nat.zero_le _, Nat.zero_le _⟩) hS hFc (fun H1 locs hP1 hD1 hk1 hS => ?_)
        obtain ⟨hP, hD⟩ := va_join (wc := (w_two cI q_dr q_jo vD a.2.2.2.1)) (wr := [(q_di, .inr (kDisk, [.ref q_pl, .ref q_dr, .ref q_jo, .int a.2.1, .int vmk, .int x3.2.1])), (q_pl, .inl (cI, 232, .inl vP)), (q_fu, .inr (kFuse, [.int x3.2.2]))]) (w1 := (w_two cI q_dr q_jo vD x5)) hP hD [2, 3] [0, 1, 4] rfl rfl (by decide) (by decide) hk1 hFc hP1 hD1
        have hP : va_P (dC, dI) vwCl (w_dfu cI q_di q_pl q_dr q_jo q_fu a.2.1 vmk x3.2.1 vP vD x5 x3.2.2) H1 := hP.sub [0, 1, 3, 4, 2] rfl
        have hD : va_D A (w_dfu cI q_di q_pl q_dr q_jo q_fu a.2.1 vmk x3.2.1 vP vD x5 x3.2.2) := hD.sub [0, 1, 3, 4, 2] (by decide) rfl
        generalize H1 = H at hP hS ⊢
        refine lv_aload_n hx hb d_D_fillJournal_43 rfl (lv_at hl 0 rfl) ?_
        refine lv_dup hx hb d_D_fillJournal_44 rfl ?_
        refine va_get (D := (dC, dI)) (ci := kDisk) (v := .int a.2.1) (C := R_Disk) (T := T_Disk) (N := 6) hx hb hts (fun w h => List.mem_cons_of_mem _ (in_Disk w h)) hown hK hP 0 rfl rfl 3 (by decide) (jv_w hts wa_33) (fun _ h9 => h9) rfl d_D_fillJournal_45 ?_
        refine lv_iconst (v := (1 : Int32)) hx hb d_D_fillJournal_48 (by decide) ?_
        refine lv_iload_n hx hb d_D_fillJournal_49 rfl (lv_at hl 3 rfl) ?_
        refine lv_ishl hx hb d_D_fillJournal_50 ?_
        refine lv_ior hx hb d_D_fillJournal_51 ?_
        refine va_put (D := (dC, dI)) (ci := kDisk) (v := .int (a.2.1 ||| ((1 : Int32) <<< (a.1 &&& 31)))) (ty := .int) (C := R_Disk) (T := T_Disk) (N := 6) hx hb hts (fun w h => List.mem_cons_of_mem _ (in_Disk w h)) ty_Disk tyok_Disk nm_Disk hown hK hP hD hS 0 rfl rfl 3 (by decide) (jv_w hts wa_33) (fun _ h9 => h9) rfl (by decide +kernel) rfl rfl (Nat.le_of_ble_eq_true rfl) d_D_fillJournal_52 (fun H locs hP hD hS => ?_)
        have hP : va_P (dC, dI) vwCl (w_dfu cI q_di q_pl q_dr q_jo q_fu (a.2.1 ||| ((1 : Int32) <<< (a.1 &&& 31))) vmk x3.2.1 vP vD x5 x3.2.2) H := hP
        have hD : va_D A (w_dfu cI q_di q_pl q_dr q_jo q_fu (a.2.1 ||| ((1 : Int32) <<< (a.1 &&& 31))) vmk x3.2.1 vP vD x5 x3.2.2) := hD
        refine lv_iinc (k := 3) (v := a.1 + (1 : Int32)) (lv' := [(3, .int (a.1 + (1 : Int32))), (0, .ref q_di), (1, .int y0), (2, .ref q_fu)]) hx hb d_D_fillJournal_55 hl rfl (jv_inc _) (by decide) rfl (fun ls hl => ?_)
        refine lv_goto (tgt := 7) hx hb d_D_fillJournal_58 (by decide) ?_
        exact hk7 (a.1 + (1 : Int32)) (a.2.1 ||| ((1 : Int32) <<< (a.1 &&& 31))) x3.2.1 x5 x3.2.2 _ _ _ (lv_sub hl [1, 2, 3, 0] rfl) hP hD hS hf
      · have hf := jv_it hf hc
        refine lv_iconst (v := (0 : Int32)) hx hb d_D_fillJournal_29 (by decide) ?_
        obtain rfl := Option.some.inj hf
        exact W.zret hx hb hr rfl (fun t ht hW => ⟨rfl, by rw [ht]; exact hP, hD, hS.F ht⟩) hS.2.2 d_D_fillJournal_30
set_option maxHeartbeats 4000000 in
set_option maxRecDepth 100000 in
theorem l_D_fillJournal_7 {l : Launch} {dC : Nat → ClassId} {dI : Nat → Nat → Nat} {cI cA cL : ClassId} {q_di q_pl q_dr q_jo q_fu : Nat} {vmk : Int32} {vP : Nat → Int32} {vD : Nat → Int32} {p : Program} {e : Env} {s : State} {m : MethodId} {args : Array Value} {below : List Frame} {meth : Method} {c : Code} (cx : jv_cx p s m args meth c cc_D_fillJournal 4 R_Disk (some .boolean) ws_D_fillJournal) (hK : va_K (dC, dI) vwCl (jv_ty cI cA cL) s) {A : Nat → Prop} (hA : ∀ q : Nat, s.heap.size ≤ q → A q) {r : Int32 × Int32 × Int32 × (Nat → Int32) × Int32} {y0 : Int32} : ∀ n : Nat, ∀ (b0 : Int32) (b1 : Int32) (b2 : Int32) (b3 : Nat → Int32) (b4 : Int32) (ls : Array Slot) (H : Heap) (locs : List Loc), lv_has ls 4 [(0, .ref q_di), (1, .int y0), (2, .ref q_fu), (3, .int b0)] → va_P (dC, dI) vwCl (w_dfu cI q_di q_pl q_dr q_jo q_fu b1 vmk b2 vP vD b3 b4) H → va_D A (w_dfu cI q_di q_pl q_dr q_jo q_fu b1 vmk b2 vP vD b3 b4) → va_S A s.heap H locs → jv_fx (f_D_fillJournal_7 vD y0) n (b0, b1, b2, b3, b4) = some r → W p l e rm_D_fillJournal s m args below meth c H locs 0 0 (MQ below (jv_Qi r.1 (dC, dI) (w_dfu cI q_di q_pl q_dr q_jo q_fu r.2.1 vmk r.2.2.1 vP vD r.2.2.2.1 r.2.2.2.2) A) args s 0 0 A) (F0 m 7 ls []) := by
  intro n
  induction n with
  | zero => intro b0 b1 b2 b3 b4 ls H locs hl hP hD hS hf; exact jv_no hf
  | succ n ih => intro b0 b1 b2 b3 b4 ls H locs hl hP hD hS hf; exact b_D_fillJournal_7 (a := (b0, b1, b2, b3, b4)) cx hK hA ih hl hP hD hS hf
def f_D_fillJournal_0 (vD : Nat → Int32) (y0 : Int32) (y1 : Int32) (y2 : Int32) (y3 : Nat → Int32) (y4 : Int32) : Option (Int32 × Int32 × Int32 × (Nat → Int32) × Int32) :=
  jv_fx (f_D_fillJournal_7 vD y0) 300 ((0 : Int32), (0 : Int32), y2, y3, y4)
set_option maxHeartbeats 4000000 in
set_option maxRecDepth 100000 in
theorem b_D_fillJournal_0 {l : Launch} {dC : Nat → ClassId} {dI : Nat → Nat → Nat} {cI cA cL : ClassId} {q_di q_pl q_dr q_jo q_fu : Nat} {vmk : Int32} {vP : Nat → Int32} {vD : Nat → Int32} {p : Program} {e : Env} {s : State} {m : MethodId} {args : Array Value} {below : List Frame} {meth : Method} {c : Code} (cx : jv_cx p s m args meth c cc_D_fillJournal 4 R_Disk (some .boolean) ws_D_fillJournal) (hK : va_K (dC, dI) vwCl (jv_ty cI cA cL) s) {A : Nat → Prop} (hA : ∀ q : Nat, s.heap.size ≤ q → A q) {r : Int32 × Int32 × Int32 × (Nat → Int32) × Int32} {y0 : Int32} {y1 : Int32} {y2 : Int32} {y3 : Nat → Int32} {y4 : Int32} {ls : Array Slot} (hl : lv_has ls 4 [(0, .ref q_di), (1, .int y0), (2, .ref q_fu)]) {H : Heap} {locs : List Loc} (hP : va_P (dC, dI) vwCl (w_dfu cI q_di q_pl q_dr q_jo q_fu y1 vmk y2 vP vD y3 y4) H) (hD : va_D A (w_dfu cI q_di q_pl q_dr q_jo q_fu y1 vmk y2 vP vD y3 y4)) (hS : va_S A s.heap H locs) (hf : f_D_fillJournal_0 vD y0 y1 y2 y3 y4 = some r) : W p l e rm_D_fillJournal s m args below meth c H locs 0 0 (MQ below (jv_Qi r.1 (dC, dI) (w_dfu cI q_di q_pl q_dr q_jo q_fu r.2.1 vmk r.2.2.1 vP vD r.2.2.2.1 r.2.2.2.2) A) args s 0 0 A) (F0 m 0 ls []) := by
  unfold f_D_fillJournal_0 at hf
  obtain ⟨hx, hb, hml, hown, hts, hr, hlocks⟩ := id cx
  refine lv_aload_n hx hb d_D_fillJournal_0 rfl (lv_at hl 0 rfl) ?_
  refine lv_iconst (v := (0 : Int32)) hx hb d_D_fillJournal_1 (by decide) ?_
  refine va_put (D := (dC, dI)) (ci := kDisk) (v := .int (0 : Int32)) (ty := .int) (C := R_Disk) (T := T_Disk) (N := 6) hx hb hts (fun w h => List.mem_cons_of_mem _ (in_Disk w h)) ty_Disk tyok_Disk nm_Disk hown hK hP hD hS 0 rfl rfl 3 (by decide) (jv_w hts wa_33) (fun _ h9 => h9) rfl (by decide +kernel) rfl rfl (Nat.le_of_ble_eq_true rfl) d_D_fillJournal_2 (fun H locs hP hD hS => ?_)
  have hP : va_P (dC, dI) vwCl (w_dfu cI q_di q_pl q_dr q_jo q_fu (0 : Int32) vmk y2 vP vD y3 y4) H := hP
  have hD : va_D A (w_dfu cI q_di q_pl q_dr q_jo q_fu (0 : Int32) vmk y2 vP vD y3 y4) := hD
  refine lv_iconst (v := (0 : Int32)) hx hb d_D_fillJournal_5 (by decide) ?_
  refine lv_istore_n (lv' := [(3, .int (0 : Int32)), (0, .ref q_di), (1, .int y0), (2, .ref q_fu)]) hx hb d_D_fillJournal_6 rfl hl (by decide) rfl (fun ls hl => ?_)
  exact l_D_fillJournal_7 (y0 := y0) cx hK hA 300 (0 : Int32) (0 : Int32) y2 y3 y4 _ _ _ (lv_sub hl [1, 2, 3, 0] rfl) hP hD hS hf
def f_D_fillJournal (vD : Nat → Int32) (a0 : Int32) (vjn : Int32) (vwr : Int32) (vJ : Nat → Int32) (vat : Int32) : Option (Int32 × Int32 × Int32 × (Nat → Int32) × Int32) := f_D_fillJournal_0 vD a0 vjn vwr vJ vat
set_option maxHeartbeats 4000000 in
set_option maxRecDepth 100000 in
theorem c_D_fillJournal (l : Launch) (dC : Nat → ClassId) (dI : Nat → Nat → Nat) (cI cA cL : ClassId) (q_di q_pl q_dr q_jo q_fu : Nat) (vjn : Int32) (vmk : Int32) (vwr : Int32) (vP : Nat → Int32) (vD : Nat → Int32) (vJ : Nat → Int32) (vat : Int32) (a0 : Int32) (sz : Nat) (r : Int32 × Int32 × Int32 × (Nat → Int32) × Int32) (hf : f_D_fillJournal vD a0 vjn vwr vJ vat = some r) : Met l y_D_fillJournal ws_D_fillJournal rm_D_fillJournal (jv_Pw [.ref q_di, .int a0, .ref q_fu] (dC, dI) (jv_ty cI cA cL) (w_dfu cI q_di q_pl q_dr q_jo q_fu vjn vmk vwr vP vD vJ vat) sz) (jv_Qi r.1 (dC, dI) (w_dfu cI q_di q_pl q_dr q_jo q_fu r.2.1 vmk r.2.2.1 vP vD r.2.2.2.1 r.2.2.2.2) (va_A (w_dfu cI q_di q_pl q_dr q_jo q_fu vjn vmk vwr vP vD vJ vat) sz)) 0 0 (va_A (w_dfu cI q_di q_pl q_dr q_jo q_fu vjn vmk vwr vP vD vJ vat) sz) := by
  refine Met.ofW (cc := cc_D_fillJournal) (maxL := 4) (ret := (some .boolean)) (by decide) rfl ?_
  intro p e s m args below meth c s₁ B hml hv
  obtain ⟨rfl, hsz, hP, hK, hD0⟩ := hv
  have cx : jv_cx p s m _ meth c cc_D_fillJournal 4 R_Disk (some .boolean) ws_D_fillJournal := ⟨B.exec, B.bytes, hml, findClass_of_methodNamed B.named, atoms_spec (ws := ws_D_fillJournal) B.pre, B.returns, B.notSynchronized⟩
  subst hsz
  have hD := hD0.self (sz := s.heap.size)
  generalize hAe : va_A (w_dfu cI q_di q_pl q_dr q_jo q_fu vjn vmk vwr vP vD vJ vat) s.heap.size = A at hD ⊢
  have hA : ∀ q : Nat, s.heap.size ≤ q → A q := fun q h => by rw [← hAe]; exact Or.inr h
  have hS : va_S A s.heap s.heap [] := va_S.rf
  have hl := lv_entry ([.ref q_di, .int a0, .ref q_fu]) (n := 4) (Nat.le_of_ble_eq_true rfl)
  rw [lg_entry_eq]
  generalize (lg_sl ([.ref q_di, .int a0, .ref q_fu]) ++ List.replicate (4 - (lg_sl ([.ref q_di, .int a0, .ref q_fu])).length) Slot.unset).toArray = ls at hl ⊢
  have hl : lv_has ls 4 [(0, .ref q_di), (1, .int a0), (2, .ref q_fu)] := hl
  exact b_D_fillJournal_0 (y0 := a0) (y1 := vjn) (y2 := vwr) (y3 := vJ) (y4 := vat) cx hK hA (lv_sub hl [0, 1, 2] rfl) hP hD hS hf
theorem d_D_fillPlaces_0 : decode cc_D_fillPlaces 0 = .ok (.iconst 0, 1) := by decide +kernel
theorem d_D_fillPlaces_1 : decode cc_D_fillPlaces 1 = .ok (.istore_n 2, 1) := by decide +kernel
theorem d_D_fillPlaces_2 : decode cc_D_fillPlaces 2 = .ok (.iload_n 2, 1) := by decide +kernel
theorem d_D_fillPlaces_3 : decode cc_D_fillPlaces 3 = .ok (.bipush 29, 2) := by decide +kernel
theorem d_D_fillPlaces_5 : decode cc_D_fillPlaces 5 = .ok (.if_icmp .ge 42, 3) := by decide +kernel
theorem d_D_fillPlaces_47 : decode cc_D_fillPlaces 47 = .ok (.iconst 1, 1) := by decide +kernel
theorem d_D_fillPlaces_48 : decode cc_D_fillPlaces 48 = .ok (.ireturn, 1) := by decide +kernel
theorem d_D_fillPlaces_8 : decode cc_D_fillPlaces 8 = .ok (.aload_n 0, 1) := by decide +kernel
theorem d_D_fillPlaces_9 : decode cc_D_fillPlaces 9 = .ok (.getfield 21, 3) := by decide +kernel
theorem d_D_fillPlaces_12 : decode cc_D_fillPlaces 12 = .ok (.iload_n 2, 1) := by decide +kernel
theorem d_D_fillPlaces_13 : decode cc_D_fillPlaces 13 = .ok (.invokestatic 54, 3) := by decide +kernel
theorem d_D_fillPlaces_16 : decode cc_D_fillPlaces 16 = .ok (.ifCond .eq 25, 3) := by decide +kernel
theorem d_D_fillPlaces_41 : decode cc_D_fillPlaces 41 = .ok (.iinc 2 1, 3) := by decide +kernel
theorem d_D_fillPlaces_44 : decode cc_D_fillPlaces 44 = .ok (.goto (-42), 3) := by decide +kernel
theorem d_D_fillPlaces_19 : decode cc_D_fillPlaces 19 = .ok (.aload_n 0, 1) := by decide +kernel
theorem d_D_fillPlaces_20 : decode cc_D_fillPlaces 20 = .ok (.aload_n 1, 1) := by decide +kernel
theorem d_D_fillPlaces_21 : decode cc_D_fillPlaces 21 = .ok (.invokevirtual 65, 3) := by decide +kernel
theorem d_D_fillPlaces_24 : decode cc_D_fillPlaces 24 = .ok (.ifCond .ne 5, 3) := by decide +kernel
theorem d_D_fillPlaces_29 : decode cc_D_fillPlaces 29 = .ok (.aload_n 0, 1) := by decide +kernel
theorem d_D_fillPlaces_30 : decode cc_D_fillPlaces 30 = .ok (.getfield 18, 3) := by decide +kernel
theorem d_D_fillPlaces_33 : decode cc_D_fillPlaces 33 = .ok (.aload_n 0, 1) := by decide +kernel
theorem d_D_fillPlaces_34 : decode cc_D_fillPlaces 34 = .ok (.getfield 11, 3) := by decide +kernel
theorem d_D_fillPlaces_37 : decode cc_D_fillPlaces 37 = .ok (.iload_n 2, 1) := by decide +kernel
theorem d_D_fillPlaces_38 : decode cc_D_fillPlaces 38 = .ok (.invokestatic 58, 3) := by decide +kernel
theorem d_D_fillPlaces_27 : decode cc_D_fillPlaces 27 = .ok (.iconst 0, 1) := by decide +kernel
theorem d_D_fillPlaces_28 : decode cc_D_fillPlaces 28 = .ok (.ireturn, 1) := by decide +kernel
def f_D_fillPlaces_2 (vjn : Int32) (vJ : Nat → Int32) (k2 : (Int32 × Int32 × (Nat → Int32) × Int32) → Option (Int32 × Int32 × (Nat → Int32) × Int32)) (a : Int32 × Int32 × (Nat → Int32) × Int32) : Option (Int32 × Int32 × (Nat → Int32) × Int32) :=
  if (29 : Int32) ≤ a.1 then (some ((1 : Int32), a.2.1, a.2.2.1, a.2.2.2)) else ((f_D_isIn vjn a.1).bind fun x1 => if x1 = 0 then (k2 (a.1 + (1 : Int32), a.2.1, a.2.2.1, a.2.2.2)) else ((f_D_countWrite a.2.1 a.2.2.2).bind fun x3 => if x3.1 = 0 then (some ((0 : Int32), x3.2.1, a.2.2.1, x3.2.2)) else ((f_D_copyBlock vJ a.1 a.2.2.1).bind fun x5 => k2 (a.1 + (1 : Int32), x3.2.1, x5, x3.2.2))))
set_option maxHeartbeats 4000000 in
set_option maxRecDepth 100000 in
theorem b_D_fillPlaces_2 {l : Launch} {dC : Nat → ClassId} {dI : Nat → Nat → Nat} {cI cA cL : ClassId} {q_di q_pl q_dr q_jo q_fu : Nat} {vjn : Int32} {vmk : Int32} {vD : Nat → Int32} {vJ : Nat → Int32} {p : Program} {e : Env} {s : State} {m : MethodId} {args : Array Value} {below : List Frame} {meth : Method} {c : Code} (cx : jv_cx p s m args meth c cc_D_fillPlaces 3 R_Disk (some .boolean) ws_D_fillPlaces) (hK : va_K (dC, dI) vwCl (jv_ty cI cA cL) s) {A : Nat → Prop} (hA : ∀ q : Nat, s.heap.size ≤ q → A q) {r : Int32 × Int32 × (Nat → Int32) × Int32} {k2 : (Int32 × Int32 × (Nat → Int32) × Int32) → Option (Int32 × Int32 × (Nat → Int32) × Int32)} (hk2 : ∀ (b0 : Int32) (b1 : Int32) (b2 : Nat → Int32) (b3 : Int32) (ls : Array Slot) (H : Heap) (locs : List Loc), lv_has ls 3 [(0, .ref q_di), (1, .ref q_fu), (2, .int b0)] → va_P (dC, dI) vwCl (w_dfu cI q_di q_pl q_dr q_jo q_fu vjn vmk b1 b2 vD vJ b3) H → va_D A (w_dfu cI q_di q_pl q_dr q_jo q_fu vjn vmk b1 b2 vD vJ b3) → va_S A s.heap H locs → k2 (b0, b1, b2, b3) = some r → W p l e rm_D_fillPlaces s m args below meth c H locs 0 0 (MQ below (jv_Qi r.1 (dC, dI) (w_dfu cI q_di q_pl q_dr q_jo q_fu vjn vmk r.2.1 r.2.2.1 vD vJ r.2.2.2) A) args s 0 0 A) (F0 m 2 ls [])) {a : Int32 × Int32 × (Nat → Int32) × Int32} {ls : Array Slot} (hl : lv_has ls 3 [(0, .ref q_di), (1, .ref q_fu), (2, .int a.1)]) {H : Heap} {locs : List Loc} (hP : va_P (dC, dI) vwCl (w_dfu cI q_di q_pl q_dr q_jo q_fu vjn vmk a.2.1 a.2.2.1 vD vJ a.2.2.2) H) (hD : va_D A (w_dfu cI q_di q_pl q_dr q_jo q_fu vjn vmk a.2.1 a.2.2.1 vD vJ a.2.2.2)) (hS : va_S A s.heap H locs) (hf : f_D_fillPlaces_2 vjn vJ k2 a = some r) : W p l e rm_D_fillPlaces s m args below meth c H locs 0 0 (MQ below (jv_Qi r.1 (dC, dI) (w_dfu cI q_di q_pl q_dr q_jo q_fu vjn vmk r.2.1 r.2.2.1 vD vJ r.2.2.2) A) args s 0 0 A) (F0 m 2 ls []) := by
  unfold f_D_fillPlaces_2 at hf
  obtain ⟨hx, hb, hml, hown, hts, hr, hlocks⟩ := id cx
  refine lv_iload_n hx hb d_D_fillPlaces_2 rfl (lv_at hl 2 rfl) ?_
  refine lv_bipush (v := (29 : Int32)) hx hb d_D_fillPlaces_3 (by decide) ?_
  refine lv_icmp_ge (tgt := 47) hx hb d_D_fillPlaces_5 (by decide) (fun hc => ?_) (fun hc => ?_)
  · have hf := jv_it hf hc
    refine lv_iconst (v := (1 : Int32)) hx hb d_D_fillPlaces_47 (by decide) ?_
    obtain rfl := Option.some.inj hf
    exact W.zret hx hb hr rfl (fun t ht hW => ⟨rfl, by rw [ht]; exact hP, hD, hS.F ht⟩) hS.2.2 d_D_fillPlaces_48
  · have hf := jv_if hf hc
    refine lv_aload_n hx hb d_D_fillPlaces_8 rfl (lv_at hl 0 rfl) ?_
    refine va_get (D := (dC, dI)) (ci := kDisk) (v := .int vjn) (C := R_Disk) (T := T_Disk) (N := 6) hx hb hts (fun w h => List.mem_cons_of_mem _ (in_Disk w h)) hown hK hP 0 rfl rfl 3 (by decide) (jv_w hts wa_33) (fun _ h9 => h9) rfl d_D_fillPlaces_9 ?_
    refine lv_iload_n hx hb d_D_fillPlaces_12 rfl (lv_at hl 2 rfl) ?_
    obtain ⟨x1, g2, hf⟩ := jv_ob hf
    refine jv_cs (W.runS (As := [.int vjn, .int a.1]) (rest := []) ⟨hx, hb, hml, hown, hts⟩ (c_D_isIn l vjn a.1 x1 g2) (jv_cwS hts wa_34 wa_29 wa_35 wa_36 rfl rfl yd_D_isIn ⟨Nat.le_of_ble_eq_true rfl, Nat.le_of_ble_eq_true rfl⟩) jv_pre0 rfl rfl hl.1 rfl (lv_room (Nat.le_of_ble_eq_true rfl)) d_D_fillPlaces_13 ⟨Nat.zero_le _, Nat.zero_le _⟩) ?_
    refine lv_if_eq (tgt := 41) hx hb d_D_fillPlaces_16 (by decide) (fun hc => ?_) (fun hc => ?_)
    · have hf := jv_it hf hc
      refine lv_iinc (k := 2) (v := a.1 + (1 : Int32)) (lv' := [(2, .int (a.1 + (1 : Int32))), (0, .ref q_di), (1, .ref q_fu)]) hx hb d_D_fillPlaces_41 hl rfl (jv_inc _) (by decide) rfl (fun ls hl => ?_)
      refine lv_goto (tgt := 2) hx hb d_D_fillPlaces_44 (by decide) ?_
      exact hk2 (a.1 + (1 : Int32)) a.2.1 a.2.2.1 a.2.2.2 _ _ _ (lv_sub hl [1, 2, 0] rfl) hP hD hS hf
    · have hf := jv_if hf hc
      refine lv_aload_n hx hb d_D_fillPlaces_19 rfl (lv_at hl 0 rfl) ?_
      refine lv_aload_n hx hb d_D_fillPlaces_20 rfl (lv_at hl 1 rfl) ?_
      obtain ⟨x3, g4, hf⟩ := jv_ob hf
      have hPc := hP.sub (ws' := (w_dfu cI q_di q_pl q_dr q_jo q_fu vjn vmk a.2.1 a.2.2.1 vD vJ a.2.2.2)) [0, 1, 2, 3, 4] rfl
      have hDc := hD.sub (ws' := (w_dfu cI q_di q_pl q_dr q_jo q_fu vjn vmk a.2.1 a.2.2.1 vD vJ a.2.2.2)) [0, 1, 2, 3, 4] (by decide) rfl
      have hFc := va_free (wc := (w_dfu cI q_di q_pl q_dr q_jo q_fu vjn vmk a.2.1 a.2.2.1 vD vJ a.2.2.2)) hD hS hA [0, 1, 2, 3, 4] rfl
      refine jv_cwi (va_runV (As := [.ref q_fu]) (rest := []) (b := q_di) ⟨hx, hb, hml, hown, hts⟩ (c_D_countWrite l dC dI cI cA cL q_di q_pl q_dr q_jo q_fu vjn vmk a.2.1 a.2.2.1 vD vJ a.2.2.2 H.size x3 g4) (jv_cwV hts wa_47 wa_29 wa_48 wa_49 wa_50 rfl rfl yd_D_countWrite ⟨Nat.le_of_ble_eq_true rfl, Nat.le_of_ble_eq_true rfl⟩) (jv_preVW hK hPc hDc 0 rfl rfl) rfl rfl hl.1 rfl (lv_room (Nat.le_of_ble_eq_true rfl)) d_D_fillPlaces_21 ⟨Nat.zero_le _, Nat.zero_le _⟩) hS hFc (fun H1 locs hP1 hD1 hk1 hS => ?_)
      have hP : va_P (dC, dI) vwCl (w_dfu cI q_di q_pl q_dr q_jo q_fu vjn vmk x3.2.1 a.2.2.1 vD vJ x3.2.2) H1 := hP1.sub [0, 1, 2, 3, 4] rfl
      have hD : va_D A (w_dfu cI q_di q_pl q_dr q_jo q_fu vjn vmk x3.2.1 a.2.2.1 vD vJ x3.2.2) := (hD1.weaken (fun _ q _ h => hFc q.1 h)).sub [0, 1, 2, 3, 4] (by decide) rfl
      generalize H1 = H at hP hS ⊢
      refine lv_if_ne (tgt := 29) hx hb d_D_fillPlaces_24 (by decide) (fun hc => ?_) (fun hc => ?_)
      · have hf := jv_if hf hc
        refine lv_aload_n hx hb d_D_fillPlaces_29 rfl (lv_at hl 0 rfl) ?_
        refine va_get (D := (dC, dI)) (ci := kDisk) (v := .ref q_jo) (C := R_Disk) (T := T_Disk) (N := 6) hx hb hts (fun w h => List.mem_cons_of_mem _ (in_Disk w h)) hown hK hP 0 rfl rfl 2 (by decide) (jv_w hts wa_37) (fun _ h9 => h9) rfl d_D_fillPlaces_30 ?_
        refine lv_aload_n hx hb d_D_fillPlaces_33 rfl (lv_at hl 0 rfl) ?_
        refine va_get (D := (dC, dI)) (ci := kDisk) (v := .ref q_pl) (C := R_Disk) (T := T_Disk) (N := 6) hx hb hts (fun w h => List.mem_cons_of_mem _ (in_Disk w h)) hown hK hP 0 rfl rfl 0 (by decide) (jv_w hts wa_21) (fun _ h9 => h9) rfl d_D_fillPlaces_34 ?_
        refine lv_iload_n hx hb d_D_fillPlaces_37 rfl (lv_at hl 2 rfl) ?_
        obtain ⟨x5, g6, hf⟩ := jv_ob hf
        have hPc := hP.sub (ws' := (w_two cI q_jo q_pl vJ a.2.2.1)) [3, 1] rfl
        have hDc := hD.sub (ws' := (w_two cI q_jo q_pl vJ a.2.2.1)) [3, 1] (by decide) rfl
        have hFc := va_free (wc := (w_two cI q_jo q_pl vJ a.2.2.1)) hD hS hA [3, 1] rfl
        refine jv_cwv (va_runS (As := [.ref q_jo, .ref q_pl, .int a.1]) (rest := []) ⟨hx, hb, hml, hown, hts⟩ (c_D_copyBlock l dC dI cI cA cL q_jo q_pl vJ a.2.2.1 a.1 H.size x5 g6) (jv_cwS hts wa_38 wa_29 wa_39 wa_40 rfl rfl yd_D_copyBlock ⟨Nat.le_of_ble_eq_true rfl, Nat.le_of_ble_eq_true rfl⟩) (jv_preSW hK hPc hDc) rfl rfl hl.1 rfl (lv_room (Nat.le_of_ble_eq_true rfl)) d_D_fillPlaces_38 ⟨Nat.zero_le _, Nat.zero_le _⟩) hS hFc (fun H1 locs hP1 hD1 hk1 hS => ?_)
        obtain ⟨hP, hD⟩ := va_join (wc := (w_two cI q_jo q_pl vJ a.2.2.1)) (wr := [(q_di, .inr (kDisk, [.ref q_pl, .ref q_dr, .ref q_jo, .int vjn, .int vmk, .int x3.2.1])), (q_dr, .inl (cI, 232, .inl vD)), (q_fu, .inr (kFuse, [.int x3.2.2]))]) (w1 := (w_two cI q_jo q_pl vJ x5)) hP hD [3, 1] [0, 2, 4] rfl rfl (by decide) (by decide) hk1 hFc hP1 hD1
        have hP : va_P (dC, dI) vwCl (w_dfu cI q_di q_pl q_dr q_jo q_fu vjn vmk x3.2.1 x5 vD vJ x3.2.2) H1 := hP.sub [0, 4, 1, 3, 2] rfl
        have hD : va_D A (w_dfu cI q_di q_pl q_dr q_jo q_fu vjn vmk x3.2.1 x5 vD vJ x3.2.2) := hD.sub [0, 4, 1, 3, 2] (by decide) rfl
        generalize H1 = H at hP hS ⊢
        refine lv_iinc (k := 2) (v := a.1 + (1 : Int32)) (lv' := [(2, .int (a.1 + (1 : Int32))), (0, .ref q_di), (1, .ref q_fu)]) hx hb d_D_fillPlaces_41 hl rfl (jv_inc _) (by decide) rfl (fun ls hl => ?_)
        refine lv_goto (tgt := 2) hx hb d_D_fillPlaces_44 (by decide) ?_
        exact hk2 (a.1 + (1 : Int32)) x3.2.1 x5 x3.2.2 _ _ _ (lv_sub hl [1, 2, 0] rfl) hP hD hS hf
      · have hf := jv_it hf hc
        refine lv_iconst (v := (0 : Int32)) hx hb d_D_fillPlaces_27 (by decide) ?_
        obtain rfl := Option.some.inj hf
        exact W.zret hx hb hr rfl (fun t ht hW => ⟨rfl, by rw [ht]; exact hP, hD, hS.F ht⟩) hS.2.2 d_D_fillPlaces_28
set_option maxHeartbeats 4000000 in
set_option maxRecDepth 100000 in
theorem l_D_fillPlaces_2 {l : Launch} {dC : Nat → ClassId} {dI : Nat → Nat → Nat} {cI cA cL : ClassId} {q_di q_pl q_dr q_jo q_fu : Nat} {vjn : Int32} {vmk : Int32} {vD : Nat → Int32} {vJ : Nat → Int32} {p : Program} {e : Env} {s : State} {m : MethodId} {args : Array Value} {below : List Frame} {meth : Method} {c : Code} (cx : jv_cx p s m args meth c cc_D_fillPlaces 3 R_Disk (some .boolean) ws_D_fillPlaces) (hK : va_K (dC, dI) vwCl (jv_ty cI cA cL) s) {A : Nat → Prop} (hA : ∀ q : Nat, s.heap.size ≤ q → A q) {r : Int32 × Int32 × (Nat → Int32) × Int32} : ∀ n : Nat, ∀ (b0 : Int32) (b1 : Int32) (b2 : Nat → Int32) (b3 : Int32) (ls : Array Slot) (H : Heap) (locs : List Loc), lv_has ls 3 [(0, .ref q_di), (1, .ref q_fu), (2, .int b0)] → va_P (dC, dI) vwCl (w_dfu cI q_di q_pl q_dr q_jo q_fu vjn vmk b1 b2 vD vJ b3) H → va_D A (w_dfu cI q_di q_pl q_dr q_jo q_fu vjn vmk b1 b2 vD vJ b3) → va_S A s.heap H locs → jv_fx (f_D_fillPlaces_2 vjn vJ) n (b0, b1, b2, b3) = some r → W p l e rm_D_fillPlaces s m args below meth c H locs 0 0 (MQ below (jv_Qi r.1 (dC, dI) (w_dfu cI q_di q_pl q_dr q_jo q_fu vjn vmk r.2.1 r.2.2.1 vD vJ r.2.2.2) A) args s 0 0 A) (F0 m 2 ls []) := by
  intro n
  induction n with
  | zero => intro b0 b1 b2 b3 ls H locs hl hP hD hS hf; exact jv_no hf
  | succ n ih => intro b0 b1 b2 b3 ls H locs hl hP hD hS hf; exact b_D_fillPlaces_2 (a := (b0, b1, b2, b3)) cx hK hA ih hl hP hD hS hf
def f_D_fillPlaces_0 (vjn : Int32) (vJ : Nat → Int32) (y0 : Int32) (y1 : Nat → Int32) (y2 : Int32) : Option (Int32 × Int32 × (Nat → Int32) × Int32) :=
  jv_fx (f_D_fillPlaces_2 vjn vJ) 300 ((0 : Int32), y0, y1, y2)
set_option maxHeartbeats 4000000 in
set_option maxRecDepth 100000 in
theorem b_D_fillPlaces_0 {l : Launch} {dC : Nat → ClassId} {dI : Nat → Nat → Nat} {cI cA cL : ClassId} {q_di q_pl q_dr q_jo q_fu : Nat} {vjn : Int32} {vmk : Int32} {vD : Nat → Int32} {vJ : Nat → Int32} {p : Program} {e : Env} {s : State} {m : MethodId} {args : Array Value} {below : List Frame} {meth : Method} {c : Code} (cx : jv_cx p s m args meth c cc_D_fillPlaces 3 R_Disk (some .boolean) ws_D_fillPlaces) (hK : va_K (dC, dI) vwCl (jv_ty cI cA cL) s) {A : Nat → Prop} (hA : ∀ q : Nat, s.heap.size ≤ q → A q) {r : Int32 × Int32 × (Nat → Int32) × Int32} {y0 : Int32} {y1 : Nat → Int32} {y2 : Int32} {ls : Array Slot} (hl : lv_has ls 3 [(0, .ref q_di), (1, .ref q_fu)]) {H : Heap} {locs : List Loc} (hP : va_P (dC, dI) vwCl (w_dfu cI q_di q_pl q_dr q_jo q_fu vjn vmk y0 y1 vD vJ y2) H) (hD : va_D A (w_dfu cI q_di q_pl q_dr q_jo q_fu vjn vmk y0 y1 vD vJ y2)) (hS : va_S A s.heap H locs) (hf : f_D_fillPlaces_0 vjn vJ y0 y1 y2 = some r) : W p l e rm_D_fillPlaces s m args below meth c H locs 0 0 (MQ below (jv_Qi r.1 (dC, dI) (w_dfu cI q_di q_pl q_dr q_jo q_fu vjn vmk r.2.1 r.2.2.1 vD vJ r.2.2.2) A) args s 0 0 A) (F0 m 0 ls []) := by
  unfold f_D_fillPlaces_0 at hf
  obtain ⟨hx, hb, hml, hown, hts, hr, hlocks⟩ := id cx
  refine lv_iconst (v := (0 : Int32)) hx hb d_D_fillPlaces_0 (by decide) ?_
  refine lv_istore_n (lv' := [(2, .int (0 : Int32)), (0, .ref q_di), (1, .ref q_fu)]) hx hb d_D_fillPlaces_1 rfl hl (by decide) rfl (fun ls hl => ?_)
  exact l_D_fillPlaces_2 cx hK hA 300 (0 : Int32) y0 y1 y2 _ _ _ (lv_sub hl [1, 2, 0] rfl) hP hD hS hf
def f_D_fillPlaces (vjn : Int32) (vJ : Nat → Int32) (vwr : Int32) (vP : Nat → Int32) (vat : Int32) : Option (Int32 × Int32 × (Nat → Int32) × Int32) := f_D_fillPlaces_0 vjn vJ vwr vP vat
set_option maxHeartbeats 4000000 in
set_option maxRecDepth 100000 in
theorem c_D_fillPlaces (l : Launch) (dC : Nat → ClassId) (dI : Nat → Nat → Nat) (cI cA cL : ClassId) (q_di q_pl q_dr q_jo q_fu : Nat) (vjn : Int32) (vmk : Int32) (vwr : Int32) (vP : Nat → Int32) (vD : Nat → Int32) (vJ : Nat → Int32) (vat : Int32) (sz : Nat) (r : Int32 × Int32 × (Nat → Int32) × Int32) (hf : f_D_fillPlaces vjn vJ vwr vP vat = some r) : Met l y_D_fillPlaces ws_D_fillPlaces rm_D_fillPlaces (jv_Pw [.ref q_di, .ref q_fu] (dC, dI) (jv_ty cI cA cL) (w_dfu cI q_di q_pl q_dr q_jo q_fu vjn vmk vwr vP vD vJ vat) sz) (jv_Qi r.1 (dC, dI) (w_dfu cI q_di q_pl q_dr q_jo q_fu vjn vmk r.2.1 r.2.2.1 vD vJ r.2.2.2) (va_A (w_dfu cI q_di q_pl q_dr q_jo q_fu vjn vmk vwr vP vD vJ vat) sz)) 0 0 (va_A (w_dfu cI q_di q_pl q_dr q_jo q_fu vjn vmk vwr vP vD vJ vat) sz) := by
  refine Met.ofW (cc := cc_D_fillPlaces) (maxL := 3) (ret := (some .boolean)) (by decide) rfl ?_
  intro p e s m args below meth c s₁ B hml hv
  obtain ⟨rfl, hsz, hP, hK, hD0⟩ := hv
  have cx : jv_cx p s m _ meth c cc_D_fillPlaces 3 R_Disk (some .boolean) ws_D_fillPlaces := ⟨B.exec, B.bytes, hml, findClass_of_methodNamed B.named, atoms_spec (ws := ws_D_fillPlaces) B.pre, B.returns, B.notSynchronized⟩
  subst hsz
  have hD := hD0.self (sz := s.heap.size)
  generalize hAe : va_A (w_dfu cI q_di q_pl q_dr q_jo q_fu vjn vmk vwr vP vD vJ vat) s.heap.size = A at hD ⊢
  have hA : ∀ q : Nat, s.heap.size ≤ q → A q := fun q h => by rw [← hAe]; exact Or.inr h
  have hS : va_S A s.heap s.heap [] := va_S.rf
  have hl := lv_entry ([.ref q_di, .ref q_fu]) (n := 3) (Nat.le_of_ble_eq_true rfl)
  rw [lg_entry_eq]
  generalize (lg_sl ([.ref q_di, .ref q_fu]) ++ List.replicate (3 - (lg_sl ([.ref q_di, .ref q_fu])).length) Slot.unset).toArray = ls at hl ⊢
  have hl : lv_has ls 3 [(0, .ref q_di), (1, .ref q_fu)] := hl
  exact b_D_fillPlaces_0 (y0 := vwr) (y1 := vP) (y2 := vat) cx hK hA (lv_sub hl [0, 1] rfl) hP hD hS hf
theorem d_D_commit_0 : decode cc_D_commit 0 = .ok (.aload_n 0, 1) := by decide +kernel
theorem d_D_commit_1 : decode cc_D_commit 1 = .ok (.invokevirtual 38, 3) := by decide +kernel
theorem d_D_commit_4 : decode cc_D_commit 4 = .ok (.istore_n 2, 1) := by decide +kernel
theorem d_D_commit_5 : decode cc_D_commit 5 = .ok (.iload_n 2, 1) := by decide +kernel
theorem d_D_commit_6 : decode cc_D_commit 6 = .ok (.ifCond .ne 5, 3) := by decide +kernel
theorem d_D_commit_11 : decode cc_D_commit 11 = .ok (.aload_n 0, 1) := by decide +kernel
theorem d_D_commit_12 : decode cc_D_commit 12 = .ok (.iload_n 2, 1) := by decide +kernel
theorem d_D_commit_13 : decode cc_D_commit 13 = .ok (.aload_n 1, 1) := by decide +kernel
theorem d_D_commit_14 : decode cc_D_commit 14 = .ok (.invokevirtual 42, 3) := by decide +kernel
theorem d_D_commit_17 : decode cc_D_commit 17 = .ok (.ifCond .eq 33, 3) := by decide +kernel
theorem d_D_commit_50 : decode cc_D_commit 50 = .ok (.iconst 0, 1) := by decide +kernel
theorem d_D_commit_51 : decode cc_D_commit 51 = .ok (.ireturn, 1) := by decide +kernel
theorem d_D_commit_20 : decode cc_D_commit 20 = .ok (.aload_n 0, 1) := by decide +kernel
theorem d_D_commit_21 : decode cc_D_commit 21 = .ok (.iconst 1, 1) := by decide +kernel
theorem d_D_commit_22 : decode cc_D_commit 22 = .ok (.aload_n 1, 1) := by decide +kernel
theorem d_D_commit_23 : decode cc_D_commit 23 = .ok (.invokevirtual 46, 3) := by decide +kernel
theorem d_D_commit_26 : decode cc_D_commit 26 = .ok (.ifCond .eq 24, 3) := by decide +kernel
theorem d_D_commit_29 : decode cc_D_commit 29 = .ok (.aload_n 0, 1) := by decide +kernel
theorem d_D_commit_30 : decode cc_D_commit 30 = .ok (.aload_n 1, 1) := by decide +kernel
theorem d_D_commit_31 : decode cc_D_commit 31 = .ok (.invokevirtual 50, 3) := by decide +kernel
theorem d_D_commit_34 : decode cc_D_commit 34 = .ok (.ifCond .eq 16, 3) := by decide +kernel
theorem d_D_commit_37 : decode cc_D_commit 37 = .ok (.aload_n 0, 1) := by decide +kernel
theorem d_D_commit_38 : decode cc_D_commit 38 = .ok (.iconst 0, 1) := by decide +kernel
theorem d_D_commit_39 : decode cc_D_commit 39 = .ok (.aload_n 1, 1) := by decide +kernel
theorem d_D_commit_40 : decode cc_D_commit 40 = .ok (.invokevirtual 46, 3) := by decide +kernel
theorem d_D_commit_43 : decode cc_D_commit 43 = .ok (.ifCond .eq 7, 3) := by decide +kernel
theorem d_D_commit_46 : decode cc_D_commit 46 = .ok (.iconst 1, 1) := by decide +kernel
theorem d_D_commit_47 : decode cc_D_commit 47 = .ok (.goto 4, 3) := by decide +kernel
theorem d_D_commit_9 : decode cc_D_commit 9 = .ok (.iconst 1, 1) := by decide +kernel
theorem d_D_commit_10 : decode cc_D_commit 10 = .ok (.ireturn, 1) := by decide +kernel
def f_D_commit_0 (vD : Nat → Int32) (y0 : Int32) (y1 : Int32) (y2 : Int32) (y3 : Nat → Int32) (y4 : Nat → Int32) (y5 : Int32) : Option (Int32 × Int32 × Int32 × Int32 × (Nat → Int32) × (Nat → Int32) × Int32) :=
  (f_D_changedBlocks y3 vD).bind fun x1 => if x1 = 0 then (some ((1 : Int32), y0, y1, y2, y3, y4, y5)) else ((f_D_fillJournal vD x1 y0 y2 y4 y5).bind fun x3 => if x3.1 = 0 then (some ((0 : Int32), x3.2.1, y1, x3.2.2.1, y3, x3.2.2.2.1, x3.2.2.2.2)) else ((f_D_setMark (1 : Int32) y1 x3.2.2.1 x3.2.2.2.2).bind fun x5 => if x5.1 = 0 then (some ((0 : Int32), x3.2.1, x5.2.1, x5.2.2.1, y3, x3.2.2.2.1, x5.2.2.2)) else ((f_D_fillPlaces x3.2.1 x3.2.2.2.1 x5.2.2.1 y3 x5.2.2.2).bind fun x7 => if x7.1 = 0 then (some ((0 : Int32), x3.2.1, x5.2.1, x7.2.1, x7.2.2.1, x3.2.2.2.1, x7.2.2.2)) else ((f_D_setMark (0 : Int32) x5.2.1 x7.2.1 x7.2.2.2).bind fun x9 => if x9.1 = 0 then (some ((0 : Int32), x3.2.1, x9.2.1, x9.2.2.1, x7.2.2.1, x3.2.2.2.1, x9.2.2.2)) else (some ((1 : Int32), x3.2.1, x9.2.1, x9.2.2.1, x7.2.2.1, x3.2.2.2.1, x9.2.2.2))))))
set_option maxHeartbeats 4000000 in
set_option maxRecDepth 100000 in
theorem b_D_commit_0 {l : Launch} {dC : Nat → ClassId} {dI : Nat → Nat → Nat} {cI cA cL : ClassId} {q_di q_pl q_dr q_jo q_fu : Nat} {vD : Nat → Int32} {p : Program} {e : Env} {s : State} {m : MethodId} {args : Array Value} {below : List Frame} {meth : Method} {c : Code} (cx : jv_cx p s m args meth c cc_D_commit 3 R_Disk (some .boolean) ws_D_commit) (hK : va_K (dC, dI) vwCl (jv_ty cI cA cL) s) {A : Nat → Prop} (hA : ∀ q : Nat, s.heap.size ≤ q → A q) {r : Int32 × Int32 × Int32 × Int32 × (Nat → Int32) × (Nat → Int32) × Int32} {y0 : Int32} {y1 : Int32} {y2 : Int32} {y3 : Nat → Int32} {y4 : Nat → Int32} {y5 : Int32} {ls : Array Slot} (hl : lv_has ls 3 [(0, .ref q_di), (1, .ref q_fu)]) {H : Heap} {locs : List Loc} (hP : va_P (dC, dI) vwCl (w_dfu cI q_di q_pl q_dr q_jo q_fu y0 y1 y2 y3 vD y4 y5) H) (hD : va_D A (w_dfu cI q_di q_pl q_dr q_jo q_fu y0 y1 y2 y3 vD y4 y5)) (hS : va_S A s.heap H locs) (hf : f_D_commit_0 vD y0 y1 y2 y3 y4 y5 = some r) : W p l e rm_D_commit s m args below meth c H locs 0 0 (MQ below (jv_Qi r.1 (dC, dI) (w_dfu cI q_di q_pl q_dr q_jo q_fu r.2.1 r.2.2.1 r.2.2.2.1 r.2.2.2.2.1 vD r.2.2.2.2.2.1 r.2.2.2.2.2.2) A) args s 0 0 A) (F0 m 0 ls []) := by
  unfold f_D_commit_0 at hf
  obtain ⟨hx, hb, hml, hown, hts, hr, hlocks⟩ := id cx
  refine lv_aload_n hx hb d_D_commit_0 rfl (lv_at hl 0 rfl) ?_
  obtain ⟨x1, g2, hf⟩ := jv_ob hf
  have hPc := hP.sub (ws' := (w_disk cI q_di q_pl q_dr q_jo y0 y1 y2 y3 vD y4)) [0, 1, 2, 3] rfl
  refine jv_cs (W.runV (As := []) (rest := []) (b := q_di) ⟨hx, hb, hml, hown, hts⟩ (c_D_changedBlocks l dC dI cI cA cL q_di q_pl q_dr q_jo y0 y1 y2 y3 vD y4 x1 g2) (jv_cwV hts wa_51 wa_29 wa_52 wa_53 wa_54 rfl rfl yd_D_changedBlocks ⟨Nat.le_of_ble_eq_true rfl, Nat.le_of_ble_eq_true rfl⟩) (jv_preV hK hPc 0 rfl rfl) rfl rfl hl.1 rfl (lv_room (Nat.le_of_ble_eq_true rfl)) d_D_commit_1 ⟨Nat.zero_le _, Nat.zero_le _⟩) ?_
  refine lv_istore_n (lv' := [(2, .int x1), (0, .ref q_di), (1, .ref q_fu)]) hx hb d_D_commit_4 rfl hl (by decide) rfl (fun ls hl => ?_)
  refine lv_iload_n hx hb d_D_commit_5 rfl (lv_at hl 0 rfl) ?_
  refine lv_if_ne (tgt := 11) hx hb d_D_commit_6 (by decide) (fun hc => ?_) (fun hc => ?_)
  · have hf := jv_if hf hc
    refine lv_aload_n hx hb d_D_commit_11 rfl (lv_at hl 1 rfl) ?_
    refine lv_iload_n hx hb d_D_commit_12 rfl (lv_at hl 0 rfl) ?_
    refine lv_aload_n hx hb d_D_commit_13 rfl (lv_at hl 2 rfl) ?_
    obtain ⟨x3, g4, hf⟩ := jv_ob hf
    have hPc := hP.sub (ws' := (w_dfu cI q_di q_pl q_dr q_jo q_fu y0 y1 y2 y3 vD y4 y5)) [0, 1, 2, 3, 4] rfl
    have hDc := hD.sub (ws' := (w_dfu cI q_di q_pl q_dr q_jo q_fu y0 y1 y2 y3 vD y4 y5)) [0, 1, 2, 3, 4] (by decide) rfl
    have hFc := va_free (wc := (w_dfu cI q_di q_pl q_dr q_jo q_fu y0 y1 y2 y3 vD y4 y5)) hD hS hA [0, 1, 2, 3, 4] rfl
    refine jv_cwi (va_runV (As := [.int x1, .ref q_fu]) (rest := []) (b := q_di) ⟨hx, hb, hml, hown, hts⟩ (c_D_fillJournal l dC dI cI cA cL q_di q_pl q_dr q_jo q_fu y0 y1 y2 y3 vD y4 y5 x1 H.size x3 g4) (jv_cwV hts wa_55 wa_29 wa_56 wa_57 wa_58 rfl rfl yd_D_fillJournal ⟨Nat.le_of_ble_eq_true rfl, Nat.le_of_ble_eq_true rfl⟩) (jv_preVW hK hPc hDc 0 rfl rfl) rfl rfl hl.1 rfl (lv_room (Nat.le_of_ble_eq_true rfl)) d_D_commit_14 ⟨Nat.zero_le _, Nat.zero_le _⟩) hS hFc (fun H1 locs hP1 hD1 hk1 hS => ?_)
    have hP : va_P (dC, dI) vwCl (w_dfu cI q_di q_pl q_dr q_jo q_fu x3.2.1 y1 x3.2.2.1 y3 vD x3.2.2.2.1 x3.2.2.2.2) H1 := hP1.sub [0, 1, 2, 3, 4] rfl
    have hD : va_D A (w_dfu cI q_di q_pl q_dr q_jo q_fu x3.2.1 y1 x3.2.2.1 y3 vD x3.2.2.2.1 x3.2.2.2.2) := (hD1.weaken (fun _ q _ h => hFc q.1 h)).sub [0, 1, 2, 3, 4] (by decide) rfl
    generalize H1 = H at hP hS ⊢
    refine lv_if_eq (tgt := 50) hx hb d_D_commit_17 (by decide) (fun hc => ?_) (fun hc => ?_)
    · have hf := jv_it hf hc
      refine lv_iconst (v := (0 : Int32)) hx hb d_D_commit_50 (by decide) ?_
      obtain rfl := Option.some.inj hf
      exact W.zret hx hb hr rfl (fun t ht hW => ⟨rfl, by rw [ht]; exact hP, hD, hS.F ht⟩) hS.2.2 d_D_commit_51
    · have hf := jv_if hf hc
      refine lv_aload_n hx hb d_D_commit_20 rfl (lv_at hl 1 rfl) ?_
      refine lv_iconst (v := (1 : Int32)) hx hb d_D_commit_21 (by decide) ?_
      refine lv_aload_n hx hb d_D_commit_22 rfl (lv_at hl 2 rfl) ?_
      obtain ⟨x5, g6, hf⟩ := jv_ob hf
      have hPc := hP.sub (ws' := (w_dfu cI q_di q_pl q_dr q_jo q_fu x3.2.1 y1 x3.2.2.1 y3 vD x3.2.2.2.1 x3.2.2.2.2)) [0, 1, 2, 3, 4] rfl
      have hDc := hD.sub (ws' := (w_dfu cI q_di q_pl q_dr q_jo q_fu x3.2.1 y1 x3.2.2.1 y3 vD x3.2.2.2.1 x3.2.2.2.2)) [0, 1, 2, 3, 4] (by decide) rfl
      have hFc := va_free (wc := (w_dfu cI q_di q_pl q_dr q_jo q_fu x3.2.1 y1 x3.2.2.1 y3 vD x3.2.2.2.1 x3.2.2.2.2)) hD hS hA [0, 1, 2, 3, 4] rfl
      refine jv_cwi (va_runV (As := [.int (1 : Int32), .ref q_fu]) (rest := []) (b := q_di) ⟨hx, hb, hml, hown, hts⟩ (c_D_setMark l dC dI cI cA cL q_di q_pl q_dr q_jo q_fu x3.2.1 y1 x3.2.2.1 y3 vD x3.2.2.2.1 x3.2.2.2.2 (1 : Int32) H.size x5 g6) (jv_cwV hts wa_59 wa_29 wa_60 wa_61 wa_62 rfl rfl yd_D_setMark ⟨Nat.le_of_ble_eq_true rfl, Nat.le_of_ble_eq_true rfl⟩) (jv_preVW hK hPc hDc 0 rfl rfl) rfl rfl hl.1 rfl (lv_room (Nat.le_of_ble_eq_true rfl)) d_D_commit_23 ⟨Nat.zero_le _, Nat.zero_le _⟩) hS hFc (fun H1 locs hP1 hD1 hk1 hS => ?_)
      have hP : va_P (dC, dI) vwCl (w_dfu cI q_di q_pl q_dr q_jo q_fu x3.2.1 x5.2.1 x5.2.2.1 y3 vD x3.2.2.2.1 x5.2.2.2) H1 := hP1.sub [0, 1, 2, 3, 4] rfl
      have hD : va_D A (w_dfu cI q_di q_pl q_dr q_jo q_fu x3.2.1 x5.2.1 x5.2.2.1 y3 vD x3.2.2.2.1 x5.2.2.2) := (hD1.weaken (fun _ q _ h => hFc q.1 h)).sub [0, 1, 2, 3, 4] (by decide) rfl
      generalize H1 = H at hP hS ⊢
      refine lv_if_eq (tgt := 50) hx hb d_D_commit_26 (by decide) (fun hc => ?_) (fun hc => ?_)
      · have hf := jv_it hf hc
        refine lv_iconst (v := (0 : Int32)) hx hb d_D_commit_50 (by decide) ?_
        obtain rfl := Option.some.inj hf
        exact W.zret hx hb hr rfl (fun t ht hW => ⟨rfl, by rw [ht]; exact hP, hD, hS.F ht⟩) hS.2.2 d_D_commit_51
      · have hf := jv_if hf hc
        refine lv_aload_n hx hb d_D_commit_29 rfl (lv_at hl 1 rfl) ?_
        refine lv_aload_n hx hb d_D_commit_30 rfl (lv_at hl 2 rfl) ?_
        obtain ⟨x7, g8, hf⟩ := jv_ob hf
        have hPc := hP.sub (ws' := (w_dfu cI q_di q_pl q_dr q_jo q_fu x3.2.1 x5.2.1 x5.2.2.1 y3 vD x3.2.2.2.1 x5.2.2.2)) [0, 1, 2, 3, 4] rfl
        have hDc := hD.sub (ws' := (w_dfu cI q_di q_pl q_dr q_jo q_fu x3.2.1 x5.2.1 x5.2.2.1 y3 vD x3.2.2.2.1 x5.2.2.2)) [0, 1, 2, 3, 4] (by decide) rfl
        have hFc := va_free (wc := (w_dfu cI q_di q_pl q_dr q_jo q_fu x3.2.1 x5.2.1 x5.2.2.1 y3 vD x3.2.2.2.1 x5.2.2.2)) hD hS hA [0, 1, 2, 3, 4] rfl
        refine jv_cwi (va_runV (As := [.ref q_fu]) (rest := []) (b := q_di) ⟨hx, hb, hml, hown, hts⟩ (c_D_fillPlaces l dC dI cI cA cL q_di q_pl q_dr q_jo q_fu x3.2.1 x5.2.1 x5.2.2.1 y3 vD x3.2.2.2.1 x5.2.2.2 H.size x7 g8) (jv_cwV hts wa_63 wa_29 wa_64 wa_65 wa_66 rfl rfl yd_D_fillPlaces ⟨Nat.le_of_ble_eq_true rfl, Nat.le_of_ble_eq_true rfl⟩) (jv_preVW hK hPc hDc 0 rfl rfl) rfl rfl hl.1 rfl (lv_room (Nat.le_of_ble_eq_true rfl)) d_D_commit_31 ⟨Nat.zero_le _, Nat.zero_le _⟩) hS hFc (fun H1 locs hP1 hD1 hk1 hS => ?_)
        have hP : va_P (dC, dI) vwCl (w_dfu cI q_di q_pl q_dr q_jo q_fu x3.2.1 x5.2.1 x7.2.1 x7.2.2.1 vD x3.2.2.2.1 x7.2.2.2) H1 := hP1.sub [0, 1, 2, 3, 4] rfl
        have hD : va_D A (w_dfu cI q_di q_pl q_dr q_jo q_fu x3.2.1 x5.2.1 x7.2.1 x7.2.2.1 vD x3.2.2.2.1 x7.2.2.2) := (hD1.weaken (fun _ q _ h => hFc q.1 h)).sub [0, 1, 2, 3, 4] (by decide) rfl
        generalize H1 = H at hP hS ⊢
        refine lv_if_eq (tgt := 50) hx hb d_D_commit_34 (by decide) (fun hc => ?_) (fun hc => ?_)
        · have hf := jv_it hf hc
          refine lv_iconst (v := (0 : Int32)) hx hb d_D_commit_50 (by decide) ?_
          obtain rfl := Option.some.inj hf
          exact W.zret hx hb hr rfl (fun t ht hW => ⟨rfl, by rw [ht]; exact hP, hD, hS.F ht⟩) hS.2.2 d_D_commit_51
        · have hf := jv_if hf hc
          refine lv_aload_n hx hb d_D_commit_37 rfl (lv_at hl 1 rfl) ?_
          refine lv_iconst (v := (0 : Int32)) hx hb d_D_commit_38 (by decide) ?_
          refine lv_aload_n hx hb d_D_commit_39 rfl (lv_at hl 2 rfl) ?_
          obtain ⟨x9, g10, hf⟩ := jv_ob hf
          have hPc := hP.sub (ws' := (w_dfu cI q_di q_pl q_dr q_jo q_fu x3.2.1 x5.2.1 x7.2.1 x7.2.2.1 vD x3.2.2.2.1 x7.2.2.2)) [0, 1, 2, 3, 4] rfl
          have hDc := hD.sub (ws' := (w_dfu cI q_di q_pl q_dr q_jo q_fu x3.2.1 x5.2.1 x7.2.1 x7.2.2.1 vD x3.2.2.2.1 x7.2.2.2)) [0, 1, 2, 3, 4] (by decide) rfl
          have hFc := va_free (wc := (w_dfu cI q_di q_pl q_dr q_jo q_fu x3.2.1 x5.2.1 x7.2.1 x7.2.2.1 vD x3.2.2.2.1 x7.2.2.2)) hD hS hA [0, 1, 2, 3, 4] rfl
          refine jv_cwi (va_runV (As := [.int (0 : Int32), .ref q_fu]) (rest := []) (b := q_di) ⟨hx, hb, hml, hown, hts⟩ (c_D_setMark l dC dI cI cA cL q_di q_pl q_dr q_jo q_fu x3.2.1 x5.2.1 x7.2.1 x7.2.2.1 vD x3.2.2.2.1 x7.2.2.2 (0 : Int32) H.size x9 g10) (jv_cwV hts wa_59 wa_29 wa_60 wa_61 wa_62 rfl rfl yd_D_setMark ⟨Nat.le_of_ble_eq_true rfl, Nat.le_of_ble_eq_true rfl⟩) (jv_preVW hK hPc hDc 0 rfl rfl) rfl rfl hl.1 rfl (lv_room (Nat.le_of_ble_eq_true rfl)) d_D_commit_40 ⟨Nat.zero_le _, Nat.zero_le _⟩) hS hFc (fun H1 locs hP1 hD1 hk1 hS => ?_)
          have hP : va_P (dC, dI) vwCl (w_dfu cI q_di q_pl q_dr q_jo q_fu x3.2.1 x9.2.1 x9.2.2.1 x7.2.2.1 vD x3.2.2.2.1 x9.2.2.2) H1 := hP1.sub [0, 1, 2, 3, 4] rfl
          have hD : va_D A (w_dfu cI q_di q_pl q_dr q_jo q_fu x3.2.1 x9.2.1 x9.2.2.1 x7.2.2.1 vD x3.2.2.2.1 x9.2.2.2) := (hD1.weaken (fun _ q _ h => hFc q.1 h)).sub [0, 1, 2, 3, 4] (by decide) rfl
          generalize H1 = H at hP hS ⊢
          refine lv_if_eq (tgt := 50) hx hb d_D_commit_43 (by decide) (fun hc => ?_) (fun hc => ?_)
          · have hf := jv_it hf hc
            refine lv_iconst (v := (0 : Int32)) hx hb d_D_commit_50 (by decide) ?_
            obtain rfl := Option.some.inj hf
            exact W.zret hx hb hr rfl (fun t ht hW => ⟨rfl, by rw [ht]; exact hP, hD, hS.F ht⟩) hS.2.2 d_D_commit_51
          · have hf := jv_if hf hc
            refine lv_iconst (v := (1 : Int32)) hx hb d_D_commit_46 (by decide) ?_
            refine lv_goto (tgt := 51) hx hb d_D_commit_47 (by decide) ?_
            obtain rfl := Option.some.inj hf
            exact W.zret hx hb hr rfl (fun t ht hW => ⟨rfl, by rw [ht]; exact hP, hD, hS.F ht⟩) hS.2.2 d_D_commit_51
  · have hf := jv_it hf hc
    refine lv_iconst (v := (1 : Int32)) hx hb d_D_commit_9 (by decide) ?_
    obtain rfl := Option.some.inj hf
    exact W.zret hx hb hr rfl (fun t ht hW => ⟨rfl, by rw [ht]; exact hP, hD, hS.F ht⟩) hS.2.2 d_D_commit_10
def f_D_commit (vD : Nat → Int32) (vjn : Int32) (vmk : Int32) (vwr : Int32) (vP : Nat → Int32) (vJ : Nat → Int32) (vat : Int32) : Option (Int32 × Int32 × Int32 × Int32 × (Nat → Int32) × (Nat → Int32) × Int32) := f_D_commit_0 vD vjn vmk vwr vP vJ vat
set_option maxHeartbeats 4000000 in
set_option maxRecDepth 100000 in
theorem c_D_commit (l : Launch) (dC : Nat → ClassId) (dI : Nat → Nat → Nat) (cI cA cL : ClassId) (q_di q_pl q_dr q_jo q_fu : Nat) (vjn : Int32) (vmk : Int32) (vwr : Int32) (vP : Nat → Int32) (vD : Nat → Int32) (vJ : Nat → Int32) (vat : Int32) (sz : Nat) (r : Int32 × Int32 × Int32 × Int32 × (Nat → Int32) × (Nat → Int32) × Int32) (hf : f_D_commit vD vjn vmk vwr vP vJ vat = some r) : Met l y_D_commit ws_D_commit rm_D_commit (jv_Pw [.ref q_di, .ref q_fu] (dC, dI) (jv_ty cI cA cL) (w_dfu cI q_di q_pl q_dr q_jo q_fu vjn vmk vwr vP vD vJ vat) sz) (jv_Qi r.1 (dC, dI) (w_dfu cI q_di q_pl q_dr q_jo q_fu r.2.1 r.2.2.1 r.2.2.2.1 r.2.2.2.2.1 vD r.2.2.2.2.2.1 r.2.2.2.2.2.2) (va_A (w_dfu cI q_di q_pl q_dr q_jo q_fu vjn vmk vwr vP vD vJ vat) sz)) 0 0 (va_A (w_dfu cI q_di q_pl q_dr q_jo q_fu vjn vmk vwr vP vD vJ vat) sz) := by
  refine Met.ofW (cc := cc_D_commit) (maxL := 3) (ret := (some .boolean)) (by decide) rfl ?_
  intro p e s m args below meth c s₁ B hml hv
  obtain ⟨rfl, hsz, hP, hK, hD0⟩ := hv
  have cx : jv_cx p s m _ meth c cc_D_commit 3 R_Disk (some .boolean) ws_D_commit := ⟨B.exec, B.bytes, hml, findClass_of_methodNamed B.named, atoms_spec (ws := ws_D_commit) B.pre, B.returns, B.notSynchronized⟩
  subst hsz
  have hD := hD0.self (sz := s.heap.size)
  generalize hAe : va_A (w_dfu cI q_di q_pl q_dr q_jo q_fu vjn vmk vwr vP vD vJ vat) s.heap.size = A at hD ⊢
  have hA : ∀ q : Nat, s.heap.size ≤ q → A q := fun q h => by rw [← hAe]; exact Or.inr h
  have hS : va_S A s.heap s.heap [] := va_S.rf
  have hl := lv_entry ([.ref q_di, .ref q_fu]) (n := 3) (Nat.le_of_ble_eq_true rfl)
  rw [lg_entry_eq]
  generalize (lg_sl ([.ref q_di, .ref q_fu]) ++ List.replicate (3 - (lg_sl ([.ref q_di, .ref q_fu])).length) Slot.unset).toArray = ls at hl ⊢
  have hl : lv_has ls 3 [(0, .ref q_di), (1, .ref q_fu)] := hl
  exact b_D_commit_0 (y0 := vjn) (y1 := vmk) (y2 := vwr) (y3 := vP) (y4 := vJ) (y5 := vat) cx hK hA (lv_sub hl [0, 1] rfl) hP hD hS hf
