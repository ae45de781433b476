theorem d_L_isLabel_0 : decode cc_L_isLabel 0 = .ok (.iload_n 0, 1) := by decide +kernel
theorem d_L_isLabel_1 : decode cc_L_isLabel 1 = .ok (.ifCond .lt 14, 3) := by decide +kernel
theorem d_L_isLabel_15 : decode cc_L_isLabel 15 = .ok (.iconst 0, 1) := by decide +kernel
theorem d_L_isLabel_16 : decode cc_L_isLabel 16 = .ok (.ireturn, 1) := by decide +kernel
theorem d_L_isLabel_4 : decode cc_L_isLabel 4 = .ok (.iload_n 0, 1) := by decide +kernel
theorem d_L_isLabel_5 : decode cc_L_isLabel 5 = .ok (.sipush 512, 3) := by decide +kernel
theorem d_L_isLabel_8 : decode cc_L_isLabel 8 = .ok (.if_icmp .ge 7, 3) := by decide +kernel
theorem d_L_isLabel_11 : decode cc_L_isLabel 11 = .ok (.iconst 1, 1) := by decide +kernel
theorem d_L_isLabel_12 : decode cc_L_isLabel 12 = .ok (.goto 4, 3) := by decide +kernel
def f_L_isLabel_0 (y0 : Int32) : Option (Int32) :=
  if y0 < 0 then (some (0 : Int32)) else (if (512 : Int32) ≤ y0 then (some (0 : Int32)) else (some (1 : Int32)))
set_option maxHeartbeats 4000000 in
set_option maxRecDepth 100000 in
theorem b_L_isLabel_0 {l : Launch} {p : Program} {e : Env} {s : State} {m : MethodId} {args : Array Value} {below : List Frame} {meth : Method} {c : Code} (cx : jv_cx p s m args meth c cc_L_isLabel 1 R_Labels (some .boolean) ws_L_isLabel) {r : Int32} {y0 : Int32} {ls : Array Slot} (hl : lv_has ls 1 [(0, .int y0)]) (hf : f_L_isLabel_0 y0 = some r) : W p l e rm_L_isLabel s m args below meth c s.heap [] 0 0 (MQ below (QcRead r) args s 0 0 (fun _ => False)) (F0 m 0 ls []) := by
  unfold f_L_isLabel_0 at hf
  obtain ⟨hx, hb, hml, hown, hts, hr, hlocks⟩ := id cx
  refine lv_iload_n hx hb d_L_isLabel_0 rfl (lv_at hl 0 rfl) ?_
  refine lv_if_lt (tgt := 15) hx hb d_L_isLabel_1 (by decide) (fun hc => ?_) (fun hc => ?_)
  · have hf := jv_it hf hc
    refine lv_iconst (v := (0 : Int32)) hx hb d_L_isLabel_15 (by decide) ?_
    obtain rfl := Option.some.inj hf
    exact W.zret hx hb hr rfl (fun t ht hW => ⟨rfl, ht⟩) (fun q h => by cases h) d_L_isLabel_16
  · have hf := jv_if hf hc
    refine lv_iload_n hx hb d_L_isLabel_4 rfl (lv_at hl 0 rfl) ?_
    refine lv_sipush (v := (512 : Int32)) hx hb d_L_isLabel_5 (by decide) ?_
    refine lv_icmp_ge (tgt := 15) hx hb d_L_isLabel_8 (by decide) (fun hc => ?_) (fun hc => ?_)
    · have hf := jv_it hf hc
      refine lv_iconst (v := (0 : Int32)) hx hb d_L_isLabel_15 (by decide) ?_
      obtain rfl := Option.some.inj hf
      exact W.zret hx hb hr rfl (fun t ht hW => ⟨rfl, ht⟩) (fun q h => by cases h) d_L_isLabel_16
    · have hf := jv_if hf hc
      refine lv_iconst (v := (1 : Int32)) hx hb d_L_isLabel_11 (by decide) ?_
      refine lv_goto (tgt := 16) hx hb d_L_isLabel_12 (by decide) ?_
      obtain rfl := Option.some.inj hf
      exact W.zret hx hb hr rfl (fun t ht hW => ⟨rfl, ht⟩) (fun q h => by cases h) d_L_isLabel_16
def f_L_isLabel (a0 : Int32) : Option (Int32) := f_L_isLabel_0 a0
set_option maxHeartbeats 4000000 in
set_option maxRecDepth 100000 in
theorem c_L_isLabel (l : Launch) (a0 : Int32) (r : Int32) (hf : f_L_isLabel a0 = some r) : Met l y_L_isLabel ws_L_isLabel rm_L_isLabel (jv_P0 [.int a0]) (QcRead r) 0 0 (fun _ => False) := by
  refine Met.ofW (cc := cc_L_isLabel) (maxL := 1) (ret := (some .boolean)) (by decide) rfl ?_
  intro p e s m args below meth c s₁ B hml hv
  obtain ⟨rfl, -⟩ := hv
  have cx : jv_cx p s m _ meth c cc_L_isLabel 1 R_Labels (some .boolean) ws_L_isLabel := ⟨B.exec, B.bytes, hml, findClass_of_methodNamed B.named, atoms_spec (ws := ws_L_isLabel) B.pre, B.returns, B.notSynchronized⟩
  have hl := lv_entry ([.int a0]) (n := 1) (Nat.le_of_ble_eq_true rfl)
  rw [lg_entry_eq]
  generalize (lg_sl ([.int a0]) ++ List.replicate (1 - (lg_sl ([.int a0])).length) Slot.unset).toArray = ls at hl ⊢
  have hl : lv_has ls 1 [(0, .int a0)] := hl
  exact b_L_isLabel_0 (y0 := a0) cx (lv_sub hl [0] rfl) hf
theorem d_L_isSecrecyWithin_0 : decode cc_L_isSecrecyWithin 0 = .ok (.iload_n 0, 1) := by decide +kernel
theorem d_L_isSecrecyWithin_1 : decode cc_L_isSecrecyWithin 1 = .ok (.iconst 3, 1) := by decide +kernel
theorem d_L_isSecrecyWithin_2 : decode cc_L_isSecrecyWithin 2 = .ok (.iand, 1) := by decide +kernel
theorem d_L_isSecrecyWithin_3 : decode cc_L_isSecrecyWithin 3 = .ok (.iload_n 1, 1) := by decide +kernel
theorem d_L_isSecrecyWithin_4 : decode cc_L_isSecrecyWithin 4 = .ok (.iconst 3, 1) := by decide +kernel
theorem d_L_isSecrecyWithin_5 : decode cc_L_isSecrecyWithin 5 = .ok (.iand, 1) := by decide +kernel
theorem d_L_isSecrecyWithin_6 : decode cc_L_isSecrecyWithin 6 = .ok (.if_icmp .gt 18, 3) := by decide +kernel
theorem d_L_isSecrecyWithin_24 : decode cc_L_isSecrecyWithin 24 = .ok (.iconst 0, 1) := by decide +kernel
theorem d_L_isSecrecyWithin_25 : decode cc_L_isSecrecyWithin 25 = .ok (.ireturn, 1) := by decide +kernel
theorem d_L_isSecrecyWithin_9 : decode cc_L_isSecrecyWithin 9 = .ok (.iload_n 0, 1) := by decide +kernel
theorem d_L_isSecrecyWithin_10 : decode cc_L_isSecrecyWithin 10 = .ok (.iload_n 1, 1) := by decide +kernel
theorem d_L_isSecrecyWithin_11 : decode cc_L_isSecrecyWithin 11 = .ok (.iconst (-1), 1) := by decide +kernel
theorem d_L_isSecrecyWithin_12 : decode cc_L_isSecrecyWithin 12 = .ok (.ixor, 1) := by decide +kernel
theorem d_L_isSecrecyWithin_13 : decode cc_L_isSecrecyWithin 13 = .ok (.iand, 1) := by decide +kernel
theorem d_L_isSecrecyWithin_14 : decode cc_L_isSecrecyWithin 14 = .ok (.bipush 28, 2) := by decide +kernel
theorem d_L_isSecrecyWithin_16 : decode cc_L_isSecrecyWithin 16 = .ok (.iand, 1) := by decide +kernel
theorem d_L_isSecrecyWithin_17 : decode cc_L_isSecrecyWithin 17 = .ok (.ifCond .ne 7, 3) := by decide +kernel
theorem d_L_isSecrecyWithin_20 : decode cc_L_isSecrecyWithin 20 = .ok (.iconst 1, 1) := by decide +kernel
theorem d_L_isSecrecyWithin_21 : decode cc_L_isSecrecyWithin 21 = .ok (.goto 4, 3) := by decide +kernel
def f_L_isSecrecyWithin_0 (y0 : Int32) (y1 : Int32) : Option (Int32) :=
  if (y1 &&& (3 : Int32)) < (y0 &&& (3 : Int32)) then (some (0 : Int32)) else (if ((y0 &&& (y1 ^^^ (-1 : Int32))) &&& (28 : Int32)) = 0 then (some (1 : Int32)) else (some (0 : Int32)))
set_option maxHeartbeats 4000000 in
set_option maxRecDepth 100000 in
theorem b_L_isSecrecyWithin_0 {l : Launch} {p : Program} {e : Env} {s : State} {m : MethodId} {args : Array Value} {below : List Frame} {meth : Method} {c : Code} (cx : jv_cx p s m args meth c cc_L_isSecrecyWithin 2 R_Labels (some .boolean) ws_L_isSecrecyWithin) {r : Int32} {y0 : Int32} {y1 : Int32} {ls : Array Slot} (hl : lv_has ls 2 [(0, .int y0), (1, .int y1)]) (hf : f_L_isSecrecyWithin_0 y0 y1 = some r) : W p l e rm_L_isSecrecyWithin s m args below meth c s.heap [] 0 0 (MQ below (QcRead r) args s 0 0 (fun _ => False)) (F0 m 0 ls []) := by
  unfold f_L_isSecrecyWithin_0 at hf
  obtain ⟨hx, hb, hml, hown, hts, hr, hlocks⟩ := id cx
  refine lv_iload_n hx hb d_L_isSecrecyWithin_0 rfl (lv_at hl 0 rfl) ?_
  refine lv_iconst (v := (3 : Int32)) hx hb d_L_isSecrecyWithin_1 (by decide) ?_
  refine lv_iand hx hb d_L_isSecrecyWithin_2 ?_
  refine lv_iload_n hx hb d_L_isSecrecyWithin_3 rfl (lv_at hl 1 rfl) ?_
  refine lv_iconst (v := (3 : Int32)) hx hb d_L_isSecrecyWithin_4 (by decide) ?_
  refine lv_iand hx hb d_L_isSecrecyWithin_5 ?_
  refine lv_icmp_gt (tgt := 24) hx hb d_L_isSecrecyWithin_6 (by decide) (fun hc => ?_) (fun hc => ?_)
  · have hf := jv_it hf hc
    refine lv_iconst (v := (0 : Int32)) hx hb d_L_isSecrecyWithin_24 (by decide) ?_
    obtain rfl := Option.some.inj hf
    exact W.zret hx hb hr rfl (fun t ht hW => ⟨rfl, ht⟩) (fun q h => by cases h) d_L_isSecrecyWithin_25
  · have hf := jv_if hf hc
    refine lv_iload_n hx hb d_L_isSecrecyWithin_9 rfl (lv_at hl 0 rfl) ?_
    refine lv_iload_n hx hb d_L_isSecrecyWithin_10 rfl (lv_at hl 1 rfl) ?_
    refine lv_iconst (v := (-1 : Int32)) hx hb d_L_isSecrecyWithin_11 (by decide) ?_
    refine lv_ixor hx hb d_L_isSecrecyWithin_12 ?_
    refine lv_iand hx hb d_L_isSecrecyWithin_13 ?_
    refine lv_bipush (v := (28 : Int32)) hx hb d_L_isSecrecyWithin_14 (by decide) ?_
    refine lv_iand hx hb d_L_isSecrecyWithin_16 ?_
    refine lv_if_ne (tgt := 24) hx hb d_L_isSecrecyWithin_17 (by decide) (fun hc => ?_) (fun hc => ?_)
    · have hf := jv_if hf hc
      refine lv_iconst (v := (0 : Int32)) hx hb d_L_isSecrecyWithin_24 (by decide) ?_
      obtain rfl := Option.some.inj hf
      exact W.zret hx hb hr rfl (fun t ht hW => ⟨rfl, ht⟩) (fun q h => by cases h) d_L_isSecrecyWithin_25
    · have hf := jv_it hf hc
      refine lv_iconst (v := (1 : Int32)) hx hb d_L_isSecrecyWithin_20 (by decide) ?_
      refine lv_goto (tgt := 25) hx hb d_L_isSecrecyWithin_21 (by decide) ?_
      obtain rfl := Option.some.inj hf
      exact W.zret hx hb hr rfl (fun t ht hW => ⟨rfl, ht⟩) (fun q h => by cases h) d_L_isSecrecyWithin_25
def f_L_isSecrecyWithin (a0 : Int32) (a1 : Int32) : Option (Int32) := f_L_isSecrecyWithin_0 a0 a1
set_option maxHeartbeats 4000000 in
set_option maxRecDepth 100000 in
theorem c_L_isSecrecyWithin (l : Launch) (a0 : Int32) (a1 : Int32) (r : Int32) (hf : f_L_isSecrecyWithin a0 a1 = some r) : Met l y_L_isSecrecyWithin ws_L_isSecrecyWithin rm_L_isSecrecyWithin (jv_P0 [.int a0, .int a1]) (QcRead r) 0 0 (fun _ => False) := by
  refine Met.ofW (cc := cc_L_isSecrecyWithin) (maxL := 2) (ret := (some .boolean)) (by decide) rfl ?_
  intro p e s m args below meth c s₁ B hml hv
  obtain ⟨rfl, -⟩ := hv
  have cx : jv_cx p s m _ meth c cc_L_isSecrecyWithin 2 R_Labels (some .boolean) ws_L_isSecrecyWithin := ⟨B.exec, B.bytes, hml, findClass_of_methodNamed B.named, atoms_spec (ws := ws_L_isSecrecyWithin) B.pre, B.returns, B.notSynchronized⟩
  have hl := lv_entry ([.int a0, .int a1]) (n := 2) (Nat.le_of_ble_eq_true rfl)
  rw [lg_entry_eq]
  generalize (lg_sl ([.int a0, .int a1]) ++ List.replicate (2 - (lg_sl ([.int a0, .int a1])).length) Slot.unset).toArray = ls at hl ⊢
  have hl : lv_has ls 2 [(0, .int a0), (1, .int a1)] := hl
  exact b_L_isSecrecyWithin_0 (y0 := a0) (y1 := a1) cx (lv_sub hl [0, 1] rfl) hf
theorem d_L_isIntegrityWithin_0 : decode cc_L_isIntegrityWithin 0 = .ok (.iload_n 0, 1) := by decide +kernel
theorem d_L_isIntegrityWithin_1 : decode cc_L_isIntegrityWithin 1 = .ok (.bipush 96, 2) := by decide +kernel
theorem d_L_isIntegrityWithin_3 : decode cc_L_isIntegrityWithin 3 = .ok (.iand, 1) := by decide +kernel
theorem d_L_isIntegrityWithin_4 : decode cc_L_isIntegrityWithin 4 = .ok (.iload_n 1, 1) := by decide +kernel
theorem d_L_isIntegrityWithin_5 : decode cc_L_isIntegrityWithin 5 = .ok (.bipush 96, 2) := by decide +kernel
theorem d_L_isIntegrityWithin_7 : decode cc_L_isIntegrityWithin 7 = .ok (.iand, 1) := by decide +kernel
theorem d_L_isIntegrityWithin_8 : decode cc_L_isIntegrityWithin 8 = .ok (.if_icmp .gt 19, 3) := by decide +kernel
theorem d_L_isIntegrityWithin_27 : decode cc_L_isIntegrityWithin 27 = .ok (.iconst 0, 1) := by decide +kernel
theorem d_L_isIntegrityWithin_28 : decode cc_L_isIntegrityWithin 28 = .ok (.ireturn, 1) := by decide +kernel
theorem d_L_isIntegrityWithin_11 : decode cc_L_isIntegrityWithin 11 = .ok (.iload_n 0, 1) := by decide +kernel
theorem d_L_isIntegrityWithin_12 : decode cc_L_isIntegrityWithin 12 = .ok (.iload_n 1, 1) := by decide +kernel
theorem d_L_isIntegrityWithin_13 : decode cc_L_isIntegrityWithin 13 = .ok (.iconst (-1), 1) := by decide +kernel
theorem d_L_isIntegrityWithin_14 : decode cc_L_isIntegrityWithin 14 = .ok (.ixor, 1) := by decide +kernel
theorem d_L_isIntegrityWithin_15 : decode cc_L_isIntegrityWithin 15 = .ok (.iand, 1) := by decide +kernel
theorem d_L_isIntegrityWithin_16 : decode cc_L_isIntegrityWithin 16 = .ok (.sipush 384, 3) := by decide +kernel
theorem d_L_isIntegrityWithin_19 : decode cc_L_isIntegrityWithin 19 = .ok (.iand, 1) := by decide +kernel
theorem d_L_isIntegrityWithin_20 : decode cc_L_isIntegrityWithin 20 = .ok (.ifCond .ne 7, 3) := by decide +kernel
theorem d_L_isIntegrityWithin_23 : decode cc_L_isIntegrityWithin 23 = .ok (.iconst 1, 1) := by decide +kernel
theorem d_L_isIntegrityWithin_24 : decode cc_L_isIntegrityWithin 24 = .ok (.goto 4, 3) := by decide +kernel
def f_L_isIntegrityWithin_0 (y0 : Int32) (y1 : Int32) : Option (Int32) :=
  if (y1 &&& (96 : Int32)) < (y0 &&& (96 : Int32)) then (some (0 : Int32)) else (if ((y0 &&& (y1 ^^^ (-1 : Int32))) &&& (384 : Int32)) = 0 then (some (1 : Int32)) else (some (0 : Int32)))
set_option maxHeartbeats 4000000 in
set_option maxRecDepth 100000 in
theorem b_L_isIntegrityWithin_0 {l : Launch} {p : Program} {e : Env} {s : State} {m : MethodId} {args : Array Value} {below : List Frame} {meth : Method} {c : Code} (cx : jv_cx p s m args meth c cc_L_isIntegrityWithin 2 R_Labels (some .boolean) ws_L_isIntegrityWithin) {r : Int32} {y0 : Int32} {y1 : Int32} {ls : Array Slot} (hl : lv_has ls 2 [(0, .int y0), (1, .int y1)]) (hf : f_L_isIntegrityWithin_0 y0 y1 = some r) : W p l e rm_L_isIntegrityWithin s m args below meth c s.heap [] 0 0 (MQ below (QcRead r) args s 0 0 (fun _ => False)) (F0 m 0 ls []) := by
  unfold f_L_isIntegrityWithin_0 at hf
  obtain ⟨hx, hb, hml, hown, hts, hr, hlocks⟩ := id cx
  refine lv_iload_n hx hb d_L_isIntegrityWithin_0 rfl (lv_at hl 0 rfl) ?_
  refine lv_bipush (v := (96 : Int32)) hx hb d_L_isIntegrityWithin_1 (by decide) ?_
  refine lv_iand hx hb d_L_isIntegrityWithin_3 ?_
  refine lv_iload_n hx hb d_L_isIntegrityWithin_4 rfl (lv_at hl 1 rfl) ?_
  refine lv_bipush (v := (96 : Int32)) hx hb d_L_isIntegrityWithin_5 (by decide) ?_
  refine lv_iand hx hb d_L_isIntegrityWithin_7 ?_
  refine lv_icmp_gt (tgt := 27) hx hb d_L_isIntegrityWithin_8 (by decide) (fun hc => ?_) (fun hc => ?_)
  · have hf := jv_it hf hc
    refine lv_iconst (v := (0 : Int32)) hx hb d_L_isIntegrityWithin_27 (by decide) ?_
    obtain rfl := Option.some.inj hf
    exact W.zret hx hb hr rfl (fun t ht hW => ⟨rfl, ht⟩) (fun q h => by cases h) d_L_isIntegrityWithin_28
  · have hf := jv_if hf hc
    refine lv_iload_n hx hb d_L_isIntegrityWithin_11 rfl (lv_at hl 0 rfl) ?_
    refine lv_iload_n hx hb d_L_isIntegrityWithin_12 rfl (lv_at hl 1 rfl) ?_
    refine lv_iconst (v := (-1 : Int32)) hx hb d_L_isIntegrityWithin_13 (by decide) ?_
    refine lv_ixor hx hb d_L_isIntegrityWithin_14 ?_
    refine lv_iand hx hb d_L_isIntegrityWithin_15 ?_
    refine lv_sipush (v := (384 : Int32)) hx hb d_L_isIntegrityWithin_16 (by decide) ?_
    refine lv_iand hx hb d_L_isIntegrityWithin_19 ?_
    refine lv_if_ne (tgt := 27) hx hb d_L_isIntegrityWithin_20 (by decide) (fun hc => ?_) (fun hc => ?_)
    · have hf := jv_if hf hc
      refine lv_iconst (v := (0 : Int32)) hx hb d_L_isIntegrityWithin_27 (by decide) ?_
      obtain rfl := Option.some.inj hf
      exact W.zret hx hb hr rfl (fun t ht hW => ⟨rfl, ht⟩) (fun q h => by cases h) d_L_isIntegrityWithin_28
    · have hf := jv_it hf hc
      refine lv_iconst (v := (1 : Int32)) hx hb d_L_isIntegrityWithin_23 (by decide) ?_
      refine lv_goto (tgt := 28) hx hb d_L_isIntegrityWithin_24 (by decide) ?_
      obtain rfl := Option.some.inj hf
      exact W.zret hx hb hr rfl (fun t ht hW => ⟨rfl, ht⟩) (fun q h => by cases h) d_L_isIntegrityWithin_28
def f_L_isIntegrityWithin (a0 : Int32) (a1 : Int32) : Option (Int32) := f_L_isIntegrityWithin_0 a0 a1
set_option maxHeartbeats 4000000 in
set_option maxRecDepth 100000 in
theorem c_L_isIntegrityWithin (l : Launch) (a0 : Int32) (a1 : Int32) (r : Int32) (hf : f_L_isIntegrityWithin a0 a1 = some r) : Met l y_L_isIntegrityWithin ws_L_isIntegrityWithin rm_L_isIntegrityWithin (jv_P0 [.int a0, .int a1]) (QcRead r) 0 0 (fun _ => False) := by
  refine Met.ofW (cc := cc_L_isIntegrityWithin) (maxL := 2) (ret := (some .boolean)) (by decide) rfl ?_
  intro p e s m args below meth c s₁ B hml hv
  obtain ⟨rfl, -⟩ := hv
  have cx : jv_cx p s m _ meth c cc_L_isIntegrityWithin 2 R_Labels (some .boolean) ws_L_isIntegrityWithin := ⟨B.exec, B.bytes, hml, findClass_of_methodNamed B.named, atoms_spec (ws := ws_L_isIntegrityWithin) B.pre, B.returns, B.notSynchronized⟩
  have hl := lv_entry ([.int a0, .int a1]) (n := 2) (Nat.le_of_ble_eq_true rfl)
  rw [lg_entry_eq]
  generalize (lg_sl ([.int a0, .int a1]) ++ List.replicate (2 - (lg_sl ([.int a0, .int a1])).length) Slot.unset).toArray = ls at hl ⊢
  have hl : lv_has ls 2 [(0, .int a0), (1, .int a1)] := hl
  exact b_L_isIntegrityWithin_0 (y0 := a0) (y1 := a1) cx (lv_sub hl [0, 1] rfl) hf
theorem d_L_mayFlow_0 : decode cc_L_mayFlow 0 = .ok (.iload_n 0, 1) := by decide +kernel
theorem d_L_mayFlow_1 : decode cc_L_mayFlow 1 = .ok (.iload_n 1, 1) := by decide +kernel
theorem d_L_mayFlow_2 : decode cc_L_mayFlow 2 = .ok (.invokestatic 9, 3) := by decide +kernel
theorem d_L_mayFlow_5 : decode cc_L_mayFlow 5 = .ok (.ifCond .eq 15, 3) := by decide +kernel
theorem d_L_mayFlow_20 : decode cc_L_mayFlow 20 = .ok (.iconst 0, 1) := by decide +kernel
theorem d_L_mayFlow_21 : decode cc_L_mayFlow 21 = .ok (.ireturn, 1) := by decide +kernel
theorem d_L_mayFlow_8 : decode cc_L_mayFlow 8 = .ok (.iload_n 1, 1) := by decide +kernel
theorem d_L_mayFlow_9 : decode cc_L_mayFlow 9 = .ok (.iload_n 0, 1) := by decide +kernel
theorem d_L_mayFlow_10 : decode cc_L_mayFlow 10 = .ok (.invokestatic 13, 3) := by decide +kernel
theorem d_L_mayFlow_13 : decode cc_L_mayFlow 13 = .ok (.ifCond .eq 7, 3) := by decide +kernel
theorem d_L_mayFlow_16 : decode cc_L_mayFlow 16 = .ok (.iconst 1, 1) := by decide +kernel
theorem d_L_mayFlow_17 : decode cc_L_mayFlow 17 = .ok (.goto 4, 3) := by decide +kernel
def f_L_mayFlow_0 (y0 : Int32) (y1 : Int32) : Option (Int32) :=
  (f_L_isSecrecyWithin y0 y1).bind fun x1 => if x1 = 0 then (some (0 : Int32)) else ((f_L_isIntegrityWithin y1 y0).bind fun x3 => if x3 = 0 then (some (0 : Int32)) else (some (1 : Int32)))
set_option maxHeartbeats 4000000 in
set_option maxRecDepth 100000 in
theorem b_L_mayFlow_0 {l : Launch} {p : Program} {e : Env} {s : State} {m : MethodId} {args : Array Value} {below : List Frame} {meth : Method} {c : Code} (cx : jv_cx p s m args meth c cc_L_mayFlow 2 R_Labels (some .boolean) ws_L_mayFlow) {r : Int32} {y0 : Int32} {y1 : Int32} {ls : Array Slot} (hl : lv_has ls 2 [(0, .int y0), (1, .int y1)]) (hf : f_L_mayFlow_0 y0 y1 = some r) : W p l e rm_L_mayFlow s m args below meth c s.heap [] 0 0 (MQ below (QcRead r) args s 0 0 (fun _ => False)) (F0 m 0 ls []) := by
  unfold f_L_mayFlow_0 at hf
  obtain ⟨hx, hb, hml, hown, hts, hr, hlocks⟩ := id cx
  refine lv_iload_n hx hb d_L_mayFlow_0 rfl (lv_at hl 0 rfl) ?_
  refine lv_iload_n hx hb d_L_mayFlow_1 rfl (lv_at hl 1 rfl) ?_
  obtain ⟨x1, g2, hf⟩ := jv_ob hf
  refine jv_cs (W.runS (As := [.int y0, .int y1]) (rest := []) ⟨hx, hb, hml, hown, hts⟩ (c_L_isSecrecyWithin l y0 y1 x1 g2) (jv_cwS hts wa_0 wa_1 wa_2 wa_3 rfl rfl yd_L_isSecrecyWithin ⟨Nat.le_of_ble_eq_true rfl, Nat.le_of_ble_eq_true rfl⟩) jv_pre0 rfl rfl hl.1 rfl (lv_room (Nat.le_of_ble_eq_true rfl)) d_L_mayFlow_2 ⟨Nat.zero_le _, Nat.zero_le _⟩) ?_
  refine lv_if_eq (tgt := 20) hx hb d_L_mayFlow_5 (by decide) (fun hc => ?_) (fun hc => ?_)
  · have hf := jv_it hf hc
    refine lv_iconst (v := (0 : Int32)) hx hb d_L_mayFlow_20 (by decide) ?_
    obtain rfl := Option.some.inj hf
    exact W.zret hx hb hr rfl (fun t ht hW => ⟨rfl, ht⟩) (fun q h => by cases h) d_L_mayFlow_21
  · have hf := jv_if hf hc
    refine lv_iload_n hx hb d_L_mayFlow_8 rfl (lv_at hl 1 rfl) ?_
    refine lv_iload_n hx hb d_L_mayFlow_9 rfl (lv_at hl 0 rfl) ?_
    obtain ⟨x3, g4, hf⟩ := jv_ob hf
    refine jv_cs (W.runS (As := [.int y1, .int y0]) (rest := []) ⟨hx, hb, hml, hown, hts⟩ (c_L_isIntegrityWithin l y1 y0 x3 g4) (jv_cwS hts wa_4 wa_1 wa_5 wa_6 rfl rfl yd_L_isIntegrityWithin ⟨Nat.le_of_ble_eq_true rfl, Nat.le_of_ble_eq_true rfl⟩) jv_pre0 rfl rfl hl.1 rfl (lv_room (Nat.le_of_ble_eq_true rfl)) d_L_mayFlow_10 ⟨Nat.zero_le _, Nat.zero_le _⟩) ?_
    refine lv_if_eq (tgt := 20) hx hb d_L_mayFlow_13 (by decide) (fun hc => ?_) (fun hc => ?_)
    · have hf := jv_it hf hc
      refine lv_iconst (v := (0 : Int32)) hx hb d_L_mayFlow_20 (by decide) ?_
      obtain rfl := Option.some.inj hf
      exact W.zret hx hb hr rfl (fun t ht hW => ⟨rfl, ht⟩) (fun q h => by cases h) d_L_mayFlow_21
    · have hf := jv_if hf hc
      refine lv_iconst (v := (1 : Int32)) hx hb d_L_mayFlow_16 (by decide) ?_
      refine lv_goto (tgt := 21) hx hb d_L_mayFlow_17 (by decide) ?_
      obtain rfl := Option.some.inj hf
      exact W.zret hx hb hr rfl (fun t ht hW => ⟨rfl, ht⟩) (fun q h => by cases h) d_L_mayFlow_21
def f_L_mayFlow (a0 : Int32) (a1 : Int32) : Option (Int32) := f_L_mayFlow_0 a0 a1
set_option maxHeartbeats 4000000 in
set_option maxRecDepth 100000 in
theorem c_L_mayFlow (l : Launch) (a0 : Int32) (a1 : Int32) (r : Int32) (hf : f_L_mayFlow a0 a1 = some r) : Met l y_L_mayFlow ws_L_mayFlow rm_L_mayFlow (jv_P0 [.int a0, .int a1]) (QcRead r) 0 0 (fun _ => False) := by
  refine Met.ofW (cc := cc_L_mayFlow) (maxL := 2) (ret := (some .boolean)) (by decide) rfl ?_
  intro p e s m args below meth c s₁ B hml hv
  obtain ⟨rfl, -⟩ := hv
  have cx : jv_cx p s m _ meth c cc_L_mayFlow 2 R_Labels (some .boolean) ws_L_mayFlow := ⟨B.exec, B.bytes, hml, findClass_of_methodNamed B.named, atoms_spec (ws := ws_L_mayFlow) B.pre, B.returns, B.notSynchronized⟩
  have hl := lv_entry ([.int a0, .int a1]) (n := 2) (Nat.le_of_ble_eq_true rfl)
  rw [lg_entry_eq]
  generalize (lg_sl ([.int a0, .int a1]) ++ List.replicate (2 - (lg_sl ([.int a0, .int a1])).length) Slot.unset).toArray = ls at hl ⊢
  have hl : lv_has ls 2 [(0, .int a0), (1, .int a1)] := hl
  exact b_L_mayFlow_0 (y0 := a0) (y1 := a1) cx (lv_sub hl [0, 1] rfl) hf
theorem d_L_isWithin_0 : decode cc_L_isWithin 0 = .ok (.iload_n 0, 1) := by decide +kernel
theorem d_L_isWithin_1 : decode cc_L_isWithin 1 = .ok (.iload_n 1, 1) := by decide +kernel
theorem d_L_isWithin_2 : decode cc_L_isWithin 2 = .ok (.invokestatic 9, 3) := by decide +kernel
theorem d_L_isWithin_5 : decode cc_L_isWithin 5 = .ok (.ifCond .eq 15, 3) := by decide +kernel
theorem d_L_isWithin_20 : decode cc_L_isWithin 20 = .ok (.iconst 0, 1) := by decide +kernel
theorem d_L_isWithin_21 : decode cc_L_isWithin 21 = .ok (.ireturn, 1) := by decide +kernel
theorem d_L_isWithin_8 : decode cc_L_isWithin 8 = .ok (.iload_n 0, 1) := by decide +kernel
theorem d_L_isWithin_9 : decode cc_L_isWithin 9 = .ok (.iload_n 1, 1) := by decide +kernel
theorem d_L_isWithin_10 : decode cc_L_isWithin 10 = .ok (.invokestatic 13, 3) := by decide +kernel
theorem d_L_isWithin_13 : decode cc_L_isWithin 13 = .ok (.ifCond .eq 7, 3) := by decide +kernel
theorem d_L_isWithin_16 : decode cc_L_isWithin 16 = .ok (.iconst 1, 1) := by decide +kernel
theorem d_L_isWithin_17 : decode cc_L_isWithin 17 = .ok (.goto 4, 3) := by decide +kernel
def f_L_isWithin_0 (y0 : Int32) (y1 : Int32) : Option (Int32) :=
  (f_L_isSecrecyWithin y0 y1).bind fun x1 => if x1 = 0 then (some (0 : Int32)) else ((f_L_isIntegrityWithin y0 y1).bind fun x3 => if x3 = 0 then (some (0 : Int32)) else (some (1 : Int32)))
set_option maxHeartbeats 4000000 in
set_option maxRecDepth 100000 in
theorem b_L_isWithin_0 {l : Launch} {p : Program} {e : Env} {s : State} {m : MethodId} {args : Array Value} {below : List Frame} {meth : Method} {c : Code} (cx : jv_cx p s m args meth c cc_L_isWithin 2 R_Labels (some .boolean) ws_L_isWithin) {r : Int32} {y0 : Int32} {y1 : Int32} {ls : Array Slot} (hl : lv_has ls 2 [(0, .int y0), (1, .int y1)]) (hf : f_L_isWithin_0 y0 y1 = some r) : W p l e rm_L_isWithin s m args below meth c s.heap [] 0 0 (MQ below (QcRead r) args s 0 0 (fun _ => False)) (F0 m 0 ls []) := by
  unfold f_L_isWithin_0 at hf
  obtain ⟨hx, hb, hml, hown, hts, hr, hlocks⟩ := id cx
  refine lv_iload_n hx hb d_L_isWithin_0 rfl (lv_at hl 0 rfl) ?_
  refine lv_iload_n hx hb d_L_isWithin_1 rfl (lv_at hl 1 rfl) ?_
  obtain ⟨x1, g2, hf⟩ := jv_ob hf
  refine jv_cs (W.runS (As := [.int y0, .int y1]) (rest := []) ⟨hx, hb, hml, hown, hts⟩ (c_L_isSecrecyWithin l y0 y1 x1 g2) (jv_cwS hts wa_0 wa_1 wa_2 wa_3 rfl rfl yd_L_isSecrecyWithin ⟨Nat.le_of_ble_eq_true rfl, Nat.le_of_ble_eq_true rfl⟩) jv_pre0 rfl rfl hl.1 rfl (lv_room (Nat.le_of_ble_eq_true rfl)) d_L_isWithin_2 ⟨Nat.zero_le _, Nat.zero_le _⟩) ?_
  refine lv_if_eq (tgt := 20) hx hb d_L_isWithin_5 (by decide) (fun hc => ?_) (fun hc => ?_)
  · have hf := jv_it hf hc
    refine lv_iconst (v := (0 : Int32)) hx hb d_L_isWithin_20 (by decide) ?_
    obtain rfl := Option.some.inj hf
    exact W.zret hx hb hr rfl (fun t ht hW => ⟨rfl, ht⟩) (fun q h => by cases h) d_L_isWithin_21
  · have hf := jv_if hf hc
    refine lv_iload_n hx hb d_L_isWithin_8 rfl (lv_at hl 0 rfl) ?_
    refine lv_iload_n hx hb d_L_isWithin_9 rfl (lv_at hl 1 rfl) ?_
    obtain ⟨x3, g4, hf⟩ := jv_ob hf
    refine jv_cs (W.runS (As := [.int y0, .int y1]) (rest := []) ⟨hx, hb, hml, hown, hts⟩ (c_L_isIntegrityWithin l y0 y1 x3 g4) (jv_cwS hts wa_4 wa_1 wa_5 wa_6 rfl rfl yd_L_isIntegrityWithin ⟨Nat.le_of_ble_eq_true rfl, Nat.le_of_ble_eq_true rfl⟩) jv_pre0 rfl rfl hl.1 rfl (lv_room (Nat.le_of_ble_eq_true rfl)) d_L_isWithin_10 ⟨Nat.zero_le _, Nat.zero_le _⟩) ?_
    refine lv_if_eq (tgt := 20) hx hb d_L_isWithin_13 (by decide) (fun hc => ?_) (fun hc => ?_)
    · have hf := jv_it hf hc
      refine lv_iconst (v := (0 : Int32)) hx hb d_L_isWithin_20 (by decide) ?_
      obtain rfl := Option.some.inj hf
      exact W.zret hx hb hr rfl (fun t ht hW => ⟨rfl, ht⟩) (fun q h => by cases h) d_L_isWithin_21
    · have hf := jv_if hf hc
      refine lv_iconst (v := (1 : Int32)) hx hb d_L_isWithin_16 (by decide) ?_
      refine lv_goto (tgt := 21) hx hb d_L_isWithin_17 (by decide) ?_
      obtain rfl := Option.some.inj hf
      exact W.zret hx hb hr rfl (fun t ht hW => ⟨rfl, ht⟩) (fun q h => by cases h) d_L_isWithin_21
def f_L_isWithin (a0 : Int32) (a1 : Int32) : Option (Int32) := f_L_isWithin_0 a0 a1
set_option maxHeartbeats 4000000 in
set_option maxRecDepth 100000 in
theorem c_L_isWithin (l : Launch) (a0 : Int32) (a1 : Int32) (r : Int32) (hf : f_L_isWithin a0 a1 = some r) : Met l y_L_isWithin ws_L_isWithin rm_L_isWithin (jv_P0 [.int a0, .int a1]) (QcRead r) 0 0 (fun _ => False) := by
  refine Met.ofW (cc := cc_L_isWithin) (maxL := 2) (ret := (some .boolean)) (by decide) rfl ?_
  intro p e s m args below meth c s₁ B hml hv
  obtain ⟨rfl, -⟩ := hv
  have cx : jv_cx p s m _ meth c cc_L_isWithin 2 R_Labels (some .boolean) ws_L_isWithin := ⟨B.exec, B.bytes, hml, findClass_of_methodNamed B.named, atoms_spec (ws := ws_L_isWithin) B.pre, B.returns, B.notSynchronized⟩
  have hl := lv_entry ([.int a0, .int a1]) (n := 2) (Nat.le_of_ble_eq_true rfl)
  rw [lg_entry_eq]
  generalize (lg_sl ([.int a0, .int a1]) ++ List.replicate (2 - (lg_sl ([.int a0, .int a1])).length) Slot.unset).toArray = ls at hl ⊢
  have hl : lv_has ls 2 [(0, .int a0), (1, .int a1)] := hl
  exact b_L_isWithin_0 (y0 := a0) (y1 := a1) cx (lv_sub hl [0, 1] rfl) hf
theorem d_P_lastName_0 : decode cc_P_lastName 0 = .ok (.iload_n 0, 1) := by decide +kernel
theorem d_P_lastName_1 : decode cc_P_lastName 1 = .ok (.bipush 31, 2) := by decide +kernel
theorem d_P_lastName_3 : decode cc_P_lastName 3 = .ok (.iand, 1) := by decide +kernel
theorem d_P_lastName_4 : decode cc_P_lastName 4 = .ok (.ireturn, 1) := by decide +kernel
def f_P_lastName_0 (y0 : Int32) : Option (Int32) :=
  some (y0 &&& (31 : Int32))
set_option maxHeartbeats 4000000 in
set_option maxRecDepth 100000 in
theorem b_P_lastName_0 {l : Launch} {p : Program} {e : Env} {s : State} {m : MethodId} {args : Array Value} {below : List Frame} {meth : Method} {c : Code} (cx : jv_cx p s m args meth c cc_P_lastName 1 R_Paths (some .int) ws_P_lastName) {r : Int32} {y0 : Int32} {ls : Array Slot} (hl : lv_has ls 1 [(0, .int y0)]) (hf : f_P_lastName_0 y0 = some r) : W p l e rm_P_lastName s m args below meth c s.heap [] 0 0 (MQ below (QcRead r) args s 0 0 (fun _ => False)) (F0 m 0 ls []) := by
  unfold f_P_lastName_0 at hf
  obtain ⟨hx, hb, hml, hown, hts, hr, hlocks⟩ := id cx
  refine lv_iload_n hx hb d_P_lastName_0 rfl (lv_at hl 0 rfl) ?_
  refine lv_bipush (v := (31 : Int32)) hx hb d_P_lastName_1 (by decide) ?_
  refine lv_iand hx hb d_P_lastName_3 ?_
  obtain rfl := Option.some.inj hf
  exact W.iret hx hb hr (fun t ht hW => ⟨rfl, ht⟩) (fun q h => by cases h) d_P_lastName_4
def f_P_lastName (a0 : Int32) : Option (Int32) := f_P_lastName_0 a0
set_option maxHeartbeats 4000000 in
set_option maxRecDepth 100000 in
theorem c_P_lastName (l : Launch) (a0 : Int32) (r : Int32) (hf : f_P_lastName a0 = some r) : Met l y_P_lastName ws_P_lastName rm_P_lastName (jv_P0 [.int a0]) (QcRead r) 0 0 (fun _ => False) := by
  refine Met.ofW (cc := cc_P_lastName) (maxL := 1) (ret := (some .int)) (by decide) rfl ?_
  intro p e s m args below meth c s₁ B hml hv
  obtain ⟨rfl, -⟩ := hv
  have cx : jv_cx p s m _ meth c cc_P_lastName 1 R_Paths (some .int) ws_P_lastName := ⟨B.exec, B.bytes, hml, findClass_of_methodNamed B.named, atoms_spec (ws := ws_P_lastName) B.pre, B.returns, B.notSynchronized⟩
  have hl := lv_entry ([.int a0]) (n := 1) (Nat.le_of_ble_eq_true rfl)
  rw [lg_entry_eq]
  generalize (lg_sl ([.int a0]) ++ List.replicate (1 - (lg_sl ([.int a0])).length) Slot.unset).toArray = ls at hl ⊢
  have hl : lv_has ls 1 [(0, .int a0)] := hl
  exact b_P_lastName_0 (y0 := a0) cx (lv_sub hl [0] rfl) hf
theorem d_P_parentOf_0 : decode cc_P_parentOf 0 = .ok (.iload_n 0, 1) := by decide +kernel
theorem d_P_parentOf_1 : decode cc_P_parentOf 1 = .ok (.iconst 5, 1) := by decide +kernel
theorem d_P_parentOf_2 : decode cc_P_parentOf 2 = .ok (.ishr, 1) := by decide +kernel
theorem d_P_parentOf_3 : decode cc_P_parentOf 3 = .ok (.ireturn, 1) := by decide +kernel
def f_P_parentOf_0 (y0 : Int32) : Option (Int32) :=
  some (y0 >>> ((5 : Int32) &&& 31))
set_option maxHeartbeats 4000000 in
set_option maxRecDepth 100000 in
theorem b_P_parentOf_0 {l : Launch} {p : Program} {e : Env} {s : State} {m : MethodId} {args : Array Value} {below : List Frame} {meth : Method} {c : Code} (cx : jv_cx p s m args meth c cc_P_parentOf 1 R_Paths (some .int) ws_P_parentOf) {r : Int32} {y0 : Int32} {ls : Array Slot} (hl : lv_has ls 1 [(0, .int y0)]) (hf : f_P_parentOf_0 y0 = some r) : W p l e rm_P_parentOf s m args below meth c s.heap [] 0 0 (MQ below (QcRead r) args s 0 0 (fun _ => False)) (F0 m 0 ls []) := by
  unfold f_P_parentOf_0 at hf
  obtain ⟨hx, hb, hml, hown, hts, hr, hlocks⟩ := id cx
  refine lv_iload_n hx hb d_P_parentOf_0 rfl (lv_at hl 0 rfl) ?_
  refine lv_iconst (v := (5 : Int32)) hx hb d_P_parentOf_1 (by decide) ?_
  refine lv_ishr hx hb d_P_parentOf_2 ?_
  obtain rfl := Option.some.inj hf
  exact W.iret hx hb hr (fun t ht hW => ⟨rfl, ht⟩) (fun q h => by cases h) d_P_parentOf_3
def f_P_parentOf (a0 : Int32) : Option (Int32) := f_P_parentOf_0 a0
set_option maxHeartbeats 4000000 in
set_option maxRecDepth 100000 in
theorem c_P_parentOf (l : Launch) (a0 : Int32) (r : Int32) (hf : f_P_parentOf a0 = some r) : Met l y_P_parentOf ws_P_parentOf rm_P_parentOf (jv_P0 [.int a0]) (QcRead r) 0 0 (fun _ => False) := by
  refine Met.ofW (cc := cc_P_parentOf) (maxL := 1) (ret := (some .int)) (by decide) rfl ?_
  intro p e s m args below meth c s₁ B hml hv
  obtain ⟨rfl, -⟩ := hv
  have cx : jv_cx p s m _ meth c cc_P_parentOf 1 R_Paths (some .int) ws_P_parentOf := ⟨B.exec, B.bytes, hml, findClass_of_methodNamed B.named, atoms_spec (ws := ws_P_parentOf) B.pre, B.returns, B.notSynchronized⟩
  have hl := lv_entry ([.int a0]) (n := 1) (Nat.le_of_ble_eq_true rfl)
  rw [lg_entry_eq]
  generalize (lg_sl ([.int a0]) ++ List.replicate (1 - (lg_sl ([.int a0])).length) Slot.unset).toArray = ls at hl ⊢
  have hl : lv_has ls 1 [(0, .int a0)] := hl
  exact b_P_parentOf_0 (y0 := a0) cx (lv_sub hl [0] rfl) hf
theorem d_P_without_0 : decode cc_P_without 0 = .ok (.iload_n 0, 1) := by decide +kernel
theorem d_P_without_1 : decode cc_P_without 1 = .ok (.iload_n 1, 1) := by decide +kernel
theorem d_P_without_2 : decode cc_P_without 2 = .ok (.iconst 5, 1) := by decide +kernel
theorem d_P_without_3 : decode cc_P_without 3 = .ok (.imul, 1) := by decide +kernel
theorem d_P_without_4 : decode cc_P_without 4 = .ok (.ishr, 1) := by decide +kernel
theorem d_P_without_5 : decode cc_P_without 5 = .ok (.ireturn, 1) := by decide +kernel
def f_P_without_0 (y0 : Int32) (y1 : Int32) : Option (Int32) :=
  some (y0 >>> ((y1 * (5 : Int32)) &&& 31))
set_option maxHeartbeats 4000000 in
set_option maxRecDepth 100000 in
theorem b_P_without_0 {l : Launch} {p : Program} {e : Env} {s : State} {m : MethodId} {args : Array Value} {below : List Frame} {meth : Method} {c : Code} (cx : jv_cx p s m args meth c cc_P_without 2 R_Paths (some .int) ws_P_without) {r : Int32} {y0 : Int32} {y1 : Int32} {ls : Array Slot} (hl : lv_has ls 2 [(0, .int y0), (1, .int y1)]) (hf : f_P_without_0 y0 y1 = some r) : W p l e rm_P_without s m args below meth c s.heap [] 0 0 (MQ below (QcRead r) args s 0 0 (fun _ => False)) (F0 m 0 ls []) := by
  unfold f_P_without_0 at hf
  obtain ⟨hx, hb, hml, hown, hts, hr, hlocks⟩ := id cx
  refine lv_iload_n hx hb d_P_without_0 rfl (lv_at hl 0 rfl) ?_
  refine lv_iload_n hx hb d_P_without_1 rfl (lv_at hl 1 rfl) ?_
  refine lv_iconst (v := (5 : Int32)) hx hb d_P_without_2 (by decide) ?_
  refine lv_imul hx hb d_P_without_3 ?_
  refine lv_ishr hx hb d_P_without_4 ?_
  obtain rfl := Option.some.inj hf
  exact W.iret hx hb hr (fun t ht hW => ⟨rfl, ht⟩) (fun q h => by cases h) d_P_without_5
def f_P_without (a0 : Int32) (a1 : Int32) : Option (Int32) := f_P_without_0 a0 a1
set_option maxHeartbeats 4000000 in
set_option maxRecDepth 100000 in
theorem c_P_without (l : Launch) (a0 : Int32) (a1 : Int32) (r : Int32) (hf : f_P_without a0 a1 = some r) : Met l y_P_without ws_P_without rm_P_without (jv_P0 [.int a0, .int a1]) (QcRead r) 0 0 (fun _ => False) := by
  refine Met.ofW (cc := cc_P_without) (maxL := 2) (ret := (some .int)) (by decide) rfl ?_
  intro p e s m args below meth c s₁ B hml hv
  obtain ⟨rfl, -⟩ := hv
  have cx : jv_cx p s m _ meth c cc_P_without 2 R_Paths (some .int) ws_P_without := ⟨B.exec, B.bytes, hml, findClass_of_methodNamed B.named, atoms_spec (ws := ws_P_without) B.pre, B.returns, B.notSynchronized⟩
  have hl := lv_entry ([.int a0, .int a1]) (n := 2) (Nat.le_of_ble_eq_true rfl)
  rw [lg_entry_eq]
  generalize (lg_sl ([.int a0, .int a1]) ++ List.replicate (2 - (lg_sl ([.int a0, .int a1])).length) Slot.unset).toArray = ls at hl ⊢
  have hl : lv_has ls 2 [(0, .int a0), (1, .int a1)] := hl
  exact b_P_without_0 (y0 := a0) (y1 := a1) cx (lv_sub hl [0, 1] rfl) hf
theorem d_P_isPath_0 : decode cc_P_isPath 0 = .ok (.iload_n 0, 1) := by decide +kernel
theorem d_P_isPath_1 : decode cc_P_isPath 1 = .ok (.istore_n 1, 1) := by decide +kernel
theorem d_P_isPath_2 : decode cc_P_isPath 2 = .ok (.iconst 0, 1) := by decide +kernel
theorem d_P_isPath_3 : decode cc_P_isPath 3 = .ok (.istore_n 2, 1) := by decide +kernel
theorem d_P_isPath_4 : decode cc_P_isPath 4 = .ok (.iload_n 2, 1) := by decide +kernel
theorem d_P_isPath_5 : decode cc_P_isPath 5 = .ok (.iconst 4, 1) := by decide +kernel
theorem d_P_isPath_6 : decode cc_P_isPath 6 = .ok (.if_icmp .ge 35, 3) := by decide +kernel
theorem d_P_isPath_41 : decode cc_P_isPath 41 = .ok (.iload_n 1, 1) := by decide +kernel
theorem d_P_isPath_42 : decode cc_P_isPath 42 = .ok (.ifCond .ne 7, 3) := by decide +kernel
theorem d_P_isPath_49 : decode cc_P_isPath 49 = .ok (.iconst 0, 1) := by decide +kernel
theorem d_P_isPath_50 : decode cc_P_isPath 50 = .ok (.ireturn, 1) := by decide +kernel
theorem d_P_isPath_45 : decode cc_P_isPath 45 = .ok (.iconst 1, 1) := by decide +kernel
theorem d_P_isPath_46 : decode cc_P_isPath 46 = .ok (.goto 4, 3) := by decide +kernel
theorem d_P_isPath_9 : decode cc_P_isPath 9 = .ok (.iload_n 1, 1) := by decide +kernel
theorem d_P_isPath_10 : decode cc_P_isPath 10 = .ok (.ifCond .eq 31, 3) := by decide +kernel
theorem d_P_isPath_13 : decode cc_P_isPath 13 = .ok (.iload_n 1, 1) := by decide +kernel
theorem d_P_isPath_14 : decode cc_P_isPath 14 = .ok (.invokestatic 9, 3) := by decide +kernel
theorem d_P_isPath_17 : decode cc_P_isPath 17 = .ok (.istore_n 3, 1) := by decide +kernel
theorem d_P_isPath_18 : decode cc_P_isPath 18 = .ok (.iload_n 3, 1) := by decide +kernel
theorem d_P_isPath_19 : decode cc_P_isPath 19 = .ok (.ifCond .eq 9, 3) := by decide +kernel
theorem d_P_isPath_28 : decode cc_P_isPath 28 = .ok (.iconst 0, 1) := by decide +kernel
theorem d_P_isPath_29 : decode cc_P_isPath 29 = .ok (.ireturn, 1) := by decide +kernel
theorem d_P_isPath_22 : decode cc_P_isPath 22 = .ok (.iload_n 3, 1) := by decide +kernel
theorem d_P_isPath_23 : decode cc_P_isPath 23 = .ok (.bipush 26, 2) := by decide +kernel
theorem d_P_isPath_25 : decode cc_P_isPath 25 = .ok (.if_icmp .le 5, 3) := by decide +kernel
theorem d_P_isPath_30 : decode cc_P_isPath 30 = .ok (.iload_n 1, 1) := by decide +kernel
theorem d_P_isPath_31 : decode cc_P_isPath 31 = .ok (.invokestatic 13, 3) := by decide +kernel
theorem d_P_isPath_34 : decode cc_P_isPath 34 = .ok (.istore_n 1, 1) := by decide +kernel
theorem d_P_isPath_35 : decode cc_P_isPath 35 = .ok (.iinc 2 1, 3) := by decide +kernel
theorem d_P_isPath_38 : decode cc_P_isPath 38 = .ok (.goto (-34), 3) := by decide +kernel
def f_P_isPath_4 (k4 : (Int32 × Int32) → Option (Int32)) (a : Int32 × Int32) : Option (Int32) :=
  if (4 : Int32) ≤ a.2 then (if a.1 = 0 then (some (1 : Int32)) else (some (0 : Int32))) else (if a.1 = 0 then (if a.1 = 0 then (some (1 : Int32)) else (some (0 : Int32))) else ((f_P_lastName a.1).bind fun x1 => if x1 = 0 then (some (0 : Int32)) else (if x1 ≤ (26 : Int32) then ((f_P_parentOf a.1).bind fun x3 => k4 (x3, a.2 + (1 : Int32))) else (some (0 : Int32)))))
set_option maxHeartbeats 4000000 in
set_option maxRecDepth 100000 in
theorem b_P_isPath_4 {l : Launch} {p : Program} {e : Env} {s : State} {m : MethodId} {args : Array Value} {below : List Frame} {meth : Method} {c : Code} (cx : jv_cx p s m args meth c cc_P_isPath 4 R_Paths (some .boolean) ws_P_isPath) {r : Int32} {k4 : (Int32 × Int32) → Option (Int32)} (hk4 : ∀ (b0 : Int32) (b1 : Int32) (ls : Array Slot), lv_has ls 4 [(1, .int b0), (2, .int b1)] → k4 (b0, b1) = some r → W p l e rm_P_isPath s m args below meth c s.heap [] 0 0 (MQ below (QcRead r) args s 0 0 (fun _ => False)) (F0 m 4 ls [])) {a : Int32 × Int32} {ls : Array Slot} (hl : lv_has ls 4 [(1, .int a.1), (2, .int a.2)]) (hf : f_P_isPath_4 k4 a = some r) : W p l e rm_P_isPath s m args below meth c s.heap [] 0 0 (MQ below (QcRead r) args s 0 0 (fun _ => False)) (F0 m 4 ls []) := by
  unfold f_P_isPath_4 at hf
  obtain ⟨hx, hb, hml, hown, hts, hr, hlocks⟩ := id cx
  refine lv_iload_n hx hb d_P_isPath_4 rfl (lv_at hl 1 rfl) ?_
  refine lv_iconst (v := (4 : Int32)) hx hb d_P_isPath_5 (by decide) ?_
  refine lv_icmp_ge (tgt := 41) hx hb d_P_isPath_6 (by decide) (fun hc => ?_) (fun hc => ?_)
  · have hf := jv_it hf hc
    refine lv_iload_n hx hb d_P_isPath_41 rfl (lv_at hl 0 rfl) ?_
    refine lv_if_ne (tgt := 49) hx hb d_P_isPath_42 (by decide) (fun hc => ?_) (fun hc => ?_)
    · have hf := jv_if hf hc
      refine lv_iconst (v := (0 : Int32)) hx hb d_P_isPath_49 (by decide) ?_
      obtain rfl := Option.some.inj hf
      exact W.zret hx hb hr rfl (fun t ht hW => ⟨rfl, ht⟩) (fun q h => by cases h) d_P_isPath_50
    · have hf := jv_it hf hc
      refine lv_iconst (v := (1 : Int32)) hx hb d_P_isPath_45 (by decide) ?_
      refine lv_goto (tgt := 50) hx hb d_P_isPath_46 (by decide) ?_
      obtain rfl := Option.some.inj hf
      exact W.zret hx hb hr rfl (fun t ht hW => ⟨rfl, ht⟩) (fun q h => by cases h) d_P_isPath_50
  · have hf := jv_if hf hc
    refine lv_iload_n hx hb d_P_isPath_9 rfl (lv_at hl 0 rfl) ?_
    refine lv_if_eq (tgt := 41) hx hb d_P_isPath_10 (by decide) (fun hc => ?_) (fun hc => ?_)
    · have hf := jv_it hf hc
      refine lv_iload_n hx hb d_P_isPath_41 rfl (lv_at hl 0 rfl) ?_
      refine lv_if_ne (tgt := 49) hx hb d_P_isPath_42 (by decide) (fun hc => ?_) (fun hc => ?_)
      · have hf := jv_if hf hc
        refine lv_iconst (v := (0 : Int32)) hx hb d_P_isPath_49 (by decide) ?_
        obtain rfl := Option.some.inj hf
        exact W.zret hx hb hr rfl (fun t ht hW => ⟨rfl, ht⟩) (fun q h => by cases h) d_P_isPath_50
      · have hf := jv_it hf hc
        refine lv_iconst (v := (1 : Int32)) hx hb d_P_isPath_45 (by decide) ?_
        refine lv_goto (tgt := 50) hx hb d_P_isPath_46 (by decide) ?_
        obtain rfl := Option.some.inj hf
        exact W.zret hx hb hr rfl (fun t ht hW => ⟨rfl, ht⟩) (fun q h => by cases h) d_P_isPath_50
    · have hf := jv_if hf hc
      refine lv_iload_n hx hb d_P_isPath_13 rfl (lv_at hl 0 rfl) ?_
      obtain ⟨x1, g2, hf⟩ := jv_ob hf
      refine jv_cs (W.runS (As := [.int a.1]) (rest := []) ⟨hx, hb, hml, hown, hts⟩ (c_P_lastName l a.1 x1 g2) (jv_cwS hts wa_7 wa_8 wa_9 wa_10 rfl rfl yd_P_lastName ⟨Nat.le_of_ble_eq_true rfl, Nat.le_of_ble_eq_true rfl⟩) jv_pre0 rfl rfl hl.1 rfl (lv_room (Nat.le_of_ble_eq_true rfl)) d_P_isPath_14 ⟨Nat.zero_le _, Nat.zero_le _⟩) ?_
      refine lv_istore_n (lv' := [(3, .int x1), (1, .int a.1), (2, .int a.2)]) hx hb d_P_isPath_17 rfl hl (by decide) rfl (fun ls hl => ?_)
      refine lv_iload_n hx hb d_P_isPath_18 rfl (lv_at hl 0 rfl) ?_
      refine lv_if_eq (tgt := 28) hx hb d_P_isPath_19 (by decide) (fun hc => ?_) (fun hc => ?_)
      · have hf := jv_it hf hc
        refine lv_iconst (v := (0 : Int32)) hx hb d_P_isPath_28 (by decide) ?_
        obtain rfl := Option.some.inj hf
        exact W.zret hx hb hr rfl (fun t ht hW => ⟨rfl, ht⟩) (fun q h => by cases h) d_P_isPath_29
      · have hf := jv_if hf hc
        refine lv_iload_n hx hb d_P_isPath_22 rfl (lv_at hl 0 rfl) ?_
        refine lv_bipush (v := (26 : Int32)) hx hb d_P_isPath_23 (by decide) ?_
        refine lv_icmp_le (tgt := 30) hx hb d_P_isPath_25 (by decide) (fun hc => ?_) (fun hc => ?_)
        · have hf := jv_it hf hc
          refine lv_iload_n hx hb d_P_isPath_30 rfl (lv_at hl 1 rfl) ?_
          obtain ⟨x3, g4, hf⟩ := jv_ob hf
          refine jv_cs (W.runS (As := [.int a.1]) (rest := []) ⟨hx, hb, hml, hown, hts⟩ (c_P_parentOf l a.1 x3 g4) (jv_cwS hts wa_11 wa_8 wa_12 wa_13 rfl rfl yd_P_parentOf ⟨Nat.le_of_ble_eq_true rfl, Nat.le_of_ble_eq_true rfl⟩) jv_pre0 rfl rfl hl.1 rfl (lv_room (Nat.le_of_ble_eq_true rfl)) d_P_isPath_31 ⟨Nat.zero_le _, Nat.zero_le _⟩) ?_
          refine lv_istore_n (lv' := [(1, .int x3), (3, .int x1), (2, .int a.2)]) hx hb d_P_isPath_34 rfl hl (by decide) rfl (fun ls hl => ?_)
          refine lv_iinc (k := 2) (v := a.2 + (1 : Int32)) (lv' := [(2, .int (a.2 + (1 : Int32))), (1, .int x3), (3, .int x1)]) hx hb d_P_isPath_35 hl rfl (jv_inc _) (by decide) rfl (fun ls hl => ?_)
          refine lv_goto (tgt := 4) hx hb d_P_isPath_38 (by decide) ?_
          exact hk4 x3 (a.2 + (1 : Int32)) _ (lv_sub hl [1, 0] rfl) hf
        · have hf := jv_if hf hc
          refine lv_iconst (v := (0 : Int32)) hx hb d_P_isPath_28 (by decide) ?_
          obtain rfl := Option.some.inj hf
          exact W.zret hx hb hr rfl (fun t ht hW => ⟨rfl, ht⟩) (fun q h => by cases h) d_P_isPath_29
set_option maxHeartbeats 4000000 in
set_option maxRecDepth 100000 in
theorem l_P_isPath_4 {l : Launch} {p : Program} {e : Env} {s : State} {m : MethodId} {args : Array Value} {below : List Frame} {meth : Method} {c : Code} (cx : jv_cx p s m args meth c cc_P_isPath 4 R_Paths (some .boolean) ws_P_isPath) {r : Int32} : ∀ n : Nat, ∀ (b0 : Int32) (b1 : Int32) (ls : Array Slot), lv_has ls 4 [(1, .int b0), (2, .int b1)] → jv_fx (f_P_isPath_4) n (b0, b1) = some r → W p l e rm_P_isPath s m args below meth c s.heap [] 0 0 (MQ below (QcRead r) args s 0 0 (fun _ => False)) (F0 m 4 ls []) := by
  intro n
  induction n with
  | zero => intro b0 b1 ls hl hf; exact jv_no hf
  | succ n ih => intro b0 b1 ls hl hf; exact b_P_isPath_4 (a := (b0, b1)) cx ih hl hf
def f_P_isPath_0 (y0 : Int32) : Option (Int32) :=
  jv_fx (f_P_isPath_4) 300 (y0, (0 : Int32))
set_option maxHeartbeats 4000000 in
set_option maxRecDepth 100000 in
theorem b_P_isPath_0 {l : Launch} {p : Program} {e : Env} {s : State} {m : MethodId} {args : Array Value} {below : List Frame} {meth : Method} {c : Code} (cx : jv_cx p s m args meth c cc_P_isPath 4 R_Paths (some .boolean) ws_P_isPath) {r : Int32} {y0 : Int32} {ls : Array Slot} (hl : lv_has ls 4 [(0, .int y0)]) (hf : f_P_isPath_0 y0 = some r) : W p l e rm_P_isPath s m args below meth c s.heap [] 0 0 (MQ below (QcRead r) args s 0 0 (fun _ => False)) (F0 m 0 ls []) := by
  unfold f_P_isPath_0 at hf
  obtain ⟨hx, hb, hml, hown, hts, hr, hlocks⟩ := id cx
  refine lv_iload_n hx hb d_P_isPath_0 rfl (lv_at hl 0 rfl) ?_
  refine lv_istore_n (lv' := [(1, .int y0), (0, .int y0)]) hx hb d_P_isPath_1 rfl hl (by decide) rfl (fun ls hl => ?_)
  refine lv_iconst (v := (0 : Int32)) hx hb d_P_isPath_2 (by decide) ?_
  refine lv_istore_n (lv' := [(2, .int (0 : Int32)), (1, .int y0), (0, .int y0)]) hx hb d_P_isPath_3 rfl hl (by decide) rfl (fun ls hl => ?_)
  exact l_P_isPath_4 cx 300 y0 (0 : Int32) _ (lv_sub hl [1, 0] rfl) hf
def f_P_isPath (a0 : Int32) : Option (Int32) := f_P_isPath_0 a0
set_option maxHeartbeats 4000000 in
set_option maxRecDepth 100000 in
theorem c_P_isPath (l : Launch) (a0 : Int32) (r : Int32) (hf : f_P_isPath a0 = some r) : Met l y_P_isPath ws_P_isPath rm_P_isPath (jv_P0 [.int a0]) (QcRead r) 0 0 (fun _ => False) := by
  refine Met.ofW (cc := cc_P_isPath) (maxL := 4) (ret := (some .boolean)) (by decide) rfl ?_
  intro p e s m args below meth c s₁ B hml hv
  obtain ⟨rfl, -⟩ := hv
  have cx : jv_cx p s m _ meth c cc_P_isPath 4 R_Paths (some .boolean) ws_P_isPath := ⟨B.exec, B.bytes, hml, findClass_of_methodNamed B.named, atoms_spec (ws := ws_P_isPath) B.pre, B.returns, B.notSynchronized⟩
  have hl := lv_entry ([.int a0]) (n := 4) (Nat.le_of_ble_eq_true rfl)
  rw [lg_entry_eq]
  generalize (lg_sl ([.int a0]) ++ List.replicate (4 - (lg_sl ([.int a0])).length) Slot.unset).toArray = ls at hl ⊢
  have hl : lv_has ls 4 [(0, .int a0)] := hl
  exact b_P_isPath_0 (y0 := a0) cx (lv_sub hl [0] rfl) hf
theorem d_P_isBelowRoot_0 : decode cc_P_isBelowRoot 0 = .ok (.iload_n 0, 1) := by decide +kernel
theorem d_P_isBelowRoot_1 : decode cc_P_isBelowRoot 1 = .ok (.ifCond .eq 14, 3) := by decide +kernel
theorem d_P_isBelowRoot_15 : decode cc_P_isBelowRoot 15 = .ok (.iconst 0, 1) := by decide +kernel
theorem d_P_isBelowRoot_16 : decode cc_P_isBelowRoot 16 = .ok (.ireturn, 1) := by decide +kernel
theorem d_P_isBelowRoot_4 : decode cc_P_isBelowRoot 4 = .ok (.iload_n 0, 1) := by decide +kernel
theorem d_P_isBelowRoot_5 : decode cc_P_isBelowRoot 5 = .ok (.invokestatic 16, 3) := by decide +kernel
theorem d_P_isBelowRoot_8 : decode cc_P_isBelowRoot 8 = .ok (.ifCond .eq 7, 3) := by decide +kernel
theorem d_P_isBelowRoot_11 : decode cc_P_isBelowRoot 11 = .ok (.iconst 1, 1) := by decide +kernel
theorem d_P_isBelowRoot_12 : decode cc_P_isBelowRoot 12 = .ok (.goto 4, 3) := by decide +kernel
def f_P_isBelowRoot_0 (y0 : Int32) : Option (Int32) :=
  if y0 = 0 then (some (0 : Int32)) else ((f_P_isPath y0).bind fun x1 => if x1 = 0 then (some (0 : Int32)) else (some (1 : Int32)))
set_option maxHeartbeats 4000000 in
set_option maxRecDepth 100000 in
theorem b_P_isBelowRoot_0 {l : Launch} {p : Program} {e : Env} {s : State} {m : MethodId} {args : Array Value} {below : List Frame} {meth : Method} {c : Code} (cx : jv_cx p s m args meth c cc_P_isBelowRoot 1 R_Paths (some .boolean) ws_P_isBelowRoot) {r : Int32} {y0 : Int32} {ls : Array Slot} (hl : lv_has ls 1 [(0, .int y0)]) (hf : f_P_isBelowRoot_0 y0 = some r) : W p l e rm_P_isBelowRoot s m args below meth c s.heap [] 0 0 (MQ below (QcRead r) args s 0 0 (fun _ => False)) (F0 m 0 ls []) := by
  unfold f_P_isBelowRoot_0 at hf
  obtain ⟨hx, hb, hml, hown, hts, hr, hlocks⟩ := id cx
  refine lv_iload_n hx hb d_P_isBelowRoot_0 rfl (lv_at hl 0 rfl) ?_
  refine lv_if_eq (tgt := 15) hx hb d_P_isBelowRoot_1 (by decide) (fun hc => ?_) (fun hc => ?_)
  · have hf := jv_it hf hc
    refine lv_iconst (v := (0 : Int32)) hx hb d_P_isBelowRoot_15 (by decide) ?_
    obtain rfl := Option.some.inj hf
    exact W.zret hx hb hr rfl (fun t ht hW => ⟨rfl, ht⟩) (fun q h => by cases h) d_P_isBelowRoot_16
  · have hf := jv_if hf hc
    refine lv_iload_n hx hb d_P_isBelowRoot_4 rfl (lv_at hl 0 rfl) ?_
    obtain ⟨x1, g2, hf⟩ := jv_ob hf
    refine jv_cs (W.runS (As := [.int y0]) (rest := []) ⟨hx, hb, hml, hown, hts⟩ (c_P_isPath l y0 x1 g2) (jv_cwS hts wa_14 wa_8 wa_15 wa_16 rfl rfl yd_P_isPath ⟨Nat.le_of_ble_eq_true rfl, Nat.le_of_ble_eq_true rfl⟩) jv_pre0 rfl rfl hl.1 rfl (lv_room (Nat.le_of_ble_eq_true rfl)) d_P_isBelowRoot_5 ⟨Nat.zero_le _, Nat.zero_le _⟩) ?_
    refine lv_if_eq (tgt := 15) hx hb d_P_isBelowRoot_8 (by decide) (fun hc => ?_) (fun hc => ?_)
    · have hf := jv_it hf hc
      refine lv_iconst (v := (0 : Int32)) hx hb d_P_isBelowRoot_15 (by decide) ?_
      obtain rfl := Option.some.inj hf
      exact W.zret hx hb hr rfl (fun t ht hW => ⟨rfl, ht⟩) (fun q h => by cases h) d_P_isBelowRoot_16
    · have hf := jv_if hf hc
      refine lv_iconst (v := (1 : Int32)) hx hb d_P_isBelowRoot_11 (by decide) ?_
      refine lv_goto (tgt := 16) hx hb d_P_isBelowRoot_12 (by decide) ?_
      obtain rfl := Option.some.inj hf
      exact W.zret hx hb hr rfl (fun t ht hW => ⟨rfl, ht⟩) (fun q h => by cases h) d_P_isBelowRoot_16
def f_P_isBelowRoot (a0 : Int32) : Option (Int32) := f_P_isBelowRoot_0 a0
set_option maxHeartbeats 4000000 in
set_option maxRecDepth 100000 in
theorem c_P_isBelowRoot (l : Launch) (a0 : Int32) (r : Int32) (hf : f_P_isBelowRoot a0 = some r) : Met l y_P_isBelowRoot ws_P_isBelowRoot rm_P_isBelowRoot (jv_P0 [.int a0]) (QcRead r) 0 0 (fun _ => False) := by
  refine Met.ofW (cc := cc_P_isBelowRoot) (maxL := 1) (ret := (some .boolean)) (by decide) rfl ?_
  intro p e s m args below meth c s₁ B hml hv
  obtain ⟨rfl, -⟩ := hv
  have cx : jv_cx p s m _ meth c cc_P_isBelowRoot 1 R_Paths (some .boolean) ws_P_isBelowRoot := ⟨B.exec, B.bytes, hml, findClass_of_methodNamed B.named, atoms_spec (ws := ws_P_isBelowRoot) B.pre, B.returns, B.notSynchronized⟩
  have hl := lv_entry ([.int a0]) (n := 1) (Nat.le_of_ble_eq_true rfl)
  rw [lg_entry_eq]
  generalize (lg_sl ([.int a0]) ++ List.replicate (1 - (lg_sl ([.int a0])).length) Slot.unset).toArray = ls at hl ⊢
  have hl : lv_has ls 1 [(0, .int a0)] := hl
  exact b_P_isBelowRoot_0 (y0 := a0) cx (lv_sub hl [0] rfl) hf
theorem d_P_lengthOf_0 : decode cc_P_lengthOf 0 = .ok (.iconst 0, 1) := by decide +kernel
theorem d_P_lengthOf_1 : decode cc_P_lengthOf 1 = .ok (.istore_n 1, 1) := by decide +kernel
theorem d_P_lengthOf_2 : decode cc_P_lengthOf 2 = .ok (.iconst 0, 1) := by decide +kernel
theorem d_P_lengthOf_3 : decode cc_P_lengthOf 3 = .ok (.istore_n 2, 1) := by decide +kernel
theorem d_P_lengthOf_4 : decode cc_P_lengthOf 4 = .ok (.iload_n 2, 1) := by decide +kernel
theorem d_P_lengthOf_5 : decode cc_P_lengthOf 5 = .ok (.iconst 4, 1) := by decide +kernel
theorem d_P_lengthOf_6 : decode cc_P_lengthOf 6 = .ok (.if_icmp .ge 20, 3) := by decide +kernel
theorem d_P_lengthOf_26 : decode cc_P_lengthOf 26 = .ok (.iload_n 1, 1) := by decide +kernel
theorem d_P_lengthOf_27 : decode cc_P_lengthOf 27 = .ok (.ireturn, 1) := by decide +kernel
theorem d_P_lengthOf_9 : decode cc_P_lengthOf 9 = .ok (.iload_n 0, 1) := by decide +kernel
theorem d_P_lengthOf_10 : decode cc_P_lengthOf 10 = .ok (.iload_n 2, 1) := by decide +kernel
theorem d_P_lengthOf_11 : decode cc_P_lengthOf 11 = .ok (.invokestatic 20, 3) := by decide +kernel
theorem d_P_lengthOf_14 : decode cc_P_lengthOf 14 = .ok (.ifCond .eq 6, 3) := by decide +kernel
theorem d_P_lengthOf_20 : decode cc_P_lengthOf 20 = .ok (.iinc 2 1, 3) := by decide +kernel
theorem d_P_lengthOf_23 : decode cc_P_lengthOf 23 = .ok (.goto (-19), 3) := by decide +kernel
theorem d_P_lengthOf_17 : decode cc_P_lengthOf 17 = .ok (.iinc 1 1, 3) := by decide +kernel
def f_P_lengthOf_4 (y0 : Int32) (k4 : (Int32 × Int32) → Option (Int32)) (a : Int32 × Int32) : Option (Int32) :=
  if (4 : Int32) ≤ a.2 then (some a.1) else ((f_P_without y0 a.2).bind fun x1 => if x1 = 0 then (k4 (a.1, a.2 + (1 : Int32))) else (k4 (a.1 + (1 : Int32), a.2 + (1 : Int32))))
set_option maxHeartbeats 4000000 in
set_option maxRecDepth 100000 in
theorem b_P_lengthOf_4 {l : Launch} {p : Program} {e : Env} {s : State} {m : MethodId} {args : Array Value} {below : List Frame} {meth : Method} {c : Code} (cx : jv_cx p s m args meth c cc_P_lengthOf 3 R_Paths (some .int) ws_P_lengthOf) {r : Int32} {y0 : Int32} {k4 : (Int32 × Int32) → Option (Int32)} (hk4 : ∀ (b0 : Int32) (b1 : Int32) (ls : Array Slot), lv_has ls 3 [(0, .int y0), (1, .int b0), (2, .int b1)] → k4 (b0, b1) = some r → W p l e rm_P_lengthOf s m args below meth c s.heap [] 0 0 (MQ below (QcRead r) args s 0 0 (fun _ => False)) (F0 m 4 ls [])) {a : Int32 × Int32} {ls : Array Slot} (hl : lv_has ls 3 [(0, .int y0), (1, .int a.1), (2, .int a.2)]) (hf : f_P_lengthOf_4 y0 k4 a = some r) : W p l e rm_P_lengthOf s m args below meth c s.heap [] 0 0 (MQ below (QcRead r) args s 0 0 (fun _ => False)) (F0 m 4 ls []) := by
  unfold f_P_lengthOf_4 at hf
  obtain ⟨hx, hb, hml, hown, hts, hr, hlocks⟩ := id cx
  refine lv_iload_n hx hb d_P_lengthOf_4 rfl (lv_at hl 2 rfl) ?_
  refine lv_iconst (v := (4 : Int32)) hx hb d_P_lengthOf_5 (by decide) ?_
  refine lv_icmp_ge (tgt := 26) hx hb d_P_lengthOf_6 (by decide) (fun hc => ?_) (fun hc => ?_)
  · have hf := jv_it hf hc
    refine lv_iload_n hx hb d_P_lengthOf_26 rfl (lv_at hl 1 rfl) ?_
    obtain rfl := Option.some.inj hf
    exact W.iret hx hb hr (fun t ht hW => ⟨rfl, ht⟩) (fun q h => by cases h) d_P_lengthOf_27
  · have hf := jv_if hf hc
    refine lv_iload_n hx hb d_P_lengthOf_9 rfl (lv_at hl 0 rfl) ?_
    refine lv_iload_n hx hb d_P_lengthOf_10 rfl (lv_at hl 2 rfl) ?_
    obtain ⟨x1, g2, hf⟩ := jv_ob hf
    refine jv_cs (W.runS (As := [.int y0, .int a.2]) (rest := []) ⟨hx, hb, hml, hown, hts⟩ (c_P_without l y0 a.2 x1 g2) (jv_cwS hts wa_17 wa_8 wa_18 wa_19 rfl rfl yd_P_without ⟨Nat.le_of_ble_eq_true rfl, Nat.le_of_ble_eq_true rfl⟩) jv_pre0 rfl rfl hl.1 rfl (lv_room (Nat.le_of_ble_eq_true rfl)) d_P_lengthOf_11 ⟨Nat.zero_le _, Nat.zero_le _⟩) ?_
    refine lv_if_eq (tgt := 20) hx hb d_P_lengthOf_14 (by decide) (fun hc => ?_) (fun hc => ?_)
    · have hf := jv_it hf hc
      refine lv_iinc (k := 2) (v := a.2 + (1 : Int32)) (lv' := [(2, .int (a.2 + (1 : Int32))), (0, .int y0), (1, .int a.1)]) hx hb d_P_lengthOf_20 hl rfl (jv_inc _) (by decide) rfl (fun ls hl => ?_)
      refine lv_goto (tgt := 4) hx hb d_P_lengthOf_23 (by decide) ?_
      exact hk4 a.1 (a.2 + (1 : Int32)) _ (lv_sub hl [1, 2, 0] rfl) hf
    · have hf := jv_if hf hc
      refine lv_iinc (k := 1) (v := a.1 + (1 : Int32)) (lv' := [(1, .int (a.1 + (1 : Int32))), (0, .int y0), (2, .int a.2)]) hx hb d_P_lengthOf_17 hl rfl (jv_inc _) (by decide) rfl (fun ls hl => ?_)
      refine lv_iinc (k := 2) (v := a.2 + (1 : Int32)) (lv' := [(2, .int (a.2 + (1 : Int32))), (1, .int (a.1 + (1 : Int32))), (0, .int y0)]) hx hb d_P_lengthOf_20 hl rfl (jv_inc _) (by decide) rfl (fun ls hl => ?_)
      refine lv_goto (tgt := 4) hx hb d_P_lengthOf_23 (by decide) ?_
      exact hk4 (a.1 + (1 : Int32)) (a.2 + (1 : Int32)) _ (lv_sub hl [2, 1, 0] rfl) hf
set_option maxHeartbeats 4000000 in
set_option maxRecDepth 100000 in
theorem l_P_lengthOf_4 {l : Launch} {p : Program} {e : Env} {s : State} {m : MethodId} {args : Array Value} {below : List Frame} {meth : Method} {c : Code} (cx : jv_cx p s m args meth c cc_P_lengthOf 3 R_Paths (some .int) ws_P_lengthOf) {r : Int32} {y0 : Int32} : ∀ n : Nat, ∀ (b0 : Int32) (b1 : Int32) (ls : Array Slot), lv_has ls 3 [(0, .int y0), (1, .int b0), (2, .int b1)] → jv_fx (f_P_lengthOf_4 y0) n (b0, b1) = some r → W p l e rm_P_lengthOf s m args below meth c s.heap [] 0 0 (MQ below (QcRead r) args s 0 0 (fun _ => False)) (F0 m 4 ls []) := by
  intro n
  induction n with
  | zero => intro b0 b1 ls hl hf; exact jv_no hf
  | succ n ih => intro b0 b1 ls hl hf; exact b_P_lengthOf_4 (a := (b0, b1)) cx ih hl hf
def f_P_lengthOf_0 (y0 : Int32) : Option (Int32) :=
  jv_fx (f_P_lengthOf_4 y0) 300 ((0 : Int32), (0 : Int32))
set_option maxHeartbeats 4000000 in
set_option maxRecDepth 100000 in
theorem b_P_lengthOf_0 {l : Launch} {p : Program} {e : Env} {s : State} {m : MethodId} {args : Array Value} {below : List Frame} {meth : Method} {c : Code} (cx : jv_cx p s m args meth c cc_P_lengthOf 3 R_Paths (some .int) ws_P_lengthOf) {r : Int32} {y0 : Int32} {ls : Array Slot} (hl : lv_has ls 3 [(0, .int y0)]) (hf : f_P_lengthOf_0 y0 = some r) : W p l e rm_P_lengthOf s m args below meth c s.heap [] 0 0 (MQ below (QcRead r) args s 0 0 (fun _ => False)) (F0 m 0 ls []) := by
  unfold f_P_lengthOf_0 at hf
  obtain ⟨hx, hb, hml, hown, hts, hr, hlocks⟩ := id cx
  refine lv_iconst (v := (0 : Int32)) hx hb d_P_lengthOf_0 (by decide) ?_
  refine lv_istore_n (lv' := [(1, .int (0 : Int32)), (0, .int y0)]) hx hb d_P_lengthOf_1 rfl hl (by decide) rfl (fun ls hl => ?_)
  refine lv_iconst (v := (0 : Int32)) hx hb d_P_lengthOf_2 (by decide) ?_
  refine lv_istore_n (lv' := [(2, .int (0 : Int32)), (1, .int (0 : Int32)), (0, .int y0)]) hx hb d_P_lengthOf_3 rfl hl (by decide) rfl (fun ls hl => ?_)
  exact l_P_lengthOf_4 (y0 := y0) cx 300 (0 : Int32) (0 : Int32) _ (lv_sub hl [2, 1, 0] rfl) hf
def f_P_lengthOf (a0 : Int32) : Option (Int32) := f_P_lengthOf_0 a0
set_option maxHeartbeats 4000000 in
set_option maxRecDepth 100000 in
theorem c_P_lengthOf (l : Launch) (a0 : Int32) (r : Int32) (hf : f_P_lengthOf a0 = some r) : Met l y_P_lengthOf ws_P_lengthOf rm_P_lengthOf (jv_P0 [.int a0]) (QcRead r) 0 0 (fun _ => False) := by
  refine Met.ofW (cc := cc_P_lengthOf) (maxL := 3) (ret := (some .int)) (by decide) rfl ?_
  intro p e s m args below meth c s₁ B hml hv
  obtain ⟨rfl, -⟩ := hv
  have cx : jv_cx p s m _ meth c cc_P_lengthOf 3 R_Paths (some .int) ws_P_lengthOf := ⟨B.exec, B.bytes, hml, findClass_of_methodNamed B.named, atoms_spec (ws := ws_P_lengthOf) B.pre, B.returns, B.notSynchronized⟩
  have hl := lv_entry ([.int a0]) (n := 3) (Nat.le_of_ble_eq_true rfl)
  rw [lg_entry_eq]
  generalize (lg_sl ([.int a0]) ++ List.replicate (3 - (lg_sl ([.int a0])).length) Slot.unset).toArray = ls at hl ⊢
  have hl : lv_has ls 3 [(0, .int a0)] := hl
  exact b_P_lengthOf_0 (y0 := a0) cx (lv_sub hl [0] rfl) hf
theorem d_P_startsWith_0 : decode cc_P_startsWith 0 = .ok (.iconst 0, 1) := by decide +kernel
theorem d_P_startsWith_1 : decode cc_P_startsWith 1 = .ok (.istore_n 2, 1) := by decide +kernel
theorem d_P_startsWith_2 : decode cc_P_startsWith 2 = .ok (.iload_n 2, 1) := by decide +kernel
theorem d_P_startsWith_3 : decode cc_P_startsWith 3 = .ok (.iconst 4, 1) := by decide +kernel
theorem d_P_startsWith_4 : decode cc_P_startsWith 4 = .ok (.if_icmp .ge 20, 3) := by decide +kernel
theorem d_P_startsWith_24 : decode cc_P_startsWith 24 = .ok (.iconst 0, 1) := by decide +kernel
theorem d_P_startsWith_25 : decode cc_P_startsWith 25 = .ok (.ireturn, 1) := by decide +kernel
theorem d_P_startsWith_7 : decode cc_P_startsWith 7 = .ok (.iload_n 0, 1) := by decide +kernel
theorem d_P_startsWith_8 : decode cc_P_startsWith 8 = .ok (.iload_n 2, 1) := by decide +kernel
theorem d_P_startsWith_9 : decode cc_P_startsWith 9 = .ok (.invokestatic 20, 3) := by decide +kernel
theorem d_P_startsWith_12 : decode cc_P_startsWith 12 = .ok (.iload_n 1, 1) := by decide +kernel
theorem d_P_startsWith_13 : decode cc_P_startsWith 13 = .ok (.if_icmp .ne 5, 3) := by decide +kernel
theorem d_P_startsWith_18 : decode cc_P_startsWith 18 = .ok (.iinc 2 1, 3) := by decide +kernel
theorem d_P_startsWith_21 : decode cc_P_startsWith 21 = .ok (.goto (-19), 3) := by decide +kernel
theorem d_P_startsWith_16 : decode cc_P_startsWith 16 = .ok (.iconst 1, 1) := by decide +kernel
theorem d_P_startsWith_17 : decode cc_P_startsWith 17 = .ok (.ireturn, 1) := by decide +kernel
def f_P_startsWith_2 (y0 : Int32) (y1 : Int32) (k2 : (Int32) → Option (Int32)) (a : Int32) : Option (Int32) :=
  if (4 : Int32) ≤ a then (some (0 : Int32)) else ((f_P_without y0 a).bind fun x1 => if x1 = y1 then (some (1 : Int32)) else (k2 (a + (1 : Int32))))
set_option maxHeartbeats 4000000 in
set_option maxRecDepth 100000 in
theorem b_P_startsWith_2 {l : Launch} {p : Program} {e : Env} {s : State} {m : MethodId} {args : Array Value} {below : List Frame} {meth : Method} {c : Code} (cx : jv_cx p s m args meth c cc_P_startsWith 3 R_Paths (some .boolean) ws_P_startsWith) {r : Int32} {y0 : Int32} {y1 : Int32} {k2 : (Int32) → Option (Int32)} (hk2 : ∀ (b0 : Int32) (ls : Array Slot), lv_has ls 3 [(0, .int y0), (1, .int y1), (2, .int b0)] → k2 b0 = some r → W p l e rm_P_startsWith s m args below meth c s.heap [] 0 0 (MQ below (QcRead r) args s 0 0 (fun _ => False)) (F0 m 2 ls [])) {a : Int32} {ls : Array Slot} (hl : lv_has ls 3 [(0, .int y0), (1, .int y1), (2, .int a)]) (hf : f_P_startsWith_2 y0 y1 k2 a = some r) : W p l e rm_P_startsWith s m args below meth c s.heap [] 0 0 (MQ below (QcRead r) args s 0 0 (fun _ => False)) (F0 m 2 ls []) := by
  unfold f_P_startsWith_2 at hf
  obtain ⟨hx, hb, hml, hown, hts, hr, hlocks⟩ := id cx
  refine lv_iload_n hx hb d_P_startsWith_2 rfl (lv_at hl 2 rfl) ?_
  refine lv_iconst (v := (4 : Int32)) hx hb d_P_startsWith_3 (by decide) ?_
  refine lv_icmp_ge (tgt := 24) hx hb d_P_startsWith_4 (by decide) (fun hc => ?_) (fun hc => ?_)
  · have hf := jv_it hf hc
    refine lv_iconst (v := (0 : Int32)) hx hb d_P_startsWith_24 (by decide) ?_
    obtain rfl := Option.some.inj hf
    exact W.zret hx hb hr rfl (fun t ht hW => ⟨rfl, ht⟩) (fun q h => by cases h) d_P_startsWith_25
  · have hf := jv_if hf hc
    refine lv_iload_n hx hb d_P_startsWith_7 rfl (lv_at hl 0 rfl) ?_
    refine lv_iload_n hx hb d_P_startsWith_8 rfl (lv_at hl 2 rfl) ?_
    obtain ⟨x1, g2, hf⟩ := jv_ob hf
    refine jv_cs (W.runS (As := [.int y0, .int a]) (rest := []) ⟨hx, hb, hml, hown, hts⟩ (c_P_without l y0 a x1 g2) (jv_cwS hts wa_17 wa_8 wa_18 wa_19 rfl rfl yd_P_without ⟨Nat.le_of_ble_eq_true rfl, Nat.le_of_ble_eq_true rfl⟩) jv_pre0 rfl rfl hl.1 rfl (lv_room (Nat.le_of_ble_eq_true rfl)) d_P_startsWith_9 ⟨Nat.zero_le _, Nat.zero_le _⟩) ?_
    refine lv_iload_n hx hb d_P_startsWith_12 rfl (lv_at hl 1 rfl) ?_
    refine lv_icmp_ne (tgt := 18) hx hb d_P_startsWith_13 (by decide) (fun hc => ?_) (fun hc => ?_)
    · have hf := jv_if hf hc
      refine lv_iinc (k := 2) (v := a + (1 : Int32)) (lv' := [(2, .int (a + (1 : Int32))), (0, .int y0), (1, .int y1)]) hx hb d_P_startsWith_18 hl rfl (jv_inc _) (by decide) rfl (fun ls hl => ?_)
      refine lv_goto (tgt := 2) hx hb d_P_startsWith_21 (by decide) ?_
      exact hk2 (a + (1 : Int32)) _ (lv_sub hl [1, 2, 0] rfl) hf
    · have hf := jv_it hf hc
      refine lv_iconst (v := (1 : Int32)) hx hb d_P_startsWith_16 (by decide) ?_
      obtain rfl := Option.some.inj hf
      exact W.zret hx hb hr rfl (fun t ht hW => ⟨rfl, ht⟩) (fun q h => by cases h) d_P_startsWith_17
set_option maxHeartbeats 4000000 in
set_option maxRecDepth 100000 in
theorem l_P_startsWith_2 {l : Launch} {p : Program} {e : Env} {s : State} {m : MethodId} {args : Array Value} {below : List Frame} {meth : Method} {c : Code} (cx : jv_cx p s m args meth c cc_P_startsWith 3 R_Paths (some .boolean) ws_P_startsWith) {r : Int32} {y0 : Int32} {y1 : Int32} : ∀ n : Nat, ∀ (b0 : Int32) (ls : Array Slot), lv_has ls 3 [(0, .int y0), (1, .int y1), (2, .int b0)] → jv_fx (f_P_startsWith_2 y0 y1) n b0 = some r → W p l e rm_P_startsWith s m args below meth c s.heap [] 0 0 (MQ below (QcRead r) args s 0 0 (fun _ => False)) (F0 m 2 ls []) := by
  intro n
  induction n with
  | zero => intro b0 ls hl hf; exact jv_no hf
  | succ n ih => intro b0 ls hl hf; exact b_P_startsWith_2 (a := b0) cx ih hl hf
def f_P_startsWith_0 (y0 : Int32) (y1 : Int32) : Option (Int32) :=
  jv_fx (f_P_startsWith_2 y0 y1) 300 (0 : Int32)
set_option maxHeartbeats 4000000 in
set_option maxRecDepth 100000 in
theorem b_P_startsWith_0 {l : Launch} {p : Program} {e : Env} {s : State} {m : MethodId} {args : Array Value} {below : List Frame} {meth : Method} {c : Code} (cx : jv_cx p s m args meth c cc_P_startsWith 3 R_Paths (some .boolean) ws_P_startsWith) {r : Int32} {y0 : Int32} {y1 : Int32} {ls : Array Slot} (hl : lv_has ls 3 [(0, .int y0), (1, .int y1)]) (hf : f_P_startsWith_0 y0 y1 = some r) : W p l e rm_P_startsWith s m args below meth c s.heap [] 0 0 (MQ below (QcRead r) args s 0 0 (fun _ => False)) (F0 m 0 ls []) := by
  unfold f_P_startsWith_0 at hf
  obtain ⟨hx, hb, hml, hown, hts, hr, hlocks⟩ := id cx
  refine lv_iconst (v := (0 : Int32)) hx hb d_P_startsWith_0 (by decide) ?_
  refine lv_istore_n (lv' := [(2, .int (0 : Int32)), (0, .int y0), (1, .int y1)]) hx hb d_P_startsWith_1 rfl hl (by decide) rfl (fun ls hl => ?_)
  exact l_P_startsWith_2 (y0 := y0) (y1 := y1) cx 300 (0 : Int32) _ (lv_sub hl [1, 2, 0] rfl) hf
def f_P_startsWith (a0 : Int32) (a1 : Int32) : Option (Int32) := f_P_startsWith_0 a0 a1
set_option maxHeartbeats 4000000 in
set_option maxRecDepth 100000 in
theorem c_P_startsWith (l : Launch) (a0 : Int32) (a1 : Int32) (r : Int32) (hf : f_P_startsWith a0 a1 = some r) : Met l y_P_startsWith ws_P_startsWith rm_P_startsWith (jv_P0 [.int a0, .int a1]) (QcRead r) 0 0 (fun _ => False) := by
  refine Met.ofW (cc := cc_P_startsWith) (maxL := 3) (ret := (some .boolean)) (by decide) rfl ?_
  intro p e s m args below meth c s₁ B hml hv
  obtain ⟨rfl, -⟩ := hv
  have cx : jv_cx p s m _ meth c cc_P_startsWith 3 R_Paths (some .boolean) ws_P_startsWith := ⟨B.exec, B.bytes, hml, findClass_of_methodNamed B.named, atoms_spec (ws := ws_P_startsWith) B.pre, B.returns, B.notSynchronized⟩
  have hl := lv_entry ([.int a0, .int a1]) (n := 3) (Nat.le_of_ble_eq_true rfl)
  rw [lg_entry_eq]
  generalize (lg_sl ([.int a0, .int a1]) ++ List.replicate (3 - (lg_sl ([.int a0, .int a1])).length) Slot.unset).toArray = ls at hl ⊢
  have hl : lv_has ls 3 [(0, .int a0), (1, .int a1)] := hl
  exact b_P_startsWith_0 (y0 := a0) (y1 := a1) cx (lv_sub hl [0, 1] rfl) hf
theorem d_Fu_letsPass_0 : decode cc_Fu_letsPass 0 = .ok (.aload_n 0, 1) := by decide +kernel
theorem d_Fu_letsPass_1 : decode cc_Fu_letsPass 1 = .ok (.getfield 9, 3) := by decide +kernel
theorem d_Fu_letsPass_4 : decode cc_Fu_letsPass 4 = .ok (.ifCond .ne 5, 3) := by decide +kernel
theorem d_Fu_letsPass_9 : decode cc_Fu_letsPass 9 = .ok (.aload_n 0, 1) := by decide +kernel
theorem d_Fu_letsPass_10 : decode cc_Fu_letsPass 10 = .ok (.getfield 9, 3) := by decide +kernel
theorem d_Fu_letsPass_13 : decode cc_Fu_letsPass 13 = .ok (.ifCond .le 13, 3) := by decide +kernel
theorem d_Fu_letsPass_26 : decode cc_Fu_letsPass 26 = .ok (.iconst 1, 1) := by decide +kernel
theorem d_Fu_letsPass_27 : decode cc_Fu_letsPass 27 = .ok (.ireturn, 1) := by decide +kernel
theorem d_Fu_letsPass_16 : decode cc_Fu_letsPass 16 = .ok (.aload_n 0, 1) := by decide +kernel
theorem d_Fu_letsPass_17 : decode cc_Fu_letsPass 17 = .ok (.dup, 1) := by decide +kernel
theorem d_Fu_letsPass_18 : decode cc_Fu_letsPass 18 = .ok (.getfield 9, 3) := by decide +kernel
theorem d_Fu_letsPass_21 : decode cc_Fu_letsPass 21 = .ok (.iconst 1, 1) := by decide +kernel
theorem d_Fu_letsPass_22 : decode cc_Fu_letsPass 22 = .ok (.isub, 1) := by decide +kernel
theorem d_Fu_letsPass_23 : decode cc_Fu_letsPass 23 = .ok (.putfield 9, 3) := by decide +kernel
theorem d_Fu_letsPass_7 : decode cc_Fu_letsPass 7 = .ok (.iconst 0, 1) := by decide +kernel
theorem d_Fu_letsPass_8 : decode cc_Fu_letsPass 8 = .ok (.ireturn, 1) := by decide +kernel
def f_Fu_letsPass_0 (y0 : Int32) : Option (Int32 × Int32) :=
  if y0 = 0 then (some ((0 : Int32), y0)) else (if y0 ≤ 0 then (some ((1 : Int32), y0)) else (some ((1 : Int32), y0 - (1 : Int32))))
set_option maxHeartbeats 4000000 in
set_option maxRecDepth 100000 in
theorem b_Fu_letsPass_0 {l : Launch} {dC : Nat → ClassId} {dI : Nat → Nat → Nat} {cI cA cL : ClassId} {q_fu : Nat} {p : Program} {e : Env} {s : State} {m : MethodId} {args : Array Value} {below : List Frame} {meth : Method} {c : Code} (cx : jv_cx p s m args meth c cc_Fu_letsPass 1 R_Fuse (some .boolean) ws_Fu_letsPass) (hK : va_K (dC, dI) vwCl (jv_ty cI cA cL) s) {A : Nat → Prop} (hA : ∀ q : Nat, s.heap.size ≤ q → A q) {r : Int32 × Int32} {y0 : Int32} {ls : Array Slot} (hl : lv_has ls 1 [(0, .ref q_fu)]) {H : Heap} {locs : List Loc} (hP : va_P (dC, dI) vwCl (w_fuse cI q_fu y0) H) (hD : va_D A (w_fuse cI q_fu y0)) (hS : va_S A s.heap H locs) (hf : f_Fu_letsPass_0 y0 = some r) : W p l e rm_Fu_letsPass s m args below meth c H locs 0 0 (MQ below (jv_Qi r.1 (dC, dI) (w_fuse cI q_fu r.2) A) args s 0 0 A) (F0 m 0 ls []) := by
  unfold f_Fu_letsPass_0 at hf
  obtain ⟨hx, hb, hml, hown, hts, hr, hlocks⟩ := id cx
  refine lv_aload_n hx hb d_Fu_letsPass_0 rfl (lv_at hl 0 rfl) ?_
  refine va_get (D := (dC, dI)) (ci := kFuse) (v := .int y0) (C := R_Fuse) (T := T_Fuse) (N := 1) hx hb hts (fun w h => List.mem_cons_of_mem _ (in_Fuse w h)) hown hK hP 0 rfl rfl 0 (by decide) (jv_w hts wa_20) (fun _ h9 => h9) rfl d_Fu_letsPass_1 ?_
  refine lv_if_ne (tgt := 9) hx hb d_Fu_letsPass_4 (by decide) (fun hc => ?_) (fun hc => ?_)
  · have hf := jv_if hf hc
    refine lv_aload_n hx hb d_Fu_letsPass_9 rfl (lv_at hl 0 rfl) ?_
    refine va_get (D := (dC, dI)) (ci := kFuse) (v := .int y0) (C := R_Fuse) (T := T_Fuse) (N := 1) hx hb hts (fun w h => List.mem_cons_of_mem _ (in_Fuse w h)) hown hK hP 0 rfl rfl 0 (by decide) (jv_w hts wa_20) (fun _ h9 => h9) rfl d_Fu_letsPass_10 ?_
    refine lv_if_le (tgt := 26) hx hb d_Fu_letsPass_13 (by decide) (fun hc => ?_) (fun hc => ?_)
    · have hf := jv_it hf hc
      refine lv_iconst (v := (1 : Int32)) hx hb d_Fu_letsPass_26 (by decide) ?_
      obtain rfl := Option.some.inj hf
      exact W.zret hx hb hr rfl (fun t ht hW => ⟨rfl, by rw [ht]; exact hP, hD, hS.F ht⟩) hS.2.2 d_Fu_letsPass_27
    · have hf := jv_if hf hc
      refine lv_aload_n hx hb d_Fu_letsPass_16 rfl (lv_at hl 0 rfl) ?_
      refine lv_dup hx hb d_Fu_letsPass_17 rfl ?_
      refine va_get (D := (dC, dI)) (ci := kFuse) (v := .int y0) (C := R_Fuse) (T := T_Fuse) (N := 1) hx hb hts (fun w h => List.mem_cons_of_mem _ (in_Fuse w h)) hown hK hP 0 rfl rfl 0 (by decide) (jv_w hts wa_20) (fun _ h9 => h9) rfl d_Fu_letsPass_18 ?_
      refine lv_iconst (v := (1 : Int32)) hx hb d_Fu_letsPass_21 (by decide) ?_
      refine lv_isub hx hb d_Fu_letsPass_22 ?_
      refine va_put (D := (dC, dI)) (ci := kFuse) (v := .int (y0 - (1 : Int32))) (ty := .int) (C := R_Fuse) (T := T_Fuse) (N := 1) hx hb hts (fun w h => List.mem_cons_of_mem _ (in_Fuse w h)) ty_Fuse tyok_Fuse nm_Fuse hown hK hP hD hS 0 rfl rfl 0 (by decide) (jv_w hts wa_20) (fun _ h9 => h9) rfl (by decide +kernel) rfl rfl (Nat.le_of_ble_eq_true rfl) d_Fu_letsPass_23 (fun H locs hP hD hS => ?_)
      have hP : va_P (dC, dI) vwCl (w_fuse cI q_fu (y0 - (1 : Int32))) H := hP
      have hD : va_D A (w_fuse cI q_fu (y0 - (1 : Int32))) := hD
      refine lv_iconst (v := (1 : Int32)) hx hb d_Fu_letsPass_26 (by decide) ?_
      obtain rfl := Option.some.inj hf
      exact W.zret hx hb hr rfl (fun t ht hW => ⟨rfl, by rw [ht]; exact hP, hD, hS.F ht⟩) hS.2.2 d_Fu_letsPass_27
  · have hf := jv_it hf hc
    refine lv_iconst (v := (0 : Int32)) hx hb d_Fu_letsPass_7 (by decide) ?_
    obtain rfl := Option.some.inj hf
    exact W.zret hx hb hr rfl (fun t ht hW => ⟨rfl, by rw [ht]; exact hP, hD, hS.F ht⟩) hS.2.2 d_Fu_letsPass_8
def f_Fu_letsPass (vat : Int32) : Option (Int32 × Int32) := f_Fu_letsPass_0 vat
set_option maxHeartbeats 4000000 in
set_option maxRecDepth 100000 in
theorem c_Fu_letsPass (l : Launch) (dC : Nat → ClassId) (dI : Nat → Nat → Nat) (cI cA cL : ClassId) (q_fu : Nat) (vat : Int32) (sz : Nat) (r : Int32 × Int32) (hf : f_Fu_letsPass vat = some r) : Met l y_Fu_letsPass ws_Fu_letsPass rm_Fu_letsPass (jv_Pw [.ref q_fu] (dC, dI) (jv_ty cI cA cL) (w_fuse cI q_fu vat) sz) (jv_Qi r.1 (dC, dI) (w_fuse cI q_fu r.2) (va_A (w_fuse cI q_fu vat) sz)) 0 0 (va_A (w_fuse cI q_fu vat) sz) := by
  refine Met.ofW (cc := cc_Fu_letsPass) (maxL := 1) (ret := (some .boolean)) (by decide) rfl ?_
  intro p e s m args below meth c s₁ B hml hv
  obtain ⟨rfl, hsz, hP, hK, hD0⟩ := hv
  have cx : jv_cx p s m _ meth c cc_Fu_letsPass 1 R_Fuse (some .boolean) ws_Fu_letsPass := ⟨B.exec, B.bytes, hml, findClass_of_methodNamed B.named, atoms_spec (ws := ws_Fu_letsPass) B.pre, B.returns, B.notSynchronized⟩
  subst hsz
  have hD := hD0.self (sz := s.heap.size)
  generalize hAe : va_A (w_fuse cI q_fu vat) s.heap.size = A at hD ⊢
  have hA : ∀ q : Nat, s.heap.size ≤ q → A q := fun q h => by rw [← hAe]; exact Or.inr h
  have hS : va_S A s.heap s.heap [] := va_S.rf
  have hl := lv_entry ([.ref q_fu]) (n := 1) (Nat.le_of_ble_eq_true rfl)
  rw [lg_entry_eq]
  generalize (lg_sl ([.ref q_fu]) ++ List.replicate (1 - (lg_sl ([.ref q_fu])).length) Slot.unset).toArray = ls at hl ⊢
  have hl : lv_has ls 1 [(0, .ref q_fu)] := hl
  exact b_Fu_letsPass_0 (y0 := vat) cx hK hA (lv_sub hl [0] rfl) hP hD hS hf
