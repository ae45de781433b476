theorem d_M_isLabel_0 : decode cc_M_isLabel 0 = .ok (.iload_n 0, 1) := by decide +kernel
theorem d_M_isLabel_1 : decode cc_M_isLabel 1 = .ok (.ifCond .lt 14, 3) := by decide +kernel
theorem d_M_isLabel_15 : decode cc_M_isLabel 15 = .ok (.iconst 0, 1) := by decide +kernel
theorem d_M_isLabel_16 : decode cc_M_isLabel 16 = .ok (.ireturn, 1) := by decide +kernel
theorem d_M_isLabel_4 : decode cc_M_isLabel 4 = .ok (.iload_n 0, 1) := by decide +kernel
theorem d_M_isLabel_5 : decode cc_M_isLabel 5 = .ok (.sipush 511, 3) := by decide +kernel
theorem d_M_isLabel_8 : decode cc_M_isLabel 8 = .ok (.if_icmp .gt 7, 3) := by decide +kernel
theorem d_M_isLabel_11 : decode cc_M_isLabel 11 = .ok (.iconst 1, 1) := by decide +kernel
theorem d_M_isLabel_12 : decode cc_M_isLabel 12 = .ok (.goto 4, 3) := by decide +kernel
def f_M_isLabel_0 (y0 : Int32) : Option (Int32) :=
  if y0 < 0 then (some (0 : Int32)) else (if (511 : Int32) < y0 then (some (0 : Int32)) else (some (1 : Int32)))
set_option maxHeartbeats 4000000 in
set_option maxRecDepth 100000 in
theorem b_M_isLabel_0 {l : Launch} {p : Program} {e : Env} {s : State} {m : MethodId} {args : Array Value} {below : List Frame} {meth : Method} {c : Code} (cx : jv_cx p s m args meth c cc_M_isLabel 1 R_Model (some .boolean) ws_M_isLabel) {r : Int32} {y0 : Int32} {ls : Array Slot} (hl : lv_has ls 1 [(0, .int y0)]) (hf : f_M_isLabel_0 y0 = some r) : W p l e rm_M_isLabel s m args below meth c s.heap [] 0 0 (MQ below (QcRead r) args s 0 0 (fun _ => False)) (F0 m 0 ls []) := by
  unfold f_M_isLabel_0 at hf
  obtain ⟨hx, hb, hml, hown, hts, hr, hlocks⟩ := id cx
  refine lv_iload_n hx hb d_M_isLabel_0 rfl (lv_at hl 0 rfl) ?_
  refine lv_if_lt (tgt := 15) hx hb d_M_isLabel_1 (by decide) (fun hc => ?_) (fun hc => ?_)
  · have hf := jv_it hf hc
    refine lv_iconst (v := (0 : Int32)) hx hb d_M_isLabel_15 (by decide) ?_
    obtain rfl := Option.some.inj hf
    exact W.zret hx hb hr rfl (fun t ht hW => ⟨rfl, ht⟩) (fun q h => by cases h) d_M_isLabel_16
  · have hf := jv_if hf hc
    refine lv_iload_n hx hb d_M_isLabel_4 rfl (lv_at hl 0 rfl) ?_
    refine lv_sipush (v := (511 : Int32)) hx hb d_M_isLabel_5 (by decide) ?_
    refine lv_icmp_gt (tgt := 15) hx hb d_M_isLabel_8 (by decide) (fun hc => ?_) (fun hc => ?_)
    · have hf := jv_it hf hc
      refine lv_iconst (v := (0 : Int32)) hx hb d_M_isLabel_15 (by decide) ?_
      obtain rfl := Option.some.inj hf
      exact W.zret hx hb hr rfl (fun t ht hW => ⟨rfl, ht⟩) (fun q h => by cases h) d_M_isLabel_16
    · have hf := jv_if hf hc
      refine lv_iconst (v := (1 : Int32)) hx hb d_M_isLabel_11 (by decide) ?_
      refine lv_goto (tgt := 16) hx hb d_M_isLabel_12 (by decide) ?_
      obtain rfl := Option.some.inj hf
      exact W.zret hx hb hr rfl (fun t ht hW => ⟨rfl, ht⟩) (fun q h => by cases h) d_M_isLabel_16
def f_M_isLabel (a0 : Int32) : Option (Int32) := f_M_isLabel_0 a0
set_option maxHeartbeats 4000000 in
set_option maxRecDepth 100000 in
theorem c_M_isLabel (l : Launch) (a0 : Int32) (r : Int32) (hf : f_M_isLabel a0 = some r) : Met l y_M_isLabel ws_M_isLabel rm_M_isLabel (jv_P0 [.int a0]) (QcRead r) 0 0 (fun _ => False) := by
  refine Met.ofW (cc := cc_M_isLabel) (maxL := 1) (ret := (some .boolean)) (by decide) rfl ?_
  intro p e s m args below meth c s₁ B hml hv
  obtain ⟨rfl, -⟩ := hv
  have cx : jv_cx p s m _ meth c cc_M_isLabel 1 R_Model (some .boolean) ws_M_isLabel := ⟨B.exec, B.bytes, hml, findClass_of_methodNamed B.named, atoms_spec (ws := ws_M_isLabel) B.pre, B.returns, B.notSynchronized⟩
  have hl := lv_entry ([.int a0]) (n := 1) (Nat.le_of_ble_eq_true rfl)
  rw [lg_entry_eq]
  generalize (lg_sl ([.int a0]) ++ List.replicate (1 - (lg_sl ([.int a0])).length) Slot.unset).toArray = ls at hl ⊢
  have hl : lv_has ls 1 [(0, .int a0)] := hl
  exact b_M_isLabel_0 (y0 := a0) cx (lv_sub hl [0] rfl) hf
theorem d_M_among_0 : decode cc_M_among 0 = .ok (.iload_n 0, 1) := by decide +kernel
theorem d_M_among_1 : decode cc_M_among 1 = .ok (.iload_n 2, 1) := by decide +kernel
theorem d_M_among_2 : decode cc_M_among 2 = .ok (.ishr, 1) := by decide +kernel
theorem d_M_among_3 : decode cc_M_among 3 = .ok (.iload_n 3, 1) := by decide +kernel
theorem d_M_among_4 : decode cc_M_among 4 = .ok (.iand, 1) := by decide +kernel
theorem d_M_among_5 : decode cc_M_among 5 = .ok (.iload_n 1, 1) := by decide +kernel
theorem d_M_among_6 : decode cc_M_among 6 = .ok (.iload_n 2, 1) := by decide +kernel
theorem d_M_among_7 : decode cc_M_among 7 = .ok (.ishr, 1) := by decide +kernel
theorem d_M_among_8 : decode cc_M_among 8 = .ok (.iconst (-1), 1) := by decide +kernel
theorem d_M_among_9 : decode cc_M_among 9 = .ok (.ixor, 1) := by decide +kernel
theorem d_M_among_10 : decode cc_M_among 10 = .ok (.iand, 1) := by decide +kernel
theorem d_M_among_11 : decode cc_M_among 11 = .ok (.ifCond .ne 7, 3) := by decide +kernel
theorem d_M_among_18 : decode cc_M_among 18 = .ok (.iconst 0, 1) := by decide +kernel
theorem d_M_among_19 : decode cc_M_among 19 = .ok (.ireturn, 1) := by decide +kernel
theorem d_M_among_14 : decode cc_M_among 14 = .ok (.iconst 1, 1) := by decide +kernel
theorem d_M_among_15 : decode cc_M_among 15 = .ok (.goto 4, 3) := by decide +kernel
def f_M_among_0 (y0 : Int32) (y1 : Int32) (y2 : Int32) (y3 : Int32) : Option (Int32) :=
  if (((y0 >>> (y2 &&& 31)) &&& y3) &&& ((y1 >>> (y2 &&& 31)) ^^^ (-1 : Int32))) = 0 then (some (1 : Int32)) else (some (0 : Int32))
set_option maxHeartbeats 4000000 in
set_option maxRecDepth 100000 in
theorem b_M_among_0 {l : Launch} {p : Program} {e : Env} {s : State} {m : MethodId} {args : Array Value} {below : List Frame} {meth : Method} {c : Code} (cx : jv_cx p s m args meth c cc_M_among 4 R_Model (some .boolean) ws_M_among) {r : Int32} {y0 : Int32} {y1 : Int32} {y2 : Int32} {y3 : Int32} {ls : Array Slot} (hl : lv_has ls 4 [(0, .int y0), (1, .int y1), (2, .int y2), (3, .int y3)]) (hf : f_M_among_0 y0 y1 y2 y3 = some r) : W p l e rm_M_among s m args below meth c s.heap [] 0 0 (MQ below (QcRead r) args s 0 0 (fun _ => False)) (F0 m 0 ls []) := by
  unfold f_M_among_0 at hf
  obtain ⟨hx, hb, hml, hown, hts, hr, hlocks⟩ := id cx
  refine lv_iload_n hx hb d_M_among_0 rfl (lv_at hl 0 rfl) ?_
  refine lv_iload_n hx hb d_M_among_1 rfl (lv_at hl 2 rfl) ?_
  refine lv_ishr hx hb d_M_among_2 ?_
  refine lv_iload_n hx hb d_M_among_3 rfl (lv_at hl 3 rfl) ?_
  refine lv_iand hx hb d_M_among_4 ?_
  refine lv_iload_n hx hb d_M_among_5 rfl (lv_at hl 1 rfl) ?_
  refine lv_iload_n hx hb d_M_among_6 rfl (lv_at hl 2 rfl) ?_
  refine lv_ishr hx hb d_M_among_7 ?_
  refine lv_iconst (v := (-1 : Int32)) hx hb d_M_among_8 (by decide) ?_
  refine lv_ixor hx hb d_M_among_9 ?_
  refine lv_iand hx hb d_M_among_10 ?_
  refine lv_if_ne (tgt := 18) hx hb d_M_among_11 (by decide) (fun hc => ?_) (fun hc => ?_)
  · have hf := jv_if hf hc
    refine lv_iconst (v := (0 : Int32)) hx hb d_M_among_18 (by decide) ?_
    obtain rfl := Option.some.inj hf
    exact W.zret hx hb hr rfl (fun t ht hW => ⟨rfl, ht⟩) (fun q h => by cases h) d_M_among_19
  · have hf := jv_it hf hc
    refine lv_iconst (v := (1 : Int32)) hx hb d_M_among_14 (by decide) ?_
    refine lv_goto (tgt := 19) hx hb d_M_among_15 (by decide) ?_
    obtain rfl := Option.some.inj hf
    exact W.zret hx hb hr rfl (fun t ht hW => ⟨rfl, ht⟩) (fun q h => by cases h) d_M_among_19
def f_M_among (a0 : Int32) (a1 : Int32) (a2 : Int32) (a3 : Int32) : Option (Int32) := f_M_among_0 a0 a1 a2 a3
set_option maxHeartbeats 4000000 in
set_option maxRecDepth 100000 in
theorem c_M_among (l : Launch) (a0 : Int32) (a1 : Int32) (a2 : Int32) (a3 : Int32) (r : Int32) (hf : f_M_among a0 a1 a2 a3 = some r) : Met l y_M_among ws_M_among rm_M_among (jv_P0 [.int a0, .int a1, .int a2, .int a3]) (QcRead r) 0 0 (fun _ => False) := by
  refine Met.ofW (cc := cc_M_among) (maxL := 4) (ret := (some .boolean)) (by decide) rfl ?_
  intro p e s m args below meth c s₁ B hml hv
  obtain ⟨rfl, -⟩ := hv
  have cx : jv_cx p s m _ meth c cc_M_among 4 R_Model (some .boolean) ws_M_among := ⟨B.exec, B.bytes, hml, findClass_of_methodNamed B.named, atoms_spec (ws := ws_M_among) B.pre, B.returns, B.notSynchronized⟩
  have hl := lv_entry ([.int a0, .int a1, .int a2, .int a3]) (n := 4) (Nat.le_of_ble_eq_true rfl)
  rw [lg_entry_eq]
  generalize (lg_sl ([.int a0, .int a1, .int a2, .int a3]) ++ List.replicate (4 - (lg_sl ([.int a0, .int a1, .int a2, .int a3])).length) Slot.unset).toArray = ls at hl ⊢
  have hl : lv_has ls 4 [(0, .int a0), (1, .int a1), (2, .int a2), (3, .int a3)] := hl
  exact b_M_among_0 (y0 := a0) (y1 := a1) (y2 := a2) (y3 := a3) cx (lv_sub hl [0, 1, 2, 3] rfl) hf
theorem d_M_flow_0 : decode cc_M_flow 0 = .ok (.iload_n 0, 1) := by decide +kernel
theorem d_M_flow_1 : decode cc_M_flow 1 = .ok (.iconst 3, 1) := by decide +kernel
theorem d_M_flow_2 : decode cc_M_flow 2 = .ok (.iand, 1) := by decide +kernel
theorem d_M_flow_3 : decode cc_M_flow 3 = .ok (.iload_n 1, 1) := by decide +kernel
theorem d_M_flow_4 : decode cc_M_flow 4 = .ok (.iconst 3, 1) := by decide +kernel
theorem d_M_flow_5 : decode cc_M_flow 5 = .ok (.iand, 1) := by decide +kernel
theorem d_M_flow_6 : decode cc_M_flow 6 = .ok (.if_icmp .gt 42, 3) := by decide +kernel
theorem d_M_flow_48 : decode cc_M_flow 48 = .ok (.iconst 0, 1) := by decide +kernel
theorem d_M_flow_49 : decode cc_M_flow 49 = .ok (.ireturn, 1) := by decide +kernel
theorem d_M_flow_9 : decode cc_M_flow 9 = .ok (.iload_n 0, 1) := by decide +kernel
theorem d_M_flow_10 : decode cc_M_flow 10 = .ok (.iload_n 1, 1) := by decide +kernel
theorem d_M_flow_11 : decode cc_M_flow 11 = .ok (.iconst 2, 1) := by decide +kernel
theorem d_M_flow_12 : decode cc_M_flow 12 = .ok (.bipush 7, 2) := by decide +kernel
theorem d_M_flow_14 : decode cc_M_flow 14 = .ok (.invokestatic 35, 3) := by decide +kernel
theorem d_M_flow_17 : decode cc_M_flow 17 = .ok (.ifCond .eq 31, 3) := by decide +kernel
theorem d_M_flow_20 : decode cc_M_flow 20 = .ok (.iload_n 1, 1) := by decide +kernel
theorem d_M_flow_21 : decode cc_M_flow 21 = .ok (.iconst 5, 1) := by decide +kernel
theorem d_M_flow_22 : decode cc_M_flow 22 = .ok (.ishr, 1) := by decide +kernel
theorem d_M_flow_23 : decode cc_M_flow 23 = .ok (.iconst 3, 1) := by decide +kernel
theorem d_M_flow_24 : decode cc_M_flow 24 = .ok (.iand, 1) := by decide +kernel
theorem d_M_flow_25 : decode cc_M_flow 25 = .ok (.iload_n 0, 1) := by decide +kernel
theorem d_M_flow_26 : decode cc_M_flow 26 = .ok (.iconst 5, 1) := by decide +kernel
theorem d_M_flow_27 : decode cc_M_flow 27 = .ok (.ishr, 1) := by decide +kernel
theorem d_M_flow_28 : decode cc_M_flow 28 = .ok (.iconst 3, 1) := by decide +kernel
theorem d_M_flow_29 : decode cc_M_flow 29 = .ok (.iand, 1) := by decide +kernel
theorem d_M_flow_30 : decode cc_M_flow 30 = .ok (.if_icmp .gt 18, 3) := by decide +kernel
theorem d_M_flow_33 : decode cc_M_flow 33 = .ok (.iload_n 1, 1) := by decide +kernel
theorem d_M_flow_34 : decode cc_M_flow 34 = .ok (.iload_n 0, 1) := by decide +kernel
theorem d_M_flow_35 : decode cc_M_flow 35 = .ok (.bipush 7, 2) := by decide +kernel
theorem d_M_flow_37 : decode cc_M_flow 37 = .ok (.iconst 3, 1) := by decide +kernel
theorem d_M_flow_38 : decode cc_M_flow 38 = .ok (.invokestatic 35, 3) := by decide +kernel
theorem d_M_flow_41 : decode cc_M_flow 41 = .ok (.ifCond .eq 7, 3) := by decide +kernel
theorem d_M_flow_44 : decode cc_M_flow 44 = .ok (.iconst 1, 1) := by decide +kernel
theorem d_M_flow_45 : decode cc_M_flow 45 = .ok (.goto 4, 3) := by decide +kernel
def f_M_flow_0 (y0 : Int32) (y1 : Int32) : Option (Int32) :=
  if (y1 &&& (3 : Int32)) < (y0 &&& (3 : Int32)) then (some (0 : Int32)) else ((f_M_among y0 y1 (2 : Int32) (7 : Int32)).bind fun x1 => if x1 = 0 then (some (0 : Int32)) else (if ((y0 >>> ((5 : Int32) &&& 31)) &&& (3 : Int32)) < ((y1 >>> ((5 : Int32) &&& 31)) &&& (3 : Int32)) then (some (0 : Int32)) else ((f_M_among y1 y0 (7 : Int32) (3 : Int32)).bind fun x3 => if x3 = 0 then (some (0 : Int32)) else (some (1 : Int32)))))
set_option maxHeartbeats 4000000 in
set_option maxRecDepth 100000 in
theorem b_M_flow_0 {l : Launch} {p : Program} {e : Env} {s : State} {m : MethodId} {args : Array Value} {below : List Frame} {meth : Method} {c : Code} (cx : jv_cx p s m args meth c cc_M_flow 2 R_Model (some .boolean) ws_M_flow) {r : Int32} {y0 : Int32} {y1 : Int32} {ls : Array Slot} (hl : lv_has ls 2 [(0, .int y0), (1, .int y1)]) (hf : f_M_flow_0 y0 y1 = some r) : W p l e rm_M_flow s m args below meth c s.heap [] 0 0 (MQ below (QcRead r) args s 0 0 (fun _ => False)) (F0 m 0 ls []) := by
  unfold f_M_flow_0 at hf
  obtain ⟨hx, hb, hml, hown, hts, hr, hlocks⟩ := id cx
  refine lv_iload_n hx hb d_M_flow_0 rfl (lv_at hl 0 rfl) ?_
  refine lv_iconst (v := (3 : Int32)) hx hb d_M_flow_1 (by decide) ?_
  refine lv_iand hx hb d_M_flow_2 ?_
  refine lv_iload_n hx hb d_M_flow_3 rfl (lv_at hl 1 rfl) ?_
  refine lv_iconst (v := (3 : Int32)) hx hb d_M_flow_4 (by decide) ?_
  refine lv_iand hx hb d_M_flow_5 ?_
  refine lv_icmp_gt (tgt := 48) hx hb d_M_flow_6 (by decide) (fun hc => ?_) (fun hc => ?_)
  · have hf := jv_it hf hc
    refine lv_iconst (v := (0 : Int32)) hx hb d_M_flow_48 (by decide) ?_
    obtain rfl := Option.some.inj hf
    exact W.zret hx hb hr rfl (fun t ht hW => ⟨rfl, ht⟩) (fun q h => by cases h) d_M_flow_49
  · have hf := jv_if hf hc
    refine lv_iload_n hx hb d_M_flow_9 rfl (lv_at hl 0 rfl) ?_
    refine lv_iload_n hx hb d_M_flow_10 rfl (lv_at hl 1 rfl) ?_
    refine lv_iconst (v := (2 : Int32)) hx hb d_M_flow_11 (by decide) ?_
    refine lv_bipush (v := (7 : Int32)) hx hb d_M_flow_12 (by decide) ?_
    obtain ⟨x1, g2, hf⟩ := jv_ob hf
    refine jv_cs (W.runS (As := [.int y0, .int y1, .int (2 : Int32), .int (7 : Int32)]) (rest := []) ⟨hx, hb, hml, hown, hts⟩ (c_M_among l y0 y1 (2 : Int32) (7 : Int32) x1 g2) (jv_cwS hts wa_193 wa_194 wa_195 wa_196 rfl rfl yd_M_among ⟨Nat.le_of_ble_eq_true rfl, Nat.le_of_ble_eq_true rfl⟩) jv_pre0 rfl rfl hl.1 rfl (lv_room (Nat.le_of_ble_eq_true rfl)) d_M_flow_14 ⟨Nat.zero_le _, Nat.zero_le _⟩) ?_
    refine lv_if_eq (tgt := 48) hx hb d_M_flow_17 (by decide) (fun hc => ?_) (fun hc => ?_)
    · have hf := jv_it hf hc
      refine lv_iconst (v := (0 : Int32)) hx hb d_M_flow_48 (by decide) ?_
      obtain rfl := Option.some.inj hf
      exact W.zret hx hb hr rfl (fun t ht hW => ⟨rfl, ht⟩) (fun q h => by cases h) d_M_flow_49
    · have hf := jv_if hf hc
      refine lv_iload_n hx hb d_M_flow_20 rfl (lv_at hl 1 rfl) ?_
      refine lv_iconst (v := (5 : Int32)) hx hb d_M_flow_21 (by decide) ?_
      refine lv_ishr hx hb d_M_flow_22 ?_
      refine lv_iconst (v := (3 : Int32)) hx hb d_M_flow_23 (by decide) ?_
      refine lv_iand hx hb d_M_flow_24 ?_
      refine lv_iload_n hx hb d_M_flow_25 rfl (lv_at hl 0 rfl) ?_
      refine lv_iconst (v := (5 : Int32)) hx hb d_M_flow_26 (by decide) ?_
      refine lv_ishr hx hb d_M_flow_27 ?_
      refine lv_iconst (v := (3 : Int32)) hx hb d_M_flow_28 (by decide) ?_
      refine lv_iand hx hb d_M_flow_29 ?_
      refine lv_icmp_gt (tgt := 48) hx hb d_M_flow_30 (by decide) (fun hc => ?_) (fun hc => ?_)
      · have hf := jv_it hf hc
        refine lv_iconst (v := (0 : Int32)) hx hb d_M_flow_48 (by decide) ?_
        obtain rfl := Option.some.inj hf
        exact W.zret hx hb hr rfl (fun t ht hW => ⟨rfl, ht⟩) (fun q h => by cases h) d_M_flow_49
      · have hf := jv_if hf hc
        refine lv_iload_n hx hb d_M_flow_33 rfl (lv_at hl 1 rfl) ?_
        refine lv_iload_n hx hb d_M_flow_34 rfl (lv_at hl 0 rfl) ?_
        refine lv_bipush (v := (7 : Int32)) hx hb d_M_flow_35 (by decide) ?_
        refine lv_iconst (v := (3 : Int32)) hx hb d_M_flow_37 (by decide) ?_
        obtain ⟨x3, g4, hf⟩ := jv_ob hf
        refine jv_cs (W.runS (As := [.int y1, .int y0, .int (7 : Int32), .int (3 : Int32)]) (rest := []) ⟨hx, hb, hml, hown, hts⟩ (c_M_among l y1 y0 (7 : Int32) (3 : Int32) x3 g4) (jv_cwS hts wa_193 wa_194 wa_195 wa_196 rfl rfl yd_M_among ⟨Nat.le_of_ble_eq_true rfl, Nat.le_of_ble_eq_true rfl⟩) jv_pre0 rfl rfl hl.1 rfl (lv_room (Nat.le_of_ble_eq_true rfl)) d_M_flow_38 ⟨Nat.zero_le _, Nat.zero_le _⟩) ?_
        refine lv_if_eq (tgt := 48) hx hb d_M_flow_41 (by decide) (fun hc => ?_) (fun hc => ?_)
        · have hf := jv_it hf hc
          refine lv_iconst (v := (0 : Int32)) hx hb d_M_flow_48 (by decide) ?_
          obtain rfl := Option.some.inj hf
          exact W.zret hx hb hr rfl (fun t ht hW => ⟨rfl, ht⟩) (fun q h => by cases h) d_M_flow_49
        · have hf := jv_if hf hc
          refine lv_iconst (v := (1 : Int32)) hx hb d_M_flow_44 (by decide) ?_
          refine lv_goto (tgt := 49) hx hb d_M_flow_45 (by decide) ?_
          obtain rfl := Option.some.inj hf
          exact W.zret hx hb hr rfl (fun t ht hW => ⟨rfl, ht⟩) (fun q h => by cases h) d_M_flow_49
def f_M_flow (a0 : Int32) (a1 : Int32) : Option (Int32) := f_M_flow_0 a0 a1
set_option maxHeartbeats 4000000 in
set_option maxRecDepth 100000 in
theorem c_M_flow (l : Launch) (a0 : Int32) (a1 : Int32) (r : Int32) (hf : f_M_flow a0 a1 = some r) : Met l y_M_flow ws_M_flow rm_M_flow (jv_P0 [.int a0, .int a1]) (QcRead r) 0 0 (fun _ => False) := by
  refine Met.ofW (cc := cc_M_flow) (maxL := 2) (ret := (some .boolean)) (by decide) rfl ?_
  intro p e s m args below meth c s₁ B hml hv
  obtain ⟨rfl, -⟩ := hv
  have cx : jv_cx p s m _ meth c cc_M_flow 2 R_Model (some .boolean) ws_M_flow := ⟨B.exec, B.bytes, hml, findClass_of_methodNamed B.named, atoms_spec (ws := ws_M_flow) B.pre, B.returns, B.notSynchronized⟩
  have hl := lv_entry ([.int a0, .int a1]) (n := 2) (Nat.le_of_ble_eq_true rfl)
  rw [lg_entry_eq]
  generalize (lg_sl ([.int a0, .int a1]) ++ List.replicate (2 - (lg_sl ([.int a0, .int a1])).length) Slot.unset).toArray = ls at hl ⊢
  have hl : lv_has ls 2 [(0, .int a0), (1, .int a1)] := hl
  exact b_M_flow_0 (y0 := a0) (y1 := a1) cx (lv_sub hl [0, 1] rfl) hf
theorem d_M_names_0 : decode cc_M_names 0 = .ok (.iconst 0, 1) := by decide +kernel
theorem d_M_names_1 : decode cc_M_names 1 = .ok (.istore_n 1, 1) := by decide +kernel
theorem d_M_names_2 : decode cc_M_names 2 = .ok (.iload_n 0, 1) := by decide +kernel
theorem d_M_names_3 : decode cc_M_names 3 = .ok (.istore_n 2, 1) := by decide +kernel
theorem d_M_names_4 : decode cc_M_names 4 = .ok (.iload_n 0, 1) := by decide +kernel
theorem d_M_names_5 : decode cc_M_names 5 = .ok (.ifCond .lt 7, 3) := by decide +kernel
theorem d_M_names_12 : decode cc_M_names 12 = .ok (.iconst 0, 1) := by decide +kernel
theorem d_M_names_13 : decode cc_M_names 13 = .ok (.istore_n 3, 1) := by decide +kernel
theorem d_M_names_14 : decode cc_M_names 14 = .ok (.iconst 0, 1) := by decide +kernel
theorem d_M_names_15 : decode cc_M_names 15 = .ok (.istore 4, 2) := by decide +kernel
theorem d_M_names_8 : decode cc_M_names 8 = .ok (.iconst 1, 1) := by decide +kernel
theorem d_M_names_9 : decode cc_M_names 9 = .ok (.goto 4, 3) := by decide +kernel
theorem d_M_names_17 : decode cc_M_names 17 = .ok (.iload 4, 2) := by decide +kernel
theorem d_M_names_19 : decode cc_M_names 19 = .ok (.bipush 7, 2) := by decide +kernel
theorem d_M_names_21 : decode cc_M_names 21 = .ok (.if_icmp .ge 50, 3) := by decide +kernel
theorem d_M_names_71 : decode cc_M_names 71 = .ok (.iload_n 3, 1) := by decide +kernel
theorem d_M_names_72 : decode cc_M_names 72 = .ok (.ifCond .eq 12, 3) := by decide +kernel
theorem d_M_names_84 : decode cc_M_names 84 = .ok (.iconst (-1), 1) := by decide +kernel
theorem d_M_names_85 : decode cc_M_names 85 = .ok (.ireturn, 1) := by decide +kernel
theorem d_M_names_75 : decode cc_M_names 75 = .ok (.iload_n 1, 1) := by decide +kernel
theorem d_M_names_76 : decode cc_M_names 76 = .ok (.iconst 4, 1) := by decide +kernel
theorem d_M_names_77 : decode cc_M_names 77 = .ok (.if_icmp .gt 7, 3) := by decide +kernel
theorem d_M_names_80 : decode cc_M_names 80 = .ok (.iload_n 1, 1) := by decide +kernel
theorem d_M_names_81 : decode cc_M_names 81 = .ok (.goto 4, 3) := by decide +kernel
theorem d_M_names_24 : decode cc_M_names 24 = .ok (.iload_n 2, 1) := by decide +kernel
theorem d_M_names_25 : decode cc_M_names 25 = .ok (.ifCond .le 46, 3) := by decide +kernel
theorem d_M_names_28 : decode cc_M_names 28 = .ok (.iload_n 2, 1) := by decide +kernel
theorem d_M_names_29 : decode cc_M_names 29 = .ok (.bipush 32, 2) := by decide +kernel
theorem d_M_names_31 : decode cc_M_names 31 = .ok (.irem, 1) := by decide +kernel
theorem d_M_names_32 : decode cc_M_names 32 = .ok (.istore 5, 2) := by decide +kernel
theorem d_M_names_34 : decode cc_M_names 34 = .ok (.iload_n 3, 1) := by decide +kernel
theorem d_M_names_35 : decode cc_M_names 35 = .ok (.ifCond .eq 20, 3) := by decide +kernel
theorem d_M_names_55 : decode cc_M_names 55 = .ok (.iconst 0, 1) := by decide +kernel
theorem d_M_names_56 : decode cc_M_names 56 = .ok (.istore_n 3, 1) := by decide +kernel
theorem d_M_names_57 : decode cc_M_names 57 = .ok (.iload_n 2, 1) := by decide +kernel
theorem d_M_names_58 : decode cc_M_names 58 = .ok (.bipush 32, 2) := by decide +kernel
theorem d_M_names_60 : decode cc_M_names 60 = .ok (.idiv, 1) := by decide +kernel
theorem d_M_names_61 : decode cc_M_names 61 = .ok (.istore_n 2, 1) := by decide +kernel
theorem d_M_names_62 : decode cc_M_names 62 = .ok (.iinc 1 1, 3) := by decide +kernel
theorem d_M_names_65 : decode cc_M_names 65 = .ok (.iinc 4 1, 3) := by decide +kernel
theorem d_M_names_68 : decode cc_M_names 68 = .ok (.goto (-51), 3) := by decide +kernel
theorem d_M_names_38 : decode cc_M_names 38 = .ok (.iload 5, 2) := by decide +kernel
theorem d_M_names_40 : decode cc_M_names 40 = .ok (.iconst 1, 1) := by decide +kernel
theorem d_M_names_41 : decode cc_M_names 41 = .ok (.if_icmp .lt 14, 3) := by decide +kernel
theorem d_M_names_44 : decode cc_M_names 44 = .ok (.iload 5, 2) := by decide +kernel
theorem d_M_names_46 : decode cc_M_names 46 = .ok (.bipush 26, 2) := by decide +kernel
theorem d_M_names_48 : decode cc_M_names 48 = .ok (.if_icmp .gt 7, 3) := by decide +kernel
theorem d_M_names_51 : decode cc_M_names 51 = .ok (.iconst 1, 1) := by decide +kernel
theorem d_M_names_52 : decode cc_M_names 52 = .ok (.goto 4, 3) := by decide +kernel
def f_M_names_17 (k17 : (Int32 × Int32 × Int32 × Int32) → Option (Int32)) (a : Int32 × Int32 × Int32 × Int32) : Option (Int32) :=
  if (7 : Int32) ≤ a.2.2.2 then (if a.2.2.1 = 0 then (some (-1 : Int32)) else (if (4 : Int32) < a.1 then (some (-1 : Int32)) else (some a.1))) else (if a.2.1 ≤ 0 then (if a.2.2.1 = 0 then (some (-1 : Int32)) else (if (4 : Int32) < a.1 then (some (-1 : Int32)) else (some a.1))) else (if a.2.2.1 = 0 then (k17 (a.1 + (1 : Int32), a.2.1 / (32 : Int32), (0 : Int32), a.2.2.2 + (1 : Int32))) else (if (a.2.1 - a.2.1 / (32 : Int32) * (32 : Int32)) < (1 : Int32) then (k17 (a.1 + (1 : Int32), a.2.1 / (32 : Int32), (0 : Int32), a.2.2.2 + (1 : Int32))) else (if (26 : Int32) < (a.2.1 - a.2.1 / (32 : Int32) * (32 : Int32)) then (k17 (a.1 + (1 : Int32), a.2.1 / (32 : Int32), (0 : Int32), a.2.2.2 + (1 : Int32))) else (k17 (a.1 + (1 : Int32), a.2.1 / (32 : Int32), (1 : Int32), a.2.2.2 + (1 : Int32)))))))
set_option maxHeartbeats 4000000 in
set_option maxRecDepth 100000 in
theorem b_M_names_17 {l : Launch} {p : Program} {e : Env} {s : State} {m : MethodId} {args : Array Value} {below : List Frame} {meth : Method} {c : Code} (cx : jv_cx p s m args meth c cc_M_names 6 R_Model (some .int) ws_M_names) {r : Int32} {k17 : (Int32 × Int32 × Int32 × Int32) → Option (Int32)} (hk17 : ∀ (a : Int32 × Int32 × Int32 × Int32) (ls : Array Slot), lv_has ls 6 [(1, .int a.1), (2, .int a.2.1), (3, .int a.2.2.1), (4, .int a.2.2.2)] → k17 a = some r → W p l e rm_M_names s m args below meth c s.heap [] 0 0 (MQ below (QcRead r) args s 0 0 (fun _ => False)) (F0 m 17 ls [])) {a : Int32 × Int32 × Int32 × Int32} {ls : Array Slot} (hl : lv_has ls 6 [(1, .int a.1), (2, .int a.2.1), (3, .int a.2.2.1), (4, .int a.2.2.2)]) (hf : f_M_names_17 k17 a = some r) : W p l e rm_M_names s m args below meth c s.heap [] 0 0 (MQ below (QcRead r) args s 0 0 (fun _ => False)) (F0 m 17 ls []) := by
  unfold f_M_names_17 at hf
  obtain ⟨hx, hb, hml, hown, hts, hr, hlocks⟩ := id cx
  refine lv_iload hx hb d_M_names_17 (lv_at hl 3 rfl) ?_
  refine lv_bipush (v := (7 : Int32)) hx hb d_M_names_19 (by decide) ?_
  refine lv_icmp_ge (tgt := 71) hx hb d_M_names_21 (by decide) (fun hc => ?_) (fun hc => ?_)
  · have hf := jv_it hf hc
    refine lv_iload_n hx hb d_M_names_71 rfl (lv_at hl 2 rfl) ?_
    refine lv_if_eq (tgt := 84) hx hb d_M_names_72 (by decide) (fun hc => ?_) (fun hc => ?_)
    · have hf := jv_it hf hc
      refine lv_iconst (v := (-1 : Int32)) hx hb d_M_names_84 (by decide) ?_
      obtain rfl := Option.some.inj hf
      exact W.iret hx hb hr (fun t ht hW => ⟨rfl, ht⟩) (fun q h => by cases h) d_M_names_85
    · have hf := jv_if hf hc
      refine lv_iload_n hx hb d_M_names_75 rfl (lv_at hl 0 rfl) ?_
      refine lv_iconst (v := (4 : Int32)) hx hb d_M_names_76 (by decide) ?_
      refine lv_icmp_gt (tgt := 84) hx hb d_M_names_77 (by decide) (fun hc => ?_) (fun hc => ?_)
      · have hf := jv_it hf hc
        refine lv_iconst (v := (-1 : Int32)) hx hb d_M_names_84 (by decide) ?_
        obtain rfl := Option.some.inj hf
        exact W.iret hx hb hr (fun t ht hW => ⟨rfl, ht⟩) (fun q h => by cases h) d_M_names_85
      · have hf := jv_if hf hc
        refine lv_iload_n hx hb d_M_names_80 rfl (lv_at hl 0 rfl) ?_
        refine lv_goto (tgt := 85) hx hb d_M_names_81 (by decide) ?_
        obtain rfl := Option.some.inj hf
        exact W.iret hx hb hr (fun t ht hW => ⟨rfl, ht⟩) (fun q h => by cases h) d_M_names_85
  · have hf := jv_if hf hc
    refine lv_iload_n hx hb d_M_names_24 rfl (lv_at hl 1 rfl) ?_
    refine lv_if_le (tgt := 71) hx hb d_M_names_25 (by decide) (fun hc => ?_) (fun hc => ?_)
    · have hf := jv_it hf hc
      refine lv_iload_n hx hb d_M_names_71 rfl (lv_at hl 2 rfl) ?_
      refine lv_if_eq (tgt := 84) hx hb d_M_names_72 (by decide) (fun hc => ?_) (fun hc => ?_)
      · have hf := jv_it hf hc
        refine lv_iconst (v := (-1 : Int32)) hx hb d_M_names_84 (by decide) ?_
        obtain rfl := Option.some.inj hf
        exact W.iret hx hb hr (fun t ht hW => ⟨rfl, ht⟩) (fun q h => by cases h) d_M_names_85
      · have hf := jv_if hf hc
        refine lv_iload_n hx hb d_M_names_75 rfl (lv_at hl 0 rfl) ?_
        refine lv_iconst (v := (4 : Int32)) hx hb d_M_names_76 (by decide) ?_
        refine lv_icmp_gt (tgt := 84) hx hb d_M_names_77 (by decide) (fun hc => ?_) (fun hc => ?_)
        · have hf := jv_it hf hc
          refine lv_iconst (v := (-1 : Int32)) hx hb d_M_names_84 (by decide) ?_
          obtain rfl := Option.some.inj hf
          exact W.iret hx hb hr (fun t ht hW => ⟨rfl, ht⟩) (fun q h => by cases h) d_M_names_85
        · have hf := jv_if hf hc
          refine lv_iload_n hx hb d_M_names_80 rfl (lv_at hl 0 rfl) ?_
          refine lv_goto (tgt := 85) hx hb d_M_names_81 (by decide) ?_
          obtain rfl := Option.some.inj hf
          exact W.iret hx hb hr (fun t ht hW => ⟨rfl, ht⟩) (fun q h => by cases h) d_M_names_85
    · have hf := jv_if hf hc
      refine lv_iload_n hx hb d_M_names_28 rfl (lv_at hl 1 rfl) ?_
      refine lv_bipush (v := (32 : Int32)) hx hb d_M_names_29 (by decide) ?_
      refine lv_irem hx hb d_M_names_31 (by decide) ?_
      refine lv_istore (lv' := [(5, .int (a.2.1 - a.2.1 / (32 : Int32) * (32 : Int32))), (1, .int a.1), (2, .int a.2.1), (3, .int a.2.2.1), (4, .int a.2.2.2)]) hx hb d_M_names_32 hl (by decide) rfl (fun ls hl => ?_)
      refine lv_iload_n hx hb d_M_names_34 rfl (lv_at hl 3 rfl) ?_
      refine lv_if_eq (tgt := 55) hx hb d_M_names_35 (by decide) (fun hc => ?_) (fun hc => ?_)
      · have hf := jv_it hf hc
        refine lv_iconst (v := (0 : Int32)) hx hb d_M_names_55 (by decide) ?_
        refine lv_istore_n (lv' := [(3, .int (0 : Int32)), (5, .int (a.2.1 - a.2.1 / (32 : Int32) * (32 : Int32))), (1, .int a.1), (2, .int a.2.1), (4, .int a.2.2.2)]) hx hb d_M_names_56 rfl hl (by decide) rfl (fun ls hl => ?_)
        refine lv_iload_n hx hb d_M_names_57 rfl (lv_at hl 3 rfl) ?_
        refine lv_bipush (v := (32 : Int32)) hx hb d_M_names_58 (by decide) ?_
        refine lv_idiv hx hb d_M_names_60 (by decide) ?_
        refine lv_istore_n (lv' := [(2, .int (a.2.1 / (32 : Int32))), (3, .int (0 : Int32)), (5, .int (a.2.1 - a.2.1 / (32 : Int32) * (32 : Int32))), (1, .int a.1), (4, .int a.2.2.2)]) hx hb d_M_names_61 rfl hl (by decide) rfl (fun ls hl => ?_)
        refine lv_iinc (k := 3) (v := a.1 + (1 : Int32)) (lv' := [(1, .int (a.1 + (1 : Int32))), (2, .int (a.2.1 / (32 : Int32))), (3, .int (0 : Int32)), (5, .int (a.2.1 - a.2.1 / (32 : Int32) * (32 : Int32))), (4, .int a.2.2.2)]) hx hb d_M_names_62 hl rfl (jv_inc _) (by decide) rfl (fun ls hl => ?_)
        refine lv_iinc (k := 4) (v := a.2.2.2 + (1 : Int32)) (lv' := [(4, .int (a.2.2.2 + (1 : Int32))), (1, .int (a.1 + (1 : Int32))), (2, .int (a.2.1 / (32 : Int32))), (3, .int (0 : Int32)), (5, .int (a.2.1 - a.2.1 / (32 : Int32) * (32 : Int32)))]) hx hb d_M_names_65 hl rfl (jv_inc _) (by decide) rfl (fun ls hl => ?_)
        refine lv_goto (tgt := 17) hx hb d_M_names_68 (by decide) ?_
        exact hk17 (a.1 + (1 : Int32), a.2.1 / (32 : Int32), (0 : Int32), a.2.2.2 + (1 : Int32)) _ (lv_sub hl [1, 2, 3, 0] rfl) hf
      · have hf := jv_if hf hc
        refine lv_iload hx hb d_M_names_38 (lv_at hl 0 rfl) ?_
        refine lv_iconst (v := (1 : Int32)) hx hb d_M_names_40 (by decide) ?_
        refine lv_icmp_lt (tgt := 55) hx hb d_M_names_41 (by decide) (fun hc => ?_) (fun hc => ?_)
        · have hf := jv_it hf hc
          refine lv_iconst (v := (0 : Int32)) hx hb d_M_names_55 (by decide) ?_
          refine lv_istore_n (lv' := [(3, .int (0 : Int32)), (5, .int (a.2.1 - a.2.1 / (32 : Int32) * (32 : Int32))), (1, .int a.1), (2, .int a.2.1), (4, .int a.2.2.2)]) hx hb d_M_names_56 rfl hl (by decide) rfl (fun ls hl => ?_)
          refine lv_iload_n hx hb d_M_names_57 rfl (lv_at hl 3 rfl) ?_
          refine lv_bipush (v := (32 : Int32)) hx hb d_M_names_58 (by decide) ?_
          refine lv_idiv hx hb d_M_names_60 (by decide) ?_
          refine lv_istore_n (lv' := [(2, .int (a.2.1 / (32 : Int32))), (3, .int (0 : Int32)), (5, .int (a.2.1 - a.2.1 / (32 : Int32) * (32 : Int32))), (1, .int a.1), (4, .int a.2.2.2)]) hx hb d_M_names_61 rfl hl (by decide) rfl (fun ls hl => ?_)
          refine lv_iinc (k := 3) (v := a.1 + (1 : Int32)) (lv' := [(1, .int (a.1 + (1 : Int32))), (2, .int (a.2.1 / (32 : Int32))), (3, .int (0 : Int32)), (5, .int (a.2.1 - a.2.1 / (32 : Int32) * (32 : Int32))), (4, .int a.2.2.2)]) hx hb d_M_names_62 hl rfl (jv_inc _) (by decide) rfl (fun ls hl => ?_)
          refine lv_iinc (k := 4) (v := a.2.2.2 + (1 : Int32)) (lv' := [(4, .int (a.2.2.2 + (1 : Int32))), (1, .int (a.1 + (1 : Int32))), (2, .int (a.2.1 / (32 : Int32))), (3, .int (0 : Int32)), (5, .int (a.2.1 - a.2.1 / (32 : Int32) * (32 : Int32)))]) hx hb d_M_names_65 hl rfl (jv_inc _) (by decide) rfl (fun ls hl => ?_)
          refine lv_goto (tgt := 17) hx hb d_M_names_68 (by decide) ?_
          exact hk17 (a.1 + (1 : Int32), a.2.1 / (32 : Int32), (0 : Int32), a.2.2.2 + (1 : Int32)) _ (lv_sub hl [1, 2, 3, 0] rfl) hf
        · have hf := jv_if hf hc
          refine lv_iload hx hb d_M_names_44 (lv_at hl 0 rfl) ?_
          refine lv_bipush (v := (26 : Int32)) hx hb d_M_names_46 (by decide) ?_
          refine lv_icmp_gt (tgt := 55) hx hb d_M_names_48 (by decide) (fun hc => ?_) (fun hc => ?_)
          · have hf := jv_it hf hc
            refine lv_iconst (v := (0 : Int32)) hx hb d_M_names_55 (by decide) ?_
            refine lv_istore_n (lv' := [(3, .int (0 : Int32)), (5, .int (a.2.1 - a.2.1 / (32 : Int32) * (32 : Int32))), (1, .int a.1), (2, .int a.2.1), (4, .int a.2.2.2)]) hx hb d_M_names_56 rfl hl (by decide) rfl (fun ls hl => ?_)
            refine lv_iload_n hx hb d_M_names_57 rfl (lv_at hl 3 rfl) ?_
            refine lv_bipush (v := (32 : Int32)) hx hb d_M_names_58 (by decide) ?_
            refine lv_idiv hx hb d_M_names_60 (by decide) ?_
            refine lv_istore_n (lv' := [(2, .int (a.2.1 / (32 : Int32))), (3, .int (0 : Int32)), (5, .int (a.2.1 - a.2.1 / (32 : Int32) * (32 : Int32))), (1, .int a.1), (4, .int a.2.2.2)]) hx hb d_M_names_61 rfl hl (by decide) rfl (fun ls hl => ?_)
            refine lv_iinc (k := 3) (v := a.1 + (1 : Int32)) (lv' := [(1, .int (a.1 + (1 : Int32))), (2, .int (a.2.1 / (32 : Int32))), (3, .int (0 : Int32)), (5, .int (a.2.1 - a.2.1 / (32 : Int32) * (32 : Int32))), (4, .int a.2.2.2)]) hx hb d_M_names_62 hl rfl (jv_inc _) (by decide) rfl (fun ls hl => ?_)
            refine lv_iinc (k := 4) (v := a.2.2.2 + (1 : Int32)) (lv' := [(4, .int (a.2.2.2 + (1 : Int32))), (1, .int (a.1 + (1 : Int32))), (2, .int (a.2.1 / (32 : Int32))), (3, .int (0 : Int32)), (5, .int (a.2.1 - a.2.1 / (32 : Int32) * (32 : Int32)))]) hx hb d_M_names_65 hl rfl (jv_inc _) (by decide) rfl (fun ls hl => ?_)
            refine lv_goto (tgt := 17) hx hb d_M_names_68 (by decide) ?_
            exact hk17 (a.1 + (1 : Int32), a.2.1 / (32 : Int32), (0 : Int32), a.2.2.2 + (1 : Int32)) _ (lv_sub hl [1, 2, 3, 0] rfl) hf
          · have hf := jv_if hf hc
            refine lv_iconst (v := (1 : Int32)) hx hb d_M_names_51 (by decide) ?_
            refine lv_goto (tgt := 56) hx hb d_M_names_52 (by decide) ?_
            refine lv_istore_n (lv' := [(3, .int (1 : Int32)), (5, .int (a.2.1 - a.2.1 / (32 : Int32) * (32 : Int32))), (1, .int a.1), (2, .int a.2.1), (4, .int a.2.2.2)]) hx hb d_M_names_56 rfl hl (by decide) rfl (fun ls hl => ?_)
            refine lv_iload_n hx hb d_M_names_57 rfl (lv_at hl 3 rfl) ?_
            refine lv_bipush (v := (32 : Int32)) hx hb d_M_names_58 (by decide) ?_
            refine lv_idiv hx hb d_M_names_60 (by decide) ?_
            refine lv_istore_n (lv' := [(2, .int (a.2.1 / (32 : Int32))), (3, .int (1 : Int32)), (5, .int (a.2.1 - a.2.1 / (32 : Int32) * (32 : Int32))), (1, .int a.1), (4, .int a.2.2.2)]) hx hb d_M_names_61 rfl hl (by decide) rfl (fun ls hl => ?_)
            refine lv_iinc (k := 3) (v := a.1 + (1 : Int32)) (lv' := [(1, .int (a.1 + (1 : Int32))), (2, .int (a.2.1 / (32 : Int32))), (3, .int (1 : Int32)), (5, .int (a.2.1 - a.2.1 / (32 : Int32) * (32 : Int32))), (4, .int a.2.2.2)]) hx hb d_M_names_62 hl rfl (jv_inc _) (by decide) rfl (fun ls hl => ?_)
            refine lv_iinc (k := 4) (v := a.2.2.2 + (1 : Int32)) (lv' := [(4, .int (a.2.2.2 + (1 : Int32))), (1, .int (a.1 + (1 : Int32))), (2, .int (a.2.1 / (32 : Int32))), (3, .int (1 : Int32)), (5, .int (a.2.1 - a.2.1 / (32 : Int32) * (32 : Int32)))]) hx hb d_M_names_65 hl rfl (jv_inc _) (by decide) rfl (fun ls hl => ?_)
            refine lv_goto (tgt := 17) hx hb d_M_names_68 (by decide) ?_
            exact hk17 (a.1 + (1 : Int32), a.2.1 / (32 : Int32), (1 : Int32), a.2.2.2 + (1 : Int32)) _ (lv_sub hl [1, 2, 3, 0] rfl) hf
set_option maxHeartbeats 4000000 in
set_option maxRecDepth 100000 in
theorem l_M_names_17 {l : Launch} {p : Program} {e : Env} {s : State} {m : MethodId} {args : Array Value} {below : List Frame} {meth : Method} {c : Code} (cx : jv_cx p s m args meth c cc_M_names 6 R_Model (some .int) ws_M_names) {r : Int32} : ∀ n : Nat, ∀ (a : Int32 × Int32 × Int32 × Int32) (ls : Array Slot), lv_has ls 6 [(1, .int a.1), (2, .int a.2.1), (3, .int a.2.2.1), (4, .int a.2.2.2)] → jv_fx (f_M_names_17) n a = some r → W p l e rm_M_names s m args below meth c s.heap [] 0 0 (MQ below (QcRead r) args s 0 0 (fun _ => False)) (F0 m 17 ls []) := by
  intro n
  induction n with
  | zero => intro a ls hl hf; exact jv_no hf
  | succ n ih => intro a ls hl hf; exact b_M_names_17 cx ih hl hf
def f_M_names_0 (y0 : Int32) : Option (Int32) :=
  if y0 < 0 then (jv_fx (f_M_names_17) 300 ((0 : Int32), y0, (0 : Int32), (0 : Int32))) else (jv_fx (f_M_names_17) 300 ((0 : Int32), y0, (1 : Int32), (0 : Int32)))
set_option maxHeartbeats 4000000 in
set_option maxRecDepth 100000 in
theorem b_M_names_0 {l : Launch} {p : Program} {e : Env} {s : State} {m : MethodId} {args : Array Value} {below : List Frame} {meth : Method} {c : Code} (cx : jv_cx p s m args meth c cc_M_names 6 R_Model (some .int) ws_M_names) {r : Int32} {y0 : Int32} {ls : Array Slot} (hl : lv_has ls 6 [(0, .int y0)]) (hf : f_M_names_0 y0 = some r) : W p l e rm_M_names s m args below meth c s.heap [] 0 0 (MQ below (QcRead r) args s 0 0 (fun _ => False)) (F0 m 0 ls []) := by
  unfold f_M_names_0 at hf
  obtain ⟨hx, hb, hml, hown, hts, hr, hlocks⟩ := id cx
  refine lv_iconst (v := (0 : Int32)) hx hb d_M_names_0 (by decide) ?_
  refine lv_istore_n (lv' := [(1, .int (0 : Int32)), (0, .int y0)]) hx hb d_M_names_1 rfl hl (by decide) rfl (fun ls hl => ?_)
  refine lv_iload_n hx hb d_M_names_2 rfl (lv_at hl 1 rfl) ?_
  refine lv_istore_n (lv' := [(2, .int y0), (1, .int (0 : Int32)), (0, .int y0)]) hx hb d_M_names_3 rfl hl (by decide) rfl (fun ls hl => ?_)
  refine lv_iload_n hx hb d_M_names_4 rfl (lv_at hl 2 rfl) ?_
  refine lv_if_lt (tgt := 12) hx hb d_M_names_5 (by decide) (fun hc => ?_) (fun hc => ?_)
  · have hf := jv_it hf hc
    refine lv_iconst (v := (0 : Int32)) hx hb d_M_names_12 (by decide) ?_
    refine lv_istore_n (lv' := [(3, .int (0 : Int32)), (2, .int y0), (1, .int (0 : Int32)), (0, .int y0)]) hx hb d_M_names_13 rfl hl (by decide) rfl (fun ls hl => ?_)
    refine lv_iconst (v := (0 : Int32)) hx hb d_M_names_14 (by decide) ?_
    refine lv_istore (lv' := [(4, .int (0 : Int32)), (3, .int (0 : Int32)), (2, .int y0), (1, .int (0 : Int32)), (0, .int y0)]) hx hb d_M_names_15 hl (by decide) rfl (fun ls hl => ?_)
    exact l_M_names_17 cx 300 ((0 : Int32), y0, (0 : Int32), (0 : Int32)) _ (lv_sub hl [3, 2, 1, 0] rfl) hf
  · have hf := jv_if hf hc
    refine lv_iconst (v := (1 : Int32)) hx hb d_M_names_8 (by decide) ?_
    refine lv_goto (tgt := 13) hx hb d_M_names_9 (by decide) ?_
    refine lv_istore_n (lv' := [(3, .int (1 : Int32)), (2, .int y0), (1, .int (0 : Int32)), (0, .int y0)]) hx hb d_M_names_13 rfl hl (by decide) rfl (fun ls hl => ?_)
    refine lv_iconst (v := (0 : Int32)) hx hb d_M_names_14 (by decide) ?_
    refine lv_istore (lv' := [(4, .int (0 : Int32)), (3, .int (1 : Int32)), (2, .int y0), (1, .int (0 : Int32)), (0, .int y0)]) hx hb d_M_names_15 hl (by decide) rfl (fun ls hl => ?_)
    exact l_M_names_17 cx 300 ((0 : Int32), y0, (1 : Int32), (0 : Int32)) _ (lv_sub hl [3, 2, 1, 0] rfl) hf
def f_M_names (a0 : Int32) : Option (Int32) := f_M_names_0 a0
set_option maxHeartbeats 4000000 in
set_option maxRecDepth 100000 in
theorem c_M_names (l : Launch) (a0 : Int32) (r : Int32) (hf : f_M_names a0 = some r) : Met l y_M_names ws_M_names rm_M_names (jv_P0 [.int a0]) (QcRead r) 0 0 (fun _ => False) := by
  refine Met.ofW (cc := cc_M_names) (maxL := 6) (ret := (some .int)) (by decide) rfl ?_
  intro p e s m args below meth c s₁ B hml hv
  obtain ⟨rfl, -⟩ := hv
  have cx : jv_cx p s m _ meth c cc_M_names 6 R_Model (some .int) ws_M_names := ⟨B.exec, B.bytes, hml, findClass_of_methodNamed B.named, atoms_spec (ws := ws_M_names) B.pre, B.returns, B.notSynchronized⟩
  have hl := lv_entry ([.int a0]) (n := 6) (Nat.le_of_ble_eq_true rfl)
  rw [lg_entry_eq]
  generalize (lg_sl ([.int a0]) ++ List.replicate (6 - (lg_sl ([.int a0])).length) Slot.unset).toArray = ls at hl ⊢
  have hl : lv_has ls 6 [(0, .int a0)] := hl
  exact b_M_names_0 (y0 := a0) cx (lv_sub hl [0] rfl) hf
theorem d_M_isPath_0 : decode cc_M_isPath 0 = .ok (.iload_n 0, 1) := by decide +kernel
theorem d_M_isPath_1 : decode cc_M_isPath 1 = .ok (.invokestatic 56, 3) := by decide +kernel
theorem d_M_isPath_4 : decode cc_M_isPath 4 = .ok (.ifCond .lt 7, 3) := by decide +kernel
theorem d_M_isPath_11 : decode cc_M_isPath 11 = .ok (.iconst 0, 1) := by decide +kernel
theorem d_M_isPath_12 : decode cc_M_isPath 12 = .ok (.ireturn, 1) := by decide +kernel
theorem d_M_isPath_7 : decode cc_M_isPath 7 = .ok (.iconst 1, 1) := by decide +kernel
theorem d_M_isPath_8 : decode cc_M_isPath 8 = .ok (.goto 4, 3) := by decide +kernel
def f_M_isPath_0 (y0 : Int32) : Option (Int32) :=
  (f_M_names y0).bind fun x1 => if x1 < 0 then (some (0 : Int32)) else (some (1 : Int32))
set_option maxHeartbeats 4000000 in
set_option maxRecDepth 100000 in
theorem b_M_isPath_0 {l : Launch} {p : Program} {e : Env} {s : State} {m : MethodId} {args : Array Value} {below : List Frame} {meth : Method} {c : Code} (cx : jv_cx p s m args meth c cc_M_isPath 1 R_Model (some .boolean) ws_M_isPath) {r : Int32} {y0 : Int32} {ls : Array Slot} (hl : lv_has ls 1 [(0, .int y0)]) (hf : f_M_isPath_0 y0 = some r) : W p l e rm_M_isPath s m args below meth c s.heap [] 0 0 (MQ below (QcRead r) args s 0 0 (fun _ => False)) (F0 m 0 ls []) := by
  unfold f_M_isPath_0 at hf
  obtain ⟨hx, hb, hml, hown, hts, hr, hlocks⟩ := id cx
  refine lv_iload_n hx hb d_M_isPath_0 rfl (lv_at hl 0 rfl) ?_
  obtain ⟨x1, g2, hf⟩ := jv_ob hf
  refine jv_cs (W.runS (As := [.int y0]) (rest := []) ⟨hx, hb, hml, hown, hts⟩ (c_M_names l y0 x1 g2) (jv_cwS hts wa_197 wa_194 wa_198 wa_199 rfl rfl yd_M_names ⟨Nat.le_of_ble_eq_true rfl, Nat.le_of_ble_eq_true rfl⟩) jv_pre0 rfl rfl hl.1 rfl (lv_room (Nat.le_of_ble_eq_true rfl)) d_M_isPath_1 ⟨Nat.zero_le _, Nat.zero_le _⟩) ?_
  refine lv_if_lt (tgt := 11) hx hb d_M_isPath_4 (by decide) (fun hc => ?_) (fun hc => ?_)
  · have hf := jv_it hf hc
    refine lv_iconst (v := (0 : Int32)) hx hb d_M_isPath_11 (by decide) ?_
    obtain rfl := Option.some.inj hf
    exact W.zret hx hb hr rfl (fun t ht hW => ⟨rfl, ht⟩) (fun q h => by cases h) d_M_isPath_12
  · have hf := jv_if hf hc
    refine lv_iconst (v := (1 : Int32)) hx hb d_M_isPath_7 (by decide) ?_
    refine lv_goto (tgt := 12) hx hb d_M_isPath_8 (by decide) ?_
    obtain rfl := Option.some.inj hf
    exact W.zret hx hb hr rfl (fun t ht hW => ⟨rfl, ht⟩) (fun q h => by cases h) d_M_isPath_12
def f_M_isPath (a0 : Int32) : Option (Int32) := f_M_isPath_0 a0
set_option maxHeartbeats 4000000 in
set_option maxRecDepth 100000 in
theorem c_M_isPath (l : Launch) (a0 : Int32) (r : Int32) (hf : f_M_isPath a0 = some r) : Met l y_M_isPath ws_M_isPath rm_M_isPath (jv_P0 [.int a0]) (QcRead r) 0 0 (fun _ => False) := by
  refine Met.ofW (cc := cc_M_isPath) (maxL := 1) (ret := (some .boolean)) (by decide) rfl ?_
  intro p e s m args below meth c s₁ B hml hv
  obtain ⟨rfl, -⟩ := hv
  have cx : jv_cx p s m _ meth c cc_M_isPath 1 R_Model (some .boolean) ws_M_isPath := ⟨B.exec, B.bytes, hml, findClass_of_methodNamed B.named, atoms_spec (ws := ws_M_isPath) B.pre, B.returns, B.notSynchronized⟩
  have hl := lv_entry ([.int a0]) (n := 1) (Nat.le_of_ble_eq_true rfl)
  rw [lg_entry_eq]
  generalize (lg_sl ([.int a0]) ++ List.replicate (1 - (lg_sl ([.int a0])).length) Slot.unset).toArray = ls at hl ⊢
  have hl : lv_has ls 1 [(0, .int a0)] := hl
  exact b_M_isPath_0 (y0 := a0) cx (lv_sub hl [0] rfl) hf
theorem d_M_prefix_0 : decode cc_M_prefix 0 = .ok (.iload_n 0, 1) := by decide +kernel
theorem d_M_prefix_1 : decode cc_M_prefix 1 = .ok (.istore_n 2, 1) := by decide +kernel
theorem d_M_prefix_2 : decode cc_M_prefix 2 = .ok (.iload_n 0, 1) := by decide +kernel
theorem d_M_prefix_3 : decode cc_M_prefix 3 = .ok (.invokestatic 56, 3) := by decide +kernel
theorem d_M_prefix_6 : decode cc_M_prefix 6 = .ok (.istore_n 3, 1) := by decide +kernel
theorem d_M_prefix_7 : decode cc_M_prefix 7 = .ok (.iload_n 3, 1) := by decide +kernel
theorem d_M_prefix_8 : decode cc_M_prefix 8 = .ok (.iload_n 1, 1) := by decide +kernel
theorem d_M_prefix_9 : decode cc_M_prefix 9 = .ok (.if_icmp .le 14, 3) := by decide +kernel
theorem d_M_prefix_23 : decode cc_M_prefix 23 = .ok (.iload_n 2, 1) := by decide +kernel
theorem d_M_prefix_24 : decode cc_M_prefix 24 = .ok (.ireturn, 1) := by decide +kernel
theorem d_M_prefix_12 : decode cc_M_prefix 12 = .ok (.iload_n 2, 1) := by decide +kernel
theorem d_M_prefix_13 : decode cc_M_prefix 13 = .ok (.bipush 32, 2) := by decide +kernel
theorem d_M_prefix_15 : decode cc_M_prefix 15 = .ok (.idiv, 1) := by decide +kernel
theorem d_M_prefix_16 : decode cc_M_prefix 16 = .ok (.istore_n 2, 1) := by decide +kernel
theorem d_M_prefix_17 : decode cc_M_prefix 17 = .ok (.iinc 3 (-1), 3) := by decide +kernel
theorem d_M_prefix_20 : decode cc_M_prefix 20 = .ok (.goto (-13), 3) := by decide +kernel
def f_M_prefix_7 (y0 : Int32) (k7 : (Int32 × Int32) → Option (Int32)) (a : Int32 × Int32) : Option (Int32) :=
  if a.2 ≤ y0 then (some a.1) else (k7 (a.1 / (32 : Int32), a.2 + (-1 : Int32)))
set_option maxHeartbeats 4000000 in
set_option maxRecDepth 100000 in
theorem b_M_prefix_7 {l : Launch} {p : Program} {e : Env} {s : State} {m : MethodId} {args : Array Value} {below : List Frame} {meth : Method} {c : Code} (cx : jv_cx p s m args meth c cc_M_prefix 4 R_Model (some .int) ws_M_prefix) {r : Int32} {y0 : Int32} {k7 : (Int32 × Int32) → Option (Int32)} (hk7 : ∀ (a : Int32 × Int32) (ls : Array Slot), lv_has ls 4 [(1, .int y0), (2, .int a.1), (3, .int a.2)] → k7 a = some r → W p l e rm_M_prefix s m args below meth c s.heap [] 0 0 (MQ below (QcRead r) args s 0 0 (fun _ => False)) (F0 m 7 ls [])) {a : Int32 × Int32} {ls : Array Slot} (hl : lv_has ls 4 [(1, .int y0), (2, .int a.1), (3, .int a.2)]) (hf : f_M_prefix_7 y0 k7 a = some r) : W p l e rm_M_prefix s m args below meth c s.heap [] 0 0 (MQ below (QcRead r) args s 0 0 (fun _ => False)) (F0 m 7 ls []) := by
  unfold f_M_prefix_7 at hf
  obtain ⟨hx, hb, hml, hown, hts, hr, hlocks⟩ := id cx
  refine lv_iload_n hx hb d_M_prefix_7 rfl (lv_at hl 2 rfl) ?_
  refine lv_iload_n hx hb d_M_prefix_8 rfl (lv_at hl 0 rfl) ?_
  refine lv_icmp_le (tgt := 23) hx hb d_M_prefix_9 (by decide) (fun hc => ?_) (fun hc => ?_)
  · have hf := jv_it hf hc
    refine lv_iload_n hx hb d_M_prefix_23 rfl (lv_at hl 1 rfl) ?_
    obtain rfl := Option.some.inj hf
    exact W.iret hx hb hr (fun t ht hW => ⟨rfl, ht⟩) (fun q h => by cases h) d_M_prefix_24
  · have hf := jv_if hf hc
    refine lv_iload_n hx hb d_M_prefix_12 rfl (lv_at hl 1 rfl) ?_
    refine lv_bipush (v := (32 : Int32)) hx hb d_M_prefix_13 (by decide) ?_
    refine lv_idiv hx hb d_M_prefix_15 (by decide) ?_
    refine lv_istore_n (lv' := [(2, .int (a.1 / (32 : Int32))), (1, .int y0), (3, .int a.2)]) hx hb d_M_prefix_16 rfl hl (by decide) rfl (fun ls hl => ?_)
    refine lv_iinc (k := 2) (v := a.2 + (-1 : Int32)) (lv' := [(3, .int (a.2 + (-1 : Int32))), (2, .int (a.1 / (32 : Int32))), (1, .int y0)]) hx hb d_M_prefix_17 hl rfl (jv_dec _) (by decide) rfl (fun ls hl => ?_)
    refine lv_goto (tgt := 7) hx hb d_M_prefix_20 (by decide) ?_
    exact hk7 (a.1 / (32 : Int32), a.2 + (-1 : Int32)) _ (lv_sub hl [2, 1, 0] rfl) hf
set_option maxHeartbeats 4000000 in
set_option maxRecDepth 100000 in
theorem l_M_prefix_7 {l : Launch} {p : Program} {e : Env} {s : State} {m : MethodId} {args : Array Value} {below : List Frame} {meth : Method} {c : Code} (cx : jv_cx p s m args meth c cc_M_prefix 4 R_Model (some .int) ws_M_prefix) {r : Int32} {y0 : Int32} : ∀ n : Nat, ∀ (a : Int32 × Int32) (ls : Array Slot), lv_has ls 4 [(1, .int y0), (2, .int a.1), (3, .int a.2)] → jv_fx (f_M_prefix_7 y0) n a = some r → W p l e rm_M_prefix s m args below meth c s.heap [] 0 0 (MQ below (QcRead r) args s 0 0 (fun _ => False)) (F0 m 7 ls []) := by
  intro n
  induction n with
  | zero => intro a ls hl hf; exact jv_no hf
  | succ n ih => intro a ls hl hf; exact b_M_prefix_7 cx ih hl hf
def f_M_prefix_0 (y0 : Int32) (y1 : Int32) : Option (Int32) :=
  (f_M_names y0).bind fun x1 => jv_fx (f_M_prefix_7 y1) 300 (y0, x1)
set_option maxHeartbeats 4000000 in
set_option maxRecDepth 100000 in
theorem b_M_prefix_0 {l : Launch} {p : Program} {e : Env} {s : State} {m : MethodId} {args : Array Value} {below : List Frame} {meth : Method} {c : Code} (cx : jv_cx p s m args meth c cc_M_prefix 4 R_Model (some .int) ws_M_prefix) {r : Int32} {y0 : Int32} {y1 : Int32} {ls : Array Slot} (hl : lv_has ls 4 [(0, .int y0), (1, .int y1)]) (hf : f_M_prefix_0 y0 y1 = some r) : W p l e rm_M_prefix s m args below meth c s.heap [] 0 0 (MQ below (QcRead r) args s 0 0 (fun _ => False)) (F0 m 0 ls []) := by
  unfold f_M_prefix_0 at hf
  obtain ⟨hx, hb, hml, hown, hts, hr, hlocks⟩ := id cx
  refine lv_iload_n hx hb d_M_prefix_0 rfl (lv_at hl 0 rfl) ?_
  refine lv_istore_n (lv' := [(2, .int y0), (0, .int y0), (1, .int y1)]) hx hb d_M_prefix_1 rfl hl (by decide) rfl (fun ls hl => ?_)
  refine lv_iload_n hx hb d_M_prefix_2 rfl (lv_at hl 1 rfl) ?_
  obtain ⟨x1, g2, hf⟩ := jv_ob hf
  refine jv_cs (W.runS (As := [.int y0]) (rest := []) ⟨hx, hb, hml, hown, hts⟩ (c_M_names l y0 x1 g2) (jv_cwS hts wa_197 wa_194 wa_198 wa_199 rfl rfl yd_M_names ⟨Nat.le_of_ble_eq_true rfl, Nat.le_of_ble_eq_true rfl⟩) jv_pre0 rfl rfl hl.1 rfl (lv_room (Nat.le_of_ble_eq_true rfl)) d_M_prefix_3 ⟨Nat.zero_le _, Nat.zero_le _⟩) ?_
  refine lv_istore_n (lv' := [(3, .int x1), (2, .int y0), (0, .int y0), (1, .int y1)]) hx hb d_M_prefix_6 rfl hl (by decide) rfl (fun ls hl => ?_)
  exact l_M_prefix_7 (y0 := y1) cx 300 (y0, x1) _ (lv_sub hl [3, 1, 0] rfl) hf
def f_M_prefix (a0 : Int32) (a1 : Int32) : Option (Int32) := f_M_prefix_0 a0 a1
set_option maxHeartbeats 4000000 in
set_option maxRecDepth 100000 in
theorem c_M_prefix (l : Launch) (a0 : Int32) (a1 : Int32) (r : Int32) (hf : f_M_prefix a0 a1 = some r) : Met l y_M_prefix ws_M_prefix rm_M_prefix (jv_P0 [.int a0, .int a1]) (QcRead r) 0 0 (fun _ => False) := by
  refine Met.ofW (cc := cc_M_prefix) (maxL := 4) (ret := (some .int)) (by decide) rfl ?_
  intro p e s m args below meth c s₁ B hml hv
  obtain ⟨rfl, -⟩ := hv
  have cx : jv_cx p s m _ meth c cc_M_prefix 4 R_Model (some .int) ws_M_prefix := ⟨B.exec, B.bytes, hml, findClass_of_methodNamed B.named, atoms_spec (ws := ws_M_prefix) B.pre, B.returns, B.notSynchronized⟩
  have hl := lv_entry ([.int a0, .int a1]) (n := 4) (Nat.le_of_ble_eq_true rfl)
  rw [lg_entry_eq]
  generalize (lg_sl ([.int a0, .int a1]) ++ List.replicate (4 - (lg_sl ([.int a0, .int a1])).length) Slot.unset).toArray = ls at hl ⊢
  have hl : lv_has ls 4 [(0, .int a0), (1, .int a1)] := hl
  exact b_M_prefix_0 (y0 := a0) (y1 := a1) cx (lv_sub hl [0, 1] rfl) hf
theorem d_M_thrown_0 : decode cc_M_thrown 0 = .ok (.aload_n 0, 1) := by decide +kernel
theorem d_M_thrown_1 : decode cc_M_thrown 1 = .ok (.getfield 32, 3) := by decide +kernel
theorem d_M_thrown_4 : decode cc_M_thrown 4 = .ok (.ireturn, 1) := by decide +kernel
def f_M_thrown_0 (mth : Int32) : Option (Int32) :=
  some mth
set_option maxHeartbeats 4000000 in
set_option maxRecDepth 100000 in
theorem b_M_thrown_0 {l : Launch} {dC : Nat → ClassId} {dI : Nat → Nat → Nat} {cI cA cL : ClassId} {q_mo q_mlb_ q_mcl_ q_mus_ q_mwr_ q_mdk_ q_mcp_ : Nat} {mth : Int32} {mar : Int32} {mfu : Int32} {mLb : Nat → Int32} {mCl : Nat → Int32} {mUs : Nat → Int32} {mWr : Nat → Int32} {mDk : Nat → Int32} {mCp : Nat → Int32} {p : Program} {e : Env} {s : State} {m : MethodId} {args : Array Value} {below : List Frame} {meth : Method} {c : Code} (cx : jv_cx p s m args meth c cc_M_thrown 1 R_Model (some .int) ws_M_thrown) (hK : va_K (dC, dI) vwCl (jv_ty cI cA cL) s) (hP : va_P (dC, dI) vwCl (w_model cI q_mo q_mlb_ q_mcl_ q_mus_ q_mwr_ q_mdk_ q_mcp_ mth mar mfu mLb mCl mUs mWr mDk mCp) s.heap) {r : Int32} {ls : Array Slot} (hl : lv_has ls 1 [(0, .ref q_mo)]) (hf : f_M_thrown_0 mth = some r) : W p l e rm_M_thrown s m args below meth c s.heap [] 0 0 (MQ below (QcRead r) args s 0 0 (fun _ => False)) (F0 m 0 ls []) := by
  unfold f_M_thrown_0 at hf
  obtain ⟨hx, hb, hml, hown, hts, hr, hlocks⟩ := id cx
  refine lv_aload_n hx hb d_M_thrown_0 rfl (lv_at hl 0 rfl) ?_
  refine va_get (D := (dC, dI)) (ci := kModel) (v := .int mth) (C := R_Model) (T := T_Model) (N := 9) hx hb hts (fun w h => List.mem_cons_of_mem _ (in_Model w h)) hown hK hP 0 rfl rfl 0 (by decide) (jv_w hts wa_200) (fun _ h9 => h9) rfl d_M_thrown_1 ?_
  obtain rfl := Option.some.inj hf
  exact W.iret hx hb hr (fun t ht hW => ⟨rfl, ht⟩) (fun q h => by cases h) d_M_thrown_4
def f_M_thrown (mth : Int32) : Option (Int32) := f_M_thrown_0 mth
set_option maxHeartbeats 4000000 in
set_option maxRecDepth 100000 in
theorem c_M_thrown (l : Launch) (dC : Nat → ClassId) (dI : Nat → Nat → Nat) (cI cA cL : ClassId) (q_mo q_mlb_ q_mcl_ q_mus_ q_mwr_ q_mdk_ q_mcp_ : Nat) (mth : Int32) (mar : Int32) (mfu : Int32) (mLb : Nat → Int32) (mCl : Nat → Int32) (mUs : Nat → Int32) (mWr : Nat → Int32) (mDk : Nat → Int32) (mCp : Nat → Int32) (r : Int32) (hf : f_M_thrown mth = some r) : Met l y_M_thrown ws_M_thrown rm_M_thrown (jv_Pr [.ref q_mo] (dC, dI) (jv_ty cI cA cL) (w_model cI q_mo q_mlb_ q_mcl_ q_mus_ q_mwr_ q_mdk_ q_mcp_ mth mar mfu mLb mCl mUs mWr mDk mCp)) (QcRead r) 0 0 (fun _ => False) := by
  refine Met.ofW (cc := cc_M_thrown) (maxL := 1) (ret := (some .int)) (by decide) rfl ?_
  intro p e s m args below meth c s₁ B hml hv
  obtain ⟨rfl, hP, hK⟩ := hv
  have cx : jv_cx p s m _ meth c cc_M_thrown 1 R_Model (some .int) ws_M_thrown := ⟨B.exec, B.bytes, hml, findClass_of_methodNamed B.named, atoms_spec (ws := ws_M_thrown) B.pre, B.returns, B.notSynchronized⟩
  have hl := lv_entry ([.ref q_mo]) (n := 1) (Nat.le_of_ble_eq_true rfl)
  rw [lg_entry_eq]
  generalize (lg_sl ([.ref q_mo]) ++ List.replicate (1 - (lg_sl ([.ref q_mo])).length) Slot.unset).toArray = ls at hl ⊢
  have hl : lv_has ls 1 [(0, .ref q_mo)] := hl
  exact b_M_thrown_0 cx hK hP (lv_sub hl [0] rfl) hf
theorem d_M_isArea_0 : decode cc_M_isArea 0 = .ok (.iload_n 1, 1) := by decide +kernel
theorem d_M_isArea_1 : decode cc_M_isArea 1 = .ok (.ifCond .lt 15, 3) := by decide +kernel
theorem d_M_isArea_16 : decode cc_M_isArea 16 = .ok (.iconst 0, 1) := by decide +kernel
theorem d_M_isArea_17 : decode cc_M_isArea 17 = .ok (.ireturn, 1) := by decide +kernel
theorem d_M_isArea_4 : decode cc_M_isArea 4 = .ok (.iload_n 1, 1) := by decide +kernel
theorem d_M_isArea_5 : decode cc_M_isArea 5 = .ok (.aload_n 0, 1) := by decide +kernel
theorem d_M_isArea_6 : decode cc_M_isArea 6 = .ok (.getfield 47, 3) := by decide +kernel
theorem d_M_isArea_9 : decode cc_M_isArea 9 = .ok (.if_icmp .ge 7, 3) := by decide +kernel
theorem d_M_isArea_12 : decode cc_M_isArea 12 = .ok (.iconst 1, 1) := by decide +kernel
theorem d_M_isArea_13 : decode cc_M_isArea 13 = .ok (.goto 4, 3) := by decide +kernel
def f_M_isArea_0 (mar : Int32) (y0 : Int32) : Option (Int32) :=
  if y0 < 0 then (some (0 : Int32)) else (if mar ≤ y0 then (some (0 : Int32)) else (some (1 : Int32)))
set_option maxHeartbeats 4000000 in
set_option maxRecDepth 100000 in
theorem b_M_isArea_0 {l : Launch} {dC : Nat → ClassId} {dI : Nat → Nat → Nat} {cI cA cL : ClassId} {q_mo q_mlb_ q_mcl_ q_mus_ q_mwr_ q_mdk_ q_mcp_ : Nat} {mth : Int32} {mar : Int32} {mfu : Int32} {mLb : Nat → Int32} {mCl : Nat → Int32} {mUs : Nat → Int32} {mWr : Nat → Int32} {mDk : Nat → Int32} {mCp : Nat → Int32} {p : Program} {e : Env} {s : State} {m : MethodId} {args : Array Value} {below : List Frame} {meth : Method} {c : Code} (cx : jv_cx p s m args meth c cc_M_isArea 2 R_Model (some .boolean) ws_M_isArea) (hK : va_K (dC, dI) vwCl (jv_ty cI cA cL) s) (hP : va_P (dC, dI) vwCl (w_model cI q_mo q_mlb_ q_mcl_ q_mus_ q_mwr_ q_mdk_ q_mcp_ mth mar mfu mLb mCl mUs mWr mDk mCp) s.heap) {r : Int32} {y0 : Int32} {ls : Array Slot} (hl : lv_has ls 2 [(0, .ref q_mo), (1, .int y0)]) (hf : f_M_isArea_0 mar y0 = some r) : W p l e rm_M_isArea s m args below meth c s.heap [] 0 0 (MQ below (QcRead r) args s 0 0 (fun _ => False)) (F0 m 0 ls []) := by
  unfold f_M_isArea_0 at hf
  obtain ⟨hx, hb, hml, hown, hts, hr, hlocks⟩ := id cx
  refine lv_iload_n hx hb d_M_isArea_0 rfl (lv_at hl 1 rfl) ?_
  refine lv_if_lt (tgt := 16) hx hb d_M_isArea_1 (by decide) (fun hc => ?_) (fun hc => ?_)
  · have hf := jv_it hf hc
    refine lv_iconst (v := (0 : Int32)) hx hb d_M_isArea_16 (by decide) ?_
    obtain rfl := Option.some.inj hf
    exact W.zret hx hb hr rfl (fun t ht hW => ⟨rfl, ht⟩) (fun q h => by cases h) d_M_isArea_17
  · have hf := jv_if hf hc
    refine lv_iload_n hx hb d_M_isArea_4 rfl (lv_at hl 1 rfl) ?_
    refine lv_aload_n hx hb d_M_isArea_5 rfl (lv_at hl 0 rfl) ?_
    refine va_get (D := (dC, dI)) (ci := kModel) (v := .int mar) (C := R_Model) (T := T_Model) (N := 9) hx hb hts (fun w h => List.mem_cons_of_mem _ (in_Model w h)) hown hK hP 0 rfl rfl 1 (by decide) (jv_w hts wa_201) (fun _ h9 => h9) rfl d_M_isArea_6 ?_
    refine lv_icmp_ge (tgt := 16) hx hb d_M_isArea_9 (by decide) (fun hc => ?_) (fun hc => ?_)
    · have hf := jv_it hf hc
      refine lv_iconst (v := (0 : Int32)) hx hb d_M_isArea_16 (by decide) ?_
      obtain rfl := Option.some.inj hf
      exact W.zret hx hb hr rfl (fun t ht hW => ⟨rfl, ht⟩) (fun q h => by cases h) d_M_isArea_17
    · have hf := jv_if hf hc
      refine lv_iconst (v := (1 : Int32)) hx hb d_M_isArea_12 (by decide) ?_
      refine lv_goto (tgt := 17) hx hb d_M_isArea_13 (by decide) ?_
      obtain rfl := Option.some.inj hf
      exact W.zret hx hb hr rfl (fun t ht hW => ⟨rfl, ht⟩) (fun q h => by cases h) d_M_isArea_17
def f_M_isArea (mar : Int32) (a0 : Int32) : Option (Int32) := f_M_isArea_0 mar a0
set_option maxHeartbeats 4000000 in
set_option maxRecDepth 100000 in
theorem c_M_isArea (l : Launch) (dC : Nat → ClassId) (dI : Nat → Nat → Nat) (cI cA cL : ClassId) (q_mo q_mlb_ q_mcl_ q_mus_ q_mwr_ q_mdk_ q_mcp_ : Nat) (mth : Int32) (mar : Int32) (mfu : Int32) (mLb : Nat → Int32) (mCl : Nat → Int32) (mUs : Nat → Int32) (mWr : Nat → Int32) (mDk : Nat → Int32) (mCp : Nat → Int32) (a0 : Int32) (r : Int32) (hf : f_M_isArea mar a0 = some r) : Met l y_M_isArea ws_M_isArea rm_M_isArea (jv_Pr [.ref q_mo, .int a0] (dC, dI) (jv_ty cI cA cL) (w_model cI q_mo q_mlb_ q_mcl_ q_mus_ q_mwr_ q_mdk_ q_mcp_ mth mar mfu mLb mCl mUs mWr mDk mCp)) (QcRead r) 0 0 (fun _ => False) := by
  refine Met.ofW (cc := cc_M_isArea) (maxL := 2) (ret := (some .boolean)) (by decide) rfl ?_
  intro p e s m args below meth c s₁ B hml hv
  obtain ⟨rfl, hP, hK⟩ := hv
  have cx : jv_cx p s m _ meth c cc_M_isArea 2 R_Model (some .boolean) ws_M_isArea := ⟨B.exec, B.bytes, hml, findClass_of_methodNamed B.named, atoms_spec (ws := ws_M_isArea) B.pre, B.returns, B.notSynchronized⟩
  have hl := lv_entry ([.ref q_mo, .int a0]) (n := 2) (Nat.le_of_ble_eq_true rfl)
  rw [lg_entry_eq]
  generalize (lg_sl ([.ref q_mo, .int a0]) ++ List.replicate (2 - (lg_sl ([.ref q_mo, .int a0])).length) Slot.unset).toArray = ls at hl ⊢
  have hl : lv_has ls 2 [(0, .ref q_mo), (1, .int a0)] := hl
  exact b_M_isArea_0 (y0 := a0) cx hK hP (lv_sub hl [0, 1] rfl) hf
theorem d_M_isSession_0 : decode cc_M_isSession 0 = .ok (.iload_n 1, 1) := by decide +kernel
theorem d_M_isSession_1 : decode cc_M_isSession 1 = .ok (.ifCond .lt 22, 3) := by decide +kernel
theorem d_M_isSession_23 : decode cc_M_isSession 23 = .ok (.iconst 0, 1) := by decide +kernel
theorem d_M_isSession_24 : decode cc_M_isSession 24 = .ok (.ireturn, 1) := by decide +kernel
theorem d_M_isSession_4 : decode cc_M_isSession 4 = .ok (.iload_n 1, 1) := by decide +kernel
theorem d_M_isSession_5 : decode cc_M_isSession 5 = .ok (.bipush 24, 2) := by decide +kernel
theorem d_M_isSession_7 : decode cc_M_isSession 7 = .ok (.if_icmp .ge 16, 3) := by decide +kernel
theorem d_M_isSession_10 : decode cc_M_isSession 10 = .ok (.aload_n 0, 1) := by decide +kernel
theorem d_M_isSession_11 : decode cc_M_isSession 11 = .ok (.getfield 16, 3) := by decide +kernel
theorem d_M_isSession_14 : decode cc_M_isSession 14 = .ok (.iload_n 1, 1) := by decide +kernel
theorem d_M_isSession_15 : decode cc_M_isSession 15 = .ok (.iaload, 1) := by decide +kernel
theorem d_M_isSession_16 : decode cc_M_isSession 16 = .ok (.ifCond .le 7, 3) := by decide +kernel
theorem d_M_isSession_19 : decode cc_M_isSession 19 = .ok (.iconst 1, 1) := by decide +kernel
theorem d_M_isSession_20 : decode cc_M_isSession 20 = .ok (.goto 4, 3) := by decide +kernel
def f_M_isSession_0 (mUs : Nat → Int32) (y0 : Int32) : Option (Int32) :=
  if y0 < 0 then (some (0 : Int32)) else (if (24 : Int32) ≤ y0 then (some (0 : Int32)) else ((jv_ga mUs 24 y0).bind fun x1 => if x1 ≤ 0 then (some (0 : Int32)) else (some (1 : Int32))))
set_option maxHeartbeats 4000000 in
set_option maxRecDepth 100000 in
theorem b_M_isSession_0 {l : Launch} {dC : Nat → ClassId} {dI : Nat → Nat → Nat} {cI cA cL : ClassId} {q_mo q_mlb_ q_mcl_ q_mus_ q_mwr_ q_mdk_ q_mcp_ : Nat} {mth : Int32} {mar : Int32} {mfu : Int32} {mLb : Nat → Int32} {mCl : Nat → Int32} {mUs : Nat → Int32} {mWr : Nat → Int32} {mDk : Nat → Int32} {mCp : Nat → Int32} {p : Program} {e : Env} {s : State} {m : MethodId} {args : Array Value} {below : List Frame} {meth : Method} {c : Code} (cx : jv_cx p s m args meth c cc_M_isSession 2 R_Model (some .boolean) ws_M_isSession) (hK : va_K (dC, dI) vwCl (jv_ty cI cA cL) s) (hP : va_P (dC, dI) vwCl (w_model cI q_mo q_mlb_ q_mcl_ q_mus_ q_mwr_ q_mdk_ q_mcp_ mth mar mfu mLb mCl mUs mWr mDk mCp) s.heap) {r : Int32} {y0 : Int32} {ls : Array Slot} (hl : lv_has ls 2 [(0, .ref q_mo), (1, .int y0)]) (hf : f_M_isSession_0 mUs y0 = some r) : W p l e rm_M_isSession s m args below meth c s.heap [] 0 0 (MQ below (QcRead r) args s 0 0 (fun _ => False)) (F0 m 0 ls []) := by
  unfold f_M_isSession_0 at hf
  obtain ⟨hx, hb, hml, hown, hts, hr, hlocks⟩ := id cx
  refine lv_iload_n hx hb d_M_isSession_0 rfl (lv_at hl 1 rfl) ?_
  refine lv_if_lt (tgt := 23) hx hb d_M_isSession_1 (by decide) (fun hc => ?_) (fun hc => ?_)
  · have hf := jv_it hf hc
    refine lv_iconst (v := (0 : Int32)) hx hb d_M_isSession_23 (by decide) ?_
    obtain rfl := Option.some.inj hf
    exact W.zret hx hb hr rfl (fun t ht hW => ⟨rfl, ht⟩) (fun q h => by cases h) d_M_isSession_24
  · have hf := jv_if hf hc
    refine lv_iload_n hx hb d_M_isSession_4 rfl (lv_at hl 1 rfl) ?_
    refine lv_bipush (v := (24 : Int32)) hx hb d_M_isSession_5 (by decide) ?_
    refine lv_icmp_ge (tgt := 23) hx hb d_M_isSession_7 (by decide) (fun hc => ?_) (fun hc => ?_)
    · have hf := jv_it hf hc
      refine lv_iconst (v := (0 : Int32)) hx hb d_M_isSession_23 (by decide) ?_
      obtain rfl := Option.some.inj hf
      exact W.zret hx hb hr rfl (fun t ht hW => ⟨rfl, ht⟩) (fun q h => by cases h) d_M_isSession_24
    · have hf := jv_if hf hc
      refine lv_aload_n hx hb d_M_isSession_10 rfl (lv_at hl 0 rfl) ?_
      refine va_get (D := (dC, dI)) (ci := kModel) (v := .ref q_mus_) (C := R_Model) (T := T_Model) (N := 9) hx hb hts (fun w h => List.mem_cons_of_mem _ (in_Model w h)) hown hK hP 0 rfl rfl 4 (by decide) (jv_w hts wa_202) (fun _ h9 => h9) rfl d_M_isSession_11 ?_
      refine lv_iload_n hx hb d_M_isSession_14 rfl (lv_at hl 1 rfl) ?_
      obtain ⟨x1, g2, hf⟩ := jv_ob hf
      refine jv_iald hx hb hK hP 3 0 rfl rfl g2 d_M_isSession_15 ?_
      refine lv_if_le (tgt := 23) hx hb d_M_isSession_16 (by decide) (fun hc => ?_) (fun hc => ?_)
      · have hf := jv_it hf hc
        refine lv_iconst (v := (0 : Int32)) hx hb d_M_isSession_23 (by decide) ?_
        obtain rfl := Option.some.inj hf
        exact W.zret hx hb hr rfl (fun t ht hW => ⟨rfl, ht⟩) (fun q h => by cases h) d_M_isSession_24
      · have hf := jv_if hf hc
        refine lv_iconst (v := (1 : Int32)) hx hb d_M_isSession_19 (by decide) ?_
        refine lv_goto (tgt := 24) hx hb d_M_isSession_20 (by decide) ?_
        obtain rfl := Option.some.inj hf
        exact W.zret hx hb hr rfl (fun t ht hW => ⟨rfl, ht⟩) (fun q h => by cases h) d_M_isSession_24
def f_M_isSession (mUs : Nat → Int32) (a0 : Int32) : Option (Int32) := f_M_isSession_0 mUs a0
set_option maxHeartbeats 4000000 in
set_option maxRecDepth 100000 in
theorem c_M_isSession (l : Launch) (dC : Nat → ClassId) (dI : Nat → Nat → Nat) (cI cA cL : ClassId) (q_mo q_mlb_ q_mcl_ q_mus_ q_mwr_ q_mdk_ q_mcp_ : Nat) (mth : Int32) (mar : Int32) (mfu : Int32) (mLb : Nat → Int32) (mCl : Nat → Int32) (mUs : Nat → Int32) (mWr : Nat → Int32) (mDk : Nat → Int32) (mCp : Nat → Int32) (a0 : Int32) (r : Int32) (hf : f_M_isSession mUs a0 = some r) : Met l y_M_isSession ws_M_isSession rm_M_isSession (jv_Pr [.ref q_mo, .int a0] (dC, dI) (jv_ty cI cA cL) (w_model cI q_mo q_mlb_ q_mcl_ q_mus_ q_mwr_ q_mdk_ q_mcp_ mth mar mfu mLb mCl mUs mWr mDk mCp)) (QcRead r) 0 0 (fun _ => False) := by
  refine Met.ofW (cc := cc_M_isSession) (maxL := 2) (ret := (some .boolean)) (by decide) rfl ?_
  intro p e s m args below meth c s₁ B hml hv
  obtain ⟨rfl, hP, hK⟩ := hv
  have cx : jv_cx p s m _ meth c cc_M_isSession 2 R_Model (some .boolean) ws_M_isSession := ⟨B.exec, B.bytes, hml, findClass_of_methodNamed B.named, atoms_spec (ws := ws_M_isSession) B.pre, B.returns, B.notSynchronized⟩
  have hl := lv_entry ([.ref q_mo, .int a0]) (n := 2) (Nat.le_of_ble_eq_true rfl)
  rw [lg_entry_eq]
  generalize (lg_sl ([.ref q_mo, .int a0]) ++ List.replicate (2 - (lg_sl ([.ref q_mo, .int a0])).length) Slot.unset).toArray = ls at hl ⊢
  have hl : lv_has ls 2 [(0, .ref q_mo), (1, .int a0)] := hl
  exact b_M_isSession_0 (y0 := a0) cx hK hP (lv_sub hl [0, 1] rfl) hf
theorem d_M_inode_0 : decode cc_M_inode 0 = .ok (.aload_n 0, 1) := by decide +kernel
theorem d_M_inode_1 : decode cc_M_inode 1 = .ok (.getfield 22, 3) := by decide +kernel
theorem d_M_inode_4 : decode cc_M_inode 4 = .ok (.sipush 232, 3) := by decide +kernel
theorem d_M_inode_7 : decode cc_M_inode 7 = .ok (.iload_n 1, 1) := by decide +kernel
theorem d_M_inode_8 : decode cc_M_inode 8 = .ok (.imul, 1) := by decide +kernel
theorem d_M_inode_9 : decode cc_M_inode 9 = .ok (.bipush 8, 2) := by decide +kernel
theorem d_M_inode_11 : decode cc_M_inode 11 = .ok (.iadd, 1) := by decide +kernel
theorem d_M_inode_12 : decode cc_M_inode 12 = .ok (.bipush 8, 2) := by decide +kernel
theorem d_M_inode_14 : decode cc_M_inode 14 = .ok (.iload_n 2, 1) := by decide +kernel
theorem d_M_inode_15 : decode cc_M_inode 15 = .ok (.imul, 1) := by decide +kernel
theorem d_M_inode_16 : decode cc_M_inode 16 = .ok (.iadd, 1) := by decide +kernel
theorem d_M_inode_17 : decode cc_M_inode 17 = .ok (.iload_n 3, 1) := by decide +kernel
theorem d_M_inode_18 : decode cc_M_inode 18 = .ok (.iadd, 1) := by decide +kernel
theorem d_M_inode_19 : decode cc_M_inode 19 = .ok (.iaload, 1) := by decide +kernel
theorem d_M_inode_20 : decode cc_M_inode 20 = .ok (.ireturn, 1) := by decide +kernel
def f_M_inode_0 (mDk : Nat → Int32) (y0 : Int32) (y1 : Int32) (y2 : Int32) : Option (Int32) :=
  (jv_ga mDk 1392 (((((232 : Int32) * y0) + (8 : Int32)) + ((8 : Int32) * y1)) + y2)).bind fun x1 => some x1
set_option maxHeartbeats 4000000 in
set_option maxRecDepth 100000 in
theorem b_M_inode_0 {l : Launch} {dC : Nat → ClassId} {dI : Nat → Nat → Nat} {cI cA cL : ClassId} {q_mo q_mlb_ q_mcl_ q_mus_ q_mwr_ q_mdk_ q_mcp_ : Nat} {mth : Int32} {mar : Int32} {mfu : Int32} {mLb : Nat → Int32} {mCl : Nat → Int32} {mUs : Nat → Int32} {mWr : Nat → Int32} {mDk : Nat → Int32} {mCp : Nat → Int32} {p : Program} {e : Env} {s : State} {m : MethodId} {args : Array Value} {below : List Frame} {meth : Method} {c : Code} (cx : jv_cx p s m args meth c cc_M_inode 4 R_Model (some .int) ws_M_inode) (hK : va_K (dC, dI) vwCl (jv_ty cI cA cL) s) (hP : va_P (dC, dI) vwCl (w_model cI q_mo q_mlb_ q_mcl_ q_mus_ q_mwr_ q_mdk_ q_mcp_ mth mar mfu mLb mCl mUs mWr mDk mCp) s.heap) {r : Int32} {y0 : Int32} {y1 : Int32} {y2 : Int32} {ls : Array Slot} (hl : lv_has ls 4 [(0, .ref q_mo), (1, .int y0), (2, .int y1), (3, .int y2)]) (hf : f_M_inode_0 mDk y0 y1 y2 = some r) : W p l e rm_M_inode s m args below meth c s.heap [] 0 0 (MQ below (QcRead r) args s 0 0 (fun _ => False)) (F0 m 0 ls []) := by
  unfold f_M_inode_0 at hf
  obtain ⟨hx, hb, hml, hown, hts, hr, hlocks⟩ := id cx
  refine lv_aload_n hx hb d_M_inode_0 rfl (lv_at hl 0 rfl) ?_
  refine va_get (D := (dC, dI)) (ci := kModel) (v := .ref q_mdk_) (C := R_Model) (T := T_Model) (N := 9) hx hb hts (fun w h => List.mem_cons_of_mem _ (in_Model w h)) hown hK hP 0 rfl rfl 6 (by decide) (jv_w hts wa_203) (fun _ h9 => h9) rfl d_M_inode_1 ?_
  refine lv_sipush (v := (232 : Int32)) hx hb d_M_inode_4 (by decide) ?_
  refine lv_iload_n hx hb d_M_inode_7 rfl (lv_at hl 1 rfl) ?_
  refine lv_imul hx hb d_M_inode_8 ?_
  refine lv_bipush (v := (8 : Int32)) hx hb d_M_inode_9 (by decide) ?_
  refine lv_iadd hx hb d_M_inode_11 ?_
  refine lv_bipush (v := (8 : Int32)) hx hb d_M_inode_12 (by decide) ?_
  refine lv_iload_n hx hb d_M_inode_14 rfl (lv_at hl 2 rfl) ?_
  refine lv_imul hx hb d_M_inode_15 ?_
  refine lv_iadd hx hb d_M_inode_16 ?_
  refine lv_iload_n hx hb d_M_inode_17 rfl (lv_at hl 3 rfl) ?_
  refine lv_iadd hx hb d_M_inode_18 ?_
  obtain ⟨x1, g2, hf⟩ := jv_ob hf
  refine jv_iald hx hb hK hP 5 0 rfl rfl g2 d_M_inode_19 ?_
  obtain rfl := Option.some.inj hf
  exact W.iret hx hb hr (fun t ht hW => ⟨rfl, ht⟩) (fun q h => by cases h) d_M_inode_20
def f_M_inode (mDk : Nat → Int32) (a0 : Int32) (a1 : Int32) (a2 : Int32) : Option (Int32) := f_M_inode_0 mDk a0 a1 a2
set_option maxHeartbeats 4000000 in
set_option maxRecDepth 100000 in
theorem c_M_inode (l : Launch) (dC : Nat → ClassId) (dI : Nat → Nat → Nat) (cI cA cL : ClassId) (q_mo q_mlb_ q_mcl_ q_mus_ q_mwr_ q_mdk_ q_mcp_ : Nat) (mth : Int32) (mar : Int32) (mfu : Int32) (mLb : Nat → Int32) (mCl : Nat → Int32) (mUs : Nat → Int32) (mWr : Nat → Int32) (mDk : Nat → Int32) (mCp : Nat → Int32) (a0 : Int32) (a1 : Int32) (a2 : Int32) (r : Int32) (hf : f_M_inode mDk a0 a1 a2 = some r) : Met l y_M_inode ws_M_inode rm_M_inode (jv_Pr [.ref q_mo, .int a0, .int a1, .int a2] (dC, dI) (jv_ty cI cA cL) (w_model cI q_mo q_mlb_ q_mcl_ q_mus_ q_mwr_ q_mdk_ q_mcp_ mth mar mfu mLb mCl mUs mWr mDk mCp)) (QcRead r) 0 0 (fun _ => False) := by
  refine Met.ofW (cc := cc_M_inode) (maxL := 4) (ret := (some .int)) (by decide) rfl ?_
  intro p e s m args below meth c s₁ B hml hv
  obtain ⟨rfl, hP, hK⟩ := hv
  have cx : jv_cx p s m _ meth c cc_M_inode 4 R_Model (some .int) ws_M_inode := ⟨B.exec, B.bytes, hml, findClass_of_methodNamed B.named, atoms_spec (ws := ws_M_inode) B.pre, B.returns, B.notSynchronized⟩
  have hl := lv_entry ([.ref q_mo, .int a0, .int a1, .int a2]) (n := 4) (Nat.le_of_ble_eq_true rfl)
  rw [lg_entry_eq]
  generalize (lg_sl ([.ref q_mo, .int a0, .int a1, .int a2]) ++ List.replicate (4 - (lg_sl ([.ref q_mo, .int a0, .int a1, .int a2])).length) Slot.unset).toArray = ls at hl ⊢
  have hl : lv_has ls 4 [(0, .ref q_mo), (1, .int a0), (2, .int a1), (3, .int a2)] := hl
  exact b_M_inode_0 (y0 := a0) (y1 := a1) (y2 := a2) cx hK hP (lv_sub hl [0, 1, 2, 3] rfl) hf
theorem d_M_find_0 : decode cc_M_find 0 = .ok (.iconst 0, 1) := by decide +kernel
theorem d_M_find_1 : decode cc_M_find 1 = .ok (.istore_n 3, 1) := by decide +kernel
theorem d_M_find_2 : decode cc_M_find 2 = .ok (.iload_n 2, 1) := by decide +kernel
theorem d_M_find_3 : decode cc_M_find 3 = .ok (.invokestatic 56, 3) := by decide +kernel
theorem d_M_find_6 : decode cc_M_find 6 = .ok (.istore 4, 2) := by decide +kernel
theorem d_M_find_8 : decode cc_M_find 8 = .ok (.iconst 1, 1) := by decide +kernel
theorem d_M_find_9 : decode cc_M_find 9 = .ok (.istore 5, 2) := by decide +kernel
theorem d_M_find_11 : decode cc_M_find 11 = .ok (.iload 5, 2) := by decide +kernel
theorem d_M_find_13 : decode cc_M_find 13 = .ok (.iload 4, 2) := by decide +kernel
theorem d_M_find_15 : decode cc_M_find 15 = .ok (.if_icmp .gt 91, 3) := by decide +kernel
theorem d_M_find_106 : decode cc_M_find 106 = .ok (.iload_n 3, 1) := by decide +kernel
theorem d_M_find_107 : decode cc_M_find 107 = .ok (.ireturn, 1) := by decide +kernel
theorem d_M_find_18 : decode cc_M_find 18 = .ok (.iload_n 3, 1) := by decide +kernel
theorem d_M_find_19 : decode cc_M_find 19 = .ok (.ifCond .lt 87, 3) := by decide +kernel
theorem d_M_find_22 : decode cc_M_find 22 = .ok (.iload_n 2, 1) := by decide +kernel
theorem d_M_find_23 : decode cc_M_find 23 = .ok (.iload 5, 2) := by decide +kernel
theorem d_M_find_25 : decode cc_M_find 25 = .ok (.invokestatic 60, 3) := by decide +kernel
theorem d_M_find_28 : decode cc_M_find 28 = .ok (.bipush 32, 2) := by decide +kernel
theorem d_M_find_30 : decode cc_M_find 30 = .ok (.irem, 1) := by decide +kernel
theorem d_M_find_31 : decode cc_M_find 31 = .ok (.istore 6, 2) := by decide +kernel
theorem d_M_find_33 : decode cc_M_find 33 = .ok (.iconst (-1), 1) := by decide +kernel
theorem d_M_find_34 : decode cc_M_find 34 = .ok (.istore 7, 2) := by decide +kernel
theorem d_M_find_36 : decode cc_M_find 36 = .ok (.iconst 1, 1) := by decide +kernel
theorem d_M_find_37 : decode cc_M_find 37 = .ok (.istore 8, 2) := by decide +kernel
theorem d_M_find_39 : decode cc_M_find 39 = .ok (.iload 8, 2) := by decide +kernel
theorem d_M_find_41 : decode cc_M_find 41 = .ok (.bipush 8, 2) := by decide +kernel
theorem d_M_find_43 : decode cc_M_find 43 = .ok (.if_icmp .ge 54, 3) := by decide +kernel
theorem d_M_find_97 : decode cc_M_find 97 = .ok (.iload 7, 2) := by decide +kernel
theorem d_M_find_99 : decode cc_M_find 99 = .ok (.istore_n 3, 1) := by decide +kernel
theorem d_M_find_100 : decode cc_M_find 100 = .ok (.iinc 5 1, 3) := by decide +kernel
theorem d_M_find_103 : decode cc_M_find 103 = .ok (.goto (-92), 3) := by decide +kernel
theorem d_M_find_46 : decode cc_M_find 46 = .ok (.aload_n 0, 1) := by decide +kernel
theorem d_M_find_47 : decode cc_M_find 47 = .ok (.iload_n 1, 1) := by decide +kernel
theorem d_M_find_48 : decode cc_M_find 48 = .ok (.iload 8, 2) := by decide +kernel
theorem d_M_find_50 : decode cc_M_find 50 = .ok (.iconst 0, 1) := by decide +kernel
theorem d_M_find_51 : decode cc_M_find 51 = .ok (.invokevirtual 64, 3) := by decide +kernel
theorem d_M_find_54 : decode cc_M_find 54 = .ok (.ifCond .le 33, 3) := by decide +kernel
theorem d_M_find_87 : decode cc_M_find 87 = .ok (.iload 7, 2) := by decide +kernel
theorem d_M_find_89 : decode cc_M_find 89 = .ok (.istore 7, 2) := by decide +kernel
theorem d_M_find_91 : decode cc_M_find 91 = .ok (.iinc 8 1, 3) := by decide +kernel
theorem d_M_find_94 : decode cc_M_find 94 = .ok (.goto (-55), 3) := by decide +kernel
theorem d_M_find_57 : decode cc_M_find 57 = .ok (.aload_n 0, 1) := by decide +kernel
theorem d_M_find_58 : decode cc_M_find 58 = .ok (.iload_n 1, 1) := by decide +kernel
theorem d_M_find_59 : decode cc_M_find 59 = .ok (.iload 8, 2) := by decide +kernel
theorem d_M_find_61 : decode cc_M_find 61 = .ok (.iconst 1, 1) := by decide +kernel
theorem d_M_find_62 : decode cc_M_find 62 = .ok (.invokevirtual 64, 3) := by decide +kernel
theorem d_M_find_65 : decode cc_M_find 65 = .ok (.iload_n 3, 1) := by decide +kernel
theorem d_M_find_66 : decode cc_M_find 66 = .ok (.if_icmp .ne 21, 3) := by decide +kernel
theorem d_M_find_69 : decode cc_M_find 69 = .ok (.aload_n 0, 1) := by decide +kernel
theorem d_M_find_70 : decode cc_M_find 70 = .ok (.iload_n 1, 1) := by decide +kernel
theorem d_M_find_71 : decode cc_M_find 71 = .ok (.iload 8, 2) := by decide +kernel
theorem d_M_find_73 : decode cc_M_find 73 = .ok (.iconst 2, 1) := by decide +kernel
theorem d_M_find_74 : decode cc_M_find 74 = .ok (.invokevirtual 64, 3) := by decide +kernel
theorem d_M_find_77 : decode cc_M_find 77 = .ok (.iload 6, 2) := by decide +kernel
theorem d_M_find_79 : decode cc_M_find 79 = .ok (.if_icmp .ne 8, 3) := by decide +kernel
theorem d_M_find_82 : decode cc_M_find 82 = .ok (.iload 8, 2) := by decide +kernel
theorem d_M_find_84 : decode cc_M_find 84 = .ok (.goto 5, 3) := by decide +kernel
def f_M_find_39 (mDk : Nat → Int32) (k11 : (Int32 × Int32) → Option (Int32)) (y0 : Int32) (y1 : Int32) (y2 : Int32) (y3 : Int32) (y4 : Int32) (y5 : Int32) (k39 : (Int32 × Int32) → Option (Int32)) (a : Int32 × Int32) : Option (Int32) :=
  if (8 : Int32) ≤ a.2 then (k11 (a.1, y4 + (1 : Int32))) else ((f_M_inode mDk y0 a.2 (0 : Int32)).bind fun x5 => if x5 ≤ 0 then (k39 (a.1, a.2 + (1 : Int32))) else ((f_M_inode mDk y0 a.2 (1 : Int32)).bind fun x7 => if x7 = y2 then ((f_M_inode mDk y0 a.2 (2 : Int32)).bind fun x9 => if x9 = y5 then (k39 (a.2, a.2 + (1 : Int32))) else (k39 (a.1, a.2 + (1 : Int32)))) else (k39 (a.1, a.2 + (1 : Int32)))))
set_option maxHeartbeats 4000000 in
set_option maxRecDepth 100000 in
theorem b_M_find_39 {l : Launch} {dC : Nat → ClassId} {dI : Nat → Nat → Nat} {cI cA cL : ClassId} {q_mo q_mlb_ q_mcl_ q_mus_ q_mwr_ q_mdk_ q_mcp_ : Nat} {mth : Int32} {mar : Int32} {mfu : Int32} {mLb : Nat → Int32} {mCl : Nat → Int32} {mUs : Nat → Int32} {mWr : Nat → Int32} {mDk : Nat → Int32} {mCp : Nat → Int32} {p : Program} {e : Env} {s : State} {m : MethodId} {args : Array Value} {below : List Frame} {meth : Method} {c : Code} (cx : jv_cx p s m args meth c cc_M_find 9 R_Model (some .int) ws_M_find) (hK : va_K (dC, dI) vwCl (jv_ty cI cA cL) s) (hP : va_P (dC, dI) vwCl (w_model cI q_mo q_mlb_ q_mcl_ q_mus_ q_mwr_ q_mdk_ q_mcp_ mth mar mfu mLb mCl mUs mWr mDk mCp) s.heap) {r : Int32} {k11 : (Int32 × Int32) → Option (Int32)} {y0 : Int32} {y1 : Int32} {y2 : Int32} {y3 : Int32} {y4 : Int32} {y5 : Int32} (hk11 : ∀ (a : Int32 × Int32) (ls : Array Slot), lv_has ls 9 [(0, .ref q_mo), (1, .int y0), (2, .int y1), (3, .int a.1), (4, .int y3), (5, .int a.2)] → k11 a = some r → W p l e rm_M_find s m args below meth c s.heap [] 0 0 (MQ below (QcRead r) args s 0 0 (fun _ => False)) (F0 m 11 ls [])) {k39 : (Int32 × Int32) → Option (Int32)} (hk39 : ∀ (a : Int32 × Int32) (ls : Array Slot), lv_has ls 9 [(0, .ref q_mo), (1, .int y0), (2, .int y1), (3, .int y2), (4, .int y3), (5, .int y4), (6, .int y5), (7, .int a.1), (8, .int a.2)] → k39 a = some r → W p l e rm_M_find s m args below meth c s.heap [] 0 0 (MQ below (QcRead r) args s 0 0 (fun _ => False)) (F0 m 39 ls [])) {a : Int32 × Int32} {ls : Array Slot} (hl : lv_has ls 9 [(0, .ref q_mo), (1, .int y0), (2, .int y1), (3, .int y2), (4, .int y3), (5, .int y4), (6, .int y5), (7, .int a.1), (8, .int a.2)]) (hf : f_M_find_39 mDk k11 y0 y1 y2 y3 y4 y5 k39 a = some r) : W p l e rm_M_find s m args below meth c s.heap [] 0 0 (MQ below (QcRead r) args s 0 0 (fun _ => False)) (F0 m 39 ls []) := by
  unfold f_M_find_39 at hf
  obtain ⟨hx, hb, hml, hown, hts, hr, hlocks⟩ := id cx
  refine lv_iload hx hb d_M_find_39 (lv_at hl 8 rfl) ?_
  refine lv_bipush (v := (8 : Int32)) hx hb d_M_find_41 (by decide) ?_
  refine lv_icmp_ge (tgt := 97) hx hb d_M_find_43 (by decide) (fun hc => ?_) (fun hc => ?_)
  · have hf := jv_it hf hc
    refine lv_iload hx hb d_M_find_97 (lv_at hl 7 rfl) ?_
    refine lv_istore_n (lv' := [(3, .int a.1), (0, .ref q_mo), (1, .int y0), (2, .int y1), (4, .int y3), (5, .int y4), (6, .int y5), (7, .int a.1), (8, .int a.2)]) hx hb d_M_find_99 rfl hl (by decide) rfl (fun ls hl => ?_)
    refine lv_iinc (k := 5) (v := y4 + (1 : Int32)) (lv' := [(5, .int (y4 + (1 : Int32))), (3, .int a.1), (0, .ref q_mo), (1, .int y0), (2, .int y1), (4, .int y3), (6, .int y5), (7, .int a.1), (8, .int a.2)]) hx hb d_M_find_100 hl rfl (jv_inc _) (by decide) rfl (fun ls hl => ?_)
    refine lv_goto (tgt := 11) hx hb d_M_find_103 (by decide) ?_
    exact hk11 (a.1, y4 + (1 : Int32)) _ (lv_sub hl [2, 3, 4, 1, 5, 0] rfl) hf
  · have hf := jv_if hf hc
    refine lv_aload_n hx hb d_M_find_46 rfl (lv_at hl 0 rfl) ?_
    refine lv_iload_n hx hb d_M_find_47 rfl (lv_at hl 1 rfl) ?_
    refine lv_iload hx hb d_M_find_48 (lv_at hl 8 rfl) ?_
    refine lv_iconst (v := (0 : Int32)) hx hb d_M_find_50 (by decide) ?_
    obtain ⟨x5, g6, hf⟩ := jv_ob hf
    have hPc := hP.sub (ws' := (w_model cI q_mo q_mlb_ q_mcl_ q_mus_ q_mwr_ q_mdk_ q_mcp_ mth mar mfu mLb mCl mUs mWr mDk mCp)) [0, 1, 2, 3, 4, 5, 6] rfl
    refine jv_cs (W.runV (As := [.int y0, .int a.2, .int (0 : Int32)]) (rest := []) (b := q_mo) ⟨hx, hb, hml, hown, hts⟩ (c_M_inode l dC dI cI cA cL q_mo q_mlb_ q_mcl_ q_mus_ q_mwr_ q_mdk_ q_mcp_ mth mar mfu mLb mCl mUs mWr mDk mCp y0 a.2 (0 : Int32) x5 g6) (jv_cwV hts wa_207 wa_194 wa_208 wa_209 wa_210 rfl rfl yd_M_inode ⟨Nat.le_of_ble_eq_true rfl, Nat.le_of_ble_eq_true rfl⟩) (jv_preV hK hPc 0 rfl rfl) rfl rfl hl.1 rfl (lv_room (Nat.le_of_ble_eq_true rfl)) d_M_find_51 ⟨Nat.zero_le _, Nat.zero_le _⟩) ?_
    refine lv_if_le (tgt := 87) hx hb d_M_find_54 (by decide) (fun hc => ?_) (fun hc => ?_)
    · have hf := jv_it hf hc
      refine lv_iload hx hb d_M_find_87 (lv_at hl 7 rfl) ?_
      refine lv_istore (lv' := [(7, .int a.1), (0, .ref q_mo), (1, .int y0), (2, .int y1), (3, .int y2), (4, .int y3), (5, .int y4), (6, .int y5), (8, .int a.2)]) hx hb d_M_find_89 hl (by decide) rfl (fun ls hl => ?_)
      refine lv_iinc (k := 8) (v := a.2 + (1 : Int32)) (lv' := [(8, .int (a.2 + (1 : Int32))), (7, .int a.1), (0, .ref q_mo), (1, .int y0), (2, .int y1), (3, .int y2), (4, .int y3), (5, .int y4), (6, .int y5)]) hx hb d_M_find_91 hl rfl (jv_inc _) (by decide) rfl (fun ls hl => ?_)
      refine lv_goto (tgt := 39) hx hb d_M_find_94 (by decide) ?_
      exact hk39 (a.1, a.2 + (1 : Int32)) _ (lv_sub hl [2, 3, 4, 5, 6, 7, 8, 1, 0] rfl) hf
    · have hf := jv_if hf hc
      refine lv_aload_n hx hb d_M_find_57 rfl (lv_at hl 0 rfl) ?_
      refine lv_iload_n hx hb d_M_find_58 rfl (lv_at hl 1 rfl) ?_
      refine lv_iload hx hb d_M_find_59 (lv_at hl 8 rfl) ?_
      refine lv_iconst (v := (1 : Int32)) hx hb d_M_find_61 (by decide) ?_
      obtain ⟨x7, g8, hf⟩ := jv_ob hf
      have hPc := hP.sub (ws' := (w_model cI q_mo q_mlb_ q_mcl_ q_mus_ q_mwr_ q_mdk_ q_mcp_ mth mar mfu mLb mCl mUs mWr mDk mCp)) [0, 1, 2, 3, 4, 5, 6] rfl
      refine jv_cs (W.runV (As := [.int y0, .int a.2, .int (1 : Int32)]) (rest := []) (b := q_mo) ⟨hx, hb, hml, hown, hts⟩ (c_M_inode l dC dI cI cA cL q_mo q_mlb_ q_mcl_ q_mus_ q_mwr_ q_mdk_ q_mcp_ mth mar mfu mLb mCl mUs mWr mDk mCp y0 a.2 (1 : Int32) x7 g8) (jv_cwV hts wa_207 wa_194 wa_208 wa_209 wa_210 rfl rfl yd_M_inode ⟨Nat.le_of_ble_eq_true rfl, Nat.le_of_ble_eq_true rfl⟩) (jv_preV hK hPc 0 rfl rfl) rfl rfl hl.1 rfl (lv_room (Nat.le_of_ble_eq_true rfl)) d_M_find_62 ⟨Nat.zero_le _, Nat.zero_le _⟩) ?_
      refine lv_iload_n hx hb d_M_find_65 rfl (lv_at hl 3 rfl) ?_
      refine lv_icmp_ne (tgt := 87) hx hb d_M_find_66 (by decide) (fun hc => ?_) (fun hc => ?_)
      · have hf := jv_if hf hc
        refine lv_iload hx hb d_M_find_87 (lv_at hl 7 rfl) ?_
        refine lv_istore (lv' := [(7, .int a.1), (0, .ref q_mo), (1, .int y0), (2, .int y1), (3, .int y2), (4, .int y3), (5, .int y4), (6, .int y5), (8, .int a.2)]) hx hb d_M_find_89 hl (by decide) rfl (fun ls hl => ?_)
        refine lv_iinc (k := 8) (v := a.2 + (1 : Int32)) (lv' := [(8, .int (a.2 + (1 : Int32))), (7, .int a.1), (0, .ref q_mo), (1, .int y0), (2, .int y1), (3, .int y2), (4, .int y3), (5, .int y4), (6, .int y5)]) hx hb d_M_find_91 hl rfl (jv_inc _) (by decide) rfl (fun ls hl => ?_)
        refine lv_goto (tgt := 39) hx hb d_M_find_94 (by decide) ?_
        exact hk39 (a.1, a.2 + (1 : Int32)) _ (lv_sub hl [2, 3, 4, 5, 6, 7, 8, 1, 0] rfl) hf
      · have hf := jv_it hf hc
        refine lv_aload_n hx hb d_M_find_69 rfl (lv_at hl 0 rfl) ?_
        refine lv_iload_n hx hb d_M_find_70 rfl (lv_at hl 1 rfl) ?_
        refine lv_iload hx hb d_M_find_71 (lv_at hl 8 rfl) ?_
        refine lv_iconst (v := (2 : Int32)) hx hb d_M_find_73 (by decide) ?_
        obtain ⟨x9, g10, hf⟩ := jv_ob hf
        have hPc := hP.sub (ws' := (w_model cI q_mo q_mlb_ q_mcl_ q_mus_ q_mwr_ q_mdk_ q_mcp_ mth mar mfu mLb mCl mUs mWr mDk mCp)) [0, 1, 2, 3, 4, 5, 6] rfl
        refine jv_cs (W.runV (As := [.int y0, .int a.2, .int (2 : Int32)]) (rest := []) (b := q_mo) ⟨hx, hb, hml, hown, hts⟩ (c_M_inode l dC dI cI cA cL q_mo q_mlb_ q_mcl_ q_mus_ q_mwr_ q_mdk_ q_mcp_ mth mar mfu mLb mCl mUs mWr mDk mCp y0 a.2 (2 : Int32) x9 g10) (jv_cwV hts wa_207 wa_194 wa_208 wa_209 wa_210 rfl rfl yd_M_inode ⟨Nat.le_of_ble_eq_true rfl, Nat.le_of_ble_eq_true rfl⟩) (jv_preV hK hPc 0 rfl rfl) rfl rfl hl.1 rfl (lv_room (Nat.le_of_ble_eq_true rfl)) d_M_find_74 ⟨Nat.zero_le _, Nat.zero_le _⟩) ?_
        refine lv_iload hx hb d_M_find_77 (lv_at hl 6 rfl) ?_
        refine lv_icmp_ne (tgt := 87) hx hb d_M_find_79 (by decide) (fun hc => ?_) (fun hc => ?_)
        · have hf := jv_if hf hc
          refine lv_iload hx hb d_M_find_87 (lv_at hl 7 rfl) ?_
          refine lv_istore (lv' := [(7, .int a.1), (0, .ref q_mo), (1, .int y0), (2, .int y1), (3, .int y2), (4, .int y3), (5, .int y4), (6, .int y5), (8, .int a.2)]) hx hb d_M_find_89 hl (by decide) rfl (fun ls hl => ?_)
          refine lv_iinc (k := 8) (v := a.2 + (1 : Int32)) (lv' := [(8, .int (a.2 + (1 : Int32))), (7, .int a.1), (0, .ref q_mo), (1, .int y0), (2, .int y1), (3, .int y2), (4, .int y3), (5, .int y4), (6, .int y5)]) hx hb d_M_find_91 hl rfl (jv_inc _) (by decide) rfl (fun ls hl => ?_)
          refine lv_goto (tgt := 39) hx hb d_M_find_94 (by decide) ?_
          exact hk39 (a.1, a.2 + (1 : Int32)) _ (lv_sub hl [2, 3, 4, 5, 6, 7, 8, 1, 0] rfl) hf
        · have hf := jv_it hf hc
          refine lv_iload hx hb d_M_find_82 (lv_at hl 8 rfl) ?_
          refine lv_goto (tgt := 89) hx hb d_M_find_84 (by decide) ?_
          refine lv_istore (lv' := [(7, .int a.2), (0, .ref q_mo), (1, .int y0), (2, .int y1), (3, .int y2), (4, .int y3), (5, .int y4), (6, .int y5), (8, .int a.2)]) hx hb d_M_find_89 hl (by decide) rfl (fun ls hl => ?_)
          refine lv_iinc (k := 8) (v := a.2 + (1 : Int32)) (lv' := [(8, .int (a.2 + (1 : Int32))), (7, .int a.2), (0, .ref q_mo), (1, .int y0), (2, .int y1), (3, .int y2), (4, .int y3), (5, .int y4), (6, .int y5)]) hx hb d_M_find_91 hl rfl (jv_inc _) (by decide) rfl (fun ls hl => ?_)
          refine lv_goto (tgt := 39) hx hb d_M_find_94 (by decide) ?_
          exact hk39 (a.2, a.2 + (1 : Int32)) _ (lv_sub hl [2, 3, 4, 5, 6, 7, 8, 1, 0] rfl) hf
set_option maxHeartbeats 4000000 in
set_option maxRecDepth 100000 in
theorem l_M_find_39 {l : Launch} {dC : Nat → ClassId} {dI : Nat → Nat → Nat} {cI cA cL : ClassId} {q_mo q_mlb_ q_mcl_ q_mus_ q_mwr_ q_mdk_ q_mcp_ : Nat} {mth : Int32} {mar : Int32} {mfu : Int32} {mLb : Nat → Int32} {mCl : Nat → Int32} {mUs : Nat → Int32} {mWr : Nat → Int32} {mDk : Nat → Int32} {mCp : Nat → Int32} {p : Program} {e : Env} {s : State} {m : MethodId} {args : Array Value} {below : List Frame} {meth : Method} {c : Code} (cx : jv_cx p s m args meth c cc_M_find 9 R_Model (some .int) ws_M_find) (hK : va_K (dC, dI) vwCl (jv_ty cI cA cL) s) (hP : va_P (dC, dI) vwCl (w_model cI q_mo q_mlb_ q_mcl_ q_mus_ q_mwr_ q_mdk_ q_mcp_ mth mar mfu mLb mCl mUs mWr mDk mCp) s.heap) {r : Int32} {k11 : (Int32 × Int32) → Option (Int32)} {y0 : Int32} {y1 : Int32} {y2 : Int32} {y3 : Int32} {y4 : Int32} {y5 : Int32} (hk11 : ∀ (a : Int32 × Int32) (ls : Array Slot), lv_has ls 9 [(0, .ref q_mo), (1, .int y0), (2, .int y1), (3, .int a.1), (4, .int y3), (5, .int a.2)] → k11 a = some r → W p l e rm_M_find s m args below meth c s.heap [] 0 0 (MQ below (QcRead r) args s 0 0 (fun _ => False)) (F0 m 11 ls [])) : ∀ n : Nat, ∀ (a : Int32 × Int32) (ls : Array Slot), lv_has ls 9 [(0, .ref q_mo), (1, .int y0), (2, .int y1), (3, .int y2), (4, .int y3), (5, .int y4), (6, .int y5), (7, .int a.1), (8, .int a.2)] → jv_fx (f_M_find_39 mDk k11 y0 y1 y2 y3 y4 y5) n a = some r → W p l e rm_M_find s m args below meth c s.heap [] 0 0 (MQ below (QcRead r) args s 0 0 (fun _ => False)) (F0 m 39 ls []) := by
  intro n
  induction n with
  | zero => intro a ls hl hf; exact jv_no hf
  | succ n ih => intro a ls hl hf; exact b_M_find_39 cx hK hP hk11 ih hl hf
def f_M_find_11 (mDk : Nat → Int32) (y0 : Int32) (y1 : Int32) (y2 : Int32) (k11 : (Int32 × Int32) → Option (Int32)) (a : Int32 × Int32) : Option (Int32) :=
  if y2 < a.2 then (some a.1) else (if a.1 < 0 then (some a.1) else ((f_M_prefix y1 a.2).bind fun x3 => jv_fx (f_M_find_39 mDk k11 y0 y1 a.1 y2 a.2 (x3 - x3 / (32 : Int32) * (32 : Int32))) 300 ((-1 : Int32), (1 : Int32))))
set_option maxHeartbeats 4000000 in
set_option maxRecDepth 100000 in
theorem b_M_find_11 {l : Launch} {dC : Nat → ClassId} {dI : Nat → Nat → Nat} {cI cA cL : ClassId} {q_mo q_mlb_ q_mcl_ q_mus_ q_mwr_ q_mdk_ q_mcp_ : Nat} {mth : Int32} {mar : Int32} {mfu : Int32} {mLb : Nat → Int32} {mCl : Nat → Int32} {mUs : Nat → Int32} {mWr : Nat → Int32} {mDk : Nat → Int32} {mCp : Nat → Int32} {p : Program} {e : Env} {s : State} {m : MethodId} {args : Array Value} {below : List Frame} {meth : Method} {c : Code} (cx : jv_cx p s m args meth c cc_M_find 9 R_Model (some .int) ws_M_find) (hK : va_K (dC, dI) vwCl (jv_ty cI cA cL) s) (hP : va_P (dC, dI) vwCl (w_model cI q_mo q_mlb_ q_mcl_ q_mus_ q_mwr_ q_mdk_ q_mcp_ mth mar mfu mLb mCl mUs mWr mDk mCp) s.heap) {r : Int32} {y0 : Int32} {y1 : Int32} {y2 : Int32} {k11 : (Int32 × Int32) → Option (Int32)} (hk11 : ∀ (a : Int32 × Int32) (ls : Array Slot), lv_has ls 9 [(0, .ref q_mo), (1, .int y0), (2, .int y1), (3, .int a.1), (4, .int y2), (5, .int a.2)] → k11 a = some r → W p l e rm_M_find s m args below meth c s.heap [] 0 0 (MQ below (QcRead r) args s 0 0 (fun _ => False)) (F0 m 11 ls [])) {a : Int32 × Int32} {ls : Array Slot} (hl : lv_has ls 9 [(0, .ref q_mo), (1, .int y0), (2, .int y1), (3, .int a.1), (4, .int y2), (5, .int a.2)]) (hf : f_M_find_11 mDk y0 y1 y2 k11 a = some r) : W p l e rm_M_find s m args below meth c s.heap [] 0 0 (MQ below (QcRead r) args s 0 0 (fun _ => False)) (F0 m 11 ls []) := by
  unfold f_M_find_11 at hf
  obtain ⟨hx, hb, hml, hown, hts, hr, hlocks⟩ := id cx
  refine lv_iload hx hb d_M_find_11 (lv_at hl 5 rfl) ?_
  refine lv_iload hx hb d_M_find_13 (lv_at hl 4 rfl) ?_
  refine lv_icmp_gt (tgt := 106) hx hb d_M_find_15 (by decide) (fun hc => ?_) (fun hc => ?_)
  · have hf := jv_it hf hc
    refine lv_iload_n hx hb d_M_find_106 rfl (lv_at hl 3 rfl) ?_
    obtain rfl := Option.some.inj hf
    exact W.iret hx hb hr (fun t ht hW => ⟨rfl, ht⟩) (fun q h => by cases h) d_M_find_107
  · have hf := jv_if hf hc
    refine lv_iload_n hx hb d_M_find_18 rfl (lv_at hl 3 rfl) ?_
    refine lv_if_lt (tgt := 106) hx hb d_M_find_19 (by decide) (fun hc => ?_) (fun hc => ?_)
    · have hf := jv_it hf hc
      refine lv_iload_n hx hb d_M_find_106 rfl (lv_at hl 3 rfl) ?_
      obtain rfl := Option.some.inj hf
      exact W.iret hx hb hr (fun t ht hW => ⟨rfl, ht⟩) (fun q h => by cases h) d_M_find_107
    · have hf := jv_if hf hc
      refine lv_iload_n hx hb d_M_find_22 rfl (lv_at hl 2 rfl) ?_
      refine lv_iload hx hb d_M_find_23 (lv_at hl 5 rfl) ?_
      obtain ⟨x3, g4, hf⟩ := jv_ob hf
      refine jv_cs (W.runS (As := [.int y1, .int a.2]) (rest := []) ⟨hx, hb, hml, hown, hts⟩ (c_M_prefix l y1 a.2 x3 g4) (jv_cwS hts wa_204 wa_194 wa_205 wa_206 rfl rfl yd_M_prefix ⟨Nat.le_of_ble_eq_true rfl, Nat.le_of_ble_eq_true rfl⟩) jv_pre0 rfl rfl hl.1 rfl (lv_room (Nat.le_of_ble_eq_true rfl)) d_M_find_25 ⟨Nat.zero_le _, Nat.zero_le _⟩) ?_
      refine lv_bipush (v := (32 : Int32)) hx hb d_M_find_28 (by decide) ?_
      refine lv_irem hx hb d_M_find_30 (by decide) ?_
      refine lv_istore (lv' := [(6, .int (x3 - x3 / (32 : Int32) * (32 : Int32))), (0, .ref q_mo), (1, .int y0), (2, .int y1), (3, .int a.1), (4, .int y2), (5, .int a.2)]) hx hb d_M_find_31 hl (by decide) rfl (fun ls hl => ?_)
      refine lv_iconst (v := (-1 : Int32)) hx hb d_M_find_33 (by decide) ?_
      refine lv_istore (lv' := [(7, .int (-1 : Int32)), (6, .int (x3 - x3 / (32 : Int32) * (32 : Int32))), (0, .ref q_mo), (1, .int y0), (2, .int y1), (3, .int a.1), (4, .int y2), (5, .int a.2)]) hx hb d_M_find_34 hl (by decide) rfl (fun ls hl => ?_)
      refine lv_iconst (v := (1 : Int32)) hx hb d_M_find_36 (by decide) ?_
      refine lv_istore (lv' := [(8, .int (1 : Int32)), (7, .int (-1 : Int32)), (6, .int (x3 - x3 / (32 : Int32) * (32 : Int32))), (0, .ref q_mo), (1, .int y0), (2, .int y1), (3, .int a.1), (4, .int y2), (5, .int a.2)]) hx hb d_M_find_37 hl (by decide) rfl (fun ls hl => ?_)
      exact l_M_find_39 (y0 := y0) (y1 := y1) (y2 := a.1) (y3 := y2) (y4 := a.2) (y5 := x3 - x3 / (32 : Int32) * (32 : Int32)) cx hK hP hk11 300 ((-1 : Int32), (1 : Int32)) _ (lv_sub hl [3, 4, 5, 6, 7, 8, 2, 1, 0] rfl) hf
set_option maxHeartbeats 4000000 in
set_option maxRecDepth 100000 in
theorem l_M_find_11 {l : Launch} {dC : Nat → ClassId} {dI : Nat → Nat → Nat} {cI cA cL : ClassId} {q_mo q_mlb_ q_mcl_ q_mus_ q_mwr_ q_mdk_ q_mcp_ : Nat} {mth : Int32} {mar : Int32} {mfu : Int32} {mLb : Nat → Int32} {mCl : Nat → Int32} {mUs : Nat → Int32} {mWr : Nat → Int32} {mDk : Nat → Int32} {mCp : Nat → Int32} {p : Program} {e : Env} {s : State} {m : MethodId} {args : Array Value} {below : List Frame} {meth : Method} {c : Code} (cx : jv_cx p s m args meth c cc_M_find 9 R_Model (some .int) ws_M_find) (hK : va_K (dC, dI) vwCl (jv_ty cI cA cL) s) (hP : va_P (dC, dI) vwCl (w_model cI q_mo q_mlb_ q_mcl_ q_mus_ q_mwr_ q_mdk_ q_mcp_ mth mar mfu mLb mCl mUs mWr mDk mCp) s.heap) {r : Int32} {y0 : Int32} {y1 : Int32} {y2 : Int32} : ∀ n : Nat, ∀ (a : Int32 × Int32) (ls : Array Slot), lv_has ls 9 [(0, .ref q_mo), (1, .int y0), (2, .int y1), (3, .int a.1), (4, .int y2), (5, .int a.2)] → jv_fx (f_M_find_11 mDk y0 y1 y2) n a = some r → W p l e rm_M_find s m args below meth c s.heap [] 0 0 (MQ below (QcRead r) args s 0 0 (fun _ => False)) (F0 m 11 ls []) := by
  intro n
  induction n with
  | zero => intro a ls hl hf; exact jv_no hf
  | succ n ih => intro a ls hl hf; exact b_M_find_11 cx hK hP ih hl hf
def f_M_find_0 (mDk : Nat → Int32) (y0 : Int32) (y1 : Int32) : Option (Int32) :=
  (f_M_names y1).bind fun x1 => jv_fx (f_M_find_11 mDk y0 y1 x1) 300 ((0 : Int32), (1 : Int32))
set_option maxHeartbeats 4000000 in
set_option maxRecDepth 100000 in
theorem b_M_find_0 {l : Launch} {dC : Nat → ClassId} {dI : Nat → Nat → Nat} {cI cA cL : ClassId} {q_mo q_mlb_ q_mcl_ q_mus_ q_mwr_ q_mdk_ q_mcp_ : Nat} {mth : Int32} {mar : Int32} {mfu : Int32} {mLb : Nat → Int32} {mCl : Nat → Int32} {mUs : Nat → Int32} {mWr : Nat → Int32} {mDk : Nat → Int32} {mCp : Nat → Int32} {p : Program} {e : Env} {s : State} {m : MethodId} {args : Array Value} {below : List Frame} {meth : Method} {c : Code} (cx : jv_cx p s m args meth c cc_M_find 9 R_Model (some .int) ws_M_find) (hK : va_K (dC, dI) vwCl (jv_ty cI cA cL) s) (hP : va_P (dC, dI) vwCl (w_model cI q_mo q_mlb_ q_mcl_ q_mus_ q_mwr_ q_mdk_ q_mcp_ mth mar mfu mLb mCl mUs mWr mDk mCp) s.heap) {r : Int32} {y0 : Int32} {y1 : Int32} {ls : Array Slot} (hl : lv_has ls 9 [(0, .ref q_mo), (1, .int y0), (2, .int y1)]) (hf : f_M_find_0 mDk y0 y1 = some r) : W p l e rm_M_find s m args below meth c s.heap [] 0 0 (MQ below (QcRead r) args s 0 0 (fun _ => False)) (F0 m 0 ls []) := by
  unfold f_M_find_0 at hf
  obtain ⟨hx, hb, hml, hown, hts, hr, hlocks⟩ := id cx
  refine lv_iconst (v := (0 : Int32)) hx hb d_M_find_0 (by decide) ?_
  refine lv_istore_n (lv' := [(3, .int (0 : Int32)), (0, .ref q_mo), (1, .int y0), (2, .int y1)]) hx hb d_M_find_1 rfl hl (by decide) rfl (fun ls hl => ?_)
  refine lv_iload_n hx hb d_M_find_2 rfl (lv_at hl 3 rfl) ?_
  obtain ⟨x1, g2, hf⟩ := jv_ob hf
  refine jv_cs (W.runS (As := [.int y1]) (rest := []) ⟨hx, hb, hml, hown, hts⟩ (c_M_names l y1 x1 g2) (jv_cwS hts wa_197 wa_194 wa_198 wa_199 rfl rfl yd_M_names ⟨Nat.le_of_ble_eq_true rfl, Nat.le_of_ble_eq_true rfl⟩) jv_pre0 rfl rfl hl.1 rfl (lv_room (Nat.le_of_ble_eq_true rfl)) d_M_find_3 ⟨Nat.zero_le _, Nat.zero_le _⟩) ?_
  refine lv_istore (lv' := [(4, .int x1), (3, .int (0 : Int32)), (0, .ref q_mo), (1, .int y0), (2, .int y1)]) hx hb d_M_find_6 hl (by decide) rfl (fun ls hl => ?_)
  refine lv_iconst (v := (1 : Int32)) hx hb d_M_find_8 (by decide) ?_
  refine lv_istore (lv' := [(5, .int (1 : Int32)), (4, .int x1), (3, .int (0 : Int32)), (0, .ref q_mo), (1, .int y0), (2, .int y1)]) hx hb d_M_find_9 hl (by decide) rfl (fun ls hl => ?_)
  exact l_M_find_11 (y0 := y0) (y1 := y1) (y2 := x1) cx hK hP 300 ((0 : Int32), (1 : Int32)) _ (lv_sub hl [3, 4, 5, 2, 1, 0] rfl) hf
def f_M_find (mDk : Nat → Int32) (a0 : Int32) (a1 : Int32) : Option (Int32) := f_M_find_0 mDk a0 a1
set_option maxHeartbeats 4000000 in
set_option maxRecDepth 100000 in
theorem c_M_find (l : Launch) (dC : Nat → ClassId) (dI : Nat → Nat → Nat) (cI cA cL : ClassId) (q_mo q_mlb_ q_mcl_ q_mus_ q_mwr_ q_mdk_ q_mcp_ : Nat) (mth : Int32) (mar : Int32) (mfu : Int32) (mLb : Nat → Int32) (mCl : Nat → Int32) (mUs : Nat → Int32) (mWr : Nat → Int32) (mDk : Nat → Int32) (mCp : Nat → Int32) (a0 : Int32) (a1 : Int32) (r : Int32) (hf : f_M_find mDk a0 a1 = some r) : Met l y_M_find ws_M_find rm_M_find (jv_Pr [.ref q_mo, .int a0, .int a1] (dC, dI) (jv_ty cI cA cL) (w_model cI q_mo q_mlb_ q_mcl_ q_mus_ q_mwr_ q_mdk_ q_mcp_ mth mar mfu mLb mCl mUs mWr mDk mCp)) (QcRead r) 0 0 (fun _ => False) := by
  refine Met.ofW (cc := cc_M_find) (maxL := 9) (ret := (some .int)) (by decide) rfl ?_
  intro p e s m args below meth c s₁ B hml hv
  obtain ⟨rfl, hP, hK⟩ := hv
  have cx : jv_cx p s m _ meth c cc_M_find 9 R_Model (some .int) ws_M_find := ⟨B.exec, B.bytes, hml, findClass_of_methodNamed B.named, atoms_spec (ws := ws_M_find) B.pre, B.returns, B.notSynchronized⟩
  have hl := lv_entry ([.ref q_mo, .int a0, .int a1]) (n := 9) (Nat.le_of_ble_eq_true rfl)
  rw [lg_entry_eq]
  generalize (lg_sl ([.ref q_mo, .int a0, .int a1]) ++ List.replicate (9 - (lg_sl ([.ref q_mo, .int a0, .int a1])).length) Slot.unset).toArray = ls at hl ⊢
  have hl : lv_has ls 9 [(0, .ref q_mo), (1, .int a0), (2, .int a1)] := hl
  exact b_M_find_0 (y0 := a0) (y1 := a1) cx hK hP (lv_sub hl [0, 1, 2] rfl) hf
theorem d_M_kind_0 : decode cc_M_kind 0 = .ok (.aload_n 0, 1) := by decide +kernel
theorem d_M_kind_1 : decode cc_M_kind 1 = .ok (.iload_n 1, 1) := by decide +kernel
theorem d_M_kind_2 : decode cc_M_kind 2 = .ok (.iload_n 2, 1) := by decide +kernel
theorem d_M_kind_3 : decode cc_M_kind 3 = .ok (.invokevirtual 68, 3) := by decide +kernel
theorem d_M_kind_6 : decode cc_M_kind 6 = .ok (.istore_n 3, 1) := by decide +kernel
theorem d_M_kind_7 : decode cc_M_kind 7 = .ok (.iload_n 3, 1) := by decide +kernel
theorem d_M_kind_8 : decode cc_M_kind 8 = .ok (.ifCond .ge 7, 3) := by decide +kernel
theorem d_M_kind_15 : decode cc_M_kind 15 = .ok (.aload_n 0, 1) := by decide +kernel
theorem d_M_kind_16 : decode cc_M_kind 16 = .ok (.iload_n 1, 1) := by decide +kernel
theorem d_M_kind_17 : decode cc_M_kind 17 = .ok (.iload_n 3, 1) := by decide +kernel
theorem d_M_kind_18 : decode cc_M_kind 18 = .ok (.iconst 0, 1) := by decide +kernel
theorem d_M_kind_19 : decode cc_M_kind 19 = .ok (.invokevirtual 64, 3) := by decide +kernel
theorem d_M_kind_22 : decode cc_M_kind 22 = .ok (.ireturn, 1) := by decide +kernel
theorem d_M_kind_11 : decode cc_M_kind 11 = .ok (.iconst 0, 1) := by decide +kernel
theorem d_M_kind_12 : decode cc_M_kind 12 = .ok (.goto 10, 3) := by decide +kernel
def f_M_kind_0 (mDk : Nat → Int32) (y0 : Int32) (y1 : Int32) : Option (Int32) :=
  (f_M_find mDk y0 y1).bind fun x1 => if 0 ≤ x1 then ((f_M_inode mDk y0 x1 (0 : Int32)).bind fun x3 => some x3) else (some (0 : Int32))
set_option maxHeartbeats 4000000 in
set_option maxRecDepth 100000 in
theorem b_M_kind_0 {l : Launch} {dC : Nat → ClassId} {dI : Nat → Nat → Nat} {cI cA cL : ClassId} {q_mo q_mlb_ q_mcl_ q_mus_ q_mwr_ q_mdk_ q_mcp_ : Nat} {mth : Int32} {mar : Int32} {mfu : Int32} {mLb : Nat → Int32} {mCl : Nat → Int32} {mUs : Nat → Int32} {mWr : Nat → Int32} {mDk : Nat → Int32} {mCp : Nat → Int32} {p : Program} {e : Env} {s : State} {m : MethodId} {args : Array Value} {below : List Frame} {meth : Method} {c : Code} (cx : jv_cx p s m args meth c cc_M_kind 4 R_Model (some .int) ws_M_kind) (hK : va_K (dC, dI) vwCl (jv_ty cI cA cL) s) (hP : va_P (dC, dI) vwCl (w_model cI q_mo q_mlb_ q_mcl_ q_mus_ q_mwr_ q_mdk_ q_mcp_ mth mar mfu mLb mCl mUs mWr mDk mCp) s.heap) {r : Int32} {y0 : Int32} {y1 : Int32} {ls : Array Slot} (hl : lv_has ls 4 [(0, .ref q_mo), (1, .int y0), (2, .int y1)]) (hf : f_M_kind_0 mDk y0 y1 = some r) : W p l e rm_M_kind s m args below meth c s.heap [] 0 0 (MQ below (QcRead r) args s 0 0 (fun _ => False)) (F0 m 0 ls []) := by
  unfold f_M_kind_0 at hf
  obtain ⟨hx, hb, hml, hown, hts, hr, hlocks⟩ := id cx
  refine lv_aload_n hx hb d_M_kind_0 rfl (lv_at hl 0 rfl) ?_
  refine lv_iload_n hx hb d_M_kind_1 rfl (lv_at hl 1 rfl) ?_
  refine lv_iload_n hx hb d_M_kind_2 rfl (lv_at hl 2 rfl) ?_
  obtain ⟨x1, g2, hf⟩ := jv_ob hf
  have hPc := hP.sub (ws' := (w_model cI q_mo q_mlb_ q_mcl_ q_mus_ q_mwr_ q_mdk_ q_mcp_ mth mar mfu mLb mCl mUs mWr mDk mCp)) [0, 1, 2, 3, 4, 5, 6] rfl
  refine jv_cs (W.runV (As := [.int y0, .int y1]) (rest := []) (b := q_mo) ⟨hx, hb, hml, hown, hts⟩ (c_M_find l dC dI cI cA cL q_mo q_mlb_ q_mcl_ q_mus_ q_mwr_ q_mdk_ q_mcp_ mth mar mfu mLb mCl mUs mWr mDk mCp y0 y1 x1 g2) (jv_cwV hts wa_211 wa_194 wa_212 wa_213 wa_214 rfl rfl yd_M_find ⟨Nat.le_of_ble_eq_true rfl, Nat.le_of_ble_eq_true rfl⟩) (jv_preV hK hPc 0 rfl rfl) rfl rfl hl.1 rfl (lv_room (Nat.le_of_ble_eq_true rfl)) d_M_kind_3 ⟨Nat.zero_le _, Nat.zero_le _⟩) ?_
  refine lv_istore_n (lv' := [(3, .int x1), (0, .ref q_mo), (1, .int y0), (2, .int y1)]) hx hb d_M_kind_6 rfl hl (by decide) rfl (fun ls hl => ?_)
  refine lv_iload_n hx hb d_M_kind_7 rfl (lv_at hl 0 rfl) ?_
  refine lv_if_ge (tgt := 15) hx hb d_M_kind_8 (by decide) (fun hc => ?_) (fun hc => ?_)
  · have hf := jv_it hf hc
    refine lv_aload_n hx hb d_M_kind_15 rfl (lv_at hl 1 rfl) ?_
    refine lv_iload_n hx hb d_M_kind_16 rfl (lv_at hl 2 rfl) ?_
    refine lv_iload_n hx hb d_M_kind_17 rfl (lv_at hl 0 rfl) ?_
    refine lv_iconst (v := (0 : Int32)) hx hb d_M_kind_18 (by decide) ?_
    obtain ⟨x3, g4, hf⟩ := jv_ob hf
    have hPc := hP.sub (ws' := (w_model cI q_mo q_mlb_ q_mcl_ q_mus_ q_mwr_ q_mdk_ q_mcp_ mth mar mfu mLb mCl mUs mWr mDk mCp)) [0, 1, 2, 3, 4, 5, 6] rfl
    refine jv_cs (W.runV (As := [.int y0, .int x1, .int (0 : Int32)]) (rest := []) (b := q_mo) ⟨hx, hb, hml, hown, hts⟩ (c_M_inode l dC dI cI cA cL q_mo q_mlb_ q_mcl_ q_mus_ q_mwr_ q_mdk_ q_mcp_ mth mar mfu mLb mCl mUs mWr mDk mCp y0 x1 (0 : Int32) x3 g4) (jv_cwV hts wa_207 wa_194 wa_208 wa_209 wa_210 rfl rfl yd_M_inode ⟨Nat.le_of_ble_eq_true rfl, Nat.le_of_ble_eq_true rfl⟩) (jv_preV hK hPc 0 rfl rfl) rfl rfl hl.1 rfl (lv_room (Nat.le_of_ble_eq_true rfl)) d_M_kind_19 ⟨Nat.zero_le _, Nat.zero_le _⟩) ?_
    obtain rfl := Option.some.inj hf
    exact W.iret hx hb hr (fun t ht hW => ⟨rfl, ht⟩) (fun q h => by cases h) d_M_kind_22
  · have hf := jv_if hf hc
    refine lv_iconst (v := (0 : Int32)) hx hb d_M_kind_11 (by decide) ?_
    refine lv_goto (tgt := 22) hx hb d_M_kind_12 (by decide) ?_
    obtain rfl := Option.some.inj hf
    exact W.iret hx hb hr (fun t ht hW => ⟨rfl, ht⟩) (fun q h => by cases h) d_M_kind_22
def f_M_kind (mDk : Nat → Int32) (a0 : Int32) (a1 : Int32) : Option (Int32) := f_M_kind_0 mDk a0 a1
set_option maxHeartbeats 4000000 in
set_option maxRecDepth 100000 in
theorem c_M_kind (l : Launch) (dC : Nat → ClassId) (dI : Nat → Nat → Nat) (cI cA cL : ClassId) (q_mo q_mlb_ q_mcl_ q_mus_ q_mwr_ q_mdk_ q_mcp_ : Nat) (mth : Int32) (mar : Int32) (mfu : Int32) (mLb : Nat → Int32) (mCl : Nat → Int32) (mUs : Nat → Int32) (mWr : Nat → Int32) (mDk : Nat → Int32) (mCp : Nat → Int32) (a0 : Int32) (a1 : Int32) (r : Int32) (hf : f_M_kind mDk a0 a1 = some r) : Met l y_M_kind ws_M_kind rm_M_kind (jv_Pr [.ref q_mo, .int a0, .int a1] (dC, dI) (jv_ty cI cA cL) (w_model cI q_mo q_mlb_ q_mcl_ q_mus_ q_mwr_ q_mdk_ q_mcp_ mth mar mfu mLb mCl mUs mWr mDk mCp)) (QcRead r) 0 0 (fun _ => False) := by
  refine Met.ofW (cc := cc_M_kind) (maxL := 4) (ret := (some .int)) (by decide) rfl ?_
  intro p e s m args below meth c s₁ B hml hv
  obtain ⟨rfl, hP, hK⟩ := hv
  have cx : jv_cx p s m _ meth c cc_M_kind 4 R_Model (some .int) ws_M_kind := ⟨B.exec, B.bytes, hml, findClass_of_methodNamed B.named, atoms_spec (ws := ws_M_kind) B.pre, B.returns, B.notSynchronized⟩
  have hl := lv_entry ([.ref q_mo, .int a0, .int a1]) (n := 4) (Nat.le_of_ble_eq_true rfl)
  rw [lg_entry_eq]
  generalize (lg_sl ([.ref q_mo, .int a0, .int a1]) ++ List.replicate (4 - (lg_sl ([.ref q_mo, .int a0, .int a1])).length) Slot.unset).toArray = ls at hl ⊢
  have hl : lv_has ls 4 [(0, .ref q_mo), (1, .int a0), (2, .int a1)] := hl
  exact b_M_kind_0 (y0 := a0) (y1 := a1) cx hK hP (lv_sub hl [0, 1, 2] rfl) hf
theorem d_M_sees_0 : decode cc_M_sees 0 = .ok (.aload_n 0, 1) := by decide +kernel
theorem d_M_sees_1 : decode cc_M_sees 1 = .ok (.getfield 7, 3) := by decide +kernel
theorem d_M_sees_4 : decode cc_M_sees 4 = .ok (.iload_n 2, 1) := by decide +kernel
theorem d_M_sees_5 : decode cc_M_sees 5 = .ok (.iaload, 1) := by decide +kernel
theorem d_M_sees_6 : decode cc_M_sees 6 = .ok (.aload_n 0, 1) := by decide +kernel
theorem d_M_sees_7 : decode cc_M_sees 7 = .ok (.getfield 7, 3) := by decide +kernel
theorem d_M_sees_10 : decode cc_M_sees 10 = .ok (.iload_n 1, 1) := by decide +kernel
theorem d_M_sees_11 : decode cc_M_sees 11 = .ok (.iconst 4, 1) := by decide +kernel
theorem d_M_sees_12 : decode cc_M_sees 12 = .ok (.idiv, 1) := by decide +kernel
theorem d_M_sees_13 : decode cc_M_sees 13 = .ok (.iaload, 1) := by decide +kernel
theorem d_M_sees_14 : decode cc_M_sees 14 = .ok (.invokestatic 43, 3) := by decide +kernel
theorem d_M_sees_17 : decode cc_M_sees 17 = .ok (.ireturn, 1) := by decide +kernel
def f_M_sees_0 (mLb : Nat → Int32) (y0 : Int32) (y1 : Int32) : Option (Int32) :=
  (jv_ga mLb 6 y1).bind fun x1 => (jv_ga mLb 6 (y0 / (4 : Int32))).bind fun x3 => (f_M_flow x1 x3).bind fun x5 => if x5 = 0 ∨ x5 = 1 then (some x5) else none
set_option maxHeartbeats 4000000 in
set_option maxRecDepth 100000 in
theorem b_M_sees_0 {l : Launch} {dC : Nat → ClassId} {dI : Nat → Nat → Nat} {cI cA cL : ClassId} {q_mo q_mlb_ q_mcl_ q_mus_ q_mwr_ q_mdk_ q_mcp_ : Nat} {mth : Int32} {mar : Int32} {mfu : Int32} {mLb : Nat → Int32} {mCl : Nat → Int32} {mUs : Nat → Int32} {mWr : Nat → Int32} {mDk : Nat → Int32} {mCp : Nat → Int32} {p : Program} {e : Env} {s : State} {m : MethodId} {args : Array Value} {below : List Frame} {meth : Method} {c : Code} (cx : jv_cx p s m args meth c cc_M_sees 3 R_Model (some .boolean) ws_M_sees) (hK : va_K (dC, dI) vwCl (jv_ty cI cA cL) s) (hP : va_P (dC, dI) vwCl (w_model cI q_mo q_mlb_ q_mcl_ q_mus_ q_mwr_ q_mdk_ q_mcp_ mth mar mfu mLb mCl mUs mWr mDk mCp) s.heap) {r : Int32} {y0 : Int32} {y1 : Int32} {ls : Array Slot} (hl : lv_has ls 3 [(0, .ref q_mo), (1, .int y0), (2, .int y1)]) (hf : f_M_sees_0 mLb y0 y1 = some r) : W p l e rm_M_sees s m args below meth c s.heap [] 0 0 (MQ below (QcRead r) args s 0 0 (fun _ => False)) (F0 m 0 ls []) := by
  unfold f_M_sees_0 at hf
  obtain ⟨hx, hb, hml, hown, hts, hr, hlocks⟩ := id cx
  refine lv_aload_n hx hb d_M_sees_0 rfl (lv_at hl 0 rfl) ?_
  refine va_get (D := (dC, dI)) (ci := kModel) (v := .ref q_mlb_) (C := R_Model) (T := T_Model) (N := 9) hx hb hts (fun w h => List.mem_cons_of_mem _ (in_Model w h)) hown hK hP 0 rfl rfl 2 (by decide) (jv_w hts wa_215) (fun _ h9 => h9) rfl d_M_sees_1 ?_
  refine lv_iload_n hx hb d_M_sees_4 rfl (lv_at hl 2 rfl) ?_
  obtain ⟨x1, g2, hf⟩ := jv_ob hf
  refine jv_iald hx hb hK hP 1 0 rfl rfl g2 d_M_sees_5 ?_
  refine lv_aload_n hx hb d_M_sees_6 rfl (lv_at hl 0 rfl) ?_
  refine va_get (D := (dC, dI)) (ci := kModel) (v := .ref q_mlb_) (C := R_Model) (T := T_Model) (N := 9) hx hb hts (fun w h => List.mem_cons_of_mem _ (in_Model w h)) hown hK hP 0 rfl rfl 2 (by decide) (jv_w hts wa_215) (fun _ h9 => h9) rfl d_M_sees_7 ?_
  refine lv_iload_n hx hb d_M_sees_10 rfl (lv_at hl 1 rfl) ?_
  refine lv_iconst (v := (4 : Int32)) hx hb d_M_sees_11 (by decide) ?_
  refine lv_idiv hx hb d_M_sees_12 (by decide) ?_
  obtain ⟨x3, g4, hf⟩ := jv_ob hf
  refine jv_iald hx hb hK hP 1 0 rfl rfl g4 d_M_sees_13 ?_
  obtain ⟨x5, g6, hf⟩ := jv_ob hf
  refine jv_cs (W.runS (As := [.int x1, .int x3]) (rest := []) ⟨hx, hb, hml, hown, hts⟩ (c_M_flow l x1 x3 x5 g6) (jv_cwS hts wa_216 wa_194 wa_217 wa_218 rfl rfl yd_M_flow ⟨Nat.le_of_ble_eq_true rfl, Nat.le_of_ble_eq_true rfl⟩) jv_pre0 rfl rfl hl.1 rfl (lv_room (Nat.le_of_ble_eq_true rfl)) d_M_sees_14 ⟨Nat.zero_le _, Nat.zero_le _⟩) ?_
  obtain ⟨hb7, hf⟩ := jv_gd hf
  obtain rfl := Option.some.inj hf
  exact W.zret hx hb hr (jv_nb hb7) (fun t ht hW => ⟨rfl, ht⟩) (fun q h => by cases h) d_M_sees_17
def f_M_sees (mLb : Nat → Int32) (a0 : Int32) (a1 : Int32) : Option (Int32) := f_M_sees_0 mLb a0 a1
set_option maxHeartbeats 4000000 in
set_option maxRecDepth 100000 in
theorem c_M_sees (l : Launch) (dC : Nat → ClassId) (dI : Nat → Nat → Nat) (cI cA cL : ClassId) (q_mo q_mlb_ q_mcl_ q_mus_ q_mwr_ q_mdk_ q_mcp_ : Nat) (mth : Int32) (mar : Int32) (mfu : Int32) (mLb : Nat → Int32) (mCl : Nat → Int32) (mUs : Nat → Int32) (mWr : Nat → Int32) (mDk : Nat → Int32) (mCp : Nat → Int32) (a0 : Int32) (a1 : Int32) (r : Int32) (hf : f_M_sees mLb a0 a1 = some r) : Met l y_M_sees ws_M_sees rm_M_sees (jv_Pr [.ref q_mo, .int a0, .int a1] (dC, dI) (jv_ty cI cA cL) (w_model cI q_mo q_mlb_ q_mcl_ q_mus_ q_mwr_ q_mdk_ q_mcp_ mth mar mfu mLb mCl mUs mWr mDk mCp)) (QcRead r) 0 0 (fun _ => False) := by
  refine Met.ofW (cc := cc_M_sees) (maxL := 3) (ret := (some .boolean)) (by decide) rfl ?_
  intro p e s m args below meth c s₁ B hml hv
  obtain ⟨rfl, hP, hK⟩ := hv
  have cx : jv_cx p s m _ meth c cc_M_sees 3 R_Model (some .boolean) ws_M_sees := ⟨B.exec, B.bytes, hml, findClass_of_methodNamed B.named, atoms_spec (ws := ws_M_sees) B.pre, B.returns, B.notSynchronized⟩
  have hl := lv_entry ([.ref q_mo, .int a0, .int a1]) (n := 3) (Nat.le_of_ble_eq_true rfl)
  rw [lg_entry_eq]
  generalize (lg_sl ([.ref q_mo, .int a0, .int a1]) ++ List.replicate (3 - (lg_sl ([.ref q_mo, .int a0, .int a1])).length) Slot.unset).toArray = ls at hl ⊢
  have hl : lv_has ls 3 [(0, .ref q_mo), (1, .int a0), (2, .int a1)] := hl
  exact b_M_sees_0 (y0 := a0) (y1 := a1) cx hK hP (lv_sub hl [0, 1, 2] rfl) hf
theorem d_M_visible_0 : decode cc_M_visible 0 = .ok (.iconst 0, 1) := by decide +kernel
theorem d_M_visible_1 : decode cc_M_visible 1 = .ok (.istore 4, 2) := by decide +kernel
theorem d_M_visible_3 : decode cc_M_visible 3 = .ok (.iconst 0, 1) := by decide +kernel
theorem d_M_visible_4 : decode cc_M_visible 4 = .ok (.istore 5, 2) := by decide +kernel
theorem d_M_visible_6 : decode cc_M_visible 6 = .ok (.iload 5, 2) := by decide +kernel
theorem d_M_visible_8 : decode cc_M_visible 8 = .ok (.aload_n 0, 1) := by decide +kernel
theorem d_M_visible_9 : decode cc_M_visible 9 = .ok (.getfield 47, 3) := by decide +kernel
theorem d_M_visible_12 : decode cc_M_visible 12 = .ok (.if_icmp .ge 59, 3) := by decide +kernel
theorem d_M_visible_71 : decode cc_M_visible 71 = .ok (.iload 4, 2) := by decide +kernel
theorem d_M_visible_73 : decode cc_M_visible 73 = .ok (.ireturn, 1) := by decide +kernel
theorem d_M_visible_15 : decode cc_M_visible 15 = .ok (.aload_n 0, 1) := by decide +kernel
theorem d_M_visible_16 : decode cc_M_visible 16 = .ok (.iload_n 1, 1) := by decide +kernel
theorem d_M_visible_17 : decode cc_M_visible 17 = .ok (.iload 5, 2) := by decide +kernel
theorem d_M_visible_19 : decode cc_M_visible 19 = .ok (.invokevirtual 71, 3) := by decide +kernel
theorem d_M_visible_22 : decode cc_M_visible 22 = .ok (.ifCond .eq 13, 3) := by decide +kernel
theorem d_M_visible_35 : decode cc_M_visible 35 = .ok (.iconst 0, 1) := by decide +kernel
theorem d_M_visible_25 : decode cc_M_visible 25 = .ok (.aload_n 0, 1) := by decide +kernel
theorem d_M_visible_26 : decode cc_M_visible 26 = .ok (.iload 5, 2) := by decide +kernel
theorem d_M_visible_28 : decode cc_M_visible 28 = .ok (.iload_n 2, 1) := by decide +kernel
theorem d_M_visible_29 : decode cc_M_visible 29 = .ok (.invokevirtual 74, 3) := by decide +kernel
theorem d_M_visible_32 : decode cc_M_visible 32 = .ok (.goto 4, 3) := by decide +kernel
theorem d_M_visible_36 : decode cc_M_visible 36 = .ok (.istore 6, 2) := by decide +kernel
theorem d_M_visible_38 : decode cc_M_visible 38 = .ok (.iload 4, 2) := by decide +kernel
theorem d_M_visible_40 : decode cc_M_visible 40 = .ok (.ifCond .ne 18, 3) := by decide +kernel
theorem d_M_visible_58 : decode cc_M_visible 58 = .ok (.iconst 1, 1) := by decide +kernel
theorem d_M_visible_59 : decode cc_M_visible 59 = .ok (.goto 4, 3) := by decide +kernel
theorem d_M_visible_63 : decode cc_M_visible 63 = .ok (.istore 4, 2) := by decide +kernel
theorem d_M_visible_65 : decode cc_M_visible 65 = .ok (.iinc 5 1, 3) := by decide +kernel
theorem d_M_visible_68 : decode cc_M_visible 68 = .ok (.goto (-62), 3) := by decide +kernel
theorem d_M_visible_43 : decode cc_M_visible 43 = .ok (.iload 6, 2) := by decide +kernel
theorem d_M_visible_45 : decode cc_M_visible 45 = .ok (.ifCond .le 17, 3) := by decide +kernel
theorem d_M_visible_62 : decode cc_M_visible 62 = .ok (.iconst 0, 1) := by decide +kernel
theorem d_M_visible_48 : decode cc_M_visible 48 = .ok (.iload_n 3, 1) := by decide +kernel
theorem d_M_visible_49 : decode cc_M_visible 49 = .ok (.ifCond .eq 9, 3) := by decide +kernel
theorem d_M_visible_52 : decode cc_M_visible 52 = .ok (.iload 6, 2) := by decide +kernel
theorem d_M_visible_54 : decode cc_M_visible 54 = .ok (.iload_n 3, 1) := by decide +kernel
theorem d_M_visible_55 : decode cc_M_visible 55 = .ok (.if_icmp .ne 7, 3) := by decide +kernel
def f_M_visible_36 (mar : Int32) (mLb : Nat → Int32) (mDk : Nat → Int32) (k6 : (Int32 × Int32) → Option (Int32)) (y0 : Int32) (y1 : Int32) (y2 : Int32) (y3 : Int32) (y4 : Int32) (y5 : Int32) : Option (Int32) :=
  if y3 = 0 then (if y5 ≤ 0 then (k6 ((0 : Int32), y4 + (1 : Int32))) else (if y2 = 0 then (k6 ((1 : Int32), y4 + (1 : Int32))) else (if y5 = y2 then (k6 ((1 : Int32), y4 + (1 : Int32))) else (k6 ((0 : Int32), y4 + (1 : Int32)))))) else (k6 ((1 : Int32), y4 + (1 : Int32)))
set_option maxHeartbeats 4000000 in
set_option maxRecDepth 100000 in
theorem b_M_visible_36 {l : Launch} {dC : Nat → ClassId} {dI : Nat → Nat → Nat} {cI cA cL : ClassId} {q_mo q_mlb_ q_mcl_ q_mus_ q_mwr_ q_mdk_ q_mcp_ : Nat} {mth : Int32} {mar : Int32} {mfu : Int32} {mLb : Nat → Int32} {mCl : Nat → Int32} {mUs : Nat → Int32} {mWr : Nat → Int32} {mDk : Nat → Int32} {mCp : Nat → Int32} {p : Program} {e : Env} {s : State} {m : MethodId} {args : Array Value} {below : List Frame} {meth : Method} {c : Code} (cx : jv_cx p s m args meth c cc_M_visible 7 R_Model (some .boolean) ws_M_visible) (hK : va_K (dC, dI) vwCl (jv_ty cI cA cL) s) (hP : va_P (dC, dI) vwCl (w_model cI q_mo q_mlb_ q_mcl_ q_mus_ q_mwr_ q_mdk_ q_mcp_ mth mar mfu mLb mCl mUs mWr mDk mCp) s.heap) {r : Int32} {k6 : (Int32 × Int32) → Option (Int32)} {y0 : Int32} {y1 : Int32} {y2 : Int32} {y3 : Int32} {y4 : Int32} {y5 : Int32} (hk6 : ∀ (a : Int32 × Int32) (ls : Array Slot), lv_has ls 7 [(0, .ref q_mo), (1, .int y0), (2, .int y1), (3, .int y2), (4, .int a.1), (5, .int a.2)] → k6 a = some r → W p l e rm_M_visible s m args below meth c s.heap [] 0 0 (MQ below (QcRead r) args s 0 0 (fun _ => False)) (F0 m 6 ls [])) {ls : Array Slot} (hl : lv_has ls 7 [(0, .ref q_mo), (1, .int y0), (2, .int y1), (3, .int y2), (4, .int y3), (5, .int y4)]) (hf : f_M_visible_36 mar mLb mDk k6 y0 y1 y2 y3 y4 y5 = some r) : W p l e rm_M_visible s m args below meth c s.heap [] 0 0 (MQ below (QcRead r) args s 0 0 (fun _ => False)) (F0 m 36 ls [.int y5]) := by
  unfold f_M_visible_36 at hf
  obtain ⟨hx, hb, hml, hown, hts, hr, hlocks⟩ := id cx
  refine lv_istore (lv' := [(6, .int y5), (0, .ref q_mo), (1, .int y0), (2, .int y1), (3, .int y2), (4, .int y3), (5, .int y4)]) hx hb d_M_visible_36 hl (by decide) rfl (fun ls hl => ?_)
  refine lv_iload hx hb d_M_visible_38 (lv_at hl 5 rfl) ?_
  refine lv_if_ne (tgt := 58) hx hb d_M_visible_40 (by decide) (fun hc => ?_) (fun hc => ?_)
  · have hf := jv_if hf hc
    refine lv_iconst (v := (1 : Int32)) hx hb d_M_visible_58 (by decide) ?_
    refine lv_goto (tgt := 63) hx hb d_M_visible_59 (by decide) ?_
    refine lv_istore (lv' := [(4, .int (1 : Int32)), (6, .int y5), (0, .ref q_mo), (1, .int y0), (2, .int y1), (3, .int y2), (5, .int y4)]) hx hb d_M_visible_63 hl (by decide) rfl (fun ls hl => ?_)
    refine lv_iinc (k := 6) (v := y4 + (1 : Int32)) (lv' := [(5, .int (y4 + (1 : Int32))), (4, .int (1 : Int32)), (6, .int y5), (0, .ref q_mo), (1, .int y0), (2, .int y1), (3, .int y2)]) hx hb d_M_visible_65 hl rfl (jv_inc _) (by decide) rfl (fun ls hl => ?_)
    refine lv_goto (tgt := 6) hx hb d_M_visible_68 (by decide) ?_
    exact hk6 ((1 : Int32), y4 + (1 : Int32)) _ (lv_sub hl [3, 4, 5, 6, 1, 0] rfl) hf
  · have hf := jv_it hf hc
    refine lv_iload hx hb d_M_visible_43 (lv_at hl 0 rfl) ?_
    refine lv_if_le (tgt := 62) hx hb d_M_visible_45 (by decide) (fun hc => ?_) (fun hc => ?_)
    · have hf := jv_it hf hc
      refine lv_iconst (v := (0 : Int32)) hx hb d_M_visible_62 (by decide) ?_
      refine lv_istore (lv' := [(4, .int (0 : Int32)), (6, .int y5), (0, .ref q_mo), (1, .int y0), (2, .int y1), (3, .int y2), (5, .int y4)]) hx hb d_M_visible_63 hl (by decide) rfl (fun ls hl => ?_)
      refine lv_iinc (k := 6) (v := y4 + (1 : Int32)) (lv' := [(5, .int (y4 + (1 : Int32))), (4, .int (0 : Int32)), (6, .int y5), (0, .ref q_mo), (1, .int y0), (2, .int y1), (3, .int y2)]) hx hb d_M_visible_65 hl rfl (jv_inc _) (by decide) rfl (fun ls hl => ?_)
      refine lv_goto (tgt := 6) hx hb d_M_visible_68 (by decide) ?_
      exact hk6 ((0 : Int32), y4 + (1 : Int32)) _ (lv_sub hl [3, 4, 5, 6, 1, 0] rfl) hf
    · have hf := jv_if hf hc
      refine lv_iload_n hx hb d_M_visible_48 rfl (lv_at hl 4 rfl) ?_
      refine lv_if_eq (tgt := 58) hx hb d_M_visible_49 (by decide) (fun hc => ?_) (fun hc => ?_)
      · have hf := jv_it hf hc
        refine lv_iconst (v := (1 : Int32)) hx hb d_M_visible_58 (by decide) ?_
        refine lv_goto (tgt := 63) hx hb d_M_visible_59 (by decide) ?_
        refine lv_istore (lv' := [(4, .int (1 : Int32)), (6, .int y5), (0, .ref q_mo), (1, .int y0), (2, .int y1), (3, .int y2), (5, .int y4)]) hx hb d_M_visible_63 hl (by decide) rfl (fun ls hl => ?_)
        refine lv_iinc (k := 6) (v := y4 + (1 : Int32)) (lv' := [(5, .int (y4 + (1 : Int32))), (4, .int (1 : Int32)), (6, .int y5), (0, .ref q_mo), (1, .int y0), (2, .int y1), (3, .int y2)]) hx hb d_M_visible_65 hl rfl (jv_inc _) (by decide) rfl (fun ls hl => ?_)
        refine lv_goto (tgt := 6) hx hb d_M_visible_68 (by decide) ?_
        exact hk6 ((1 : Int32), y4 + (1 : Int32)) _ (lv_sub hl [3, 4, 5, 6, 1, 0] rfl) hf
      · have hf := jv_if hf hc
        refine lv_iload hx hb d_M_visible_52 (lv_at hl 0 rfl) ?_
        refine lv_iload_n hx hb d_M_visible_54 rfl (lv_at hl 4 rfl) ?_
        refine lv_icmp_ne (tgt := 62) hx hb d_M_visible_55 (by decide) (fun hc => ?_) (fun hc => ?_)
        · have hf := jv_if hf hc
          refine lv_iconst (v := (0 : Int32)) hx hb d_M_visible_62 (by decide) ?_
          refine lv_istore (lv' := [(4, .int (0 : Int32)), (6, .int y5), (0, .ref q_mo), (1, .int y0), (2, .int y1), (3, .int y2), (5, .int y4)]) hx hb d_M_visible_63 hl (by decide) rfl (fun ls hl => ?_)
          refine lv_iinc (k := 6) (v := y4 + (1 : Int32)) (lv' := [(5, .int (y4 + (1 : Int32))), (4, .int (0 : Int32)), (6, .int y5), (0, .ref q_mo), (1, .int y0), (2, .int y1), (3, .int y2)]) hx hb d_M_visible_65 hl rfl (jv_inc _) (by decide) rfl (fun ls hl => ?_)
          refine lv_goto (tgt := 6) hx hb d_M_visible_68 (by decide) ?_
          exact hk6 ((0 : Int32), y4 + (1 : Int32)) _ (lv_sub hl [3, 4, 5, 6, 1, 0] rfl) hf
        · have hf := jv_it hf hc
          refine lv_iconst (v := (1 : Int32)) hx hb d_M_visible_58 (by decide) ?_
          refine lv_goto (tgt := 63) hx hb d_M_visible_59 (by decide) ?_
          refine lv_istore (lv' := [(4, .int (1 : Int32)), (6, .int y5), (0, .ref q_mo), (1, .int y0), (2, .int y1), (3, .int y2), (5, .int y4)]) hx hb d_M_visible_63 hl (by decide) rfl (fun ls hl => ?_)
          refine lv_iinc (k := 6) (v := y4 + (1 : Int32)) (lv' := [(5, .int (y4 + (1 : Int32))), (4, .int (1 : Int32)), (6, .int y5), (0, .ref q_mo), (1, .int y0), (2, .int y1), (3, .int y2)]) hx hb d_M_visible_65 hl rfl (jv_inc _) (by decide) rfl (fun ls hl => ?_)
          refine lv_goto (tgt := 6) hx hb d_M_visible_68 (by decide) ?_
          exact hk6 ((1 : Int32), y4 + (1 : Int32)) _ (lv_sub hl [3, 4, 5, 6, 1, 0] rfl) hf
def f_M_visible_6 (mar : Int32) (mLb : Nat → Int32) (mDk : Nat → Int32) (y0 : Int32) (y1 : Int32) (y2 : Int32) (k6 : (Int32 × Int32) → Option (Int32)) (a : Int32 × Int32) : Option (Int32) :=
  if mar ≤ a.2 then (if a.1 = 0 ∨ a.1 = 1 then (some a.1) else none) else ((f_M_sees mLb y0 a.2).bind fun x2 => if x2 = 0 then (f_M_visible_36 mar mLb mDk k6 y0 y1 y2 a.1 a.2 (0 : Int32)) else ((f_M_kind mDk a.2 y1).bind fun x4 => f_M_visible_36 mar mLb mDk k6 y0 y1 y2 a.1 a.2 x4))
set_option maxHeartbeats 4000000 in
set_option maxRecDepth 100000 in
theorem b_M_visible_6 {l : Launch} {dC : Nat → ClassId} {dI : Nat → Nat → Nat} {cI cA cL : ClassId} {q_mo q_mlb_ q_mcl_ q_mus_ q_mwr_ q_mdk_ q_mcp_ : Nat} {mth : Int32} {mar : Int32} {mfu : Int32} {mLb : Nat → Int32} {mCl : Nat → Int32} {mUs : Nat → Int32} {mWr : Nat → Int32} {mDk : Nat → Int32} {mCp : Nat → Int32} {p : Program} {e : Env} {s : State} {m : MethodId} {args : Array Value} {below : List Frame} {meth : Method} {c : Code} (cx : jv_cx p s m args meth c cc_M_visible 7 R_Model (some .boolean) ws_M_visible) (hK : va_K (dC, dI) vwCl (jv_ty cI cA cL) s) (hP : va_P (dC, dI) vwCl (w_model cI q_mo q_mlb_ q_mcl_ q_mus_ q_mwr_ q_mdk_ q_mcp_ mth mar mfu mLb mCl mUs mWr mDk mCp) s.heap) {r : Int32} {y0 : Int32} {y1 : Int32} {y2 : Int32} {k6 : (Int32 × Int32) → Option (Int32)} (hk6 : ∀ (a : Int32 × Int32) (ls : Array Slot), lv_has ls 7 [(0, .ref q_mo), (1, .int y0), (2, .int y1), (3, .int y2), (4, .int a.1), (5, .int a.2)] → k6 a = some r → W p l e rm_M_visible s m args below meth c s.heap [] 0 0 (MQ below (QcRead r) args s 0 0 (fun _ => False)) (F0 m 6 ls [])) {a : Int32 × Int32} {ls : Array Slot} (hl : lv_has ls 7 [(0, .ref q_mo), (1, .int y0), (2, .int y1), (3, .int y2), (4, .int a.1), (5, .int a.2)]) (hf : f_M_visible_6 mar mLb mDk y0 y1 y2 k6 a = some r) : W p l e rm_M_visible s m args below meth c s.heap [] 0 0 (MQ below (QcRead r) args s 0 0 (fun _ => False)) (F0 m 6 ls []) := by
  unfold f_M_visible_6 at hf
  obtain ⟨hx, hb, hml, hown, hts, hr, hlocks⟩ := id cx
  refine lv_iload hx hb d_M_visible_6 (lv_at hl 5 rfl) ?_
  refine lv_aload_n hx hb d_M_visible_8 rfl (lv_at hl 0 rfl) ?_
  refine va_get (D := (dC, dI)) (ci := kModel) (v := .int mar) (C := R_Model) (T := T_Model) (N := 9) hx hb hts (fun w h => List.mem_cons_of_mem _ (in_Model w h)) hown hK hP 0 rfl rfl 1 (by decide) (jv_w hts wa_201) (fun _ h9 => h9) rfl d_M_visible_9 ?_
  refine lv_icmp_ge (tgt := 71) hx hb d_M_visible_12 (by decide) (fun hc => ?_) (fun hc => ?_)
  · have hf := jv_it hf hc
    refine lv_iload hx hb d_M_visible_71 (lv_at hl 4 rfl) ?_
    obtain ⟨hb1, hf⟩ := jv_gd hf
    obtain rfl := Option.some.inj hf
    exact W.zret hx hb hr (jv_nb hb1) (fun t ht hW => ⟨rfl, ht⟩) (fun q h => by cases h) d_M_visible_73
  · have hf := jv_if hf hc
    refine lv_aload_n hx hb d_M_visible_15 rfl (lv_at hl 0 rfl) ?_
    refine lv_iload_n hx hb d_M_visible_16 rfl (lv_at hl 1 rfl) ?_
    refine lv_iload hx hb d_M_visible_17 (lv_at hl 5 rfl) ?_
    obtain ⟨x2, g3, hf⟩ := jv_ob hf
    have hPc := hP.sub (ws' := (w_model cI q_mo q_mlb_ q_mcl_ q_mus_ q_mwr_ q_mdk_ q_mcp_ mth mar mfu mLb mCl mUs mWr mDk mCp)) [0, 1, 2, 3, 4, 5, 6] rfl
    refine jv_cs (W.runV (As := [.int y0, .int a.2]) (rest := []) (b := q_mo) ⟨hx, hb, hml, hown, hts⟩ (c_M_sees l dC dI cI cA cL q_mo q_mlb_ q_mcl_ q_mus_ q_mwr_ q_mdk_ q_mcp_ mth mar mfu mLb mCl mUs mWr mDk mCp y0 a.2 x2 g3) (jv_cwV hts wa_219 wa_194 wa_220 wa_221 wa_222 rfl rfl yd_M_sees ⟨Nat.le_of_ble_eq_true rfl, Nat.le_of_ble_eq_true rfl⟩) (jv_preV hK hPc 0 rfl rfl) rfl rfl hl.1 rfl (lv_room (Nat.le_of_ble_eq_true rfl)) d_M_visible_19 ⟨Nat.zero_le _, Nat.zero_le _⟩) ?_
    refine lv_if_eq (tgt := 35) hx hb d_M_visible_22 (by decide) (fun hc => ?_) (fun hc => ?_)
    · have hf := jv_it hf hc
      refine lv_iconst (v := (0 : Int32)) hx hb d_M_visible_35 (by decide) ?_
      exact b_M_visible_36 (y0 := y0) (y1 := y1) (y2 := y2) (y3 := a.1) (y4 := a.2) (y5 := (0 : Int32)) cx hK hP hk6 (lv_sub hl [0, 1, 2, 3, 4, 5] rfl) hf
    · have hf := jv_if hf hc
      refine lv_aload_n hx hb d_M_visible_25 rfl (lv_at hl 0 rfl) ?_
      refine lv_iload hx hb d_M_visible_26 (lv_at hl 5 rfl) ?_
      refine lv_iload_n hx hb d_M_visible_28 rfl (lv_at hl 2 rfl) ?_
      obtain ⟨x4, g5, hf⟩ := jv_ob hf
      have hPc := hP.sub (ws' := (w_model cI q_mo q_mlb_ q_mcl_ q_mus_ q_mwr_ q_mdk_ q_mcp_ mth mar mfu mLb mCl mUs mWr mDk mCp)) [0, 1, 2, 3, 4, 5, 6] rfl
      refine jv_cs (W.runV (As := [.int a.2, .int y1]) (rest := []) (b := q_mo) ⟨hx, hb, hml, hown, hts⟩ (c_M_kind l dC dI cI cA cL q_mo q_mlb_ q_mcl_ q_mus_ q_mwr_ q_mdk_ q_mcp_ mth mar mfu mLb mCl mUs mWr mDk mCp a.2 y1 x4 g5) (jv_cwV hts wa_223 wa_194 wa_224 wa_225 wa_226 rfl rfl yd_M_kind ⟨Nat.le_of_ble_eq_true rfl, Nat.le_of_ble_eq_true rfl⟩) (jv_preV hK hPc 0 rfl rfl) rfl rfl hl.1 rfl (lv_room (Nat.le_of_ble_eq_true rfl)) d_M_visible_29 ⟨Nat.zero_le _, Nat.zero_le _⟩) ?_
      refine lv_goto (tgt := 36) hx hb d_M_visible_32 (by decide) ?_
      exact b_M_visible_36 (y0 := y0) (y1 := y1) (y2 := y2) (y3 := a.1) (y4 := a.2) (y5 := x4) cx hK hP hk6 (lv_sub hl [0, 1, 2, 3, 4, 5] rfl) hf
set_option maxHeartbeats 4000000 in
set_option maxRecDepth 100000 in
theorem l_M_visible_6 {l : Launch} {dC : Nat → ClassId} {dI : Nat → Nat → Nat} {cI cA cL : ClassId} {q_mo q_mlb_ q_mcl_ q_mus_ q_mwr_ q_mdk_ q_mcp_ : Nat} {mth : Int32} {mar : Int32} {mfu : Int32} {mLb : Nat → Int32} {mCl : Nat → Int32} {mUs : Nat → Int32} {mWr : Nat → Int32} {mDk : Nat → Int32} {mCp : Nat → Int32} {p : Program} {e : Env} {s : State} {m : MethodId} {args : Array Value} {below : List Frame} {meth : Method} {c : Code} (cx : jv_cx p s m args meth c cc_M_visible 7 R_Model (some .boolean) ws_M_visible) (hK : va_K (dC, dI) vwCl (jv_ty cI cA cL) s) (hP : va_P (dC, dI) vwCl (w_model cI q_mo q_mlb_ q_mcl_ q_mus_ q_mwr_ q_mdk_ q_mcp_ mth mar mfu mLb mCl mUs mWr mDk mCp) s.heap) {r : Int32} {y0 : Int32} {y1 : Int32} {y2 : Int32} : ∀ n : Nat, ∀ (a : Int32 × Int32) (ls : Array Slot), lv_has ls 7 [(0, .ref q_mo), (1, .int y0), (2, .int y1), (3, .int y2), (4, .int a.1), (5, .int a.2)] → jv_fx (f_M_visible_6 mar mLb mDk y0 y1 y2) n a = some r → W p l e rm_M_visible s m args below meth c s.heap [] 0 0 (MQ below (QcRead r) args s 0 0 (fun _ => False)) (F0 m 6 ls []) := by
  intro n
  induction n with
  | zero => intro a ls hl hf; exact jv_no hf
  | succ n ih => intro a ls hl hf; exact b_M_visible_6 cx hK hP ih hl hf
def f_M_visible_0 (mar : Int32) (mLb : Nat → Int32) (mDk : Nat → Int32) (y0 : Int32) (y1 : Int32) (y2 : Int32) : Option (Int32) :=
  jv_fx (f_M_visible_6 mar mLb mDk y0 y1 y2) 300 ((0 : Int32), (0 : Int32))
set_option maxHeartbeats 4000000 in
set_option maxRecDepth 100000 in
theorem b_M_visible_0 {l : Launch} {dC : Nat → ClassId} {dI : Nat → Nat → Nat} {cI cA cL : ClassId} {q_mo q_mlb_ q_mcl_ q_mus_ q_mwr_ q_mdk_ q_mcp_ : Nat} {mth : Int32} {mar : Int32} {mfu : Int32} {mLb : Nat → Int32} {mCl : Nat → Int32} {mUs : Nat → Int32} {mWr : Nat → Int32} {mDk : Nat → Int32} {mCp : Nat → Int32} {p : Program} {e : Env} {s : State} {m : MethodId} {args : Array Value} {below : List Frame} {meth : Method} {c : Code} (cx : jv_cx p s m args meth c cc_M_visible 7 R_Model (some .boolean) ws_M_visible) (hK : va_K (dC, dI) vwCl (jv_ty cI cA cL) s) (hP : va_P (dC, dI) vwCl (w_model cI q_mo q_mlb_ q_mcl_ q_mus_ q_mwr_ q_mdk_ q_mcp_ mth mar mfu mLb mCl mUs mWr mDk mCp) s.heap) {r : Int32} {y0 : Int32} {y1 : Int32} {y2 : Int32} {ls : Array Slot} (hl : lv_has ls 7 [(0, .ref q_mo), (1, .int y0), (2, .int y1), (3, .int y2)]) (hf : f_M_visible_0 mar mLb mDk y0 y1 y2 = some r) : W p l e rm_M_visible s m args below meth c s.heap [] 0 0 (MQ below (QcRead r) args s 0 0 (fun _ => False)) (F0 m 0 ls []) := by
  unfold f_M_visible_0 at hf
  obtain ⟨hx, hb, hml, hown, hts, hr, hlocks⟩ := id cx
  refine lv_iconst (v := (0 : Int32)) hx hb d_M_visible_0 (by decide) ?_
  refine lv_istore (lv' := [(4, .int (0 : Int32)), (0, .ref q_mo), (1, .int y0), (2, .int y1), (3, .int y2)]) hx hb d_M_visible_1 hl (by decide) rfl (fun ls hl => ?_)
  refine lv_iconst (v := (0 : Int32)) hx hb d_M_visible_3 (by decide) ?_
  refine lv_istore (lv' := [(5, .int (0 : Int32)), (4, .int (0 : Int32)), (0, .ref q_mo), (1, .int y0), (2, .int y1), (3, .int y2)]) hx hb d_M_visible_4 hl (by decide) rfl (fun ls hl => ?_)
  exact l_M_visible_6 (y0 := y0) (y1 := y1) (y2 := y2) cx hK hP 300 ((0 : Int32), (0 : Int32)) _ (lv_sub hl [2, 3, 4, 5, 1, 0] rfl) hf
def f_M_visible (mar : Int32) (mLb : Nat → Int32) (mDk : Nat → Int32) (a0 : Int32) (a1 : Int32) (a2 : Int32) : Option (Int32) := f_M_visible_0 mar mLb mDk a0 a1 a2
set_option maxHeartbeats 4000000 in
set_option maxRecDepth 100000 in
theorem c_M_visible (l : Launch) (dC : Nat → ClassId) (dI : Nat → Nat → Nat) (cI cA cL : ClassId) (q_mo q_mlb_ q_mcl_ q_mus_ q_mwr_ q_mdk_ q_mcp_ : Nat) (mth : Int32) (mar : Int32) (mfu : Int32) (mLb : Nat → Int32) (mCl : Nat → Int32) (mUs : Nat → Int32) (mWr : Nat → Int32) (mDk : Nat → Int32) (mCp : Nat → Int32) (a0 : Int32) (a1 : Int32) (a2 : Int32) (r : Int32) (hf : f_M_visible mar mLb mDk a0 a1 a2 = some r) : Met l y_M_visible ws_M_visible rm_M_visible (jv_Pr [.ref q_mo, .int a0, .int a1, .int a2] (dC, dI) (jv_ty cI cA cL) (w_model cI q_mo q_mlb_ q_mcl_ q_mus_ q_mwr_ q_mdk_ q_mcp_ mth mar mfu mLb mCl mUs mWr mDk mCp)) (QcRead r) 0 0 (fun _ => False) := by
  refine Met.ofW (cc := cc_M_visible) (maxL := 7) (ret := (some .boolean)) (by decide) rfl ?_
  intro p e s m args below meth c s₁ B hml hv
  obtain ⟨rfl, hP, hK⟩ := hv
  have cx : jv_cx p s m _ meth c cc_M_visible 7 R_Model (some .boolean) ws_M_visible := ⟨B.exec, B.bytes, hml, findClass_of_methodNamed B.named, atoms_spec (ws := ws_M_visible) B.pre, B.returns, B.notSynchronized⟩
  have hl := lv_entry ([.ref q_mo, .int a0, .int a1, .int a2]) (n := 7) (Nat.le_of_ble_eq_true rfl)
  rw [lg_entry_eq]
  generalize (lg_sl ([.ref q_mo, .int a0, .int a1, .int a2]) ++ List.replicate (7 - (lg_sl ([.ref q_mo, .int a0, .int a1, .int a2])).length) Slot.unset).toArray = ls at hl ⊢
  have hl : lv_has ls 7 [(0, .ref q_mo), (1, .int a0), (2, .int a1), (3, .int a2)] := hl
  exact b_M_visible_0 (y0 := a0) (y1 := a1) (y2 := a2) cx hK hP (lv_sub hl [0, 1, 2, 3] rfl) hf
theorem d_M_freeInodes_0 : decode cc_M_freeInodes 0 = .ok (.iconst 0, 1) := by decide +kernel
theorem d_M_freeInodes_1 : decode cc_M_freeInodes 1 = .ok (.istore_n 2, 1) := by decide +kernel
theorem d_M_freeInodes_2 : decode cc_M_freeInodes 2 = .ok (.iconst 0, 1) := by decide +kernel
theorem d_M_freeInodes_3 : decode cc_M_freeInodes 3 = .ok (.istore_n 3, 1) := by decide +kernel
theorem d_M_freeInodes_4 : decode cc_M_freeInodes 4 = .ok (.iload_n 3, 1) := by decide +kernel
theorem d_M_freeInodes_5 : decode cc_M_freeInodes 5 = .ok (.bipush 8, 2) := by decide +kernel
theorem d_M_freeInodes_7 : decode cc_M_freeInodes 7 = .ok (.if_icmp .ge 27, 3) := by decide +kernel
theorem d_M_freeInodes_34 : decode cc_M_freeInodes 34 = .ok (.iload_n 2, 1) := by decide +kernel
theorem d_M_freeInodes_35 : decode cc_M_freeInodes 35 = .ok (.ireturn, 1) := by decide +kernel
theorem d_M_freeInodes_10 : decode cc_M_freeInodes 10 = .ok (.iload_n 2, 1) := by decide +kernel
theorem d_M_freeInodes_11 : decode cc_M_freeInodes 11 = .ok (.aload_n 0, 1) := by decide +kernel
theorem d_M_freeInodes_12 : decode cc_M_freeInodes 12 = .ok (.iload_n 1, 1) := by decide +kernel
theorem d_M_freeInodes_13 : decode cc_M_freeInodes 13 = .ok (.iload_n 3, 1) := by decide +kernel
theorem d_M_freeInodes_14 : decode cc_M_freeInodes 14 = .ok (.iconst 0, 1) := by decide +kernel
theorem d_M_freeInodes_15 : decode cc_M_freeInodes 15 = .ok (.invokevirtual 64, 3) := by decide +kernel
theorem d_M_freeInodes_18 : decode cc_M_freeInodes 18 = .ok (.ifCond .ne 7, 3) := by decide +kernel
theorem d_M_freeInodes_25 : decode cc_M_freeInodes 25 = .ok (.iconst 0, 1) := by decide +kernel
theorem d_M_freeInodes_26 : decode cc_M_freeInodes 26 = .ok (.iadd, 1) := by decide +kernel
theorem d_M_freeInodes_27 : decode cc_M_freeInodes 27 = .ok (.istore_n 2, 1) := by decide +kernel
theorem d_M_freeInodes_28 : decode cc_M_freeInodes 28 = .ok (.iinc 3 1, 3) := by decide +kernel
theorem d_M_freeInodes_31 : decode cc_M_freeInodes 31 = .ok (.goto (-27), 3) := by decide +kernel
theorem d_M_freeInodes_21 : decode cc_M_freeInodes 21 = .ok (.iconst 1, 1) := by decide +kernel
theorem d_M_freeInodes_22 : decode cc_M_freeInodes 22 = .ok (.goto 4, 3) := by decide +kernel
def f_M_freeInodes_4 (mDk : Nat → Int32) (y0 : Int32) (k4 : (Int32 × Int32) → Option (Int32)) (a : Int32 × Int32) : Option (Int32) :=
  if (8 : Int32) ≤ a.2 then (some a.1) else ((f_M_inode mDk y0 a.2 (0 : Int32)).bind fun x1 => if x1 = 0 then (k4 (a.1 + (1 : Int32), a.2 + (1 : Int32))) else (k4 (a.1 + (0 : Int32), a.2 + (1 : Int32))))
set_option maxHeartbeats 4000000 in
set_option maxRecDepth 100000 in
theorem b_M_freeInodes_4 {l : Launch} {dC : Nat → ClassId} {dI : Nat → Nat → Nat} {cI cA cL : ClassId} {q_mo q_mlb_ q_mcl_ q_mus_ q_mwr_ q_mdk_ q_mcp_ : Nat} {mth : Int32} {mar : Int32} {mfu : Int32} {mLb : Nat → Int32} {mCl : Nat → Int32} {mUs : Nat → Int32} {mWr : Nat → Int32} {mDk : Nat → Int32} {mCp : Nat → Int32} {p : Program} {e : Env} {s : State} {m : MethodId} {args : Array Value} {below : List Frame} {meth : Method} {c : Code} (cx : jv_cx p s m args meth c cc_M_freeInodes 4 R_Model (some .int) ws_M_freeInodes) (hK : va_K (dC, dI) vwCl (jv_ty cI cA cL) s) (hP : va_P (dC, dI) vwCl (w_model cI q_mo q_mlb_ q_mcl_ q_mus_ q_mwr_ q_mdk_ q_mcp_ mth mar mfu mLb mCl mUs mWr mDk mCp) s.heap) {r : Int32} {y0 : Int32} {k4 : (Int32 × Int32) → Option (Int32)} (hk4 : ∀ (a : Int32 × Int32) (ls : Array Slot), lv_has ls 4 [(0, .ref q_mo), (1, .int y0), (2, .int a.1), (3, .int a.2)] → k4 a = some r → W p l e rm_M_freeInodes s m args below meth c s.heap [] 0 0 (MQ below (QcRead r) args s 0 0 (fun _ => False)) (F0 m 4 ls [])) {a : Int32 × Int32} {ls : Array Slot} (hl : lv_has ls 4 [(0, .ref q_mo), (1, .int y0), (2, .int a.1), (3, .int a.2)]) (hf : f_M_freeInodes_4 mDk y0 k4 a = some r) : W p l e rm_M_freeInodes s m args below meth c s.heap [] 0 0 (MQ below (QcRead r) args s 0 0 (fun _ => False)) (F0 m 4 ls []) := by
  unfold f_M_freeInodes_4 at hf
  obtain ⟨hx, hb, hml, hown, hts, hr, hlocks⟩ := id cx
  refine lv_iload_n hx hb d_M_freeInodes_4 rfl (lv_at hl 3 rfl) ?_
  refine lv_bipush (v := (8 : Int32)) hx hb d_M_freeInodes_5 (by decide) ?_
  refine lv_icmp_ge (tgt := 34) hx hb d_M_freeInodes_7 (by decide) (fun hc => ?_) (fun hc => ?_)
  · have hf := jv_it hf hc
    refine lv_iload_n hx hb d_M_freeInodes_34 rfl (lv_at hl 2 rfl) ?_
    obtain rfl := Option.some.inj hf
    exact W.iret hx hb hr (fun t ht hW => ⟨rfl, ht⟩) (fun q h => by cases h) d_M_freeInodes_35
  · have hf := jv_if hf hc
    refine lv_iload_n hx hb d_M_freeInodes_10 rfl (lv_at hl 2 rfl) ?_
    refine lv_aload_n hx hb d_M_freeInodes_11 rfl (lv_at hl 0 rfl) ?_
    refine lv_iload_n hx hb d_M_freeInodes_12 rfl (lv_at hl 1 rfl) ?_
    refine lv_iload_n hx hb d_M_freeInodes_13 rfl (lv_at hl 3 rfl) ?_
    refine lv_iconst (v := (0 : Int32)) hx hb d_M_freeInodes_14 (by decide) ?_
    obtain ⟨x1, g2, hf⟩ := jv_ob hf
    have hPc := hP.sub (ws' := (w_model cI q_mo q_mlb_ q_mcl_ q_mus_ q_mwr_ q_mdk_ q_mcp_ mth mar mfu mLb mCl mUs mWr mDk mCp)) [0, 1, 2, 3, 4, 5, 6] rfl
    refine jv_cs (W.runV (As := [.int y0, .int a.2, .int (0 : Int32)]) (rest := [.int a.1]) (b := q_mo) ⟨hx, hb, hml, hown, hts⟩ (c_M_inode l dC dI cI cA cL q_mo q_mlb_ q_mcl_ q_mus_ q_mwr_ q_mdk_ q_mcp_ mth mar mfu mLb mCl mUs mWr mDk mCp y0 a.2 (0 : Int32) x1 g2) (jv_cwV hts wa_207 wa_194 wa_208 wa_209 wa_210 rfl rfl yd_M_inode ⟨Nat.le_of_ble_eq_true rfl, Nat.le_of_ble_eq_true rfl⟩) (jv_preV hK hPc 0 rfl rfl) rfl rfl hl.1 rfl (lv_room (Nat.le_of_ble_eq_true rfl)) d_M_freeInodes_15 ⟨Nat.zero_le _, Nat.zero_le _⟩) ?_
    refine lv_if_ne (tgt := 25) hx hb d_M_freeInodes_18 (by decide) (fun hc => ?_) (fun hc => ?_)
    · have hf := jv_if hf hc
      refine lv_iconst (v := (0 : Int32)) hx hb d_M_freeInodes_25 (by decide) ?_
      refine lv_iadd hx hb d_M_freeInodes_26 ?_
      refine lv_istore_n (lv' := [(2, .int (a.1 + (0 : Int32))), (0, .ref q_mo), (1, .int y0), (3, .int a.2)]) hx hb d_M_freeInodes_27 rfl hl (by decide) rfl (fun ls hl => ?_)
      refine lv_iinc (k := 3) (v := a.2 + (1 : Int32)) (lv' := [(3, .int (a.2 + (1 : Int32))), (2, .int (a.1 + (0 : Int32))), (0, .ref q_mo), (1, .int y0)]) hx hb d_M_freeInodes_28 hl rfl (jv_inc _) (by decide) rfl (fun ls hl => ?_)
      refine lv_goto (tgt := 4) hx hb d_M_freeInodes_31 (by decide) ?_
      exact hk4 (a.1 + (0 : Int32), a.2 + (1 : Int32)) _ (lv_sub hl [2, 3, 1, 0] rfl) hf
    · have hf := jv_it hf hc
      refine lv_iconst (v := (1 : Int32)) hx hb d_M_freeInodes_21 (by decide) ?_
      refine lv_goto (tgt := 26) hx hb d_M_freeInodes_22 (by decide) ?_
      refine lv_iadd hx hb d_M_freeInodes_26 ?_
      refine lv_istore_n (lv' := [(2, .int (a.1 + (1 : Int32))), (0, .ref q_mo), (1, .int y0), (3, .int a.2)]) hx hb d_M_freeInodes_27 rfl hl (by decide) rfl (fun ls hl => ?_)
      refine lv_iinc (k := 3) (v := a.2 + (1 : Int32)) (lv' := [(3, .int (a.2 + (1 : Int32))), (2, .int (a.1 + (1 : Int32))), (0, .ref q_mo), (1, .int y0)]) hx hb d_M_freeInodes_28 hl rfl (jv_inc _) (by decide) rfl (fun ls hl => ?_)
      refine lv_goto (tgt := 4) hx hb d_M_freeInodes_31 (by decide) ?_
      exact hk4 (a.1 + (1 : Int32), a.2 + (1 : Int32)) _ (lv_sub hl [2, 3, 1, 0] rfl) hf
set_option maxHeartbeats 4000000 in
set_option maxRecDepth 100000 in
theorem l_M_freeInodes_4 {l : Launch} {dC : Nat → ClassId} {dI : Nat → Nat → Nat} {cI cA cL : ClassId} {q_mo q_mlb_ q_mcl_ q_mus_ q_mwr_ q_mdk_ q_mcp_ : Nat} {mth : Int32} {mar : Int32} {mfu : Int32} {mLb : Nat → Int32} {mCl : Nat → Int32} {mUs : Nat → Int32} {mWr : Nat → Int32} {mDk : Nat → Int32} {mCp : Nat → Int32} {p : Program} {e : Env} {s : State} {m : MethodId} {args : Array Value} {below : List Frame} {meth : Method} {c : Code} (cx : jv_cx p s m args meth c cc_M_freeInodes 4 R_Model (some .int) ws_M_freeInodes) (hK : va_K (dC, dI) vwCl (jv_ty cI cA cL) s) (hP : va_P (dC, dI) vwCl (w_model cI q_mo q_mlb_ q_mcl_ q_mus_ q_mwr_ q_mdk_ q_mcp_ mth mar mfu mLb mCl mUs mWr mDk mCp) s.heap) {r : Int32} {y0 : Int32} : ∀ n : Nat, ∀ (a : Int32 × Int32) (ls : Array Slot), lv_has ls 4 [(0, .ref q_mo), (1, .int y0), (2, .int a.1), (3, .int a.2)] → jv_fx (f_M_freeInodes_4 mDk y0) n a = some r → W p l e rm_M_freeInodes s m args below meth c s.heap [] 0 0 (MQ below (QcRead r) args s 0 0 (fun _ => False)) (F0 m 4 ls []) := by
  intro n
  induction n with
  | zero => intro a ls hl hf; exact jv_no hf
  | succ n ih => intro a ls hl hf; exact b_M_freeInodes_4 cx hK hP ih hl hf
def f_M_freeInodes_0 (mDk : Nat → Int32) (y0 : Int32) : Option (Int32) :=
  jv_fx (f_M_freeInodes_4 mDk y0) 300 ((0 : Int32), (0 : Int32))
set_option maxHeartbeats 4000000 in
set_option maxRecDepth 100000 in
theorem b_M_freeInodes_0 {l : Launch} {dC : Nat → ClassId} {dI : Nat → Nat → Nat} {cI cA cL : ClassId} {q_mo q_mlb_ q_mcl_ q_mus_ q_mwr_ q_mdk_ q_mcp_ : Nat} {mth : Int32} {mar : Int32} {mfu : Int32} {mLb : Nat → Int32} {mCl : Nat → Int32} {mUs : Nat → Int32} {mWr : Nat → Int32} {mDk : Nat → Int32} {mCp : Nat → Int32} {p : Program} {e : Env} {s : State} {m : MethodId} {args : Array Value} {below : List Frame} {meth : Method} {c : Code} (cx : jv_cx p s m args meth c cc_M_freeInodes 4 R_Model (some .int) ws_M_freeInodes) (hK : va_K (dC, dI) vwCl (jv_ty cI cA cL) s) (hP : va_P (dC, dI) vwCl (w_model cI q_mo q_mlb_ q_mcl_ q_mus_ q_mwr_ q_mdk_ q_mcp_ mth mar mfu mLb mCl mUs mWr mDk mCp) s.heap) {r : Int32} {y0 : Int32} {ls : Array Slot} (hl : lv_has ls 4 [(0, .ref q_mo), (1, .int y0)]) (hf : f_M_freeInodes_0 mDk y0 = some r) : W p l e rm_M_freeInodes s m args below meth c s.heap [] 0 0 (MQ below (QcRead r) args s 0 0 (fun _ => False)) (F0 m 0 ls []) := by
  unfold f_M_freeInodes_0 at hf
  obtain ⟨hx, hb, hml, hown, hts, hr, hlocks⟩ := id cx
  refine lv_iconst (v := (0 : Int32)) hx hb d_M_freeInodes_0 (by decide) ?_
  refine lv_istore_n (lv' := [(2, .int (0 : Int32)), (0, .ref q_mo), (1, .int y0)]) hx hb d_M_freeInodes_1 rfl hl (by decide) rfl (fun ls hl => ?_)
  refine lv_iconst (v := (0 : Int32)) hx hb d_M_freeInodes_2 (by decide) ?_
  refine lv_istore_n (lv' := [(3, .int (0 : Int32)), (2, .int (0 : Int32)), (0, .ref q_mo), (1, .int y0)]) hx hb d_M_freeInodes_3 rfl hl (by decide) rfl (fun ls hl => ?_)
  exact l_M_freeInodes_4 (y0 := y0) cx hK hP 300 ((0 : Int32), (0 : Int32)) _ (lv_sub hl [2, 3, 1, 0] rfl) hf
def f_M_freeInodes (mDk : Nat → Int32) (a0 : Int32) : Option (Int32) := f_M_freeInodes_0 mDk a0
set_option maxHeartbeats 4000000 in
set_option maxRecDepth 100000 in
theorem c_M_freeInodes (l : Launch) (dC : Nat → ClassId) (dI : Nat → Nat → Nat) (cI cA cL : ClassId) (q_mo q_mlb_ q_mcl_ q_mus_ q_mwr_ q_mdk_ q_mcp_ : Nat) (mth : Int32) (mar : Int32) (mfu : Int32) (mLb : Nat → Int32) (mCl : Nat → Int32) (mUs : Nat → Int32) (mWr : Nat → Int32) (mDk : Nat → Int32) (mCp : Nat → Int32) (a0 : Int32) (r : Int32) (hf : f_M_freeInodes mDk a0 = some r) : Met l y_M_freeInodes ws_M_freeInodes rm_M_freeInodes (jv_Pr [.ref q_mo, .int a0] (dC, dI) (jv_ty cI cA cL) (w_model cI q_mo q_mlb_ q_mcl_ q_mus_ q_mwr_ q_mdk_ q_mcp_ mth mar mfu mLb mCl mUs mWr mDk mCp)) (QcRead r) 0 0 (fun _ => False) := by
  refine Met.ofW (cc := cc_M_freeInodes) (maxL := 4) (ret := (some .int)) (by decide) rfl ?_
  intro p e s m args below meth c s₁ B hml hv
  obtain ⟨rfl, hP, hK⟩ := hv
  have cx : jv_cx p s m _ meth c cc_M_freeInodes 4 R_Model (some .int) ws_M_freeInodes := ⟨B.exec, B.bytes, hml, findClass_of_methodNamed B.named, atoms_spec (ws := ws_M_freeInodes) B.pre, B.returns, B.notSynchronized⟩
  have hl := lv_entry ([.ref q_mo, .int a0]) (n := 4) (Nat.le_of_ble_eq_true rfl)
  rw [lg_entry_eq]
  generalize (lg_sl ([.ref q_mo, .int a0]) ++ List.replicate (4 - (lg_sl ([.ref q_mo, .int a0])).length) Slot.unset).toArray = ls at hl ⊢
  have hl : lv_has ls 4 [(0, .ref q_mo), (1, .int a0)] := hl
  exact b_M_freeInodes_0 (y0 := a0) cx hK hP (lv_sub hl [0, 1] rfl) hf
theorem d_M_freeBlocks_0 : decode cc_M_freeBlocks 0 = .ok (.iconst 0, 1) := by decide +kernel
theorem d_M_freeBlocks_1 : decode cc_M_freeBlocks 1 = .ok (.istore_n 2, 1) := by decide +kernel
theorem d_M_freeBlocks_2 : decode cc_M_freeBlocks 2 = .ok (.iconst 0, 1) := by decide +kernel
theorem d_M_freeBlocks_3 : decode cc_M_freeBlocks 3 = .ok (.istore_n 3, 1) := by decide +kernel
theorem d_M_freeBlocks_4 : decode cc_M_freeBlocks 4 = .ok (.iload_n 3, 1) := by decide +kernel
theorem d_M_freeBlocks_5 : decode cc_M_freeBlocks 5 = .ok (.bipush 20, 2) := by decide +kernel
theorem d_M_freeBlocks_7 : decode cc_M_freeBlocks 7 = .ok (.if_icmp .ge 34, 3) := by decide +kernel
theorem d_M_freeBlocks_41 : decode cc_M_freeBlocks 41 = .ok (.iload_n 2, 1) := by decide +kernel
theorem d_M_freeBlocks_42 : decode cc_M_freeBlocks 42 = .ok (.ireturn, 1) := by decide +kernel
theorem d_M_freeBlocks_10 : decode cc_M_freeBlocks 10 = .ok (.iload_n 2, 1) := by decide +kernel
theorem d_M_freeBlocks_11 : decode cc_M_freeBlocks 11 = .ok (.aload_n 0, 1) := by decide +kernel
theorem d_M_freeBlocks_12 : decode cc_M_freeBlocks 12 = .ok (.getfield 22, 3) := by decide +kernel
theorem d_M_freeBlocks_15 : decode cc_M_freeBlocks 15 = .ok (.sipush 232, 3) := by decide +kernel
theorem d_M_freeBlocks_18 : decode cc_M_freeBlocks 18 = .ok (.iload_n 1, 1) := by decide +kernel
theorem d_M_freeBlocks_19 : decode cc_M_freeBlocks 19 = .ok (.imul, 1) := by decide +kernel
theorem d_M_freeBlocks_20 : decode cc_M_freeBlocks 20 = .ok (.iaload, 1) := by decide +kernel
theorem d_M_freeBlocks_21 : decode cc_M_freeBlocks 21 = .ok (.iload_n 3, 1) := by decide +kernel
theorem d_M_freeBlocks_22 : decode cc_M_freeBlocks 22 = .ok (.ishr, 1) := by decide +kernel
theorem d_M_freeBlocks_23 : decode cc_M_freeBlocks 23 = .ok (.iconst 1, 1) := by decide +kernel
theorem d_M_freeBlocks_24 : decode cc_M_freeBlocks 24 = .ok (.iand, 1) := by decide +kernel
theorem d_M_freeBlocks_25 : decode cc_M_freeBlocks 25 = .ok (.ifCond .ne 7, 3) := by decide +kernel
theorem d_M_freeBlocks_32 : decode cc_M_freeBlocks 32 = .ok (.iconst 0, 1) := by decide +kernel
theorem d_M_freeBlocks_33 : decode cc_M_freeBlocks 33 = .ok (.iadd, 1) := by decide +kernel
theorem d_M_freeBlocks_34 : decode cc_M_freeBlocks 34 = .ok (.istore_n 2, 1) := by decide +kernel
theorem d_M_freeBlocks_35 : decode cc_M_freeBlocks 35 = .ok (.iinc 3 1, 3) := by decide +kernel
theorem d_M_freeBlocks_38 : decode cc_M_freeBlocks 38 = .ok (.goto (-34), 3) := by decide +kernel
theorem d_M_freeBlocks_28 : decode cc_M_freeBlocks 28 = .ok (.iconst 1, 1) := by decide +kernel
theorem d_M_freeBlocks_29 : decode cc_M_freeBlocks 29 = .ok (.goto 4, 3) := by decide +kernel
def f_M_freeBlocks_4 (mDk : Nat → Int32) (y0 : Int32) (k4 : (Int32 × Int32) → Option (Int32)) (a : Int32 × Int32) : Option (Int32) :=
  if (20 : Int32) ≤ a.2 then (some a.1) else ((jv_ga mDk 1392 ((232 : Int32) * y0)).bind fun x1 => if ((x1 >>> (a.2 &&& 31)) &&& (1 : Int32)) = 0 then (k4 (a.1 + (1 : Int32), a.2 + (1 : Int32))) else (k4 (a.1 + (0 : Int32), a.2 + (1 : Int32))))
set_option maxHeartbeats 4000000 in
set_option maxRecDepth 100000 in
theorem b_M_freeBlocks_4 {l : Launch} {dC : Nat → ClassId} {dI : Nat → Nat → Nat} {cI cA cL : ClassId} {q_mo q_mlb_ q_mcl_ q_mus_ q_mwr_ q_mdk_ q_mcp_ : Nat} {mth : Int32} {mar : Int32} {mfu : Int32} {mLb : Nat → Int32} {mCl : Nat → Int32} {mUs : Nat → Int32} {mWr : Nat → Int32} {mDk : Nat → Int32} {mCp : Nat → Int32} {p : Program} {e : Env} {s : State} {m : MethodId} {args : Array Value} {below : List Frame} {meth : Method} {c : Code} (cx : jv_cx p s m args meth c cc_M_freeBlocks 4 R_Model (some .int) ws_M_freeBlocks) (hK : va_K (dC, dI) vwCl (jv_ty cI cA cL) s) (hP : va_P (dC, dI) vwCl (w_model cI q_mo q_mlb_ q_mcl_ q_mus_ q_mwr_ q_mdk_ q_mcp_ mth mar mfu mLb mCl mUs mWr mDk mCp) s.heap) {r : Int32} {y0 : Int32} {k4 : (Int32 × Int32) → Option (Int32)} (hk4 : ∀ (a : Int32 × Int32) (ls : Array Slot), lv_has ls 4 [(0, .ref q_mo), (1, .int y0), (2, .int a.1), (3, .int a.2)] → k4 a = some r → W p l e rm_M_freeBlocks s m args below meth c s.heap [] 0 0 (MQ below (QcRead r) args s 0 0 (fun _ => False)) (F0 m 4 ls [])) {a : Int32 × Int32} {ls : Array Slot} (hl : lv_has ls 4 [(0, .ref q_mo), (1, .int y0), (2, .int a.1), (3, .int a.2)]) (hf : f_M_freeBlocks_4 mDk y0 k4 a = some r) : W p l e rm_M_freeBlocks s m args below meth c s.heap [] 0 0 (MQ below (QcRead r) args s 0 0 (fun _ => False)) (F0 m 4 ls []) := by
  unfold f_M_freeBlocks_4 at hf
  obtain ⟨hx, hb, hml, hown, hts, hr, hlocks⟩ := id cx
  refine lv_iload_n hx hb d_M_freeBlocks_4 rfl (lv_at hl 3 rfl) ?_
  refine lv_bipush (v := (20 : Int32)) hx hb d_M_freeBlocks_5 (by decide) ?_
  refine lv_icmp_ge (tgt := 41) hx hb d_M_freeBlocks_7 (by decide) (fun hc => ?_) (fun hc => ?_)
  · have hf := jv_it hf hc
    refine lv_iload_n hx hb d_M_freeBlocks_41 rfl (lv_at hl 2 rfl) ?_
    obtain rfl := Option.some.inj hf
    exact W.iret hx hb hr (fun t ht hW => ⟨rfl, ht⟩) (fun q h => by cases h) d_M_freeBlocks_42
  · have hf := jv_if hf hc
    refine lv_iload_n hx hb d_M_freeBlocks_10 rfl (lv_at hl 2 rfl) ?_
    refine lv_aload_n hx hb d_M_freeBlocks_11 rfl (lv_at hl 0 rfl) ?_
    refine va_get (D := (dC, dI)) (ci := kModel) (v := .ref q_mdk_) (C := R_Model) (T := T_Model) (N := 9) hx hb hts (fun w h => List.mem_cons_of_mem _ (in_Model w h)) hown hK hP 0 rfl rfl 6 (by decide) (jv_w hts wa_203) (fun _ h9 => h9) rfl d_M_freeBlocks_12 ?_
    refine lv_sipush (v := (232 : Int32)) hx hb d_M_freeBlocks_15 (by decide) ?_
    refine lv_iload_n hx hb d_M_freeBlocks_18 rfl (lv_at hl 1 rfl) ?_
    refine lv_imul hx hb d_M_freeBlocks_19 ?_
    obtain ⟨x1, g2, hf⟩ := jv_ob hf
    refine jv_iald hx hb hK hP 5 0 rfl rfl g2 d_M_freeBlocks_20 ?_
    refine lv_iload_n hx hb d_M_freeBlocks_21 rfl (lv_at hl 3 rfl) ?_
    refine lv_ishr hx hb d_M_freeBlocks_22 ?_
    refine lv_iconst (v := (1 : Int32)) hx hb d_M_freeBlocks_23 (by decide) ?_
    refine lv_iand hx hb d_M_freeBlocks_24 ?_
    refine lv_if_ne (tgt := 32) hx hb d_M_freeBlocks_25 (by decide) (fun hc => ?_) (fun hc => ?_)
    · have hf := jv_if hf hc
      refine lv_iconst (v := (0 : Int32)) hx hb d_M_freeBlocks_32 (by decide) ?_
      refine lv_iadd hx hb d_M_freeBlocks_33 ?_
      refine lv_istore_n (lv' := [(2, .int (a.1 + (0 : Int32))), (0, .ref q_mo), (1, .int y0), (3, .int a.2)]) hx hb d_M_freeBlocks_34 rfl hl (by decide) rfl (fun ls hl => ?_)
      refine lv_iinc (k := 3) (v := a.2 + (1 : Int32)) (lv' := [(3, .int (a.2 + (1 : Int32))), (2, .int (a.1 + (0 : Int32))), (0, .ref q_mo), (1, .int y0)]) hx hb d_M_freeBlocks_35 hl rfl (jv_inc _) (by decide) rfl (fun ls hl => ?_)
      refine lv_goto (tgt := 4) hx hb d_M_freeBlocks_38 (by decide) ?_
      exact hk4 (a.1 + (0 : Int32), a.2 + (1 : Int32)) _ (lv_sub hl [2, 3, 1, 0] rfl) hf
    · have hf := jv_it hf hc
      refine lv_iconst (v := (1 : Int32)) hx hb d_M_freeBlocks_28 (by decide) ?_
      refine lv_goto (tgt := 33) hx hb d_M_freeBlocks_29 (by decide) ?_
      refine lv_iadd hx hb d_M_freeBlocks_33 ?_
      refine lv_istore_n (lv' := [(2, .int (a.1 + (1 : Int32))), (0, .ref q_mo), (1, .int y0), (3, .int a.2)]) hx hb d_M_freeBlocks_34 rfl hl (by decide) rfl (fun ls hl => ?_)
      refine lv_iinc (k := 3) (v := a.2 + (1 : Int32)) (lv' := [(3, .int (a.2 + (1 : Int32))), (2, .int (a.1 + (1 : Int32))), (0, .ref q_mo), (1, .int y0)]) hx hb d_M_freeBlocks_35 hl rfl (jv_inc _) (by decide) rfl (fun ls hl => ?_)
      refine lv_goto (tgt := 4) hx hb d_M_freeBlocks_38 (by decide) ?_
      exact hk4 (a.1 + (1 : Int32), a.2 + (1 : Int32)) _ (lv_sub hl [2, 3, 1, 0] rfl) hf
set_option maxHeartbeats 4000000 in
set_option maxRecDepth 100000 in
theorem l_M_freeBlocks_4 {l : Launch} {dC : Nat → ClassId} {dI : Nat → Nat → Nat} {cI cA cL : ClassId} {q_mo q_mlb_ q_mcl_ q_mus_ q_mwr_ q_mdk_ q_mcp_ : Nat} {mth : Int32} {mar : Int32} {mfu : Int32} {mLb : Nat → Int32} {mCl : Nat → Int32} {mUs : Nat → Int32} {mWr : Nat → Int32} {mDk : Nat → Int32} {mCp : Nat → Int32} {p : Program} {e : Env} {s : State} {m : MethodId} {args : Array Value} {below : List Frame} {meth : Method} {c : Code} (cx : jv_cx p s m args meth c cc_M_freeBlocks 4 R_Model (some .int) ws_M_freeBlocks) (hK : va_K (dC, dI) vwCl (jv_ty cI cA cL) s) (hP : va_P (dC, dI) vwCl (w_model cI q_mo q_mlb_ q_mcl_ q_mus_ q_mwr_ q_mdk_ q_mcp_ mth mar mfu mLb mCl mUs mWr mDk mCp) s.heap) {r : Int32} {y0 : Int32} : ∀ n : Nat, ∀ (a : Int32 × Int32) (ls : Array Slot), lv_has ls 4 [(0, .ref q_mo), (1, .int y0), (2, .int a.1), (3, .int a.2)] → jv_fx (f_M_freeBlocks_4 mDk y0) n a = some r → W p l e rm_M_freeBlocks s m args below meth c s.heap [] 0 0 (MQ below (QcRead r) args s 0 0 (fun _ => False)) (F0 m 4 ls []) := by
  intro n
  induction n with
  | zero => intro a ls hl hf; exact jv_no hf
  | succ n ih => intro a ls hl hf; exact b_M_freeBlocks_4 cx hK hP ih hl hf
def f_M_freeBlocks_0 (mDk : Nat → Int32) (y0 : Int32) : Option (Int32) :=
  jv_fx (f_M_freeBlocks_4 mDk y0) 300 ((0 : Int32), (0 : Int32))
set_option maxHeartbeats 4000000 in
set_option maxRecDepth 100000 in
theorem b_M_freeBlocks_0 {l : Launch} {dC : Nat → ClassId} {dI : Nat → Nat → Nat} {cI cA cL : ClassId} {q_mo q_mlb_ q_mcl_ q_mus_ q_mwr_ q_mdk_ q_mcp_ : Nat} {mth : Int32} {mar : Int32} {mfu : Int32} {mLb : Nat → Int32} {mCl : Nat → Int32} {mUs : Nat → Int32} {mWr : Nat → Int32} {mDk : Nat → Int32} {mCp : Nat → Int32} {p : Program} {e : Env} {s : State} {m : MethodId} {args : Array Value} {below : List Frame} {meth : Method} {c : Code} (cx : jv_cx p s m args meth c cc_M_freeBlocks 4 R_Model (some .int) ws_M_freeBlocks) (hK : va_K (dC, dI) vwCl (jv_ty cI cA cL) s) (hP : va_P (dC, dI) vwCl (w_model cI q_mo q_mlb_ q_mcl_ q_mus_ q_mwr_ q_mdk_ q_mcp_ mth mar mfu mLb mCl mUs mWr mDk mCp) s.heap) {r : Int32} {y0 : Int32} {ls : Array Slot} (hl : lv_has ls 4 [(0, .ref q_mo), (1, .int y0)]) (hf : f_M_freeBlocks_0 mDk y0 = some r) : W p l e rm_M_freeBlocks s m args below meth c s.heap [] 0 0 (MQ below (QcRead r) args s 0 0 (fun _ => False)) (F0 m 0 ls []) := by
  unfold f_M_freeBlocks_0 at hf
  obtain ⟨hx, hb, hml, hown, hts, hr, hlocks⟩ := id cx
  refine lv_iconst (v := (0 : Int32)) hx hb d_M_freeBlocks_0 (by decide) ?_
  refine lv_istore_n (lv' := [(2, .int (0 : Int32)), (0, .ref q_mo), (1, .int y0)]) hx hb d_M_freeBlocks_1 rfl hl (by decide) rfl (fun ls hl => ?_)
  refine lv_iconst (v := (0 : Int32)) hx hb d_M_freeBlocks_2 (by decide) ?_
  refine lv_istore_n (lv' := [(3, .int (0 : Int32)), (2, .int (0 : Int32)), (0, .ref q_mo), (1, .int y0)]) hx hb d_M_freeBlocks_3 rfl hl (by decide) rfl (fun ls hl => ?_)
  exact l_M_freeBlocks_4 (y0 := y0) cx hK hP 300 ((0 : Int32), (0 : Int32)) _ (lv_sub hl [2, 3, 1, 0] rfl) hf
def f_M_freeBlocks (mDk : Nat → Int32) (a0 : Int32) : Option (Int32) := f_M_freeBlocks_0 mDk a0
set_option maxHeartbeats 4000000 in
set_option maxRecDepth 100000 in
theorem c_M_freeBlocks (l : Launch) (dC : Nat → ClassId) (dI : Nat → Nat → Nat) (cI cA cL : ClassId) (q_mo q_mlb_ q_mcl_ q_mus_ q_mwr_ q_mdk_ q_mcp_ : Nat) (mth : Int32) (mar : Int32) (mfu : Int32) (mLb : Nat → Int32) (mCl : Nat → Int32) (mUs : Nat → Int32) (mWr : Nat → Int32) (mDk : Nat → Int32) (mCp : Nat → Int32) (a0 : Int32) (r : Int32) (hf : f_M_freeBlocks mDk a0 = some r) : Met l y_M_freeBlocks ws_M_freeBlocks rm_M_freeBlocks (jv_Pr [.ref q_mo, .int a0] (dC, dI) (jv_ty cI cA cL) (w_model cI q_mo q_mlb_ q_mcl_ q_mus_ q_mwr_ q_mdk_ q_mcp_ mth mar mfu mLb mCl mUs mWr mDk mCp)) (QcRead r) 0 0 (fun _ => False) := by
  refine Met.ofW (cc := cc_M_freeBlocks) (maxL := 4) (ret := (some .int)) (by decide) rfl ?_
  intro p e s m args below meth c s₁ B hml hv
  obtain ⟨rfl, hP, hK⟩ := hv
  have cx : jv_cx p s m _ meth c cc_M_freeBlocks 4 R_Model (some .int) ws_M_freeBlocks := ⟨B.exec, B.bytes, hml, findClass_of_methodNamed B.named, atoms_spec (ws := ws_M_freeBlocks) B.pre, B.returns, B.notSynchronized⟩
  have hl := lv_entry ([.ref q_mo, .int a0]) (n := 4) (Nat.le_of_ble_eq_true rfl)
  rw [lg_entry_eq]
  generalize (lg_sl ([.ref q_mo, .int a0]) ++ List.replicate (4 - (lg_sl ([.ref q_mo, .int a0])).length) Slot.unset).toArray = ls at hl ⊢
  have hl : lv_has ls 4 [(0, .ref q_mo), (1, .int a0)] := hl
  exact b_M_freeBlocks_0 (y0 := a0) cx hK hP (lv_sub hl [0, 1] rfl) hf
theorem d_M_refusal_0 : decode cc_M_refusal 0 = .ok (.aload_n 0, 1) := by decide +kernel
theorem d_M_refusal_1 : decode cc_M_refusal 1 = .ok (.iload_n 1, 1) := by decide +kernel
theorem d_M_refusal_2 : decode cc_M_refusal 2 = .ok (.invokevirtual 53, 3) := by decide +kernel
theorem d_M_refusal_5 : decode cc_M_refusal 5 = .ok (.ifCond .eq 10, 3) := by decide +kernel
theorem d_M_refusal_15 : decode cc_M_refusal 15 = .ok (.iconst 1, 1) := by decide +kernel
theorem d_M_refusal_16 : decode cc_M_refusal 16 = .ok (.ireturn, 1) := by decide +kernel
theorem d_M_refusal_8 : decode cc_M_refusal 8 = .ok (.iload_n 2, 1) := by decide +kernel
theorem d_M_refusal_9 : decode cc_M_refusal 9 = .ok (.invokestatic 81, 3) := by decide +kernel
theorem d_M_refusal_12 : decode cc_M_refusal 12 = .ok (.ifCond .ne 5, 3) := by decide +kernel
theorem d_M_refusal_17 : decode cc_M_refusal 17 = .ok (.aload_n 0, 1) := by decide +kernel
theorem d_M_refusal_18 : decode cc_M_refusal 18 = .ok (.iload_n 1, 1) := by decide +kernel
theorem d_M_refusal_19 : decode cc_M_refusal 19 = .ok (.iload_n 2, 1) := by decide +kernel
theorem d_M_refusal_20 : decode cc_M_refusal 20 = .ok (.iconst 0, 1) := by decide +kernel
theorem d_M_refusal_21 : decode cc_M_refusal 21 = .ok (.invokevirtual 84, 3) := by decide +kernel
theorem d_M_refusal_24 : decode cc_M_refusal 24 = .ok (.ifCond .ne 7, 3) := by decide +kernel
theorem d_M_refusal_31 : decode cc_M_refusal 31 = .ok (.aload_n 0, 1) := by decide +kernel
theorem d_M_refusal_32 : decode cc_M_refusal 32 = .ok (.iload_n 1, 1) := by decide +kernel
theorem d_M_refusal_33 : decode cc_M_refusal 33 = .ok (.iconst 4, 1) := by decide +kernel
theorem d_M_refusal_34 : decode cc_M_refusal 34 = .ok (.idiv, 1) := by decide +kernel
theorem d_M_refusal_35 : decode cc_M_refusal 35 = .ok (.iload_n 2, 1) := by decide +kernel
theorem d_M_refusal_36 : decode cc_M_refusal 36 = .ok (.invokevirtual 74, 3) := by decide +kernel
theorem d_M_refusal_39 : decode cc_M_refusal 39 = .ok (.ifCond .ne 7, 3) := by decide +kernel
theorem d_M_refusal_46 : decode cc_M_refusal 46 = .ok (.iconst 0, 1) := by decide +kernel
theorem d_M_refusal_47 : decode cc_M_refusal 47 = .ok (.ireturn, 1) := by decide +kernel
theorem d_M_refusal_42 : decode cc_M_refusal 42 = .ok (.iconst 3, 1) := by decide +kernel
theorem d_M_refusal_43 : decode cc_M_refusal 43 = .ok (.goto 4, 3) := by decide +kernel
theorem d_M_refusal_27 : decode cc_M_refusal 27 = .ok (.iconst 2, 1) := by decide +kernel
theorem d_M_refusal_28 : decode cc_M_refusal 28 = .ok (.goto 19, 3) := by decide +kernel
def f_M_refusal_0 (mar : Int32) (mLb : Nat → Int32) (mUs : Nat → Int32) (mDk : Nat → Int32) (y0 : Int32) (y1 : Int32) : Option (Int32) :=
  (f_M_isSession mUs y0).bind fun x1 => if x1 = 0 then (some (1 : Int32)) else ((f_M_isPath y1).bind fun x3 => if x3 = 0 then (some (1 : Int32)) else ((f_M_visible mar mLb mDk y0 y1 (0 : Int32)).bind fun x5 => if x5 = 0 then (some (2 : Int32)) else ((f_M_kind mDk (y0 / (4 : Int32)) y1).bind fun x7 => if x7 = 0 then (some (3 : Int32)) else (some (0 : Int32)))))
set_option maxHeartbeats 4000000 in
set_option maxRecDepth 100000 in
theorem b_M_refusal_0 {l : Launch} {dC : Nat → ClassId} {dI : Nat → Nat → Nat} {cI cA cL : ClassId} {q_mo q_mlb_ q_mcl_ q_mus_ q_mwr_ q_mdk_ q_mcp_ : Nat} {mth : Int32} {mar : Int32} {mfu : Int32} {mLb : Nat → Int32} {mCl : Nat → Int32} {mUs : Nat → Int32} {mWr : Nat → Int32} {mDk : Nat → Int32} {mCp : Nat → Int32} {p : Program} {e : Env} {s : State} {m : MethodId} {args : Array Value} {below : List Frame} {meth : Method} {c : Code} (cx : jv_cx p s m args meth c cc_M_refusal 3 R_Model (some .int) ws_M_refusal) (hK : va_K (dC, dI) vwCl (jv_ty cI cA cL) s) (hP : va_P (dC, dI) vwCl (w_model cI q_mo q_mlb_ q_mcl_ q_mus_ q_mwr_ q_mdk_ q_mcp_ mth mar mfu mLb mCl mUs mWr mDk mCp) s.heap) {r : Int32} {y0 : Int32} {y1 : Int32} {ls : Array Slot} (hl : lv_has ls 3 [(0, .ref q_mo), (1, .int y0), (2, .int y1)]) (hf : f_M_refusal_0 mar mLb mUs mDk y0 y1 = some r) : W p l e rm_M_refusal s m args below meth c s.heap [] 0 0 (MQ below (QcRead r) args s 0 0 (fun _ => False)) (F0 m 0 ls []) := by
  unfold f_M_refusal_0 at hf
  obtain ⟨hx, hb, hml, hown, hts, hr, hlocks⟩ := id cx
  refine lv_aload_n hx hb d_M_refusal_0 rfl (lv_at hl 0 rfl) ?_
  refine lv_iload_n hx hb d_M_refusal_1 rfl (lv_at hl 1 rfl) ?_
  obtain ⟨x1, g2, hf⟩ := jv_ob hf
  have hPc := hP.sub (ws' := (w_model cI q_mo q_mlb_ q_mcl_ q_mus_ q_mwr_ q_mdk_ q_mcp_ mth mar mfu mLb mCl mUs mWr mDk mCp)) [0, 1, 2, 3, 4, 5, 6] rfl
  refine jv_cs (W.runV (As := [.int y0]) (rest := []) (b := q_mo) ⟨hx, hb, hml, hown, hts⟩ (c_M_isSession l dC dI cI cA cL q_mo q_mlb_ q_mcl_ q_mus_ q_mwr_ q_mdk_ q_mcp_ mth mar mfu mLb mCl mUs mWr mDk mCp y0 x1 g2) (jv_cwV hts wa_227 wa_194 wa_228 wa_229 wa_230 rfl rfl yd_M_isSession ⟨Nat.le_of_ble_eq_true rfl, Nat.le_of_ble_eq_true rfl⟩) (jv_preV hK hPc 0 rfl rfl) rfl rfl hl.1 rfl (lv_room (Nat.le_of_ble_eq_true rfl)) d_M_refusal_2 ⟨Nat.zero_le _, Nat.zero_le _⟩) ?_
  refine lv_if_eq (tgt := 15) hx hb d_M_refusal_5 (by decide) (fun hc => ?_) (fun hc => ?_)
  · have hf := jv_it hf hc
    refine lv_iconst (v := (1 : Int32)) hx hb d_M_refusal_15 (by decide) ?_
    obtain rfl := Option.some.inj hf
    exact W.iret hx hb hr (fun t ht hW => ⟨rfl, ht⟩) (fun q h => by cases h) d_M_refusal_16
  · have hf := jv_if hf hc
    refine lv_iload_n hx hb d_M_refusal_8 rfl (lv_at hl 2 rfl) ?_
    obtain ⟨x3, g4, hf⟩ := jv_ob hf
    refine jv_cs (W.runS (As := [.int y1]) (rest := []) ⟨hx, hb, hml, hown, hts⟩ (c_M_isPath l y1 x3 g4) (jv_cwS hts wa_231 wa_194 wa_232 wa_233 rfl rfl yd_M_isPath ⟨Nat.le_of_ble_eq_true rfl, Nat.le_of_ble_eq_true rfl⟩) jv_pre0 rfl rfl hl.1 rfl (lv_room (Nat.le_of_ble_eq_true rfl)) d_M_refusal_9 ⟨Nat.zero_le _, Nat.zero_le _⟩) ?_
    refine lv_if_ne (tgt := 17) hx hb d_M_refusal_12 (by decide) (fun hc => ?_) (fun hc => ?_)
    · have hf := jv_if hf hc
      refine lv_aload_n hx hb d_M_refusal_17 rfl (lv_at hl 0 rfl) ?_
      refine lv_iload_n hx hb d_M_refusal_18 rfl (lv_at hl 1 rfl) ?_
      refine lv_iload_n hx hb d_M_refusal_19 rfl (lv_at hl 2 rfl) ?_
      refine lv_iconst (v := (0 : Int32)) hx hb d_M_refusal_20 (by decide) ?_
      obtain ⟨x5, g6, hf⟩ := jv_ob hf
      have hPc := hP.sub (ws' := (w_model cI q_mo q_mlb_ q_mcl_ q_mus_ q_mwr_ q_mdk_ q_mcp_ mth mar mfu mLb mCl mUs mWr mDk mCp)) [0, 1, 2, 3, 4, 5, 6] rfl
      refine jv_cs (W.runV (As := [.int y0, .int y1, .int (0 : Int32)]) (rest := []) (b := q_mo) ⟨hx, hb, hml, hown, hts⟩ (c_M_visible l dC dI cI cA cL q_mo q_mlb_ q_mcl_ q_mus_ q_mwr_ q_mdk_ q_mcp_ mth mar mfu mLb mCl mUs mWr mDk mCp y0 y1 (0 : Int32) x5 g6) (jv_cwV hts wa_234 wa_194 wa_235 wa_236 wa_237 rfl rfl yd_M_visible ⟨Nat.le_of_ble_eq_true rfl, Nat.le_of_ble_eq_true rfl⟩) (jv_preV hK hPc 0 rfl rfl) rfl rfl hl.1 rfl (lv_room (Nat.le_of_ble_eq_true rfl)) d_M_refusal_21 ⟨Nat.zero_le _, Nat.zero_le _⟩) ?_
      refine lv_if_ne (tgt := 31) hx hb d_M_refusal_24 (by decide) (fun hc => ?_) (fun hc => ?_)
      · have hf := jv_if hf hc
        refine lv_aload_n hx hb d_M_refusal_31 rfl (lv_at hl 0 rfl) ?_
        refine lv_iload_n hx hb d_M_refusal_32 rfl (lv_at hl 1 rfl) ?_
        refine lv_iconst (v := (4 : Int32)) hx hb d_M_refusal_33 (by decide) ?_
        refine lv_idiv hx hb d_M_refusal_34 (by decide) ?_
        refine lv_iload_n hx hb d_M_refusal_35 rfl (lv_at hl 2 rfl) ?_
        obtain ⟨x7, g8, hf⟩ := jv_ob hf
        have hPc := hP.sub (ws' := (w_model cI q_mo q_mlb_ q_mcl_ q_mus_ q_mwr_ q_mdk_ q_mcp_ mth mar mfu mLb mCl mUs mWr mDk mCp)) [0, 1, 2, 3, 4, 5, 6] rfl
        refine jv_cs (W.runV (As := [.int (y0 / (4 : Int32)), .int y1]) (rest := []) (b := q_mo) ⟨hx, hb, hml, hown, hts⟩ (c_M_kind l dC dI cI cA cL q_mo q_mlb_ q_mcl_ q_mus_ q_mwr_ q_mdk_ q_mcp_ mth mar mfu mLb mCl mUs mWr mDk mCp (y0 / (4 : Int32)) y1 x7 g8) (jv_cwV hts wa_223 wa_194 wa_224 wa_225 wa_226 rfl rfl yd_M_kind ⟨Nat.le_of_ble_eq_true rfl, Nat.le_of_ble_eq_true rfl⟩) (jv_preV hK hPc 0 rfl rfl) rfl rfl hl.1 rfl (lv_room (Nat.le_of_ble_eq_true rfl)) d_M_refusal_36 ⟨Nat.zero_le _, Nat.zero_le _⟩) ?_
        refine lv_if_ne (tgt := 46) hx hb d_M_refusal_39 (by decide) (fun hc => ?_) (fun hc => ?_)
        · have hf := jv_if hf hc
          refine lv_iconst (v := (0 : Int32)) hx hb d_M_refusal_46 (by decide) ?_
          obtain rfl := Option.some.inj hf
          exact W.iret hx hb hr (fun t ht hW => ⟨rfl, ht⟩) (fun q h => by cases h) d_M_refusal_47
        · have hf := jv_it hf hc
          refine lv_iconst (v := (3 : Int32)) hx hb d_M_refusal_42 (by decide) ?_
          refine lv_goto (tgt := 47) hx hb d_M_refusal_43 (by decide) ?_
          obtain rfl := Option.some.inj hf
          exact W.iret hx hb hr (fun t ht hW => ⟨rfl, ht⟩) (fun q h => by cases h) d_M_refusal_47
      · have hf := jv_it hf hc
        refine lv_iconst (v := (2 : Int32)) hx hb d_M_refusal_27 (by decide) ?_
        refine lv_goto (tgt := 47) hx hb d_M_refusal_28 (by decide) ?_
        obtain rfl := Option.some.inj hf
        exact W.iret hx hb hr (fun t ht hW => ⟨rfl, ht⟩) (fun q h => by cases h) d_M_refusal_47
    · have hf := jv_it hf hc
      refine lv_iconst (v := (1 : Int32)) hx hb d_M_refusal_15 (by decide) ?_
      obtain rfl := Option.some.inj hf
      exact W.iret hx hb hr (fun t ht hW => ⟨rfl, ht⟩) (fun q h => by cases h) d_M_refusal_16
def f_M_refusal (mar : Int32) (mLb : Nat → Int32) (mUs : Nat → Int32) (mDk : Nat → Int32) (a0 : Int32) (a1 : Int32) : Option (Int32) := f_M_refusal_0 mar mLb mUs mDk a0 a1
set_option maxHeartbeats 4000000 in
set_option maxRecDepth 100000 in
theorem c_M_refusal (l : Launch) (dC : Nat → ClassId) (dI : Nat → Nat → Nat) (cI cA cL : ClassId) (q_mo q_mlb_ q_mcl_ q_mus_ q_mwr_ q_mdk_ q_mcp_ : Nat) (mth : Int32) (mar : Int32) (mfu : Int32) (mLb : Nat → Int32) (mCl : Nat → Int32) (mUs : Nat → Int32) (mWr : Nat → Int32) (mDk : Nat → Int32) (mCp : Nat → Int32) (a0 : Int32) (a1 : Int32) (r : Int32) (hf : f_M_refusal mar mLb mUs mDk a0 a1 = some r) : Met l y_M_refusal ws_M_refusal rm_M_refusal (jv_Pr [.ref q_mo, .int a0, .int a1] (dC, dI) (jv_ty cI cA cL) (w_model cI q_mo q_mlb_ q_mcl_ q_mus_ q_mwr_ q_mdk_ q_mcp_ mth mar mfu mLb mCl mUs mWr mDk mCp)) (QcRead r) 0 0 (fun _ => False) := by
  refine Met.ofW (cc := cc_M_refusal) (maxL := 3) (ret := (some .int)) (by decide) rfl ?_
  intro p e s m args below meth c s₁ B hml hv
  obtain ⟨rfl, hP, hK⟩ := hv
  have cx : jv_cx p s m _ meth c cc_M_refusal 3 R_Model (some .int) ws_M_refusal := ⟨B.exec, B.bytes, hml, findClass_of_methodNamed B.named, atoms_spec (ws := ws_M_refusal) B.pre, B.returns, B.notSynchronized⟩
  have hl := lv_entry ([.ref q_mo, .int a0, .int a1]) (n := 3) (Nat.le_of_ble_eq_true rfl)
  rw [lg_entry_eq]
  generalize (lg_sl ([.ref q_mo, .int a0, .int a1]) ++ List.replicate (3 - (lg_sl ([.ref q_mo, .int a0, .int a1])).length) Slot.unset).toArray = ls at hl ⊢
  have hl : lv_has ls 3 [(0, .ref q_mo), (1, .int a0), (2, .int a1)] := hl
  exact b_M_refusal_0 (y0 := a0) (y1 := a1) cx hK hP (lv_sub hl [0, 1, 2] rfl) hf
theorem d_M_pointer_0 : decode cc_M_pointer 0 = .ok (.iload_n 2, 1) := by decide +kernel
theorem d_M_pointer_1 : decode cc_M_pointer 1 = .ok (.iconst 2, 1) := by decide +kernel
theorem d_M_pointer_2 : decode cc_M_pointer 2 = .ok (.if_icmp .ge 15, 3) := by decide +kernel
theorem d_M_pointer_17 : decode cc_M_pointer 17 = .ok (.aload_n 0, 1) := by decide +kernel
theorem d_M_pointer_18 : decode cc_M_pointer 18 = .ok (.getfield 25, 3) := by decide +kernel
theorem d_M_pointer_21 : decode cc_M_pointer 21 = .ok (.bipush 8, 2) := by decide +kernel
theorem d_M_pointer_23 : decode cc_M_pointer 23 = .ok (.bipush 8, 2) := by decide +kernel
theorem d_M_pointer_25 : decode cc_M_pointer 25 = .ok (.iload_n 1, 1) := by decide +kernel
theorem d_M_pointer_26 : decode cc_M_pointer 26 = .ok (.imul, 1) := by decide +kernel
theorem d_M_pointer_27 : decode cc_M_pointer 27 = .ok (.iadd, 1) := by decide +kernel
theorem d_M_pointer_28 : decode cc_M_pointer 28 = .ok (.bipush 6, 2) := by decide +kernel
theorem d_M_pointer_30 : decode cc_M_pointer 30 = .ok (.iadd, 1) := by decide +kernel
theorem d_M_pointer_31 : decode cc_M_pointer 31 = .ok (.iaload, 1) := by decide +kernel
theorem d_M_pointer_32 : decode cc_M_pointer 32 = .ok (.istore_n 3, 1) := by decide +kernel
theorem d_M_pointer_33 : decode cc_M_pointer 33 = .ok (.iload_n 3, 1) := by decide +kernel
theorem d_M_pointer_34 : decode cc_M_pointer 34 = .ok (.ifCond .ne 7, 3) := by decide +kernel
theorem d_M_pointer_41 : decode cc_M_pointer 41 = .ok (.bipush 64, 2) := by decide +kernel
theorem d_M_pointer_43 : decode cc_M_pointer 43 = .ok (.bipush 8, 2) := by decide +kernel
theorem d_M_pointer_45 : decode cc_M_pointer 45 = .ok (.iload_n 3, 1) := by decide +kernel
theorem d_M_pointer_46 : decode cc_M_pointer 46 = .ok (.imul, 1) := by decide +kernel
theorem d_M_pointer_47 : decode cc_M_pointer 47 = .ok (.iadd, 1) := by decide +kernel
theorem d_M_pointer_48 : decode cc_M_pointer 48 = .ok (.iload_n 2, 1) := by decide +kernel
theorem d_M_pointer_49 : decode cc_M_pointer 49 = .ok (.iadd, 1) := by decide +kernel
theorem d_M_pointer_50 : decode cc_M_pointer 50 = .ok (.iconst 2, 1) := by decide +kernel
theorem d_M_pointer_51 : decode cc_M_pointer 51 = .ok (.isub, 1) := by decide +kernel
theorem d_M_pointer_52 : decode cc_M_pointer 52 = .ok (.ireturn, 1) := by decide +kernel
theorem d_M_pointer_37 : decode cc_M_pointer 37 = .ok (.iconst (-1), 1) := by decide +kernel
theorem d_M_pointer_38 : decode cc_M_pointer 38 = .ok (.goto 14, 3) := by decide +kernel
theorem d_M_pointer_5 : decode cc_M_pointer 5 = .ok (.bipush 8, 2) := by decide +kernel
theorem d_M_pointer_7 : decode cc_M_pointer 7 = .ok (.bipush 8, 2) := by decide +kernel
theorem d_M_pointer_9 : decode cc_M_pointer 9 = .ok (.iload_n 1, 1) := by decide +kernel
theorem d_M_pointer_10 : decode cc_M_pointer 10 = .ok (.imul, 1) := by decide +kernel
theorem d_M_pointer_11 : decode cc_M_pointer 11 = .ok (.iadd, 1) := by decide +kernel
theorem d_M_pointer_12 : decode cc_M_pointer 12 = .ok (.iconst 4, 1) := by decide +kernel
theorem d_M_pointer_13 : decode cc_M_pointer 13 = .ok (.iadd, 1) := by decide +kernel
theorem d_M_pointer_14 : decode cc_M_pointer 14 = .ok (.iload_n 2, 1) := by decide +kernel
theorem d_M_pointer_15 : decode cc_M_pointer 15 = .ok (.iadd, 1) := by decide +kernel
theorem d_M_pointer_16 : decode cc_M_pointer 16 = .ok (.ireturn, 1) := by decide +kernel
def f_M_pointer_0 (mCp : Nat → Int32) (y0 : Int32) (y1 : Int32) : Option (Int32) :=
  if (2 : Int32) ≤ y1 then ((jv_ga mCp 232 (((8 : Int32) + ((8 : Int32) * y0)) + (6 : Int32))).bind fun x1 => if x1 = 0 then (some (-1 : Int32)) else (some ((((64 : Int32) + ((8 : Int32) * x1)) + y1) - (2 : Int32)))) else (some ((((8 : Int32) + ((8 : Int32) * y0)) + (4 : Int32)) + y1))
set_option maxHeartbeats 4000000 in
set_option maxRecDepth 100000 in
theorem b_M_pointer_0 {l : Launch} {dC : Nat → ClassId} {dI : Nat → Nat → Nat} {cI cA cL : ClassId} {q_mo q_mlb_ q_mcl_ q_mus_ q_mwr_ q_mdk_ q_mcp_ : Nat} {mth : Int32} {mar : Int32} {mfu : Int32} {mLb : Nat → Int32} {mCl : Nat → Int32} {mUs : Nat → Int32} {mWr : Nat → Int32} {mDk : Nat → Int32} {mCp : Nat → Int32} {p : Program} {e : Env} {s : State} {m : MethodId} {args : Array Value} {below : List Frame} {meth : Method} {c : Code} (cx : jv_cx p s m args meth c cc_M_pointer 4 R_Model (some .int) ws_M_pointer) (hK : va_K (dC, dI) vwCl (jv_ty cI cA cL) s) (hP : va_P (dC, dI) vwCl (w_model cI q_mo q_mlb_ q_mcl_ q_mus_ q_mwr_ q_mdk_ q_mcp_ mth mar mfu mLb mCl mUs mWr mDk mCp) s.heap) {r : Int32} {y0 : Int32} {y1 : Int32} {ls : Array Slot} (hl : lv_has ls 4 [(0, .ref q_mo), (1, .int y0), (2, .int y1)]) (hf : f_M_pointer_0 mCp y0 y1 = some r) : W p l e rm_M_pointer s m args below meth c s.heap [] 0 0 (MQ below (QcRead r) args s 0 0 (fun _ => False)) (F0 m 0 ls []) := by
  unfold f_M_pointer_0 at hf
  obtain ⟨hx, hb, hml, hown, hts, hr, hlocks⟩ := id cx
  refine lv_iload_n hx hb d_M_pointer_0 rfl (lv_at hl 2 rfl) ?_
  refine lv_iconst (v := (2 : Int32)) hx hb d_M_pointer_1 (by decide) ?_
  refine lv_icmp_ge (tgt := 17) hx hb d_M_pointer_2 (by decide) (fun hc => ?_) (fun hc => ?_)
  · have hf := jv_it hf hc
    refine lv_aload_n hx hb d_M_pointer_17 rfl (lv_at hl 0 rfl) ?_
    refine va_get (D := (dC, dI)) (ci := kModel) (v := .ref q_mcp_) (C := R_Model) (T := T_Model) (N := 9) hx hb hts (fun w h => List.mem_cons_of_mem _ (in_Model w h)) hown hK hP 0 rfl rfl 7 (by decide) (jv_w hts wa_238) (fun _ h9 => h9) rfl d_M_pointer_18 ?_
    refine lv_bipush (v := (8 : Int32)) hx hb d_M_pointer_21 (by decide) ?_
    refine lv_bipush (v := (8 : Int32)) hx hb d_M_pointer_23 (by decide) ?_
    refine lv_iload_n hx hb d_M_pointer_25 rfl (lv_at hl 1 rfl) ?_
    refine lv_imul hx hb d_M_pointer_26 ?_
    refine lv_iadd hx hb d_M_pointer_27 ?_
    refine lv_bipush (v := (6 : Int32)) hx hb d_M_pointer_28 (by decide) ?_
    refine lv_iadd hx hb d_M_pointer_30 ?_
    obtain ⟨x1, g2, hf⟩ := jv_ob hf
    refine jv_iald hx hb hK hP 6 0 rfl rfl g2 d_M_pointer_31 ?_
    refine lv_istore_n (lv' := [(3, .int x1), (0, .ref q_mo), (1, .int y0), (2, .int y1)]) hx hb d_M_pointer_32 rfl hl (by decide) rfl (fun ls hl => ?_)
    refine lv_iload_n hx hb d_M_pointer_33 rfl (lv_at hl 0 rfl) ?_
    refine lv_if_ne (tgt := 41) hx hb d_M_pointer_34 (by decide) (fun hc => ?_) (fun hc => ?_)
    · have hf := jv_if hf hc
      refine lv_bipush (v := (64 : Int32)) hx hb d_M_pointer_41 (by decide) ?_
      refine lv_bipush (v := (8 : Int32)) hx hb d_M_pointer_43 (by decide) ?_
      refine lv_iload_n hx hb d_M_pointer_45 rfl (lv_at hl 0 rfl) ?_
      refine lv_imul hx hb d_M_pointer_46 ?_
      refine lv_iadd hx hb d_M_pointer_47 ?_
      refine lv_iload_n hx hb d_M_pointer_48 rfl (lv_at hl 3 rfl) ?_
      refine lv_iadd hx hb d_M_pointer_49 ?_
      refine lv_iconst (v := (2 : Int32)) hx hb d_M_pointer_50 (by decide) ?_
      refine lv_isub hx hb d_M_pointer_51 ?_
      obtain rfl := Option.some.inj hf
      exact W.iret hx hb hr (fun t ht hW => ⟨rfl, ht⟩) (fun q h => by cases h) d_M_pointer_52
    · have hf := jv_it hf hc
      refine lv_iconst (v := (-1 : Int32)) hx hb d_M_pointer_37 (by decide) ?_
      refine lv_goto (tgt := 52) hx hb d_M_pointer_38 (by decide) ?_
      obtain rfl := Option.some.inj hf
      exact W.iret hx hb hr (fun t ht hW => ⟨rfl, ht⟩) (fun q h => by cases h) d_M_pointer_52
  · have hf := jv_if hf hc
    refine lv_bipush (v := (8 : Int32)) hx hb d_M_pointer_5 (by decide) ?_
    refine lv_bipush (v := (8 : Int32)) hx hb d_M_pointer_7 (by decide) ?_
    refine lv_iload_n hx hb d_M_pointer_9 rfl (lv_at hl 1 rfl) ?_
    refine lv_imul hx hb d_M_pointer_10 ?_
    refine lv_iadd hx hb d_M_pointer_11 ?_
    refine lv_iconst (v := (4 : Int32)) hx hb d_M_pointer_12 (by decide) ?_
    refine lv_iadd hx hb d_M_pointer_13 ?_
    refine lv_iload_n hx hb d_M_pointer_14 rfl (lv_at hl 2 rfl) ?_
    refine lv_iadd hx hb d_M_pointer_15 ?_
    obtain rfl := Option.some.inj hf
    exact W.iret hx hb hr (fun t ht hW => ⟨rfl, ht⟩) (fun q h => by cases h) d_M_pointer_16
def f_M_pointer (mCp : Nat → Int32) (a0 : Int32) (a1 : Int32) : Option (Int32) := f_M_pointer_0 mCp a0 a1
set_option maxHeartbeats 4000000 in
set_option maxRecDepth 100000 in
theorem c_M_pointer (l : Launch) (dC : Nat → ClassId) (dI : Nat → Nat → Nat) (cI cA cL : ClassId) (q_mo q_mlb_ q_mcl_ q_mus_ q_mwr_ q_mdk_ q_mcp_ : Nat) (mth : Int32) (mar : Int32) (mfu : Int32) (mLb : Nat → Int32) (mCl : Nat → Int32) (mUs : Nat → Int32) (mWr : Nat → Int32) (mDk : Nat → Int32) (mCp : Nat → Int32) (a0 : Int32) (a1 : Int32) (r : Int32) (hf : f_M_pointer mCp a0 a1 = some r) : Met l y_M_pointer ws_M_pointer rm_M_pointer (jv_Pr [.ref q_mo, .int a0, .int a1] (dC, dI) (jv_ty cI cA cL) (w_model cI q_mo q_mlb_ q_mcl_ q_mus_ q_mwr_ q_mdk_ q_mcp_ mth mar mfu mLb mCl mUs mWr mDk mCp)) (QcRead r) 0 0 (fun _ => False) := by
  refine Met.ofW (cc := cc_M_pointer) (maxL := 4) (ret := (some .int)) (by decide) rfl ?_
  intro p e s m args below meth c s₁ B hml hv
  obtain ⟨rfl, hP, hK⟩ := hv
  have cx : jv_cx p s m _ meth c cc_M_pointer 4 R_Model (some .int) ws_M_pointer := ⟨B.exec, B.bytes, hml, findClass_of_methodNamed B.named, atoms_spec (ws := ws_M_pointer) B.pre, B.returns, B.notSynchronized⟩
  have hl := lv_entry ([.ref q_mo, .int a0, .int a1]) (n := 4) (Nat.le_of_ble_eq_true rfl)
  rw [lg_entry_eq]
  generalize (lg_sl ([.ref q_mo, .int a0, .int a1]) ++ List.replicate (4 - (lg_sl ([.ref q_mo, .int a0, .int a1])).length) Slot.unset).toArray = ls at hl ⊢
  have hl : lv_has ls 4 [(0, .ref q_mo), (1, .int a0), (2, .int a1)] := hl
  exact b_M_pointer_0 (y0 := a0) (y1 := a1) cx hK hP (lv_sub hl [0, 1, 2] rfl) hf
theorem d_M_hasChild_0 : decode cc_M_hasChild 0 = .ok (.iconst 0, 1) := by decide +kernel
theorem d_M_hasChild_1 : decode cc_M_hasChild 1 = .ok (.istore_n 3, 1) := by decide +kernel
theorem d_M_hasChild_2 : decode cc_M_hasChild 2 = .ok (.iconst 1, 1) := by decide +kernel
theorem d_M_hasChild_3 : decode cc_M_hasChild 3 = .ok (.istore 4, 2) := by decide +kernel
theorem d_M_hasChild_5 : decode cc_M_hasChild 5 = .ok (.iload 4, 2) := by decide +kernel
theorem d_M_hasChild_7 : decode cc_M_hasChild 7 = .ok (.bipush 8, 2) := by decide +kernel
theorem d_M_hasChild_9 : decode cc_M_hasChild 9 = .ok (.if_icmp .ge 42, 3) := by decide +kernel
theorem d_M_hasChild_51 : decode cc_M_hasChild 51 = .ok (.iload_n 3, 1) := by decide +kernel
theorem d_M_hasChild_52 : decode cc_M_hasChild 52 = .ok (.ireturn, 1) := by decide +kernel
theorem d_M_hasChild_12 : decode cc_M_hasChild 12 = .ok (.iload_n 3, 1) := by decide +kernel
theorem d_M_hasChild_13 : decode cc_M_hasChild 13 = .ok (.ifCond .ne 26, 3) := by decide +kernel
theorem d_M_hasChild_39 : decode cc_M_hasChild 39 = .ok (.iconst 1, 1) := by decide +kernel
theorem d_M_hasChild_40 : decode cc_M_hasChild 40 = .ok (.goto 4, 3) := by decide +kernel
theorem d_M_hasChild_44 : decode cc_M_hasChild 44 = .ok (.istore_n 3, 1) := by decide +kernel
theorem d_M_hasChild_45 : decode cc_M_hasChild 45 = .ok (.iinc 4 1, 3) := by decide +kernel
theorem d_M_hasChild_48 : decode cc_M_hasChild 48 = .ok (.goto (-43), 3) := by decide +kernel
theorem d_M_hasChild_16 : decode cc_M_hasChild 16 = .ok (.aload_n 0, 1) := by decide +kernel
theorem d_M_hasChild_17 : decode cc_M_hasChild 17 = .ok (.iload_n 1, 1) := by decide +kernel
theorem d_M_hasChild_18 : decode cc_M_hasChild 18 = .ok (.iload 4, 2) := by decide +kernel
theorem d_M_hasChild_20 : decode cc_M_hasChild 20 = .ok (.iconst 0, 1) := by decide +kernel
theorem d_M_hasChild_21 : decode cc_M_hasChild 21 = .ok (.invokevirtual 64, 3) := by decide +kernel
theorem d_M_hasChild_24 : decode cc_M_hasChild 24 = .ok (.ifCond .le 19, 3) := by decide +kernel
theorem d_M_hasChild_43 : decode cc_M_hasChild 43 = .ok (.iconst 0, 1) := by decide +kernel
theorem d_M_hasChild_27 : decode cc_M_hasChild 27 = .ok (.aload_n 0, 1) := by decide +kernel
theorem d_M_hasChild_28 : decode cc_M_hasChild 28 = .ok (.iload_n 1, 1) := by decide +kernel
theorem d_M_hasChild_29 : decode cc_M_hasChild 29 = .ok (.iload 4, 2) := by decide +kernel
theorem d_M_hasChild_31 : decode cc_M_hasChild 31 = .ok (.iconst 1, 1) := by decide +kernel
theorem d_M_hasChild_32 : decode cc_M_hasChild 32 = .ok (.invokevirtual 64, 3) := by decide +kernel
theorem d_M_hasChild_35 : decode cc_M_hasChild 35 = .ok (.iload_n 2, 1) := by decide +kernel
theorem d_M_hasChild_36 : decode cc_M_hasChild 36 = .ok (.if_icmp .ne 7, 3) := by decide +kernel
def f_M_hasChild_5 (mDk : Nat → Int32) (y0 : Int32) (y1 : Int32) (k5 : (Int32 × Int32) → Option (Int32)) (a : Int32 × Int32) : Option (Int32) :=
  if (8 : Int32) ≤ a.2 then (if a.1 = 0 ∨ a.1 = 1 then (some a.1) else none) else (if a.1 = 0 then ((f_M_inode mDk y0 a.2 (0 : Int32)).bind fun x2 => if x2 ≤ 0 then (k5 ((0 : Int32), a.2 + (1 : Int32))) else ((f_M_inode mDk y0 a.2 (1 : Int32)).bind fun x4 => if x4 = y1 then (k5 ((1 : Int32), a.2 + (1 : Int32))) else (k5 ((0 : Int32), a.2 + (1 : Int32))))) else (k5 ((1 : Int32), a.2 + (1 : Int32))))
set_option maxHeartbeats 4000000 in
set_option maxRecDepth 100000 in
theorem b_M_hasChild_5 {l : Launch} {dC : Nat → ClassId} {dI : Nat → Nat → Nat} {cI cA cL : ClassId} {q_mo q_mlb_ q_mcl_ q_mus_ q_mwr_ q_mdk_ q_mcp_ : Nat} {mth : Int32} {mar : Int32} {mfu : Int32} {mLb : Nat → Int32} {mCl : Nat → Int32} {mUs : Nat → Int32} {mWr : Nat → Int32} {mDk : Nat → Int32} {mCp : Nat → Int32} {p : Program} {e : Env} {s : State} {m : MethodId} {args : Array Value} {below : List Frame} {meth : Method} {c : Code} (cx : jv_cx p s m args meth c cc_M_hasChild 5 R_Model (some .boolean) ws_M_hasChild) (hK : va_K (dC, dI) vwCl (jv_ty cI cA cL) s) (hP : va_P (dC, dI) vwCl (w_model cI q_mo q_mlb_ q_mcl_ q_mus_ q_mwr_ q_mdk_ q_mcp_ mth mar mfu mLb mCl mUs mWr mDk mCp) s.heap) {r : Int32} {y0 : Int32} {y1 : Int32} {k5 : (Int32 × Int32) → Option (Int32)} (hk5 : ∀ (a : Int32 × Int32) (ls : Array Slot), lv_has ls 5 [(0, .ref q_mo), (1, .int y0), (2, .int y1), (3, .int a.1), (4, .int a.2)] → k5 a = some r → W p l e rm_M_hasChild s m args below meth c s.heap [] 0 0 (MQ below (QcRead r) args s 0 0 (fun _ => False)) (F0 m 5 ls [])) {a : Int32 × Int32} {ls : Array Slot} (hl : lv_has ls 5 [(0, .ref q_mo), (1, .int y0), (2, .int y1), (3, .int a.1), (4, .int a.2)]) (hf : f_M_hasChild_5 mDk y0 y1 k5 a = some r) : W p l e rm_M_hasChild s m args below meth c s.heap [] 0 0 (MQ below (QcRead r) args s 0 0 (fun _ => False)) (F0 m 5 ls []) := by
  unfold f_M_hasChild_5 at hf
  obtain ⟨hx, hb, hml, hown, hts, hr, hlocks⟩ := id cx
  refine lv_iload hx hb d_M_hasChild_5 (lv_at hl 4 rfl) ?_
  refine lv_bipush (v := (8 : Int32)) hx hb d_M_hasChild_7 (by decide) ?_
  refine lv_icmp_ge (tgt := 51) hx hb d_M_hasChild_9 (by decide) (fun hc => ?_) (fun hc => ?_)
  · have hf := jv_it hf hc
    refine lv_iload_n hx hb d_M_hasChild_51 rfl (lv_at hl 3 rfl) ?_
    obtain ⟨hb1, hf⟩ := jv_gd hf
    obtain rfl := Option.some.inj hf
    exact W.zret hx hb hr (jv_nb hb1) (fun t ht hW => ⟨rfl, ht⟩) (fun q h => by cases h) d_M_hasChild_52
  · have hf := jv_if hf hc
    refine lv_iload_n hx hb d_M_hasChild_12 rfl (lv_at hl 3 rfl) ?_
    refine lv_if_ne (tgt := 39) hx hb d_M_hasChild_13 (by decide) (fun hc => ?_) (fun hc => ?_)
    · have hf := jv_if hf hc
      refine lv_iconst (v := (1 : Int32)) hx hb d_M_hasChild_39 (by decide) ?_
      refine lv_goto (tgt := 44) hx hb d_M_hasChild_40 (by decide) ?_
      refine lv_istore_n (lv' := [(3, .int (1 : Int32)), (0, .ref q_mo), (1, .int y0), (2, .int y1), (4, .int a.2)]) hx hb d_M_hasChild_44 rfl hl (by decide) rfl (fun ls hl => ?_)
      refine lv_iinc (k := 4) (v := a.2 + (1 : Int32)) (lv' := [(4, .int (a.2 + (1 : Int32))), (3, .int (1 : Int32)), (0, .ref q_mo), (1, .int y0), (2, .int y1)]) hx hb d_M_hasChild_45 hl rfl (jv_inc _) (by decide) rfl (fun ls hl => ?_)
      refine lv_goto (tgt := 5) hx hb d_M_hasChild_48 (by decide) ?_
      exact hk5 ((1 : Int32), a.2 + (1 : Int32)) _ (lv_sub hl [2, 3, 4, 1, 0] rfl) hf
    · have hf := jv_it hf hc
      refine lv_aload_n hx hb d_M_hasChild_16 rfl (lv_at hl 0 rfl) ?_
      refine lv_iload_n hx hb d_M_hasChild_17 rfl (lv_at hl 1 rfl) ?_
      refine lv_iload hx hb d_M_hasChild_18 (lv_at hl 4 rfl) ?_
      refine lv_iconst (v := (0 : Int32)) hx hb d_M_hasChild_20 (by decide) ?_
      obtain ⟨x2, g3, hf⟩ := jv_ob hf
      have hPc := hP.sub (ws' := (w_model cI q_mo q_mlb_ q_mcl_ q_mus_ q_mwr_ q_mdk_ q_mcp_ mth mar mfu mLb mCl mUs mWr mDk mCp)) [0, 1, 2, 3, 4, 5, 6] rfl
      refine jv_cs (W.runV (As := [.int y0, .int a.2, .int (0 : Int32)]) (rest := []) (b := q_mo) ⟨hx, hb, hml, hown, hts⟩ (c_M_inode l dC dI cI cA cL q_mo q_mlb_ q_mcl_ q_mus_ q_mwr_ q_mdk_ q_mcp_ mth mar mfu mLb mCl mUs mWr mDk mCp y0 a.2 (0 : Int32) x2 g3) (jv_cwV hts wa_207 wa_194 wa_208 wa_209 wa_210 rfl rfl yd_M_inode ⟨Nat.le_of_ble_eq_true rfl, Nat.le_of_ble_eq_true rfl⟩) (jv_preV hK hPc 0 rfl rfl) rfl rfl hl.1 rfl (lv_room (Nat.le_of_ble_eq_true rfl)) d_M_hasChild_21 ⟨Nat.zero_le _, Nat.zero_le _⟩) ?_
      refine lv_if_le (tgt := 43) hx hb d_M_hasChild_24 (by decide) (fun hc => ?_) (fun hc => ?_)
      · have hf := jv_it hf hc
        refine lv_iconst (v := (0 : Int32)) hx hb d_M_hasChild_43 (by decide) ?_
        refine lv_istore_n (lv' := [(3, .int (0 : Int32)), (0, .ref q_mo), (1, .int y0), (2, .int y1), (4, .int a.2)]) hx hb d_M_hasChild_44 rfl hl (by decide) rfl (fun ls hl => ?_)
        refine lv_iinc (k := 4) (v := a.2 + (1 : Int32)) (lv' := [(4, .int (a.2 + (1 : Int32))), (3, .int (0 : Int32)), (0, .ref q_mo), (1, .int y0), (2, .int y1)]) hx hb d_M_hasChild_45 hl rfl (jv_inc _) (by decide) rfl (fun ls hl => ?_)
        refine lv_goto (tgt := 5) hx hb d_M_hasChild_48 (by decide) ?_
        exact hk5 ((0 : Int32), a.2 + (1 : Int32)) _ (lv_sub hl [2, 3, 4, 1, 0] rfl) hf
      · have hf := jv_if hf hc
        refine lv_aload_n hx hb d_M_hasChild_27 rfl (lv_at hl 0 rfl) ?_
        refine lv_iload_n hx hb d_M_hasChild_28 rfl (lv_at hl 1 rfl) ?_
        refine lv_iload hx hb d_M_hasChild_29 (lv_at hl 4 rfl) ?_
        refine lv_iconst (v := (1 : Int32)) hx hb d_M_hasChild_31 (by decide) ?_
        obtain ⟨x4, g5, hf⟩ := jv_ob hf
        have hPc := hP.sub (ws' := (w_model cI q_mo q_mlb_ q_mcl_ q_mus_ q_mwr_ q_mdk_ q_mcp_ mth mar mfu mLb mCl mUs mWr mDk mCp)) [0, 1, 2, 3, 4, 5, 6] rfl
        refine jv_cs (W.runV (As := [.int y0, .int a.2, .int (1 : Int32)]) (rest := []) (b := q_mo) ⟨hx, hb, hml, hown, hts⟩ (c_M_inode l dC dI cI cA cL q_mo q_mlb_ q_mcl_ q_mus_ q_mwr_ q_mdk_ q_mcp_ mth mar mfu mLb mCl mUs mWr mDk mCp y0 a.2 (1 : Int32) x4 g5) (jv_cwV hts wa_207 wa_194 wa_208 wa_209 wa_210 rfl rfl yd_M_inode ⟨Nat.le_of_ble_eq_true rfl, Nat.le_of_ble_eq_true rfl⟩) (jv_preV hK hPc 0 rfl rfl) rfl rfl hl.1 rfl (lv_room (Nat.le_of_ble_eq_true rfl)) d_M_hasChild_32 ⟨Nat.zero_le _, Nat.zero_le _⟩) ?_
        refine lv_iload_n hx hb d_M_hasChild_35 rfl (lv_at hl 2 rfl) ?_
        refine lv_icmp_ne (tgt := 43) hx hb d_M_hasChild_36 (by decide) (fun hc => ?_) (fun hc => ?_)
        · have hf := jv_if hf hc
          refine lv_iconst (v := (0 : Int32)) hx hb d_M_hasChild_43 (by decide) ?_
          refine lv_istore_n (lv' := [(3, .int (0 : Int32)), (0, .ref q_mo), (1, .int y0), (2, .int y1), (4, .int a.2)]) hx hb d_M_hasChild_44 rfl hl (by decide) rfl (fun ls hl => ?_)
          refine lv_iinc (k := 4) (v := a.2 + (1 : Int32)) (lv' := [(4, .int (a.2 + (1 : Int32))), (3, .int (0 : Int32)), (0, .ref q_mo), (1, .int y0), (2, .int y1)]) hx hb d_M_hasChild_45 hl rfl (jv_inc _) (by decide) rfl (fun ls hl => ?_)
          refine lv_goto (tgt := 5) hx hb d_M_hasChild_48 (by decide) ?_
          exact hk5 ((0 : Int32), a.2 + (1 : Int32)) _ (lv_sub hl [2, 3, 4, 1, 0] rfl) hf
        · have hf := jv_it hf hc
          refine lv_iconst (v := (1 : Int32)) hx hb d_M_hasChild_39 (by decide) ?_
          refine lv_goto (tgt := 44) hx hb d_M_hasChild_40 (by decide) ?_
          refine lv_istore_n (lv' := [(3, .int (1 : Int32)), (0, .ref q_mo), (1, .int y0), (2, .int y1), (4, .int a.2)]) hx hb d_M_hasChild_44 rfl hl (by decide) rfl (fun ls hl => ?_)
          refine lv_iinc (k := 4) (v := a.2 + (1 : Int32)) (lv' := [(4, .int (a.2 + (1 : Int32))), (3, .int (1 : Int32)), (0, .ref q_mo), (1, .int y0), (2, .int y1)]) hx hb d_M_hasChild_45 hl rfl (jv_inc _) (by decide) rfl (fun ls hl => ?_)
          refine lv_goto (tgt := 5) hx hb d_M_hasChild_48 (by decide) ?_
          exact hk5 ((1 : Int32), a.2 + (1 : Int32)) _ (lv_sub hl [2, 3, 4, 1, 0] rfl) hf
set_option maxHeartbeats 4000000 in
set_option maxRecDepth 100000 in
theorem l_M_hasChild_5 {l : Launch} {dC : Nat → ClassId} {dI : Nat → Nat → Nat} {cI cA cL : ClassId} {q_mo q_mlb_ q_mcl_ q_mus_ q_mwr_ q_mdk_ q_mcp_ : Nat} {mth : Int32} {mar : Int32} {mfu : Int32} {mLb : Nat → Int32} {mCl : Nat → Int32} {mUs : Nat → Int32} {mWr : Nat → Int32} {mDk : Nat → Int32} {mCp : Nat → Int32} {p : Program} {e : Env} {s : State} {m : MethodId} {args : Array Value} {below : List Frame} {meth : Method} {c : Code} (cx : jv_cx p s m args meth c cc_M_hasChild 5 R_Model (some .boolean) ws_M_hasChild) (hK : va_K (dC, dI) vwCl (jv_ty cI cA cL) s) (hP : va_P (dC, dI) vwCl (w_model cI q_mo q_mlb_ q_mcl_ q_mus_ q_mwr_ q_mdk_ q_mcp_ mth mar mfu mLb mCl mUs mWr mDk mCp) s.heap) {r : Int32} {y0 : Int32} {y1 : Int32} : ∀ n : Nat, ∀ (a : Int32 × Int32) (ls : Array Slot), lv_has ls 5 [(0, .ref q_mo), (1, .int y0), (2, .int y1), (3, .int a.1), (4, .int a.2)] → jv_fx (f_M_hasChild_5 mDk y0 y1) n a = some r → W p l e rm_M_hasChild s m args below meth c s.heap [] 0 0 (MQ below (QcRead r) args s 0 0 (fun _ => False)) (F0 m 5 ls []) := by
  intro n
  induction n with
  | zero => intro a ls hl hf; exact jv_no hf
  | succ n ih => intro a ls hl hf; exact b_M_hasChild_5 cx hK hP ih hl hf
def f_M_hasChild_0 (mDk : Nat → Int32) (y0 : Int32) (y1 : Int32) : Option (Int32) :=
  jv_fx (f_M_hasChild_5 mDk y0 y1) 300 ((0 : Int32), (1 : Int32))
set_option maxHeartbeats 4000000 in
set_option maxRecDepth 100000 in
theorem b_M_hasChild_0 {l : Launch} {dC : Nat → ClassId} {dI : Nat → Nat → Nat} {cI cA cL : ClassId} {q_mo q_mlb_ q_mcl_ q_mus_ q_mwr_ q_mdk_ q_mcp_ : Nat} {mth : Int32} {mar : Int32} {mfu : Int32} {mLb : Nat → Int32} {mCl : Nat → Int32} {mUs : Nat → Int32} {mWr : Nat → Int32} {mDk : Nat → Int32} {mCp : Nat → Int32} {p : Program} {e : Env} {s : State} {m : MethodId} {args : Array Value} {below : List Frame} {meth : Method} {c : Code} (cx : jv_cx p s m args meth c cc_M_hasChild 5 R_Model (some .boolean) ws_M_hasChild) (hK : va_K (dC, dI) vwCl (jv_ty cI cA cL) s) (hP : va_P (dC, dI) vwCl (w_model cI q_mo q_mlb_ q_mcl_ q_mus_ q_mwr_ q_mdk_ q_mcp_ mth mar mfu mLb mCl mUs mWr mDk mCp) s.heap) {r : Int32} {y0 : Int32} {y1 : Int32} {ls : Array Slot} (hl : lv_has ls 5 [(0, .ref q_mo), (1, .int y0), (2, .int y1)]) (hf : f_M_hasChild_0 mDk y0 y1 = some r) : W p l e rm_M_hasChild s m args below meth c s.heap [] 0 0 (MQ below (QcRead r) args s 0 0 (fun _ => False)) (F0 m 0 ls []) := by
  unfold f_M_hasChild_0 at hf
  obtain ⟨hx, hb, hml, hown, hts, hr, hlocks⟩ := id cx
  refine lv_iconst (v := (0 : Int32)) hx hb d_M_hasChild_0 (by decide) ?_
  refine lv_istore_n (lv' := [(3, .int (0 : Int32)), (0, .ref q_mo), (1, .int y0), (2, .int y1)]) hx hb d_M_hasChild_1 rfl hl (by decide) rfl (fun ls hl => ?_)
  refine lv_iconst (v := (1 : Int32)) hx hb d_M_hasChild_2 (by decide) ?_
  refine lv_istore (lv' := [(4, .int (1 : Int32)), (3, .int (0 : Int32)), (0, .ref q_mo), (1, .int y0), (2, .int y1)]) hx hb d_M_hasChild_3 hl (by decide) rfl (fun ls hl => ?_)
  exact l_M_hasChild_5 (y0 := y0) (y1 := y1) cx hK hP 300 ((0 : Int32), (1 : Int32)) _ (lv_sub hl [2, 3, 4, 1, 0] rfl) hf
def f_M_hasChild (mDk : Nat → Int32) (a0 : Int32) (a1 : Int32) : Option (Int32) := f_M_hasChild_0 mDk a0 a1
set_option maxHeartbeats 4000000 in
set_option maxRecDepth 100000 in
theorem c_M_hasChild (l : Launch) (dC : Nat → ClassId) (dI : Nat → Nat → Nat) (cI cA cL : ClassId) (q_mo q_mlb_ q_mcl_ q_mus_ q_mwr_ q_mdk_ q_mcp_ : Nat) (mth : Int32) (mar : Int32) (mfu : Int32) (mLb : Nat → Int32) (mCl : Nat → Int32) (mUs : Nat → Int32) (mWr : Nat → Int32) (mDk : Nat → Int32) (mCp : Nat → Int32) (a0 : Int32) (a1 : Int32) (r : Int32) (hf : f_M_hasChild mDk a0 a1 = some r) : Met l y_M_hasChild ws_M_hasChild rm_M_hasChild (jv_Pr [.ref q_mo, .int a0, .int a1] (dC, dI) (jv_ty cI cA cL) (w_model cI q_mo q_mlb_ q_mcl_ q_mus_ q_mwr_ q_mdk_ q_mcp_ mth mar mfu mLb mCl mUs mWr mDk mCp)) (QcRead r) 0 0 (fun _ => False) := by
  refine Met.ofW (cc := cc_M_hasChild) (maxL := 5) (ret := (some .boolean)) (by decide) rfl ?_
  intro p e s m args below meth c s₁ B hml hv
  obtain ⟨rfl, hP, hK⟩ := hv
  have cx : jv_cx p s m _ meth c cc_M_hasChild 5 R_Model (some .boolean) ws_M_hasChild := ⟨B.exec, B.bytes, hml, findClass_of_methodNamed B.named, atoms_spec (ws := ws_M_hasChild) B.pre, B.returns, B.notSynchronized⟩
  have hl := lv_entry ([.ref q_mo, .int a0, .int a1]) (n := 5) (Nat.le_of_ble_eq_true rfl)
  rw [lg_entry_eq]
  generalize (lg_sl ([.ref q_mo, .int a0, .int a1]) ++ List.replicate (5 - (lg_sl ([.ref q_mo, .int a0, .int a1])).length) Slot.unset).toArray = ls at hl ⊢
  have hl : lv_has ls 5 [(0, .ref q_mo), (1, .int a0), (2, .int a1)] := hl
  exact b_M_hasChild_0 (y0 := a0) (y1 := a1) cx hK hP (lv_sub hl [0, 1, 2] rfl) hf
theorem d_M_below_0 : decode cc_M_below 0 = .ok (.iload_n 2, 1) := by decide +kernel
theorem d_M_below_1 : decode cc_M_below 1 = .ok (.istore 4, 2) := by decide +kernel
theorem d_M_below_3 : decode cc_M_below 3 = .ok (.iconst 0, 1) := by decide +kernel
theorem d_M_below_4 : decode cc_M_below 4 = .ok (.istore 5, 2) := by decide +kernel
theorem d_M_below_6 : decode cc_M_below 6 = .ok (.iload 5, 2) := by decide +kernel
theorem d_M_below_8 : decode cc_M_below 8 = .ok (.bipush 8, 2) := by decide +kernel
theorem d_M_below_10 : decode cc_M_below 10 = .ok (.if_icmp .ge 35, 3) := by decide +kernel
theorem d_M_below_45 : decode cc_M_below 45 = .ok (.iconst (-1), 1) := by decide +kernel
theorem d_M_below_46 : decode cc_M_below 46 = .ok (.ireturn, 1) := by decide +kernel
theorem d_M_below_13 : decode cc_M_below 13 = .ok (.iload 4, 2) := by decide +kernel
theorem d_M_below_15 : decode cc_M_below 15 = .ok (.iload_n 3, 1) := by decide +kernel
theorem d_M_below_16 : decode cc_M_below 16 = .ok (.if_icmp .ne 6, 3) := by decide +kernel
theorem d_M_below_22 : decode cc_M_below 22 = .ok (.iload 4, 2) := by decide +kernel
theorem d_M_below_24 : decode cc_M_below 24 = .ok (.ifCond .ne 5, 3) := by decide +kernel
theorem d_M_below_29 : decode cc_M_below 29 = .ok (.aload_n 0, 1) := by decide +kernel
theorem d_M_below_30 : decode cc_M_below 30 = .ok (.iload_n 1, 1) := by decide +kernel
theorem d_M_below_31 : decode cc_M_below 31 = .ok (.iload 4, 2) := by decide +kernel
theorem d_M_below_33 : decode cc_M_below 33 = .ok (.iconst 1, 1) := by decide +kernel
theorem d_M_below_34 : decode cc_M_below 34 = .ok (.invokevirtual 64, 3) := by decide +kernel
theorem d_M_below_37 : decode cc_M_below 37 = .ok (.istore 4, 2) := by decide +kernel
theorem d_M_below_39 : decode cc_M_below 39 = .ok (.iinc 5 1, 3) := by decide +kernel
theorem d_M_below_42 : decode cc_M_below 42 = .ok (.goto (-36), 3) := by decide +kernel
theorem d_M_below_27 : decode cc_M_below 27 = .ok (.iconst (-1), 1) := by decide +kernel
theorem d_M_below_28 : decode cc_M_below 28 = .ok (.ireturn, 1) := by decide +kernel
theorem d_M_below_19 : decode cc_M_below 19 = .ok (.iload 5, 2) := by decide +kernel
theorem d_M_below_21 : decode cc_M_below 21 = .ok (.ireturn, 1) := by decide +kernel
def f_M_below_6 (mDk : Nat → Int32) (y0 : Int32) (y1 : Int32) (k6 : (Int32 × Int32) → Option (Int32)) (a : Int32 × Int32) : Option (Int32) :=
  if (8 : Int32) ≤ a.2 then (some (-1 : Int32)) else (if a.1 = y1 then (some a.2) else (if a.1 = 0 then (some (-1 : Int32)) else ((f_M_inode mDk y0 a.1 (1 : Int32)).bind fun x1 => k6 (x1, a.2 + (1 : Int32)))))
set_option maxHeartbeats 4000000 in
set_option maxRecDepth 100000 in
theorem b_M_below_6 {l : Launch} {dC : Nat → ClassId} {dI : Nat → Nat → Nat} {cI cA cL : ClassId} {q_mo q_mlb_ q_mcl_ q_mus_ q_mwr_ q_mdk_ q_mcp_ : Nat} {mth : Int32} {mar : Int32} {mfu : Int32} {mLb : Nat → Int32} {mCl : Nat → Int32} {mUs : Nat → Int32} {mWr : Nat → Int32} {mDk : Nat → Int32} {mCp : Nat → Int32} {p : Program} {e : Env} {s : State} {m : MethodId} {args : Array Value} {below : List Frame} {meth : Method} {c : Code} (cx : jv_cx p s m args meth c cc_M_below 6 R_Model (some .int) ws_M_below) (hK : va_K (dC, dI) vwCl (jv_ty cI cA cL) s) (hP : va_P (dC, dI) vwCl (w_model cI q_mo q_mlb_ q_mcl_ q_mus_ q_mwr_ q_mdk_ q_mcp_ mth mar mfu mLb mCl mUs mWr mDk mCp) s.heap) {r : Int32} {y0 : Int32} {y1 : Int32} {k6 : (Int32 × Int32) → Option (Int32)} (hk6 : ∀ (a : Int32 × Int32) (ls : Array Slot), lv_has ls 6 [(0, .ref q_mo), (1, .int y0), (3, .int y1), (4, .int a.1), (5, .int a.2)] → k6 a = some r → W p l e rm_M_below s m args below meth c s.heap [] 0 0 (MQ below (QcRead r) args s 0 0 (fun _ => False)) (F0 m 6 ls [])) {a : Int32 × Int32} {ls : Array Slot} (hl : lv_has ls 6 [(0, .ref q_mo), (1, .int y0), (3, .int y1), (4, .int a.1), (5, .int a.2)]) (hf : f_M_below_6 mDk y0 y1 k6 a = some r) : W p l e rm_M_below s m args below meth c s.heap [] 0 0 (MQ below (QcRead r) args s 0 0 (fun _ => False)) (F0 m 6 ls []) := by
  unfold f_M_below_6 at hf
  obtain ⟨hx, hb, hml, hown, hts, hr, hlocks⟩ := id cx
  refine lv_iload hx hb d_M_below_6 (lv_at hl 4 rfl) ?_
  refine lv_bipush (v := (8 : Int32)) hx hb d_M_below_8 (by decide) ?_
  refine lv_icmp_ge (tgt := 45) hx hb d_M_below_10 (by decide) (fun hc => ?_) (fun hc => ?_)
  · have hf := jv_it hf hc
    refine lv_iconst (v := (-1 : Int32)) hx hb d_M_below_45 (by decide) ?_
    obtain rfl := Option.some.inj hf
    exact W.iret hx hb hr (fun t ht hW => ⟨rfl, ht⟩) (fun q h => by cases h) d_M_below_46
  · have hf := jv_if hf hc
    refine lv_iload hx hb d_M_below_13 (lv_at hl 3 rfl) ?_
    refine lv_iload_n hx hb d_M_below_15 rfl (lv_at hl 2 rfl) ?_
    refine lv_icmp_ne (tgt := 22) hx hb d_M_below_16 (by decide) (fun hc => ?_) (fun hc => ?_)
    · have hf := jv_if hf hc
      refine lv_iload hx hb d_M_below_22 (lv_at hl 3 rfl) ?_
      refine lv_if_ne (tgt := 29) hx hb d_M_below_24 (by decide) (fun hc => ?_) (fun hc => ?_)
      · have hf := jv_if hf hc
        refine lv_aload_n hx hb d_M_below_29 rfl (lv_at hl 0 rfl) ?_
        refine lv_iload_n hx hb d_M_below_30 rfl (lv_at hl 1 rfl) ?_
        refine lv_iload hx hb d_M_below_31 (lv_at hl 3 rfl) ?_
        refine lv_iconst (v := (1 : Int32)) hx hb d_M_below_33 (by decide) ?_
        obtain ⟨x1, g2, hf⟩ := jv_ob hf
        have hPc := hP.sub (ws' := (w_model cI q_mo q_mlb_ q_mcl_ q_mus_ q_mwr_ q_mdk_ q_mcp_ mth mar mfu mLb mCl mUs mWr mDk mCp)) [0, 1, 2, 3, 4, 5, 6] rfl
        refine jv_cs (W.runV (As := [.int y0, .int a.1, .int (1 : Int32)]) (rest := []) (b := q_mo) ⟨hx, hb, hml, hown, hts⟩ (c_M_inode l dC dI cI cA cL q_mo q_mlb_ q_mcl_ q_mus_ q_mwr_ q_mdk_ q_mcp_ mth mar mfu mLb mCl mUs mWr mDk mCp y0 a.1 (1 : Int32) x1 g2) (jv_cwV hts wa_207 wa_194 wa_208 wa_209 wa_210 rfl rfl yd_M_inode ⟨Nat.le_of_ble_eq_true rfl, Nat.le_of_ble_eq_true rfl⟩) (jv_preV hK hPc 0 rfl rfl) rfl rfl hl.1 rfl (lv_room (Nat.le_of_ble_eq_true rfl)) d_M_below_34 ⟨Nat.zero_le _, Nat.zero_le _⟩) ?_
        refine lv_istore (lv' := [(4, .int x1), (0, .ref q_mo), (1, .int y0), (3, .int y1), (5, .int a.2)]) hx hb d_M_below_37 hl (by decide) rfl (fun ls hl => ?_)
        refine lv_iinc (k := 4) (v := a.2 + (1 : Int32)) (lv' := [(5, .int (a.2 + (1 : Int32))), (4, .int x1), (0, .ref q_mo), (1, .int y0), (3, .int y1)]) hx hb d_M_below_39 hl rfl (jv_inc _) (by decide) rfl (fun ls hl => ?_)
        refine lv_goto (tgt := 6) hx hb d_M_below_42 (by decide) ?_
        exact hk6 (x1, a.2 + (1 : Int32)) _ (lv_sub hl [2, 3, 4, 1, 0] rfl) hf
      · have hf := jv_it hf hc
        refine lv_iconst (v := (-1 : Int32)) hx hb d_M_below_27 (by decide) ?_
        obtain rfl := Option.some.inj hf
        exact W.iret hx hb hr (fun t ht hW => ⟨rfl, ht⟩) (fun q h => by cases h) d_M_below_28
    · have hf := jv_it hf hc
      refine lv_iload hx hb d_M_below_19 (lv_at hl 4 rfl) ?_
      obtain rfl := Option.some.inj hf
      exact W.iret hx hb hr (fun t ht hW => ⟨rfl, ht⟩) (fun q h => by cases h) d_M_below_21
set_option maxHeartbeats 4000000 in
set_option maxRecDepth 100000 in
theorem l_M_below_6 {l : Launch} {dC : Nat → ClassId} {dI : Nat → Nat → Nat} {cI cA cL : ClassId} {q_mo q_mlb_ q_mcl_ q_mus_ q_mwr_ q_mdk_ q_mcp_ : Nat} {mth : Int32} {mar : Int32} {mfu : Int32} {mLb : Nat → Int32} {mCl : Nat → Int32} {mUs : Nat → Int32} {mWr : Nat → Int32} {mDk : Nat → Int32} {mCp : Nat → Int32} {p : Program} {e : Env} {s : State} {m : MethodId} {args : Array Value} {below : List Frame} {meth : Method} {c : Code} (cx : jv_cx p s m args meth c cc_M_below 6 R_Model (some .int) ws_M_below) (hK : va_K (dC, dI) vwCl (jv_ty cI cA cL) s) (hP : va_P (dC, dI) vwCl (w_model cI q_mo q_mlb_ q_mcl_ q_mus_ q_mwr_ q_mdk_ q_mcp_ mth mar mfu mLb mCl mUs mWr mDk mCp) s.heap) {r : Int32} {y0 : Int32} {y1 : Int32} : ∀ n : Nat, ∀ (a : Int32 × Int32) (ls : Array Slot), lv_has ls 6 [(0, .ref q_mo), (1, .int y0), (3, .int y1), (4, .int a.1), (5, .int a.2)] → jv_fx (f_M_below_6 mDk y0 y1) n a = some r → W p l e rm_M_below s m args below meth c s.heap [] 0 0 (MQ below (QcRead r) args s 0 0 (fun _ => False)) (F0 m 6 ls []) := by
  intro n
  induction n with
  | zero => intro a ls hl hf; exact jv_no hf
  | succ n ih => intro a ls hl hf; exact b_M_below_6 cx hK hP ih hl hf
def f_M_below_0 (mDk : Nat → Int32) (y0 : Int32) (y1 : Int32) (y2 : Int32) : Option (Int32) :=
  jv_fx (f_M_below_6 mDk y0 y2) 300 (y1, (0 : Int32))
set_option maxHeartbeats 4000000 in
set_option maxRecDepth 100000 in
theorem b_M_below_0 {l : Launch} {dC : Nat → ClassId} {dI : Nat → Nat → Nat} {cI cA cL : ClassId} {q_mo q_mlb_ q_mcl_ q_mus_ q_mwr_ q_mdk_ q_mcp_ : Nat} {mth : Int32} {mar : Int32} {mfu : Int32} {mLb : Nat → Int32} {mCl : Nat → Int32} {mUs : Nat → Int32} {mWr : Nat → Int32} {mDk : Nat → Int32} {mCp : Nat → Int32} {p : Program} {e : Env} {s : State} {m : MethodId} {args : Array Value} {below : List Frame} {meth : Method} {c : Code} (cx : jv_cx p s m args meth c cc_M_below 6 R_Model (some .int) ws_M_below) (hK : va_K (dC, dI) vwCl (jv_ty cI cA cL) s) (hP : va_P (dC, dI) vwCl (w_model cI q_mo q_mlb_ q_mcl_ q_mus_ q_mwr_ q_mdk_ q_mcp_ mth mar mfu mLb mCl mUs mWr mDk mCp) s.heap) {r : Int32} {y0 : Int32} {y1 : Int32} {y2 : Int32} {ls : Array Slot} (hl : lv_has ls 6 [(0, .ref q_mo), (1, .int y0), (2, .int y1), (3, .int y2)]) (hf : f_M_below_0 mDk y0 y1 y2 = some r) : W p l e rm_M_below s m args below meth c s.heap [] 0 0 (MQ below (QcRead r) args s 0 0 (fun _ => False)) (F0 m 0 ls []) := by
  unfold f_M_below_0 at hf
  obtain ⟨hx, hb, hml, hown, hts, hr, hlocks⟩ := id cx
  refine lv_iload_n hx hb d_M_below_0 rfl (lv_at hl 2 rfl) ?_
  refine lv_istore (lv' := [(4, .int y1), (0, .ref q_mo), (1, .int y0), (2, .int y1), (3, .int y2)]) hx hb d_M_below_1 hl (by decide) rfl (fun ls hl => ?_)
  refine lv_iconst (v := (0 : Int32)) hx hb d_M_below_3 (by decide) ?_
  refine lv_istore (lv' := [(5, .int (0 : Int32)), (4, .int y1), (0, .ref q_mo), (1, .int y0), (2, .int y1), (3, .int y2)]) hx hb d_M_below_4 hl (by decide) rfl (fun ls hl => ?_)
  exact l_M_below_6 (y0 := y0) (y1 := y2) cx hK hP 300 (y1, (0 : Int32)) _ (lv_sub hl [2, 3, 5, 1, 0] rfl) hf
def f_M_below (mDk : Nat → Int32) (a0 : Int32) (a1 : Int32) (a2 : Int32) : Option (Int32) := f_M_below_0 mDk a0 a1 a2
set_option maxHeartbeats 4000000 in
set_option maxRecDepth 100000 in
theorem c_M_below (l : Launch) (dC : Nat → ClassId) (dI : Nat → Nat → Nat) (cI cA cL : ClassId) (q_mo q_mlb_ q_mcl_ q_mus_ q_mwr_ q_mdk_ q_mcp_ : Nat) (mth : Int32) (mar : Int32) (mfu : Int32) (mLb : Nat → Int32) (mCl : Nat → Int32) (mUs : Nat → Int32) (mWr : Nat → Int32) (mDk : Nat → Int32) (mCp : Nat → Int32) (a0 : Int32) (a1 : Int32) (a2 : Int32) (r : Int32) (hf : f_M_below mDk a0 a1 a2 = some r) : Met l y_M_below ws_M_below rm_M_below (jv_Pr [.ref q_mo, .int a0, .int a1, .int a2] (dC, dI) (jv_ty cI cA cL) (w_model cI q_mo q_mlb_ q_mcl_ q_mus_ q_mwr_ q_mdk_ q_mcp_ mth mar mfu mLb mCl mUs mWr mDk mCp)) (QcRead r) 0 0 (fun _ => False) := by
  refine Met.ofW (cc := cc_M_below) (maxL := 6) (ret := (some .int)) (by decide) rfl ?_
  intro p e s m args below meth c s₁ B hml hv
  obtain ⟨rfl, hP, hK⟩ := hv
  have cx : jv_cx p s m _ meth c cc_M_below 6 R_Model (some .int) ws_M_below := ⟨B.exec, B.bytes, hml, findClass_of_methodNamed B.named, atoms_spec (ws := ws_M_below) B.pre, B.returns, B.notSynchronized⟩
  have hl := lv_entry ([.ref q_mo, .int a0, .int a1, .int a2]) (n := 6) (Nat.le_of_ble_eq_true rfl)
  rw [lg_entry_eq]
  generalize (lg_sl ([.ref q_mo, .int a0, .int a1, .int a2]) ++ List.replicate (6 - (lg_sl ([.ref q_mo, .int a0, .int a1, .int a2])).length) Slot.unset).toArray = ls at hl ⊢
  have hl : lv_has ls 6 [(0, .ref q_mo), (1, .int a0), (2, .int a1), (3, .int a2)] := hl
  exact b_M_below_0 (y0 := a0) (y1 := a1) (y2 := a2) cx hK hP (lv_sub hl [0, 1, 2, 3] rfl) hf
theorem d_M_unreadable_0 : decode cc_M_unreadable 0 = .ok (.aload_n 0, 1) := by decide +kernel
theorem d_M_unreadable_1 : decode cc_M_unreadable 1 = .ok (.iload_n 1, 1) := by decide +kernel
theorem d_M_unreadable_2 : decode cc_M_unreadable 2 = .ok (.invokevirtual 53, 3) := by decide +kernel
theorem d_M_unreadable_5 : decode cc_M_unreadable 5 = .ok (.ifCond .eq 18, 3) := by decide +kernel
theorem d_M_unreadable_23 : decode cc_M_unreadable 23 = .ok (.iconst 1, 1) := by decide +kernel
theorem d_M_unreadable_24 : decode cc_M_unreadable 24 = .ok (.ireturn, 1) := by decide +kernel
theorem d_M_unreadable_8 : decode cc_M_unreadable 8 = .ok (.iload_n 2, 1) := by decide +kernel
theorem d_M_unreadable_9 : decode cc_M_unreadable 9 = .ok (.invokestatic 81, 3) := by decide +kernel
theorem d_M_unreadable_12 : decode cc_M_unreadable 12 = .ok (.ifCond .eq 11, 3) := by decide +kernel
theorem d_M_unreadable_15 : decode cc_M_unreadable 15 = .ok (.aload_n 0, 1) := by decide +kernel
theorem d_M_unreadable_16 : decode cc_M_unreadable 16 = .ok (.iload_n 3, 1) := by decide +kernel
theorem d_M_unreadable_17 : decode cc_M_unreadable 17 = .ok (.invokevirtual 50, 3) := by decide +kernel
theorem d_M_unreadable_20 : decode cc_M_unreadable 20 = .ok (.ifCond .ne 5, 3) := by decide +kernel
theorem d_M_unreadable_25 : decode cc_M_unreadable 25 = .ok (.aload_n 0, 1) := by decide +kernel
theorem d_M_unreadable_26 : decode cc_M_unreadable 26 = .ok (.iload_n 3, 1) := by decide +kernel
theorem d_M_unreadable_27 : decode cc_M_unreadable 27 = .ok (.iload_n 2, 1) := by decide +kernel
theorem d_M_unreadable_28 : decode cc_M_unreadable 28 = .ok (.invokevirtual 74, 3) := by decide +kernel
theorem d_M_unreadable_31 : decode cc_M_unreadable 31 = .ok (.istore 4, 2) := by decide +kernel
theorem d_M_unreadable_33 : decode cc_M_unreadable 33 = .ok (.aload_n 0, 1) := by decide +kernel
theorem d_M_unreadable_34 : decode cc_M_unreadable 34 = .ok (.iload_n 1, 1) := by decide +kernel
theorem d_M_unreadable_35 : decode cc_M_unreadable 35 = .ok (.iload_n 3, 1) := by decide +kernel
theorem d_M_unreadable_36 : decode cc_M_unreadable 36 = .ok (.invokevirtual 71, 3) := by decide +kernel
theorem d_M_unreadable_39 : decode cc_M_unreadable 39 = .ok (.ifCond .ne 7, 3) := by decide +kernel
theorem d_M_unreadable_46 : decode cc_M_unreadable 46 = .ok (.iload 4, 2) := by decide +kernel
theorem d_M_unreadable_48 : decode cc_M_unreadable 48 = .ok (.ifCond .ne 7, 3) := by decide +kernel
theorem d_M_unreadable_55 : decode cc_M_unreadable 55 = .ok (.iload 4, 2) := by decide +kernel
theorem d_M_unreadable_57 : decode cc_M_unreadable 57 = .ok (.iconst 1, 1) := by decide +kernel
theorem d_M_unreadable_58 : decode cc_M_unreadable 58 = .ok (.if_icmp .ne 7, 3) := by decide +kernel
theorem d_M_unreadable_65 : decode cc_M_unreadable 65 = .ok (.iconst 0, 1) := by decide +kernel
theorem d_M_unreadable_66 : decode cc_M_unreadable 66 = .ok (.ireturn, 1) := by decide +kernel
theorem d_M_unreadable_61 : decode cc_M_unreadable 61 = .ok (.iconst 4, 1) := by decide +kernel
theorem d_M_unreadable_62 : decode cc_M_unreadable 62 = .ok (.goto 4, 3) := by decide +kernel
theorem d_M_unreadable_51 : decode cc_M_unreadable 51 = .ok (.iconst 3, 1) := by decide +kernel
theorem d_M_unreadable_52 : decode cc_M_unreadable 52 = .ok (.goto 14, 3) := by decide +kernel
theorem d_M_unreadable_42 : decode cc_M_unreadable 42 = .ok (.iconst 2, 1) := by decide +kernel
theorem d_M_unreadable_43 : decode cc_M_unreadable 43 = .ok (.goto 23, 3) := by decide +kernel
def f_M_unreadable_0 (mar : Int32) (mLb : Nat → Int32) (mUs : Nat → Int32) (mDk : Nat → Int32) (y0 : Int32) (y1 : Int32) (y2 : Int32) : Option (Int32) :=
  (f_M_isSession mUs y0).bind fun x1 => if x1 = 0 then (some (1 : Int32)) else ((f_M_isPath y1).bind fun x3 => if x3 = 0 then (some (1 : Int32)) else ((f_M_isArea mar y2).bind fun x5 => if x5 = 0 then (some (1 : Int32)) else ((f_M_kind mDk y2 y1).bind fun x7 => (f_M_sees mLb y0 y2).bind fun x9 => if x9 = 0 then (some (2 : Int32)) else (if x7 = 0 then (some (3 : Int32)) else (if x7 = (1 : Int32) then (some (4 : Int32)) else (some (0 : Int32)))))))
set_option maxHeartbeats 4000000 in
set_option maxRecDepth 100000 in
theorem b_M_unreadable_0 {l : Launch} {dC : Nat → ClassId} {dI : Nat → Nat → Nat} {cI cA cL : ClassId} {q_mo q_mlb_ q_mcl_ q_mus_ q_mwr_ q_mdk_ q_mcp_ : Nat} {mth : Int32} {mar : Int32} {mfu : Int32} {mLb : Nat → Int32} {mCl : Nat → Int32} {mUs : Nat → Int32} {mWr : Nat → Int32} {mDk : Nat → Int32} {mCp : Nat → Int32} {p : Program} {e : Env} {s : State} {m : MethodId} {args : Array Value} {below : List Frame} {meth : Method} {c : Code} (cx : jv_cx p s m args meth c cc_M_unreadable 5 R_Model (some .int) ws_M_unreadable) (hK : va_K (dC, dI) vwCl (jv_ty cI cA cL) s) (hP : va_P (dC, dI) vwCl (w_model cI q_mo q_mlb_ q_mcl_ q_mus_ q_mwr_ q_mdk_ q_mcp_ mth mar mfu mLb mCl mUs mWr mDk mCp) s.heap) {r : Int32} {y0 : Int32} {y1 : Int32} {y2 : Int32} {ls : Array Slot} (hl : lv_has ls 5 [(0, .ref q_mo), (1, .int y0), (2, .int y1), (3, .int y2)]) (hf : f_M_unreadable_0 mar mLb mUs mDk y0 y1 y2 = some r) : W p l e rm_M_unreadable s m args below meth c s.heap [] 0 0 (MQ below (QcRead r) args s 0 0 (fun _ => False)) (F0 m 0 ls []) := by
  unfold f_M_unreadable_0 at hf
  obtain ⟨hx, hb, hml, hown, hts, hr, hlocks⟩ := id cx
  refine lv_aload_n hx hb d_M_unreadable_0 rfl (lv_at hl 0 rfl) ?_
  refine lv_iload_n hx hb d_M_unreadable_1 rfl (lv_at hl 1 rfl) ?_
  obtain ⟨x1, g2, hf⟩ := jv_ob hf
  have hPc := hP.sub (ws' := (w_model cI q_mo q_mlb_ q_mcl_ q_mus_ q_mwr_ q_mdk_ q_mcp_ mth mar mfu mLb mCl mUs mWr mDk mCp)) [0, 1, 2, 3, 4, 5, 6] rfl
  refine jv_cs (W.runV (As := [.int y0]) (rest := []) (b := q_mo) ⟨hx, hb, hml, hown, hts⟩ (c_M_isSession l dC dI cI cA cL q_mo q_mlb_ q_mcl_ q_mus_ q_mwr_ q_mdk_ q_mcp_ mth mar mfu mLb mCl mUs mWr mDk mCp y0 x1 g2) (jv_cwV hts wa_227 wa_194 wa_228 wa_229 wa_230 rfl rfl yd_M_isSession ⟨Nat.le_of_ble_eq_true rfl, Nat.le_of_ble_eq_true rfl⟩) (jv_preV hK hPc 0 rfl rfl) rfl rfl hl.1 rfl (lv_room (Nat.le_of_ble_eq_true rfl)) d_M_unreadable_2 ⟨Nat.zero_le _, Nat.zero_le _⟩) ?_
  refine lv_if_eq (tgt := 23) hx hb d_M_unreadable_5 (by decide) (fun hc => ?_) (fun hc => ?_)
  · have hf := jv_it hf hc
    refine lv_iconst (v := (1 : Int32)) hx hb d_M_unreadable_23 (by decide) ?_
    obtain rfl := Option.some.inj hf
    exact W.iret hx hb hr (fun t ht hW => ⟨rfl, ht⟩) (fun q h => by cases h) d_M_unreadable_24
  · have hf := jv_if hf hc
    refine lv_iload_n hx hb d_M_unreadable_8 rfl (lv_at hl 2 rfl) ?_
    obtain ⟨x3, g4, hf⟩ := jv_ob hf
    refine jv_cs (W.runS (As := [.int y1]) (rest := []) ⟨hx, hb, hml, hown, hts⟩ (c_M_isPath l y1 x3 g4) (jv_cwS hts wa_231 wa_194 wa_232 wa_233 rfl rfl yd_M_isPath ⟨Nat.le_of_ble_eq_true rfl, Nat.le_of_ble_eq_true rfl⟩) jv_pre0 rfl rfl hl.1 rfl (lv_room (Nat.le_of_ble_eq_true rfl)) d_M_unreadable_9 ⟨Nat.zero_le _, Nat.zero_le _⟩) ?_
    refine lv_if_eq (tgt := 23) hx hb d_M_unreadable_12 (by decide) (fun hc => ?_) (fun hc => ?_)
    · have hf := jv_it hf hc
      refine lv_iconst (v := (1 : Int32)) hx hb d_M_unreadable_23 (by decide) ?_
      obtain rfl := Option.some.inj hf
      exact W.iret hx hb hr (fun t ht hW => ⟨rfl, ht⟩) (fun q h => by cases h) d_M_unreadable_24
    · have hf := jv_if hf hc
      refine lv_aload_n hx hb d_M_unreadable_15 rfl (lv_at hl 0 rfl) ?_
      refine lv_iload_n hx hb d_M_unreadable_16 rfl (lv_at hl 3 rfl) ?_
      obtain ⟨x5, g6, hf⟩ := jv_ob hf
      have hPc := hP.sub (ws' := (w_model cI q_mo q_mlb_ q_mcl_ q_mus_ q_mwr_ q_mdk_ q_mcp_ mth mar mfu mLb mCl mUs mWr mDk mCp)) [0, 1, 2, 3, 4, 5, 6] rfl
      refine jv_cs (W.runV (As := [.int y2]) (rest := []) (b := q_mo) ⟨hx, hb, hml, hown, hts⟩ (c_M_isArea l dC dI cI cA cL q_mo q_mlb_ q_mcl_ q_mus_ q_mwr_ q_mdk_ q_mcp_ mth mar mfu mLb mCl mUs mWr mDk mCp y2 x5 g6) (jv_cwV hts wa_239 wa_194 wa_240 wa_241 wa_242 rfl rfl yd_M_isArea ⟨Nat.le_of_ble_eq_true rfl, Nat.le_of_ble_eq_true rfl⟩) (jv_preV hK hPc 0 rfl rfl) rfl rfl hl.1 rfl (lv_room (Nat.le_of_ble_eq_true rfl)) d_M_unreadable_17 ⟨Nat.zero_le _, Nat.zero_le _⟩) ?_
      refine lv_if_ne (tgt := 25) hx hb d_M_unreadable_20 (by decide) (fun hc => ?_) (fun hc => ?_)
      · have hf := jv_if hf hc
        refine lv_aload_n hx hb d_M_unreadable_25 rfl (lv_at hl 0 rfl) ?_
        refine lv_iload_n hx hb d_M_unreadable_26 rfl (lv_at hl 3 rfl) ?_
        refine lv_iload_n hx hb d_M_unreadable_27 rfl (lv_at hl 2 rfl) ?_
        obtain ⟨x7, g8, hf⟩ := jv_ob hf
        have hPc := hP.sub (ws' := (w_model cI q_mo q_mlb_ q_mcl_ q_mus_ q_mwr_ q_mdk_ q_mcp_ mth mar mfu mLb mCl mUs mWr mDk mCp)) [0, 1, 2, 3, 4, 5, 6] rfl
        refine jv_cs (W.runV (As := [.int y2, .int y1]) (rest := []) (b := q_mo) ⟨hx, hb, hml, hown, hts⟩ (c_M_kind l dC dI cI cA cL q_mo q_mlb_ q_mcl_ q_mus_ q_mwr_ q_mdk_ q_mcp_ mth mar mfu mLb mCl mUs mWr mDk mCp y2 y1 x7 g8) (jv_cwV hts wa_223 wa_194 wa_224 wa_225 wa_226 rfl rfl yd_M_kind ⟨Nat.le_of_ble_eq_true rfl, Nat.le_of_ble_eq_true rfl⟩) (jv_preV hK hPc 0 rfl rfl) rfl rfl hl.1 rfl (lv_room (Nat.le_of_ble_eq_true rfl)) d_M_unreadable_28 ⟨Nat.zero_le _, Nat.zero_le _⟩) ?_
        refine lv_istore (lv' := [(4, .int x7), (0, .ref q_mo), (1, .int y0), (2, .int y1), (3, .int y2)]) hx hb d_M_unreadable_31 hl (by decide) rfl (fun ls hl => ?_)
        refine lv_aload_n hx hb d_M_unreadable_33 rfl (lv_at hl 1 rfl) ?_
        refine lv_iload_n hx hb d_M_unreadable_34 rfl (lv_at hl 2 rfl) ?_
        refine lv_iload_n hx hb d_M_unreadable_35 rfl (lv_at hl 4 rfl) ?_
        obtain ⟨x9, g10, hf⟩ := jv_ob hf
        have hPc := hP.sub (ws' := (w_model cI q_mo q_mlb_ q_mcl_ q_mus_ q_mwr_ q_mdk_ q_mcp_ mth mar mfu mLb mCl mUs mWr mDk mCp)) [0, 1, 2, 3, 4, 5, 6] rfl
        refine jv_cs (W.runV (As := [.int y0, .int y2]) (rest := []) (b := q_mo) ⟨hx, hb, hml, hown, hts⟩ (c_M_sees l dC dI cI cA cL q_mo q_mlb_ q_mcl_ q_mus_ q_mwr_ q_mdk_ q_mcp_ mth mar mfu mLb mCl mUs mWr mDk mCp y0 y2 x9 g10) (jv_cwV hts wa_219 wa_194 wa_220 wa_221 wa_222 rfl rfl yd_M_sees ⟨Nat.le_of_ble_eq_true rfl, Nat.le_of_ble_eq_true rfl⟩) (jv_preV hK hPc 0 rfl rfl) rfl rfl hl.1 rfl (lv_room (Nat.le_of_ble_eq_true rfl)) d_M_unreadable_36 ⟨Nat.zero_le _, Nat.zero_le _⟩) ?_
        refine lv_if_ne (tgt := 46) hx hb d_M_unreadable_39 (by decide) (fun hc => ?_) (fun hc => ?_)
        · have hf := jv_if hf hc
          refine lv_iload hx hb d_M_unreadable_46 (lv_at hl 0 rfl) ?_
          refine lv_if_ne (tgt := 55) hx hb d_M_unreadable_48 (by decide) (fun hc => ?_) (fun hc => ?_)
          · have hf := jv_if hf hc
            refine lv_iload hx hb d_M_unreadable_55 (lv_at hl 0 rfl) ?_
            refine lv_iconst (v := (1 : Int32)) hx hb d_M_unreadable_57 (by decide) ?_
            refine lv_icmp_ne (tgt := 65) hx hb d_M_unreadable_58 (by decide) (fun hc => ?_) (fun hc => ?_)
            · have hf := jv_if hf hc
              refine lv_iconst (v := (0 : Int32)) hx hb d_M_unreadable_65 (by decide) ?_
              obtain rfl := Option.some.inj hf
              exact W.iret hx hb hr (fun t ht hW => ⟨rfl, ht⟩) (fun q h => by cases h) d_M_unreadable_66
            · have hf := jv_it hf hc
              refine lv_iconst (v := (4 : Int32)) hx hb d_M_unreadable_61 (by decide) ?_
              refine lv_goto (tgt := 66) hx hb d_M_unreadable_62 (by decide) ?_
              obtain rfl := Option.some.inj hf
              exact W.iret hx hb hr (fun t ht hW => ⟨rfl, ht⟩) (fun q h => by cases h) d_M_unreadable_66
          · have hf := jv_it hf hc
            refine lv_iconst (v := (3 : Int32)) hx hb d_M_unreadable_51 (by decide) ?_
            refine lv_goto (tgt := 66) hx hb d_M_unreadable_52 (by decide) ?_
            obtain rfl := Option.some.inj hf
            exact W.iret hx hb hr (fun t ht hW => ⟨rfl, ht⟩) (fun q h => by cases h) d_M_unreadable_66
        · have hf := jv_it hf hc
          refine lv_iconst (v := (2 : Int32)) hx hb d_M_unreadable_42 (by decide) ?_
          refine lv_goto (tgt := 66) hx hb d_M_unreadable_43 (by decide) ?_
          obtain rfl := Option.some.inj hf
          exact W.iret hx hb hr (fun t ht hW => ⟨rfl, ht⟩) (fun q h => by cases h) d_M_unreadable_66
      · have hf := jv_it hf hc
        refine lv_iconst (v := (1 : Int32)) hx hb d_M_unreadable_23 (by decide) ?_
        obtain rfl := Option.some.inj hf
        exact W.iret hx hb hr (fun t ht hW => ⟨rfl, ht⟩) (fun q h => by cases h) d_M_unreadable_24
def f_M_unreadable (mar : Int32) (mLb : Nat → Int32) (mUs : Nat → Int32) (mDk : Nat → Int32) (a0 : Int32) (a1 : Int32) (a2 : Int32) : Option (Int32) := f_M_unreadable_0 mar mLb mUs mDk a0 a1 a2
set_option maxHeartbeats 4000000 in
set_option maxRecDepth 100000 in
theorem c_M_unreadable (l : Launch) (dC : Nat → ClassId) (dI : Nat → Nat → Nat) (cI cA cL : ClassId) (q_mo q_mlb_ q_mcl_ q_mus_ q_mwr_ q_mdk_ q_mcp_ : Nat) (mth : Int32) (mar : Int32) (mfu : Int32) (mLb : Nat → Int32) (mCl : Nat → Int32) (mUs : Nat → Int32) (mWr : Nat → Int32) (mDk : Nat → Int32) (mCp : Nat → Int32) (a0 : Int32) (a1 : Int32) (a2 : Int32) (r : Int32) (hf : f_M_unreadable mar mLb mUs mDk a0 a1 a2 = some r) : Met l y_M_unreadable ws_M_unreadable rm_M_unreadable (jv_Pr [.ref q_mo, .int a0, .int a1, .int a2] (dC, dI) (jv_ty cI cA cL) (w_model cI q_mo q_mlb_ q_mcl_ q_mus_ q_mwr_ q_mdk_ q_mcp_ mth mar mfu mLb mCl mUs mWr mDk mCp)) (QcRead r) 0 0 (fun _ => False) := by
  refine Met.ofW (cc := cc_M_unreadable) (maxL := 5) (ret := (some .int)) (by decide) rfl ?_
  intro p e s m args below meth c s₁ B hml hv
  obtain ⟨rfl, hP, hK⟩ := hv
  have cx : jv_cx p s m _ meth c cc_M_unreadable 5 R_Model (some .int) ws_M_unreadable := ⟨B.exec, B.bytes, hml, findClass_of_methodNamed B.named, atoms_spec (ws := ws_M_unreadable) B.pre, B.returns, B.notSynchronized⟩
  have hl := lv_entry ([.ref q_mo, .int a0, .int a1, .int a2]) (n := 5) (Nat.le_of_ble_eq_true rfl)
  rw [lg_entry_eq]
  generalize (lg_sl ([.ref q_mo, .int a0, .int a1, .int a2]) ++ List.replicate (5 - (lg_sl ([.ref q_mo, .int a0, .int a1, .int a2])).length) Slot.unset).toArray = ls at hl ⊢
  have hl : lv_has ls 5 [(0, .ref q_mo), (1, .int a0), (2, .int a1), (3, .int a2)] := hl
  exact b_M_unreadable_0 (y0 := a0) (y1 := a1) (y2 := a2) cx hK hP (lv_sub hl [0, 1, 2, 3] rfl) hf
