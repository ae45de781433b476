def f_L_isLabel_0 (y0 : Int32) : Option (Int32) :=
  if y0 < 0 then (some (0 : Int32)) else (if (512 : Int32) ≤ y0 then (some (0 : Int32)) else (some (1 : Int32)))
set_option maxHeartbeats 4000000 in
set_option maxRecDepth 100000 in
theorem b_L_isLabel_0 {l : Launch} {p : Program} {e : Env} {s : State} {m : MethodId} {args : Array Value} {below : List Frame} {meth : Method} {c : Code} (cx : jv_cx p s m args meth c cc_L_isLabel 1 R_Labels (some .boolean) ws_L_isLabel) {r : Int32} {y0 : Int32} {ls : Array Slot} (hl : lv_has ls 1 [(0, .int y0)]) (hf : f_L_isLabel_0 y0 = some r) : W p l e rm_L_isLabel s m args below meth c s.heap [] 0 0 (MQ below (QcRead r) args s 0 0 (fun _ => False)) (F0 m 0 ls []) := by
  unfold f_L_isLabel_0 at hf
  obtain ⟨hx, hb, hml, hown, hts, hr, hlocks⟩ := id cx
  refine lv_iload_n hx hb d_L_isLabel_0 rfl (lv_at hl 0 rfl) ?_
  refine lv_if_lt (tgt := 15) hx hb d_L_isLabel_1 (by decide) (fun hc => ?_) (fun hc => ?_)
  · have hf := jv_it hf hc
    refine lv_iconst (v := (0 : Int32)) hx hb d_L_isLabel_15 (by decide) ?_
    obtain rfl := Option.some.inj hf
    exact W.zret hx hb hr rfl (fun t ht hW => ⟨rfl, ht⟩) (fun q h => by cases h) d_L_isLabel_16
  · have hf := jv_if hf hc
    refine lv_iload_n hx hb d_L_isLabel_4 rfl (lv_at hl 0 rfl) ?_
    refine lv_sipush (v := (512 : Int32)) hx hb d_L_isLabel_5 (by decide) ?_
    refine lv_icmp_ge (tgt := 15) hx hb d_L_isLabel_8 (by decide) (fun hc => ?_) (fun hc => ?_)
    · have hf := jv_it hf hc
      refine lv_iconst (v := (0 : Int32)) hx hb d_L_isLabel_15 (by decide) ?_
      obtain rfl := Option.some.inj hf
      exact W.zret hx hb hr rfl (fun t ht hW => ⟨rfl, ht⟩) (fun q h => by cases h) d_L_isLabel_16
    · have hf := jv_if hf hc
      refine lv_iconst (v := (1 : Int32)) hx hb d_L_isLabel_11 (by decide) ?_
      refine lv_goto (tgt := 16) hx hb d_L_isLabel_12 (by decide) ?_
      obtain rfl := Option.some.inj hf
      exact W.zret hx hb hr rfl (fun t ht hW => ⟨rfl, ht⟩) (fun q h => by cases h) d_L_isLabel_16
def f_L_isLabel (a0 : Int32) : Option (Int32) := f_L_isLabel_0 a0
set_option maxHeartbeats 4000000 in
set_option maxRecDepth 100000 in
theorem c_L_isLabel (l : Launch) (a0 : Int32) (r : Int32) (hf : f_L_isLabel a0 = some r) : Met l y_L_isLabel ws_L_isLabel rm_L_isLabel (jv_P0 [.int a0]) (QcRead r) 0 0 (fun _ => False) := by
  refine Met.ofW (cc := cc_L_isLabel) (maxL := 1) (ret := (some .boolean)) (by decide) rfl ?_
  intro p e s m args below meth c s₁ B hml hv
  obtain ⟨rfl, -⟩ := hv
  have cx : jv_cx p s m _ meth c cc_L_isLabel 1 R_Labels (some .boolean) ws_L_isLabel := ⟨B.exec, B.bytes, hml, findClass_of_methodNamed B.named, atoms_spec (ws := ws_L_isLabel) B.pre, B.returns, B.notSynchronized⟩
  have hl := lv_entry ([.int a0]) (n := 1) (Nat.le_of_ble_eq_true rfl)
  rw [lg_entry_eq]
  generalize (lg_sl ([.int a0]) ++ List.replicate (1 - (lg_sl ([.int a0])).length) Slot.unset).toArray = ls at hl ⊢
  have hl : lv_has ls 1 [(0, .int a0)] := hl
  exact b_L_isLabel_0 (y0 := a0) cx (lv_sub hl [0] rfl) hf
def f_L_isSecrecyWithin_0 (y0 : Int32) (y1 : Int32) : Option (Int32) :=
  if (y1 &&& (3 : Int32)) < (y0 &&& (3 : Int32)) then (some (0 : Int32)) else (if ((y0 &&& (y1 ^^^ (-1 : Int32))) &&& (28 : Int32)) = 0 then (some (1 : Int32)) else (some (0 : Int32)))
set_option maxHeartbeats 4000000 in
set_option maxRecDepth 100000 in
theorem b_L_isSecrecyWithin_0 {l : Launch} {p : Program} {e : Env} {s : State} {m : MethodId} {args : Array Value} {below : List Frame} {meth : Method} {c : Code} (cx : jv_cx p s m args meth c cc_L_isSecrecyWithin 2 R_Labels (some .boolean) ws_L_isSecrecyWithin) {r : Int32} {y0 : Int32} {y1 : Int32} {ls : Array Slot} (hl : lv_has ls 2 [(0, .int y0), (1, .int y1)]) (hf : f_L_isSecrecyWithin_0 y0 y1 = some r) : W p l e rm_L_isSecrecyWithin s m args below meth c s.heap [] 0 0 (MQ below (QcRead r) args s 0 0 (fun _ => False)) (F0 m 0 ls []) := by
  unfold f_L_isSecrecyWithin_0 at hf
  obtain ⟨hx, hb, hml, hown, hts, hr, hlocks⟩ := id cx
  refine lv_iload_n hx hb d_L_isSecrecyWithin_0 rfl (lv_at hl 0 rfl) ?_
  refine lv_iconst (v := (3 : Int32)) hx hb d_L_isSecrecyWithin_1 (by decide) ?_
  refine lv_iand hx hb d_L_isSecrecyWithin_2 ?_
  refine lv_iload_n hx hb d_L_isSecrecyWithin_3 rfl (lv_at hl 1 rfl) ?_
  refine lv_iconst (v := (3 : Int32)) hx hb d_L_isSecrecyWithin_4 (by decide) ?_
  refine lv_iand hx hb d_L_isSecrecyWithin_5 ?_
  refine lv_icmp_gt (tgt := 24) hx hb d_L_isSecrecyWithin_6 (by decide) (fun hc => ?_) (fun hc => ?_)
  · have hf := jv_it hf hc
    refine lv_iconst (v := (0 : Int32)) hx hb d_L_isSecrecyWithin_24 (by decide) ?_
    obtain rfl := Option.some.inj hf
    exact W.zret hx hb hr rfl (fun t ht hW => ⟨rfl, ht⟩) (fun q h => by cases h) d_L_isSecrecyWithin_25
  · have hf := jv_if hf hc
    refine lv_iload_n hx hb d_L_isSecrecyWithin_9 rfl (lv_at hl 0 rfl) ?_
    refine lv_iload_n hx hb d_L_isSecrecyWithin_10 rfl (lv_at hl 1 rfl) ?_
    refine lv_iconst (v := (-1 : Int32)) hx hb d_L_isSecrecyWithin_11 (by decide) ?_
    refine lv_ixor hx hb d_L_isSecrecyWithin_12 ?_
    refine lv_iand hx hb d_L_isSecrecyWithin_13 ?_
    refine lv_bipush (v := (28 : Int32)) hx hb d_L_isSecrecyWithin_14 (by decide) ?_
    refine lv_iand hx hb d_L_isSecrecyWithin_16 ?_
    refine lv_if_ne (tgt := 24) hx hb d_L_isSecrecyWithin_17 (by decide) (fun hc => ?_) (fun hc => ?_)
    · have hf := jv_if hf hc
      refine lv_iconst (v := (0 : Int32)) hx hb d_L_isSecrecyWithin_24 (by decide) ?_
      obtain rfl := Option.some.inj hf
      exact W.zret hx hb hr rfl (fun t ht hW => ⟨rfl, ht⟩) (fun q h => by cases h) d_L_isSecrecyWithin_25
    · have hf := jv_it hf hc
      refine lv_iconst (v := (1 : Int32)) hx hb d_L_isSecrecyWithin_20 (by decide) ?_
      refine lv_goto (tgt := 25) hx hb d_L_isSecrecyWithin_21 (by decide) ?_
      obtain rfl := Option.some.inj hf
      exact W.zret hx hb hr rfl (fun t ht hW => ⟨rfl, ht⟩) (fun q h => by cases h) d_L_isSecrecyWithin_25
def f_L_isSecrecyWithin (a0 : Int32) (a1 : Int32) : Option (Int32) := f_L_isSecrecyWithin_0 a0 a1
set_option maxHeartbeats 4000000 in
set_option maxRecDepth 100000 in
theorem c_L_isSecrecyWithin (l : Launch) (a0 : Int32) (a1 : Int32) (r : Int32) (hf : f_L_isSecrecyWithin a0 a1 = some r) : Met l y_L_isSecrecyWithin ws_L_isSecrecyWithin rm_L_isSecrecyWithin (jv_P0 [.int a0, .int a1]) (QcRead r) 0 0 (fun _ => False) := by
  refine Met.ofW (cc := cc_L_isSecrecyWithin) (maxL := 2) (ret := (some .boolean)) (by decide) rfl ?_
  intro p e s m args below meth c s₁ B hml hv
  obtain ⟨rfl, -⟩ := hv
  have cx : jv_cx p s m _ meth c cc_L_isSecrecyWithin 2 R_Labels (some .boolean) ws_L_isSecrecyWithin := ⟨B.exec, B.bytes, hml, findClass_of_methodNamed B.named, atoms_spec (ws := ws_L_isSecrecyWithin) B.pre, B.returns, B.notSynchronized⟩
  have hl := lv_entry ([.int a0, .int a1]) (n := 2) (Nat.le_of_ble_eq_true rfl)
  rw [lg_entry_eq]
  generalize (lg_sl ([.int a0, .int a1]) ++ List.replicate (2 - (lg_sl ([.int a0, .int a1])).length) Slot.unset).toArray = ls at hl ⊢
  have hl : lv_has ls 2 [(0, .int a0), (1, .int a1)] := hl
  exact b_L_isSecrecyWithin_0 (y0 := a0) (y1 := a1) cx (lv_sub hl [0, 1] rfl) hf
def f_L_isIntegrityWithin_0 (y0 : Int32) (y1 : Int32) : Option (Int32) :=
  if (y1 &&& (96 : Int32)) < (y0 &&& (96 : Int32)) then (some (0 : Int32)) else (if ((y0 &&& (y1 ^^^ (-1 : Int32))) &&& (384 : Int32)) = 0 then (some (1 : Int32)) else (some (0 : Int32)))
set_option maxHeartbeats 4000000 in
set_option maxRecDepth 100000 in
theorem b_L_isIntegrityWithin_0 {l : Launch} {p : Program} {e : Env} {s : State} {m : MethodId} {args : Array Value} {below : List Frame} {meth : Method} {c : Code} (cx : jv_cx p s m args meth c cc_L_isIntegrityWithin 2 R_Labels (some .boolean) ws_L_isIntegrityWithin) {r : Int32} {y0 : Int32} {y1 : Int32} {ls : Array Slot} (hl : lv_has ls 2 [(0, .int y0), (1, .int y1)]) (hf : f_L_isIntegrityWithin_0 y0 y1 = some r) : W p l e rm_L_isIntegrityWithin s m args below meth c s.heap [] 0 0 (MQ below (QcRead r) args s 0 0 (fun _ => False)) (F0 m 0 ls []) := by
  unfold f_L_isIntegrityWithin_0 at hf
  obtain ⟨hx, hb, hml, hown, hts, hr, hlocks⟩ := id cx
  refine lv_iload_n hx hb d_L_isIntegrityWithin_0 rfl (lv_at hl 0 rfl) ?_
  refine lv_bipush (v := (96 : Int32)) hx hb d_L_isIntegrityWithin_1 (by decide) ?_
  refine lv_iand hx hb d_L_isIntegrityWithin_3 ?_
  refine lv_iload_n hx hb d_L_isIntegrityWithin_4 rfl (lv_at hl 1 rfl) ?_
  refine lv_bipush (v := (96 : Int32)) hx hb d_L_isIntegrityWithin_5 (by decide) ?_
  refine lv_iand hx hb d_L_isIntegrityWithin_7 ?_
  refine lv_icmp_gt (tgt := 27) hx hb d_L_isIntegrityWithin_8 (by decide) (fun hc => ?_) (fun hc => ?_)
  · have hf := jv_it hf hc
    refine lv_iconst (v := (0 : Int32)) hx hb d_L_isIntegrityWithin_27 (by decide) ?_
    obtain rfl := Option.some.inj hf
    exact W.zret hx hb hr rfl (fun t ht hW => ⟨rfl, ht⟩) (fun q h => by cases h) d_L_isIntegrityWithin_28
  · have hf := jv_if hf hc
    refine lv_iload_n hx hb d_L_isIntegrityWithin_11 rfl (lv_at hl 0 rfl) ?_
    refine lv_iload_n hx hb d_L_isIntegrityWithin_12 rfl (lv_at hl 1 rfl) ?_
    refine lv_iconst (v := (-1 : Int32)) hx hb d_L_isIntegrityWithin_13 (by decide) ?_
    refine lv_ixor hx hb d_L_isIntegrityWithin_14 ?_
    refine lv_iand hx hb d_L_isIntegrityWithin_15 ?_
    refine lv_sipush (v := (384 : Int32)) hx hb d_L_isIntegrityWithin_16 (by decide) ?_
    refine lv_iand hx hb d_L_isIntegrityWithin_19 ?_
    refine lv_if_ne (tgt := 27) hx hb d_L_isIntegrityWithin_20 (by decide) (fun hc => ?_) (fun hc => ?_)
    · have hf := jv_if hf hc
      refine lv_iconst (v := (0 : Int32)) hx hb d_L_isIntegrityWithin_27 (by decide) ?_
      obtain rfl := Option.some.inj hf
      exact W.zret hx hb hr rfl (fun t ht hW => ⟨rfl, ht⟩) (fun q h => by cases h) d_L_isIntegrityWithin_28
    · have hf := jv_it hf hc
      refine lv_iconst (v := (1 : Int32)) hx hb d_L_isIntegrityWithin_23 (by decide) ?_
      refine lv_goto (tgt := 28) hx hb d_L_isIntegrityWithin_24 (by decide) ?_
      obtain rfl := Option.some.inj hf
      exact W.zret hx hb hr rfl (fun t ht hW => ⟨rfl, ht⟩) (fun q h => by cases h) d_L_isIntegrityWithin_28
def f_L_isIntegrityWithin (a0 : Int32) (a1 : Int32) : Option (Int32) := f_L_isIntegrityWithin_0 a0 a1
set_option maxHeartbeats 4000000 in
set_option maxRecDepth 100000 in
theorem c_L_isIntegrityWithin (l : Launch) (a0 : Int32) (a1 : Int32) (r : Int32) (hf : f_L_isIntegrityWithin a0 a1 = some r) : Met l y_L_isIntegrityWithin ws_L_isIntegrityWithin rm_L_isIntegrityWithin (jv_P0 [.int a0, .int a1]) (QcRead r) 0 0 (fun _ => False) := by
  refine Met.ofW (cc := cc_L_isIntegrityWithin) (maxL := 2) (ret := (some .boolean)) (by decide) rfl ?_
  intro p e s m args below meth c s₁ B hml hv
  obtain ⟨rfl, -⟩ := hv
  have cx : jv_cx p s m _ meth c cc_L_isIntegrityWithin 2 R_Labels (some .boolean) ws_L_isIntegrityWithin := ⟨B.exec, B.bytes, hml, findClass_of_methodNamed B.named, atoms_spec (ws := ws_L_isIntegrityWithin) B.pre, B.returns, B.notSynchronized⟩
  have hl := lv_entry ([.int a0, .int a1]) (n := 2) (Nat.le_of_ble_eq_true rfl)
  rw [lg_entry_eq]
  generalize (lg_sl ([.int a0, .int a1]) ++ List.replicate (2 - (lg_sl ([.int a0, .int a1])).length) Slot.unset).toArray = ls at hl ⊢
  have hl : lv_has ls 2 [(0, .int a0), (1, .int a1)] := hl
  exact b_L_isIntegrityWithin_0 (y0 := a0) (y1 := a1) cx (lv_sub hl [0, 1] rfl) hf
def f_L_mayFlow_0 (y0 : Int32) (y1 : Int32) : Option (Int32) :=
  (f_L_isSecrecyWithin y0 y1).bind fun x1 => if x1 = 0 then (some (0 : Int32)) else ((f_L_isIntegrityWithin y1 y0).bind fun x3 => if x3 = 0 then (some (0 : Int32)) else (some (1 : Int32)))
set_option maxHeartbeats 4000000 in
set_option maxRecDepth 100000 in
theorem b_L_mayFlow_0 {l : Launch} {p : Program} {e : Env} {s : State} {m : MethodId} {args : Array Value} {below : List Frame} {meth : Method} {c : Code} (cx : jv_cx p s m args meth c cc_L_mayFlow 2 R_Labels (some .boolean) ws_L_mayFlow) {r : Int32} {y0 : Int32} {y1 : Int32} {ls : Array Slot} (hl : lv_has ls 2 [(0, .int y0), (1, .int y1)]) (hf : f_L_mayFlow_0 y0 y1 = some r) : W p l e rm_L_mayFlow s m args below meth c s.heap [] 0 0 (MQ below (QcRead r) args s 0 0 (fun _ => False)) (F0 m 0 ls []) := by
  unfold f_L_mayFlow_0 at hf
  obtain ⟨hx, hb, hml, hown, hts, hr, hlocks⟩ := id cx
  refine lv_iload_n hx hb d_L_mayFlow_0 rfl (lv_at hl 0 rfl) ?_
  refine lv_iload_n hx hb d_L_mayFlow_1 rfl (lv_at hl 1 rfl) ?_
  obtain ⟨x1, g2, hf⟩ := jv_ob hf
  refine jv_cs (W.runS (As := [.int y0, .int y1]) (rest := []) ⟨hx, hb, hml, hown, hts⟩ (c_L_isSecrecyWithin l y0 y1 x1 g2) (jv_cwS hts wa_0 wa_1 wa_2 wa_3 rfl rfl yd_L_isSecrecyWithin ⟨Nat.le_of_ble_eq_true rfl, Nat.le_of_ble_eq_true rfl⟩) jv_pre0 rfl rfl hl.1 rfl (lv_room (Nat.le_of_ble_eq_true rfl)) d_L_mayFlow_2 ⟨Nat.zero_le _, Nat.zero_le _⟩) ?_
  refine lv_if_eq (tgt := 20) hx hb d_L_mayFlow_5 (by decide) (fun hc => ?_) (fun hc => ?_)
  · have hf := jv_it hf hc
    refine lv_iconst (v := (0 : Int32)) hx hb d_L_mayFlow_20 (by decide) ?_
    obtain rfl := Option.some.inj hf
    exact W.zret hx hb hr rfl (fun t ht hW => ⟨rfl, ht⟩) (fun q h => by cases h) d_L_mayFlow_21
  · have hf := jv_if hf hc
    refine lv_iload_n hx hb d_L_mayFlow_8 rfl (lv_at hl 1 rfl) ?_
    refine lv_iload_n hx hb d_L_mayFlow_9 rfl (lv_at hl 0 rfl) ?_
    obtain ⟨x3, g4, hf⟩ := jv_ob hf
    refine jv_cs (W.runS (As := [.int y1, .int y0]) (rest := []) ⟨hx, hb, hml, hown, hts⟩ (c_L_isIntegrityWithin l y1 y0 x3 g4) (jv_cwS hts wa_4 wa_1 wa_5 wa_6 rfl rfl yd_L_isIntegrityWithin ⟨Nat.le_of_ble_eq_true rfl, Nat.le_of_ble_eq_true rfl⟩) jv_pre0 rfl rfl hl.1 rfl (lv_room (Nat.le_of_ble_eq_true rfl)) d_L_mayFlow_10 ⟨Nat.zero_le _, Nat.zero_le _⟩) ?_
    refine lv_if_eq (tgt := 20) hx hb d_L_mayFlow_13 (by decide) (fun hc => ?_) (fun hc => ?_)
    · have hf := jv_it hf hc
      refine lv_iconst (v := (0 : Int32)) hx hb d_L_mayFlow_20 (by decide) ?_
      obtain rfl := Option.some.inj hf
      exact W.zret hx hb hr rfl (fun t ht hW => ⟨rfl, ht⟩) (fun q h => by cases h) d_L_mayFlow_21
    · have hf := jv_if hf hc
      refine lv_iconst (v := (1 : Int32)) hx hb d_L_mayFlow_16 (by decide) ?_
      refine lv_goto (tgt := 21) hx hb d_L_mayFlow_17 (by decide) ?_
      obtain rfl := Option.some.inj hf
      exact W.zret hx hb hr rfl (fun t ht hW => ⟨rfl, ht⟩) (fun q h => by cases h) d_L_mayFlow_21
def f_L_mayFlow (a0 : Int32) (a1 : Int32) : Option (Int32) := f_L_mayFlow_0 a0 a1
set_option maxHeartbeats 4000000 in
set_option maxRecDepth 100000 in
theorem c_L_mayFlow (l : Launch) (a0 : Int32) (a1 : Int32) (r : Int32) (hf : f_L_mayFlow a0 a1 = some r) : Met l y_L_mayFlow ws_L_mayFlow rm_L_mayFlow (jv_P0 [.int a0, .int a1]) (QcRead r) 0 0 (fun _ => False) := by
  refine Met.ofW (cc := cc_L_mayFlow) (maxL := 2) (ret := (some .boolean)) (by decide) rfl ?_
  intro p e s m args below meth c s₁ B hml hv
  obtain ⟨rfl, -⟩ := hv
  have cx : jv_cx p s m _ meth c cc_L_mayFlow 2 R_Labels (some .boolean) ws_L_mayFlow := ⟨B.exec, B.bytes, hml, findClass_of_methodNamed B.named, atoms_spec (ws := ws_L_mayFlow) B.pre, B.returns, B.notSynchronized⟩
  have hl := lv_entry ([.int a0, .int a1]) (n := 2) (Nat.le_of_ble_eq_true rfl)
  rw [lg_entry_eq]
  generalize (lg_sl ([.int a0, .int a1]) ++ List.replicate (2 - (lg_sl ([.int a0, .int a1])).length) Slot.unset).toArray = ls at hl ⊢
  have hl : lv_has ls 2 [(0, .int a0), (1, .int a1)] := hl
  exact b_L_mayFlow_0 (y0 := a0) (y1 := a1) cx (lv_sub hl [0, 1] rfl) hf
def f_L_isWithin_0 (y0 : Int32) (y1 : Int32) : Option (Int32) :=
  (f_L_isSecrecyWithin y0 y1).bind fun x1 => if x1 = 0 then (some (0 : Int32)) else ((f_L_isIntegrityWithin y0 y1).bind fun x3 => if x3 = 0 then (some (0 : Int32)) else (some (1 : Int32)))
set_option maxHeartbeats 4000000 in
set_option maxRecDepth 100000 in
theorem b_L_isWithin_0 {l : Launch} {p : Program} {e : Env} {s : State} {m : MethodId} {args : Array Value} {below : List Frame} {meth : Method} {c : Code} (cx : jv_cx p s m args meth c cc_L_isWithin 2 R_Labels (some .boolean) ws_L_isWithin) {r : Int32} {y0 : Int32} {y1 : Int32} {ls : Array Slot} (hl : lv_has ls 2 [(0, .int y0), (1, .int y1)]) (hf : f_L_isWithin_0 y0 y1 = some r) : W p l e rm_L_isWithin s m args below meth c s.heap [] 0 0 (MQ below (QcRead r) args s 0 0 (fun _ => False)) (F0 m 0 ls []) := by
  unfold f_L_isWithin_0 at hf
  obtain ⟨hx, hb, hml, hown, hts, hr, hlocks⟩ := id cx
  refine lv_iload_n hx hb d_L_isWithin_0 rfl (lv_at hl 0 rfl) ?_
  refine lv_iload_n hx hb d_L_isWithin_1 rfl (lv_at hl 1 rfl) ?_
  obtain ⟨x1, g2, hf⟩ := jv_ob hf
  refine jv_cs (W.runS (As := [.int y0, .int y1]) (rest := []) ⟨hx, hb, hml, hown, hts⟩ (c_L_isSecrecyWithin l y0 y1 x1 g2) (jv_cwS hts wa_0 wa_1 wa_2 wa_3 rfl rfl yd_L_isSecrecyWithin ⟨Nat.le_of_ble_eq_true rfl, Nat.le_of_ble_eq_true rfl⟩) jv_pre0 rfl rfl hl.1 rfl (lv_room (Nat.le_of_ble_eq_true rfl)) d_L_isWithin_2 ⟨Nat.zero_le _, Nat.zero_le _⟩) ?_
  refine lv_if_eq (tgt := 20) hx hb d_L_isWithin_5 (by decide) (fun hc => ?_) (fun hc => ?_)
  · have hf := jv_it hf hc
    refine lv_iconst (v := (0 : Int32)) hx hb d_L_isWithin_20 (by decide) ?_
    obtain rfl := Option.some.inj hf
    exact W.zret hx hb hr rfl (fun t ht hW => ⟨rfl, ht⟩) (fun q h => by cases h) d_L_isWithin_21
  · have hf := jv_if hf hc
    refine lv_iload_n hx hb d_L_isWithin_8 rfl (lv_at hl 0 rfl) ?_
    refine lv_iload_n hx hb d_L_isWithin_9 rfl (lv_at hl 1 rfl) ?_
    obtain ⟨x3, g4, hf⟩ := jv_ob hf
    refine jv_cs (W.runS (As := [.int y0, .int y1]) (rest := []) ⟨hx, hb, hml, hown, hts⟩ (c_L_isIntegrityWithin l y0 y1 x3 g4) (jv_cwS hts wa_4 wa_1 wa_5 wa_6 rfl rfl yd_L_isIntegrityWithin ⟨Nat.le_of_ble_eq_true rfl, Nat.le_of_ble_eq_true rfl⟩) jv_pre0 rfl rfl hl.1 rfl (lv_room (Nat.le_of_ble_eq_true rfl)) d_L_isWithin_10 ⟨Nat.zero_le _, Nat.zero_le _⟩) ?_
    refine lv_if_eq (tgt := 20) hx hb d_L_isWithin_13 (by decide) (fun hc => ?_) (fun hc => ?_)
    · have hf := jv_it hf hc
      refine lv_iconst (v := (0 : Int32)) hx hb d_L_isWithin_20 (by decide) ?_
      obtain rfl := Option.some.inj hf
      exact W.zret hx hb hr rfl (fun t ht hW => ⟨rfl, ht⟩) (fun q h => by cases h) d_L_isWithin_21
    · have hf := jv_if hf hc
      refine lv_iconst (v := (1 : Int32)) hx hb d_L_isWithin_16 (by decide) ?_
      refine lv_goto (tgt := 21) hx hb d_L_isWithin_17 (by decide) ?_
      obtain rfl := Option.some.inj hf
      exact W.zret hx hb hr rfl (fun t ht hW => ⟨rfl, ht⟩) (fun q h => by cases h) d_L_isWithin_21
def f_L_isWithin (a0 : Int32) (a1 : Int32) : Option (Int32) := f_L_isWithin_0 a0 a1
set_option maxHeartbeats 4000000 in
set_option maxRecDepth 100000 in
theorem c_L_isWithin (l : Launch) (a0 : Int32) (a1 : Int32) (r : Int32) (hf : f_L_isWithin a0 a1 = some r) : Met l y_L_isWithin ws_L_isWithin rm_L_isWithin (jv_P0 [.int a0, .int a1]) (QcRead r) 0 0 (fun _ => False) := by
  refine Met.ofW (cc := cc_L_isWithin) (maxL := 2) (ret := (some .boolean)) (by decide) rfl ?_
  intro p e s m args below meth c s₁ B hml hv
  obtain ⟨rfl, -⟩ := hv
  have cx : jv_cx p s m _ meth c cc_L_isWithin 2 R_Labels (some .boolean) ws_L_isWithin := ⟨B.exec, B.bytes, hml, findClass_of_methodNamed B.named, atoms_spec (ws := ws_L_isWithin) B.pre, B.returns, B.notSynchronized⟩
  have hl := lv_entry ([.int a0, .int a1]) (n := 2) (Nat.le_of_ble_eq_true rfl)
  rw [lg_entry_eq]
  generalize (lg_sl ([.int a0, .int a1]) ++ List.replicate (2 - (lg_sl ([.int a0, .int a1])).length) Slot.unset).toArray = ls at hl ⊢
  have hl : lv_has ls 2 [(0, .int a0), (1, .int a1)] := hl
  exact b_L_isWithin_0 (y0 := a0) (y1 := a1) cx (lv_sub hl [0, 1] rfl) hf
def f_P_lastName_0 (y0 : Int32) : Option (Int32) :=
  some (y0 &&& (31 : Int32))
set_option maxHeartbeats 4000000 in
set_option maxRecDepth 100000 in
theorem b_P_lastName_0 {l : Launch} {p : Program} {e : Env} {s : State} {m : MethodId} {args : Array Value} {below : List Frame} {meth : Method} {c : Code} (cx : jv_cx p s m args meth c cc_P_lastName 1 R_Paths (some .int) ws_P_lastName) {r : Int32} {y0 : Int32} {ls : Array Slot} (hl : lv_has ls 1 [(0, .int y0)]) (hf : f_P_lastName_0 y0 = some r) : W p l e rm_P_lastName s m args below meth c s.heap [] 0 0 (MQ below (QcRead r) args s 0 0 (fun _ => False)) (F0 m 0 ls []) := by
  unfold f_P_lastName_0 at hf
  obtain ⟨hx, hb, hml, hown, hts, hr, hlocks⟩ := id cx
  refine lv_iload_n hx hb d_P_lastName_0 rfl (lv_at hl 0 rfl) ?_
  refine lv_bipush (v := (31 : Int32)) hx hb d_P_lastName_1 (by decide) ?_
  refine lv_iand hx hb d_P_lastName_3 ?_
  obtain rfl := Option.some.inj hf
  exact W.iret hx hb hr (fun t ht hW => ⟨rfl, ht⟩) (fun q h => by cases h) d_P_lastName_4
def f_P_lastName (a0 : Int32) : Option (Int32) := f_P_lastName_0 a0
set_option maxHeartbeats 4000000 in
set_option maxRecDepth 100000 in
theorem c_P_lastName (l : Launch) (a0 : Int32) (r : Int32) (hf : f_P_lastName a0 = some r) : Met l y_P_lastName ws_P_lastName rm_P_lastName (jv_P0 [.int a0]) (QcRead r) 0 0 (fun _ => False) := by
  refine Met.ofW (cc := cc_P_lastName) (maxL := 1) (ret := (some .int)) (by decide) rfl ?_
  intro p e s m args below meth c s₁ B hml hv
  obtain ⟨rfl, -⟩ := hv
  have cx : jv_cx p s m _ meth c cc_P_lastName 1 R_Paths (some .int) ws_P_lastName := ⟨B.exec, B.bytes, hml, findClass_of_methodNamed B.named, atoms_spec (ws := ws_P_lastName) B.pre, B.returns, B.notSynchronized⟩
  have hl := lv_entry ([.int a0]) (n := 1) (Nat.le_of_ble_eq_true rfl)
  rw [lg_entry_eq]
  generalize (lg_sl ([.int a0]) ++ List.replicate (1 - (lg_sl ([.int a0])).length) Slot.unset).toArray = ls at hl ⊢
  have hl : lv_has ls 1 [(0, .int a0)] := hl
  exact b_P_lastName_0 (y0 := a0) cx (lv_sub hl [0] rfl) hf
def f_P_parentOf_0 (y0 : Int32) : Option (Int32) :=
  some (y0 >>> ((5 : Int32) &&& 31))
set_option maxHeartbeats 4000000 in
set_option maxRecDepth 100000 in
theorem b_P_parentOf_0 {l : Launch} {p : Program} {e : Env} {s : State} {m : MethodId} {args : Array Value} {below : List Frame} {meth : Method} {c : Code} (cx : jv_cx p s m args meth c cc_P_parentOf 1 R_Paths (some .int) ws_P_parentOf) {r : Int32} {y0 : Int32} {ls : Array Slot} (hl : lv_has ls 1 [(0, .int y0)]) (hf : f_P_parentOf_0 y0 = some r) : W p l e rm_P_parentOf s m args below meth c s.heap [] 0 0 (MQ below (QcRead r) args s 0 0 (fun _ => False)) (F0 m 0 ls []) := by
  unfold f_P_parentOf_0 at hf
  obtain ⟨hx, hb, hml, hown, hts, hr, hlocks⟩ := id cx
  refine lv_iload_n hx hb d_P_parentOf_0 rfl (lv_at hl 0 rfl) ?_
  refine lv_iconst (v := (5 : Int32)) hx hb d_P_parentOf_1 (by decide) ?_
  refine lv_ishr hx hb d_P_parentOf_2 ?_
  obtain rfl := Option.some.inj hf
  exact W.iret hx hb hr (fun t ht hW => ⟨rfl, ht⟩) (fun q h => by cases h) d_P_parentOf_3
def f_P_parentOf (a0 : Int32) : Option (Int32) := f_P_parentOf_0 a0
set_option maxHeartbeats 4000000 in
set_option maxRecDepth 100000 in
theorem c_P_parentOf (l : Launch) (a0 : Int32) (r : Int32) (hf : f_P_parentOf a0 = some r) : Met l y_P_parentOf ws_P_parentOf rm_P_parentOf (jv_P0 [.int a0]) (QcRead r) 0 0 (fun _ => False) := by
  refine Met.ofW (cc := cc_P_parentOf) (maxL := 1) (ret := (some .int)) (by decide) rfl ?_
  intro p e s m args below meth c s₁ B hml hv
  obtain ⟨rfl, -⟩ := hv
  have cx : jv_cx p s m _ meth c cc_P_parentOf 1 R_Paths (some .int) ws_P_parentOf := ⟨B.exec, B.bytes, hml, findClass_of_methodNamed B.named, atoms_spec (ws := ws_P_parentOf) B.pre, B.returns, B.notSynchronized⟩
  have hl := lv_entry ([.int a0]) (n := 1) (Nat.le_of_ble_eq_true rfl)
  rw [lg_entry_eq]
  generalize (lg_sl ([.int a0]) ++ List.replicate (1 - (lg_sl ([.int a0])).length) Slot.unset).toArray = ls at hl ⊢
  have hl : lv_has ls 1 [(0, .int a0)] := hl
  exact b_P_parentOf_0 (y0 := a0) cx (lv_sub hl [0] rfl) hf
def f_P_without_0 (y0 : Int32) (y1 : Int32) : Option (Int32) :=
  some (y0 >>> ((y1 * (5 : Int32)) &&& 31))
set_option maxHeartbeats 4000000 in
set_option maxRecDepth 100000 in
theorem b_P_without_0 {l : Launch} {p : Program} {e : Env} {s : State} {m : MethodId} {args : Array Value} {below : List Frame} {meth : Method} {c : Code} (cx : jv_cx p s m args meth c cc_P_without 2 R_Paths (some .int) ws_P_without) {r : Int32} {y0 : Int32} {y1 : Int32} {ls : Array Slot} (hl : lv_has ls 2 [(0, .int y0), (1, .int y1)]) (hf : f_P_without_0 y0 y1 = some r) : W p l e rm_P_without s m args below meth c s.heap [] 0 0 (MQ below (QcRead r) args s 0 0 (fun _ => False)) (F0 m 0 ls []) := by
  unfold f_P_without_0 at hf
  obtain ⟨hx, hb, hml, hown, hts, hr, hlocks⟩ := id cx
  refine lv_iload_n hx hb d_P_without_0 rfl (lv_at hl 0 rfl) ?_
  refine lv_iload_n hx hb d_P_without_1 rfl (lv_at hl 1 rfl) ?_
  refine lv_iconst (v := (5 : Int32)) hx hb d_P_without_2 (by decide) ?_
  refine lv_imul hx hb d_P_without_3 ?_
  refine lv_ishr hx hb d_P_without_4 ?_
  obtain rfl := Option.some.inj hf
  exact W.iret hx hb hr (fun t ht hW => ⟨rfl, ht⟩) (fun q h => by cases h) d_P_without_5
def f_P_without (a0 : Int32) (a1 : Int32) : Option (Int32) := f_P_without_0 a0 a1
set_option maxHeartbeats 4000000 in
set_option maxRecDepth 100000 in
theorem c_P_without (l : Launch) (a0 : Int32) (a1 : Int32) (r : Int32) (hf : f_P_without a0 a1 = some r) : Met l y_P_without ws_P_without rm_P_without (jv_P0 [.int a0, .int a1]) (QcRead r) 0 0 (fun _ => False) := by
  refine Met.ofW (cc := cc_P_without) (maxL := 2) (ret := (some .int)) (by decide) rfl ?_
  intro p e s m args below meth c s₁ B hml hv
  obtain ⟨rfl, -⟩ := hv
  have cx : jv_cx p s m _ meth c cc_P_without 2 R_Paths (some .int) ws_P_without := ⟨B.exec, B.bytes, hml, findClass_of_methodNamed B.named, atoms_spec (ws := ws_P_without) B.pre, B.returns, B.notSynchronized⟩
  have hl := lv_entry ([.int a0, .int a1]) (n := 2) (Nat.le_of_ble_eq_true rfl)
  rw [lg_entry_eq]
  generalize (lg_sl ([.int a0, .int a1]) ++ List.replicate (2 - (lg_sl ([.int a0, .int a1])).length) Slot.unset).toArray = ls at hl ⊢
  have hl : lv_has ls 2 [(0, .int a0), (1, .int a1)] := hl
  exact b_P_without_0 (y0 := a0) (y1 := a1) cx (lv_sub hl [0, 1] rfl) hf
def f_P_isPath_4 (k4 : (Int32 × Int32) → Option (Int32)) (a : Int32 × Int32) : Option (Int32) :=
  if (4 : Int32) ≤ a.2 then (if a.1 = 0 then (some (1 : Int32)) else (some (0 : Int32))) else (if a.1 = 0 then (if a.1 = 0 then (some (1 : Int32)) else (some (0 : Int32))) else ((f_P_lastName a.1).bind fun x1 => if x1 = 0 then (some (0 : Int32)) else (if x1 ≤ (26 : Int32) then ((f_P_parentOf a.1).bind fun x3 => k4 (x3, a.2 + (1 : Int32))) else (some (0 : Int32)))))
set_option maxHeartbeats 4000000 in
set_option maxRecDepth 100000 in
theorem b_P_isPath_4 {l : Launch} {p : Program} {e : Env} {s : State} {m : MethodId} {args : Array Value} {below : List Frame} {meth : Method} {c : Code} (cx : jv_cx p s m args meth c cc_P_isPath 4 R_Paths (some .boolean) ws_P_isPath) {r : Int32} {k4 : (Int32 × Int32) → Option (Int32)} (hk4 : ∀ (a : Int32 × Int32) (ls : Array Slot), lv_has ls 4 [(1, .int a.1), (2, .int a.2)] → k4 a = some r → W p l e rm_P_isPath s m args below meth c s.heap [] 0 0 (MQ below (QcRead r) args s 0 0 (fun _ => False)) (F0 m 4 ls [])) {a : Int32 × Int32} {ls : Array Slot} (hl : lv_has ls 4 [(1, .int a.1), (2, .int a.2)]) (hf : f_P_isPath_4 k4 a = some r) : W p l e rm_P_isPath s m args below meth c s.heap [] 0 0 (MQ below (QcRead r) args s 0 0 (fun _ => False)) (F0 m 4 ls []) := by
  unfold f_P_isPath_4 at hf
  obtain ⟨hx, hb, hml, hown, hts, hr, hlocks⟩ := id cx
  refine lv_iload_n hx hb d_P_isPath_4 rfl (lv_at hl 1 rfl) ?_
  refine lv_iconst (v := (4 : Int32)) hx hb d_P_isPath_5 (by decide) ?_
  refine lv_icmp_ge (tgt := 41) hx hb d_P_isPath_6 (by decide) (fun hc => ?_) (fun hc => ?_)
  · have hf := jv_it hf hc
    refine lv_iload_n hx hb d_P_isPath_41 rfl (lv_at hl 0 rfl) ?_
    refine lv_if_ne (tgt := 49) hx hb d_P_isPath_42 (by decide) (fun hc => ?_) (fun hc => ?_)
    · have hf := jv_if hf hc
      refine lv_iconst (v := (0 : Int32)) hx hb d_P_isPath_49 (by decide) ?_
      obtain rfl := Option.some.inj hf
      exact W.zret hx hb hr rfl (fun t ht hW => ⟨rfl, ht⟩) (fun q h => by cases h) d_P_isPath_50
    · have hf := jv_it hf hc
      refine lv_iconst (v := (1 : Int32)) hx hb d_P_isPath_45 (by decide) ?_
      refine lv_goto (tgt := 50) hx hb d_P_isPath_46 (by decide) ?_
      obtain rfl := Option.some.inj hf
      exact W.zret hx hb hr rfl (fun t ht hW => ⟨rfl, ht⟩) (fun q h => by cases h) d_P_isPath_50
  · have hf := jv_if hf hc
    refine lv_iload_n hx hb d_P_isPath_9 rfl (lv_at hl 0 rfl) ?_
    refine lv_if_eq (tgt := 41) hx hb d_P_isPath_10 (by decide) (fun hc => ?_) (fun hc => ?_)
    · have hf := jv_it hf hc
      refine lv_iload_n hx hb d_P_isPath_41 rfl (lv_at hl 0 rfl) ?_
      refine lv_if_ne (tgt := 49) hx hb d_P_isPath_42 (by decide) (fun hc => ?_) (fun hc => ?_)
      · have hf := jv_if hf hc
        refine lv_iconst (v := (0 : Int32)) hx hb d_P_isPath_49 (by decide) ?_
        obtain rfl := Option.some.inj hf
        exact W.zret hx hb hr rfl (fun t ht hW => ⟨rfl, ht⟩) (fun q h => by cases h) d_P_isPath_50
      · have hf := jv_it hf hc
        refine lv_iconst (v := (1 : Int32)) hx hb d_P_isPath_45 (by decide) ?_
        refine lv_goto (tgt := 50) hx hb d_P_isPath_46 (by decide) ?_
        obtain rfl := Option.some.inj hf
        exact W.zret hx hb hr rfl (fun t ht hW => ⟨rfl, ht⟩) (fun q h => by cases h) d_P_isPath_50
    · have hf := jv_if hf hc
      refine lv_iload_n hx hb d_P_isPath_13 rfl (lv_at hl 0 rfl) ?_
      obtain ⟨x1, g2, hf⟩ := jv_ob hf
      refine jv_cs (W.runS (As := [.int a.1]) (rest := []) ⟨hx, hb, hml, hown, hts⟩ (c_P_lastName l a.1 x1 g2) (jv_cwS hts wa_7 wa_8 wa_9 wa_10 rfl rfl yd_P_lastName ⟨Nat.le_of_ble_eq_true rfl, Nat.le_of_ble_eq_true rfl⟩) jv_pre0 rfl rfl hl.1 rfl (lv_room (Nat.le_of_ble_eq_true rfl)) d_P_isPath_14 ⟨Nat.zero_le _, Nat.zero_le _⟩) ?_
      refine lv_istore_n (lv' := [(3, .int x1), (1, .int a.1), (2, .int a.2)]) hx hb d_P_isPath_17 rfl hl (by decide) rfl (fun ls hl => ?_)
      refine lv_iload_n hx hb d_P_isPath_18 rfl (lv_at hl 0 rfl) ?_
      refine lv_if_eq (tgt := 28) hx hb d_P_isPath_19 (by decide) (fun hc => ?_) (fun hc => ?_)
      · have hf := jv_it hf hc
        refine lv_iconst (v := (0 : Int32)) hx hb d_P_isPath_28 (by decide) ?_
        obtain rfl := Option.some.inj hf
        exact W.zret hx hb hr rfl (fun t ht hW => ⟨rfl, ht⟩) (fun q h => by cases h) d_P_isPath_29
      · have hf := jv_if hf hc
        refine lv_iload_n hx hb d_P_isPath_22 rfl (lv_at hl 0 rfl) ?_
        refine lv_bipush (v := (26 : Int32)) hx hb d_P_isPath_23 (by decide) ?_
        refine lv_icmp_le (tgt := 30) hx hb d_P_isPath_25 (by decide) (fun hc => ?_) (fun hc => ?_)
        · have hf := jv_it hf hc
          refine lv_iload_n hx hb d_P_isPath_30 rfl (lv_at hl 1 rfl) ?_
          obtain ⟨x3, g4, hf⟩ := jv_ob hf
          refine jv_cs (W.runS (As := [.int a.1]) (rest := []) ⟨hx, hb, hml, hown, hts⟩ (c_P_parentOf l a.1 x3 g4) (jv_cwS hts wa_11 wa_8 wa_12 wa_13 rfl rfl yd_P_parentOf ⟨Nat.le_of_ble_eq_true rfl, Nat.le_of_ble_eq_true rfl⟩) jv_pre0 rfl rfl hl.1 rfl (lv_room (Nat.le_of_ble_eq_true rfl)) d_P_isPath_31 ⟨Nat.zero_le _, Nat.zero_le _⟩) ?_
          refine lv_istore_n (lv' := [(1, .int x3), (3, .int x1), (2, .int a.2)]) hx hb d_P_isPath_34 rfl hl (by decide) rfl (fun ls hl => ?_)
          refine lv_iinc (k := 2) (v := a.2 + (1 : Int32)) (lv' := [(2, .int (a.2 + (1 : Int32))), (1, .int x3), (3, .int x1)]) hx hb d_P_isPath_35 hl rfl rfl (by decide) rfl (fun ls hl => ?_)
          refine lv_goto (tgt := 4) hx hb d_P_isPath_38 (by decide) ?_
          exact hk4 (x3, a.2 + (1 : Int32)) _ (lv_sub hl [1, 0] rfl) hf
        · have hf := jv_if hf hc
          refine lv_iconst (v := (0 : Int32)) hx hb d_P_isPath_28 (by decide) ?_
          obtain rfl := Option.some.inj hf
          exact W.zret hx hb hr rfl (fun t ht hW => ⟨rfl, ht⟩) (fun q h => by cases h) d_P_isPath_29
set_option maxHeartbeats 4000000 in
set_option maxRecDepth 100000 in
theorem l_P_isPath_4 {l : Launch} {p : Program} {e : Env} {s : State} {m : MethodId} {args : Array Value} {below : List Frame} {meth : Method} {c : Code} (cx : jv_cx p s m args meth c cc_P_isPath 4 R_Paths (some .boolean) ws_P_isPath) {r : Int32} : ∀ n : Nat, ∀ (a : Int32 × Int32) (ls : Array Slot), lv_has ls 4 [(1, .int a.1), (2, .int a.2)] → jv_fx (f_P_isPath_4) n a = some r → W p l e rm_P_isPath s m args below meth c s.heap [] 0 0 (MQ below (QcRead r) args s 0 0 (fun _ => False)) (F0 m 4 ls []) := by
  intro n
  induction n with
  | zero => intro a ls hl hf; exact jv_no hf
  | succ n ih => intro a ls hl hf; exact b_P_isPath_4 cx ih hl hf
def f_P_isPath_0 (y0 : Int32) : Option (Int32) :=
  jv_fx (f_P_isPath_4) 300 (y0, (0 : Int32))
set_option maxHeartbeats 4000000 in
set_option maxRecDepth 100000 in
theorem b_P_isPath_0 {l : Launch} {p : Program} {e : Env} {s : State} {m : MethodId} {args : Array Value} {below : List Frame} {meth : Method} {c : Code} (cx : jv_cx p s m args meth c cc_P_isPath 4 R_Paths (some .boolean) ws_P_isPath) {r : Int32} {y0 : Int32} {ls : Array Slot} (hl : lv_has ls 4 [(0, .int y0)]) (hf : f_P_isPath_0 y0 = some r) : W p l e rm_P_isPath s m args below meth c s.heap [] 0 0 (MQ below (QcRead r) args s 0 0 (fun _ => False)) (F0 m 0 ls []) := by
  unfold f_P_isPath_0 at hf
  obtain ⟨hx, hb, hml, hown, hts, hr, hlocks⟩ := id cx
  refine lv_iload_n hx hb d_P_isPath_0 rfl (lv_at hl 0 rfl) ?_
  refine lv_istore_n (lv' := [(1, .int y0), (0, .int y0)]) hx hb d_P_isPath_1 rfl hl (by decide) rfl (fun ls hl => ?_)
  refine lv_iconst (v := (0 : Int32)) hx hb d_P_isPath_2 (by decide) ?_
  refine lv_istore_n (lv' := [(2, .int (0 : Int32)), (1, .int y0), (0, .int y0)]) hx hb d_P_isPath_3 rfl hl (by decide) rfl (fun ls hl => ?_)
  exact l_P_isPath_4 cx 300 (y0, (0 : Int32)) _ (lv_sub hl [1, 0] rfl) hf
def f_P_isPath (a0 : Int32) : Option (Int32) := f_P_isPath_0 a0
set_option maxHeartbeats 4000000 in
set_option maxRecDepth 100000 in
theorem c_P_isPath (l : Launch) (a0 : Int32) (r : Int32) (hf : f_P_isPath a0 = some r) : Met l y_P_isPath ws_P_isPath rm_P_isPath (jv_P0 [.int a0]) (QcRead r) 0 0 (fun _ => False) := by
  refine Met.ofW (cc := cc_P_isPath) (maxL := 4) (ret := (some .boolean)) (by decide) rfl ?_
  intro p e s m args below meth c s₁ B hml hv
  obtain ⟨rfl, -⟩ := hv
  have cx : jv_cx p s m _ meth c cc_P_isPath 4 R_Paths (some .boolean) ws_P_isPath := ⟨B.exec, B.bytes, hml, findClass_of_methodNamed B.named, atoms_spec (ws := ws_P_isPath) B.pre, B.returns, B.notSynchronized⟩
  have hl := lv_entry ([.int a0]) (n := 4) (Nat.le_of_ble_eq_true rfl)
  rw [lg_entry_eq]
  generalize (lg_sl ([.int a0]) ++ List.replicate (4 - (lg_sl ([.int a0])).length) Slot.unset).toArray = ls at hl ⊢
  have hl : lv_has ls 4 [(0, .int a0)] := hl
  exact b_P_isPath_0 (y0 := a0) cx (lv_sub hl [0] rfl) hf
def f_P_isBelowRoot_0 (y0 : Int32) : Option (Int32) :=
  if y0 = 0 then (some (0 : Int32)) else ((f_P_isPath y0).bind fun x1 => if x1 = 0 then (some (0 : Int32)) else (some (1 : Int32)))
set_option maxHeartbeats 4000000 in
set_option maxRecDepth 100000 in
theorem b_P_isBelowRoot_0 {l : Launch} {p : Program} {e : Env} {s : State} {m : MethodId} {args : Array Value} {below : List Frame} {meth : Method} {c : Code} (cx : jv_cx p s m args meth c cc_P_isBelowRoot 1 R_Paths (some .boolean) ws_P_isBelowRoot) {r : Int32} {y0 : Int32} {ls : Array Slot} (hl : lv_has ls 1 [(0, .int y0)]) (hf : f_P_isBelowRoot_0 y0 = some r) : W p l e rm_P_isBelowRoot s m args below meth c s.heap [] 0 0 (MQ below (QcRead r) args s 0 0 (fun _ => False)) (F0 m 0 ls []) := by
  unfold f_P_isBelowRoot_0 at hf
  obtain ⟨hx, hb, hml, hown, hts, hr, hlocks⟩ := id cx
  refine lv_iload_n hx hb d_P_isBelowRoot_0 rfl (lv_at hl 0 rfl) ?_
  refine lv_if_eq (tgt := 15) hx hb d_P_isBelowRoot_1 (by decide) (fun hc => ?_) (fun hc => ?_)
  · have hf := jv_it hf hc
    refine lv_iconst (v := (0 : Int32)) hx hb d_P_isBelowRoot_15 (by decide) ?_
    obtain rfl := Option.some.inj hf
    exact W.zret hx hb hr rfl (fun t ht hW => ⟨rfl, ht⟩) (fun q h => by cases h) d_P_isBelowRoot_16
  · have hf := jv_if hf hc
    refine lv_iload_n hx hb d_P_isBelowRoot_4 rfl (lv_at hl 0 rfl) ?_
    obtain ⟨x1, g2, hf⟩ := jv_ob hf
    refine jv_cs (W.runS (As := [.int y0]) (rest := []) ⟨hx, hb, hml, hown, hts⟩ (c_P_isPath l y0 x1 g2) (jv_cwS hts wa_14 wa_8 wa_15 wa_16 rfl rfl yd_P_isPath ⟨Nat.le_of_ble_eq_true rfl, Nat.le_of_ble_eq_true rfl⟩) jv_pre0 rfl rfl hl.1 rfl (lv_room (Nat.le_of_ble_eq_true rfl)) d_P_isBelowRoot_5 ⟨Nat.zero_le _, Nat.zero_le _⟩) ?_
    refine lv_if_eq (tgt := 15) hx hb d_P_isBelowRoot_8 (by decide) (fun hc => ?_) (fun hc => ?_)
    · have hf := jv_it hf hc
      refine lv_iconst (v := (0 : Int32)) hx hb d_P_isBelowRoot_15 (by decide) ?_
      obtain rfl := Option.some.inj hf
      exact W.zret hx hb hr rfl (fun t ht hW => ⟨rfl, ht⟩) (fun q h => by cases h) d_P_isBelowRoot_16
    · have hf := jv_if hf hc
      refine lv_iconst (v := (1 : Int32)) hx hb d_P_isBelowRoot_11 (by decide) ?_
      refine lv_goto (tgt := 16) hx hb d_P_isBelowRoot_12 (by decide) ?_
      obtain rfl := Option.some.inj hf
      exact W.zret hx hb hr rfl (fun t ht hW => ⟨rfl, ht⟩) (fun q h => by cases h) d_P_isBelowRoot_16
def f_P_isBelowRoot (a0 : Int32) : Option (Int32) := f_P_isBelowRoot_0 a0
set_option maxHeartbeats 4000000 in
set_option maxRecDepth 100000 in
theorem c_P_isBelowRoot (l : Launch) (a0 : Int32) (r : Int32) (hf : f_P_isBelowRoot a0 = some r) : Met l y_P_isBelowRoot ws_P_isBelowRoot rm_P_isBelowRoot (jv_P0 [.int a0]) (QcRead r) 0 0 (fun _ => False) := by
  refine Met.ofW (cc := cc_P_isBelowRoot) (maxL := 1) (ret := (some .boolean)) (by decide) rfl ?_
  intro p e s m args below meth c s₁ B hml hv
  obtain ⟨rfl, -⟩ := hv
  have cx : jv_cx p s m _ meth c cc_P_isBelowRoot 1 R_Paths (some .boolean) ws_P_isBelowRoot := ⟨B.exec, B.bytes, hml, findClass_of_methodNamed B.named, atoms_spec (ws := ws_P_isBelowRoot) B.pre, B.returns, B.notSynchronized⟩
  have hl := lv_entry ([.int a0]) (n := 1) (Nat.le_of_ble_eq_true rfl)
  rw [lg_entry_eq]
  generalize (lg_sl ([.int a0]) ++ List.replicate (1 - (lg_sl ([.int a0])).length) Slot.unset).toArray = ls at hl ⊢
  have hl : lv_has ls 1 [(0, .int a0)] := hl
  exact b_P_isBelowRoot_0 (y0 := a0) cx (lv_sub hl [0] rfl) hf
def f_P_lengthOf_4 (y0 : Int32) (k4 : (Int32 × Int32) → Option (Int32)) (a : Int32 × Int32) : Option (Int32) :=
  if (4 : Int32) ≤ a.2 then (some a.1) else ((f_P_without y0 a.2).bind fun x1 => if x1 = 0 then (k4 (a.1, a.2 + (1 : Int32))) else (k4 (a.1 + (1 : Int32), a.2 + (1 : Int32))))
set_option maxHeartbeats 4000000 in
set_option maxRecDepth 100000 in
theorem b_P_lengthOf_4 {l : Launch} {p : Program} {e : Env} {s : State} {m : MethodId} {args : Array Value} {below : List Frame} {meth : Method} {c : Code} (cx : jv_cx p s m args meth c cc_P_lengthOf 3 R_Paths (some .int) ws_P_lengthOf) {r : Int32} {y0 : Int32} {k4 : (Int32 × Int32) → Option (Int32)} (hk4 : ∀ (a : Int32 × Int32) (ls : Array Slot), lv_has ls 3 [(0, .int y0), (1, .int a.1), (2, .int a.2)] → k4 a = some r → W p l e rm_P_lengthOf s m args below meth c s.heap [] 0 0 (MQ below (QcRead r) args s 0 0 (fun _ => False)) (F0 m 4 ls [])) {a : Int32 × Int32} {ls : Array Slot} (hl : lv_has ls 3 [(0, .int y0), (1, .int a.1), (2, .int a.2)]) (hf : f_P_lengthOf_4 y0 k4 a = some r) : W p l e rm_P_lengthOf s m args below meth c s.heap [] 0 0 (MQ below (QcRead r) args s 0 0 (fun _ => False)) (F0 m 4 ls []) := by
  unfold f_P_lengthOf_4 at hf
  obtain ⟨hx, hb, hml, hown, hts, hr, hlocks⟩ := id cx
  refine lv_iload_n hx hb d_P_lengthOf_4 rfl (lv_at hl 2 rfl) ?_
  refine lv_iconst (v := (4 : Int32)) hx hb d_P_lengthOf_5 (by decide) ?_
  refine lv_icmp_ge (tgt := 26) hx hb d_P_lengthOf_6 (by decide) (fun hc => ?_) (fun hc => ?_)
  · have hf := jv_it hf hc
    refine lv_iload_n hx hb d_P_lengthOf_26 rfl (lv_at hl 1 rfl) ?_
    obtain rfl := Option.some.inj hf
    exact W.iret hx hb hr (fun t ht hW => ⟨rfl, ht⟩) (fun q h => by cases h) d_P_lengthOf_27
  · have hf := jv_if hf hc
    refine lv_iload_n hx hb d_P_lengthOf_9 rfl (lv_at hl 0 rfl) ?_
    refine lv_iload_n hx hb d_P_lengthOf_10 rfl (lv_at hl 2 rfl) ?_
    obtain ⟨x1, g2, hf⟩ := jv_ob hf
    refine jv_cs (W.runS (As := [.int y0, .int a.2]) (rest := []) ⟨hx, hb, hml, hown, hts⟩ (c_P_without l y0 a.2 x1 g2) (jv_cwS hts wa_17 wa_8 wa_18 wa_19 rfl rfl yd_P_without ⟨Nat.le_of_ble_eq_true rfl, Nat.le_of_ble_eq_true rfl⟩) jv_pre0 rfl rfl hl.1 rfl (lv_room (Nat.le_of_ble_eq_true rfl)) d_P_lengthOf_11 ⟨Nat.zero_le _, Nat.zero_le _⟩) ?_
    refine lv_if_eq (tgt := 20) hx hb d_P_lengthOf_14 (by decide) (fun hc => ?_) (fun hc => ?_)
    · have hf := jv_it hf hc
      refine lv_iinc (k := 2) (v := a.2 + (1 : Int32)) (lv' := [(2, .int (a.2 + (1 : Int32))), (0, .int y0), (1, .int a.1)]) hx hb d_P_lengthOf_20 hl rfl rfl (by decide) rfl (fun ls hl => ?_)
      refine lv_goto (tgt := 4) hx hb d_P_lengthOf_23 (by decide) ?_
      exact hk4 (a.1, a.2 + (1 : Int32)) _ (lv_sub hl [1, 2, 0] rfl) hf
    · have hf := jv_if hf hc
      refine lv_iinc (k := 1) (v := a.1 + (1 : Int32)) (lv' := [(1, .int (a.1 + (1 : Int32))), (0, .int y0), (2, .int a.2)]) hx hb d_P_lengthOf_17 hl rfl rfl (by decide) rfl (fun ls hl => ?_)
      refine lv_iinc (k := 2) (v := a.2 + (1 : Int32)) (lv' := [(2, .int (a.2 + (1 : Int32))), (1, .int (a.1 + (1 : Int32))), (0, .int y0)]) hx hb d_P_lengthOf_20 hl rfl rfl (by decide) rfl (fun ls hl => ?_)
      refine lv_goto (tgt := 4) hx hb d_P_lengthOf_23 (by decide) ?_
      exact hk4 (a.1 + (1 : Int32), a.2 + (1 : Int32)) _ (lv_sub hl [2, 1, 0] rfl) hf
set_option maxHeartbeats 4000000 in
set_option maxRecDepth 100000 in
theorem l_P_lengthOf_4 {l : Launch} {p : Program} {e : Env} {s : State} {m : MethodId} {args : Array Value} {below : List Frame} {meth : Method} {c : Code} (cx : jv_cx p s m args meth c cc_P_lengthOf 3 R_Paths (some .int) ws_P_lengthOf) {r : Int32} {y0 : Int32} : ∀ n : Nat, ∀ (a : Int32 × Int32) (ls : Array Slot), lv_has ls 3 [(0, .int y0), (1, .int a.1), (2, .int a.2)] → jv_fx (f_P_lengthOf_4 y0) n a = some r → W p l e rm_P_lengthOf s m args below meth c s.heap [] 0 0 (MQ below (QcRead r) args s 0 0 (fun _ => False)) (F0 m 4 ls []) := by
  intro n
  induction n with
  | zero => intro a ls hl hf; exact jv_no hf
  | succ n ih => intro a ls hl hf; exact b_P_lengthOf_4 cx ih hl hf
def f_P_lengthOf_0 (y0 : Int32) : Option (Int32) :=
  jv_fx (f_P_lengthOf_4 y0) 300 ((0 : Int32), (0 : Int32))
set_option maxHeartbeats 4000000 in
set_option maxRecDepth 100000 in
theorem b_P_lengthOf_0 {l : Launch} {p : Program} {e : Env} {s : State} {m : MethodId} {args : Array Value} {below : List Frame} {meth : Method} {c : Code} (cx : jv_cx p s m args meth c cc_P_lengthOf 3 R_Paths (some .int) ws_P_lengthOf) {r : Int32} {y0 : Int32} {ls : Array Slot} (hl : lv_has ls 3 [(0, .int y0)]) (hf : f_P_lengthOf_0 y0 = some r) : W p l e rm_P_lengthOf s m args below meth c s.heap [] 0 0 (MQ below (QcRead r) args s 0 0 (fun _ => False)) (F0 m 0 ls []) := by
  unfold f_P_lengthOf_0 at hf
  obtain ⟨hx, hb, hml, hown, hts, hr, hlocks⟩ := id cx
  refine lv_iconst (v := (0 : Int32)) hx hb d_P_lengthOf_0 (by decide) ?_
  refine lv_istore_n (lv' := [(1, .int (0 : Int32)), (0, .int y0)]) hx hb d_P_lengthOf_1 rfl hl (by decide) rfl (fun ls hl => ?_)
  refine lv_iconst (v := (0 : Int32)) hx hb d_P_lengthOf_2 (by decide) ?_
  refine lv_istore_n (lv' := [(2, .int (0 : Int32)), (1, .int (0 : Int32)), (0, .int y0)]) hx hb d_P_lengthOf_3 rfl hl (by decide) rfl (fun ls hl => ?_)
  exact l_P_lengthOf_4 (y0 := y0) cx 300 ((0 : Int32), (0 : Int32)) _ (lv_sub hl [2, 1, 0] rfl) hf
def f_P_lengthOf (a0 : Int32) : Option (Int32) := f_P_lengthOf_0 a0
set_option maxHeartbeats 4000000 in
set_option maxRecDepth 100000 in
theorem c_P_lengthOf (l : Launch) (a0 : Int32) (r : Int32) (hf : f_P_lengthOf a0 = some r) : Met l y_P_lengthOf ws_P_lengthOf rm_P_lengthOf (jv_P0 [.int a0]) (QcRead r) 0 0 (fun _ => False) := by
  refine Met.ofW (cc := cc_P_lengthOf) (maxL := 3) (ret := (some .int)) (by decide) rfl ?_
  intro p e s m args below meth c s₁ B hml hv
  obtain ⟨rfl, -⟩ := hv
  have cx : jv_cx p s m _ meth c cc_P_lengthOf 3 R_Paths (some .int) ws_P_lengthOf := ⟨B.exec, B.bytes, hml, findClass_of_methodNamed B.named, atoms_spec (ws := ws_P_lengthOf) B.pre, B.returns, B.notSynchronized⟩
  have hl := lv_entry ([.int a0]) (n := 3) (Nat.le_of_ble_eq_true rfl)
  rw [lg_entry_eq]
  generalize (lg_sl ([.int a0]) ++ List.replicate (3 - (lg_sl ([.int a0])).length) Slot.unset).toArray = ls at hl ⊢
  have hl : lv_has ls 3 [(0, .int a0)] := hl
  exact b_P_lengthOf_0 (y0 := a0) cx (lv_sub hl [0] rfl) hf
def f_P_startsWith_2 (y0 : Int32) (y1 : Int32) (k2 : (Int32) → Option (Int32)) (a : Int32) : Option (Int32) :=
  if (4 : Int32) ≤ a then (some (0 : Int32)) else ((f_P_without y0 a).bind fun x1 => if x1 = y1 then (some (1 : Int32)) else (k2 (a + (1 : Int32))))
set_option maxHeartbeats 4000000 in
set_option maxRecDepth 100000 in
theorem b_P_startsWith_2 {l : Launch} {p : Program} {e : Env} {s : State} {m : MethodId} {args : Array Value} {below : List Frame} {meth : Method} {c : Code} (cx : jv_cx p s m args meth c cc_P_startsWith 3 R_Paths (some .boolean) ws_P_startsWith) {r : Int32} {y0 : Int32} {y1 : Int32} {k2 : (Int32) → Option (Int32)} (hk2 : ∀ (a : Int32) (ls : Array Slot), lv_has ls 3 [(0, .int y0), (1, .int y1), (2, .int a)] → k2 a = some r → W p l e rm_P_startsWith s m args below meth c s.heap [] 0 0 (MQ below (QcRead r) args s 0 0 (fun _ => False)) (F0 m 2 ls [])) {a : Int32} {ls : Array Slot} (hl : lv_has ls 3 [(0, .int y0), (1, .int y1), (2, .int a)]) (hf : f_P_startsWith_2 y0 y1 k2 a = some r) : W p l e rm_P_startsWith s m args below meth c s.heap [] 0 0 (MQ below (QcRead r) args s 0 0 (fun _ => False)) (F0 m 2 ls []) := by
  unfold f_P_startsWith_2 at hf
  obtain ⟨hx, hb, hml, hown, hts, hr, hlocks⟩ := id cx
  refine lv_iload_n hx hb d_P_startsWith_2 rfl (lv_at hl 2 rfl) ?_
  refine lv_iconst (v := (4 : Int32)) hx hb d_P_startsWith_3 (by decide) ?_
  refine lv_icmp_ge (tgt := 24) hx hb d_P_startsWith_4 (by decide) (fun hc => ?_) (fun hc => ?_)
  · have hf := jv_it hf hc
    refine lv_iconst (v := (0 : Int32)) hx hb d_P_startsWith_24 (by decide) ?_
    obtain rfl := Option.some.inj hf
    exact W.zret hx hb hr rfl (fun t ht hW => ⟨rfl, ht⟩) (fun q h => by cases h) d_P_startsWith_25
  · have hf := jv_if hf hc
    refine lv_iload_n hx hb d_P_startsWith_7 rfl (lv_at hl 0 rfl) ?_
    refine lv_iload_n hx hb d_P_startsWith_8 rfl (lv_at hl 2 rfl) ?_
    obtain ⟨x1, g2, hf⟩ := jv_ob hf
    refine jv_cs (W.runS (As := [.int y0, .int a]) (rest := []) ⟨hx, hb, hml, hown, hts⟩ (c_P_without l y0 a x1 g2) (jv_cwS hts wa_17 wa_8 wa_18 wa_19 rfl rfl yd_P_without ⟨Nat.le_of_ble_eq_true rfl, Nat.le_of_ble_eq_true rfl⟩) jv_pre0 rfl rfl hl.1 rfl (lv_room (Nat.le_of_ble_eq_true rfl)) d_P_startsWith_9 ⟨Nat.zero_le _, Nat.zero_le _⟩) ?_
    refine lv_iload_n hx hb d_P_startsWith_12 rfl (lv_at hl 1 rfl) ?_
    refine lv_icmp_ne (tgt := 18) hx hb d_P_startsWith_13 (by decide) (fun hc => ?_) (fun hc => ?_)
    · have hf := jv_if hf hc
      refine lv_iinc (k := 2) (v := a + (1 : Int32)) (lv' := [(2, .int (a + (1 : Int32))), (0, .int y0), (1, .int y1)]) hx hb d_P_startsWith_18 hl rfl rfl (by decide) rfl (fun ls hl => ?_)
      refine lv_goto (tgt := 2) hx hb d_P_startsWith_21 (by decide) ?_
      exact hk2 (a + (1 : Int32)) _ (lv_sub hl [1, 2, 0] rfl) hf
    · have hf := jv_it hf hc
      refine lv_iconst (v := (1 : Int32)) hx hb d_P_startsWith_16 (by decide) ?_
      obtain rfl := Option.some.inj hf
      exact W.zret hx hb hr rfl (fun t ht hW => ⟨rfl, ht⟩) (fun q h => by cases h) d_P_startsWith_17
set_option maxHeartbeats 4000000 in
set_option maxRecDepth 100000 in
theorem l_P_startsWith_2 {l : Launch} {p : Program} {e : Env} {s : State} {m : MethodId} {args : Array Value} {below : List Frame} {meth : Method} {c : Code} (cx : jv_cx p s m args meth c cc_P_startsWith 3 R_Paths (some .boolean) ws_P_startsWith) {r : Int32} {y0 : Int32} {y1 : Int32} : ∀ n : Nat, ∀ (a : Int32) (ls : Array Slot), lv_has ls 3 [(0, .int y0), (1, .int y1), (2, .int a)] → jv_fx (f_P_startsWith_2 y0 y1) n a = some r → W p l e rm_P_startsWith s m args below meth c s.heap [] 0 0 (MQ below (QcRead r) args s 0 0 (fun _ => False)) (F0 m 2 ls []) := by
  intro n
  induction n with
  | zero => intro a ls hl hf; exact jv_no hf
  | succ n ih => intro a ls hl hf; exact b_P_startsWith_2 cx ih hl hf
def f_P_startsWith_0 (y0 : Int32) (y1 : Int32) : Option (Int32) :=
  jv_fx (f_P_startsWith_2 y0 y1) 300 (0 : Int32)
set_option maxHeartbeats 4000000 in
set_option maxRecDepth 100000 in
theorem b_P_startsWith_0 {l : Launch} {p : Program} {e : Env} {s : State} {m : MethodId} {args : Array Value} {below : List Frame} {meth : Method} {c : Code} (cx : jv_cx p s m args meth c cc_P_startsWith 3 R_Paths (some .boolean) ws_P_startsWith) {r : Int32} {y0 : Int32} {y1 : Int32} {ls : Array Slot} (hl : lv_has ls 3 [(0, .int y0), (1, .int y1)]) (hf : f_P_startsWith_0 y0 y1 = some r) : W p l e rm_P_startsWith s m args below meth c s.heap [] 0 0 (MQ below (QcRead r) args s 0 0 (fun _ => False)) (F0 m 0 ls []) := by
  unfold f_P_startsWith_0 at hf
  obtain ⟨hx, hb, hml, hown, hts, hr, hlocks⟩ := id cx
  refine lv_iconst (v := (0 : Int32)) hx hb d_P_startsWith_0 (by decide) ?_
  refine lv_istore_n (lv' := [(2, .int (0 : Int32)), (0, .int y0), (1, .int y1)]) hx hb d_P_startsWith_1 rfl hl (by decide) rfl (fun ls hl => ?_)
  exact l_P_startsWith_2 (y0 := y0) (y1 := y1) cx 300 (0 : Int32) _ (lv_sub hl [1, 2, 0] rfl) hf
def f_P_startsWith (a0 : Int32) (a1 : Int32) : Option (Int32) := f_P_startsWith_0 a0 a1
set_option maxHeartbeats 4000000 in
set_option maxRecDepth 100000 in
theorem c_P_startsWith (l : Launch) (a0 : Int32) (a1 : Int32) (r : Int32) (hf : f_P_startsWith a0 a1 = some r) : Met l y_P_startsWith ws_P_startsWith rm_P_startsWith (jv_P0 [.int a0, .int a1]) (QcRead r) 0 0 (fun _ => False) := by
  refine Met.ofW (cc := cc_P_startsWith) (maxL := 3) (ret := (some .boolean)) (by decide) rfl ?_
  intro p e s m args below meth c s₁ B hml hv
  obtain ⟨rfl, -⟩ := hv
  have cx : jv_cx p s m _ meth c cc_P_startsWith 3 R_Paths (some .boolean) ws_P_startsWith := ⟨B.exec, B.bytes, hml, findClass_of_methodNamed B.named, atoms_spec (ws := ws_P_startsWith) B.pre, B.returns, B.notSynchronized⟩
  have hl := lv_entry ([.int a0, .int a1]) (n := 3) (Nat.le_of_ble_eq_true rfl)
  rw [lg_entry_eq]
  generalize (lg_sl ([.int a0, .int a1]) ++ List.replicate (3 - (lg_sl ([.int a0, .int a1])).length) Slot.unset).toArray = ls at hl ⊢
  have hl : lv_has ls 3 [(0, .int a0), (1, .int a1)] := hl
  exact b_P_startsWith_0 (y0 := a0) (y1 := a1) cx (lv_sub hl [0, 1] rfl) hf
def f_Fu_letsPass_0 (y0 : Int32) : Option (Int32 × Int32) :=
  if y0 = 0 then (some ((0 : Int32), y0)) else (if y0 ≤ 0 then (some ((1 : Int32), y0)) else (some ((1 : Int32), y0 - (1 : Int32))))
set_option maxHeartbeats 4000000 in
set_option maxRecDepth 100000 in
theorem b_Fu_letsPass_0 {l : Launch} {dC : Nat → ClassId} {dI : Nat → Nat → Nat} {cI cA cL : ClassId} {q_fu : Nat} {p : Program} {e : Env} {s : State} {m : MethodId} {args : Array Value} {below : List Frame} {meth : Method} {c : Code} (cx : jv_cx p s m args meth c cc_Fu_letsPass 1 R_Fuse (some .boolean) ws_Fu_letsPass) (hK : va_K (dC, dI) vwCl (jv_ty cI cA cL) s) {A : Nat → Prop} (hA : ∀ q : Nat, s.heap.size ≤ q → A q) {r : Int32 × Int32} {y0 : Int32} {ls : Array Slot} (hl : lv_has ls 1 [(0, .ref q_fu)]) {H : Heap} {locs : List Loc} (hP : va_P (dC, dI) vwCl (w_fuse cI q_fu y0) H) (hD : va_D A (w_fuse cI q_fu y0)) (hS : va_S A s.heap H locs) (hf : f_Fu_letsPass_0 y0 = some r) : W p l e rm_Fu_letsPass s m args below meth c H locs 0 0 (MQ below (jv_Qi r.1 (dC, dI) (w_fuse cI q_fu r.2) A) args s 0 0 A) (F0 m 0 ls []) := by
  unfold f_Fu_letsPass_0 at hf
  obtain ⟨hx, hb, hml, hown, hts, hr, hlocks⟩ := id cx
  refine lv_aload_n hx hb d_Fu_letsPass_0 rfl (lv_at hl 0 rfl) ?_
  refine va_get (D := (dC, dI)) (ci := kFuse) (v := .int y0) (C := R_Fuse) (T := T_Fuse) (N := 1) hx hb hts (fun w h => List.mem_cons_of_mem _ (in_Fuse w h)) hown hK hP 0 rfl rfl 0 (by decide) (jv_w hts wa_20) (fun _ h9 => h9) rfl d_Fu_letsPass_1 ?_
  refine lv_if_ne (tgt := 9) hx hb d_Fu_letsPass_4 (by decide) (fun hc => ?_) (fun hc => ?_)
  · have hf := jv_if hf hc
    refine lv_aload_n hx hb d_Fu_letsPass_9 rfl (lv_at hl 0 rfl) ?_
    refine va_get (D := (dC, dI)) (ci := kFuse) (v := .int y0) (C := R_Fuse) (T := T_Fuse) (N := 1) hx hb hts (fun w h => List.mem_cons_of_mem _ (in_Fuse w h)) hown hK hP 0 rfl rfl 0 (by decide) (jv_w hts wa_20) (fun _ h9 => h9) rfl d_Fu_letsPass_10 ?_
    refine lv_if_le (tgt := 26) hx hb d_Fu_letsPass_13 (by decide) (fun hc => ?_) (fun hc => ?_)
    · have hf := jv_it hf hc
      refine lv_iconst (v := (1 : Int32)) hx hb d_Fu_letsPass_26 (by decide) ?_
      obtain rfl := Option.some.inj hf
      exact W.zret hx hb hr rfl (fun t ht hW => ⟨rfl, by rw [ht]; exact hP, hD, hS.F ht⟩) hS.2.2 d_Fu_letsPass_27
    · have hf := jv_if hf hc
      refine lv_aload_n hx hb d_Fu_letsPass_16 rfl (lv_at hl 0 rfl) ?_
      refine lv_dup hx hb d_Fu_letsPass_17 rfl ?_
      refine va_get (D := (dC, dI)) (ci := kFuse) (v := .int y0) (C := R_Fuse) (T := T_Fuse) (N := 1) hx hb hts (fun w h => List.mem_cons_of_mem _ (in_Fuse w h)) hown hK hP 0 rfl rfl 0 (by decide) (jv_w hts wa_20) (fun _ h9 => h9) rfl d_Fu_letsPass_18 ?_
      refine lv_iconst (v := (1 : Int32)) hx hb d_Fu_letsPass_21 (by decide) ?_
      refine lv_isub hx hb d_Fu_letsPass_22 ?_
      refine va_put (D := (dC, dI)) (ci := kFuse) (v := .int (y0 - (1 : Int32))) (ty := .int) (C := R_Fuse) (T := T_Fuse) (N := 1) hx hb hts (fun w h => List.mem_cons_of_mem _ (in_Fuse w h)) ty_Fuse tyok_Fuse nm_Fuse hown hK hP hD hS 0 rfl rfl 0 (by decide) (jv_w hts wa_20) (fun _ h9 => h9) rfl (by decide +kernel) rfl rfl (Nat.le_of_ble_eq_true rfl) d_Fu_letsPass_23 (fun H locs hP hD hS => ?_)
      have hP : va_P (dC, dI) vwCl (w_fuse cI q_fu (y0 - (1 : Int32))) H := hP
      have hD : va_D A (w_fuse cI q_fu (y0 - (1 : Int32))) := hD
      refine lv_iconst (v := (1 : Int32)) hx hb d_Fu_letsPass_26 (by decide) ?_
      obtain rfl := Option.some.inj hf
      exact W.zret hx hb hr rfl (fun t ht hW => ⟨rfl, by rw [ht]; exact hP, hD, hS.F ht⟩) hS.2.2 d_Fu_letsPass_27
  · have hf := jv_it hf hc
    refine lv_iconst (v := (0 : Int32)) hx hb d_Fu_letsPass_7 (by decide) ?_
    obtain rfl := Option.some.inj hf
    exact W.zret hx hb hr rfl (fun t ht hW => ⟨rfl, by rw [ht]; exact hP, hD, hS.F ht⟩) hS.2.2 d_Fu_letsPass_8
def f_Fu_letsPass (vat : Int32) : Option (Int32 × Int32) := f_Fu_letsPass_0 vat
set_option maxHeartbeats 4000000 in
set_option maxRecDepth 100000 in
theorem c_Fu_letsPass (l : Launch) (dC : Nat → ClassId) (dI : Nat → Nat → Nat) (cI cA cL : ClassId) (q_fu : Nat) (vat : Int32) (sz : Nat) (r : Int32 × Int32) (hf : f_Fu_letsPass vat = some r) : Met l y_Fu_letsPass ws_Fu_letsPass rm_Fu_letsPass (jv_Pw [.ref q_fu] (dC, dI) (jv_ty cI cA cL) (w_fuse cI q_fu vat) sz) (jv_Qi r.1 (dC, dI) (w_fuse cI q_fu r.2) (va_A (w_fuse cI q_fu vat) sz)) 0 0 (va_A (w_fuse cI q_fu vat) sz) := by
  refine Met.ofW (cc := cc_Fu_letsPass) (maxL := 1) (ret := (some .boolean)) (by decide) rfl ?_
  intro p e s m args below meth c s₁ B hml hv
  obtain ⟨rfl, hsz, hP, hK, hD0⟩ := hv
  have cx : jv_cx p s m _ meth c cc_Fu_letsPass 1 R_Fuse (some .boolean) ws_Fu_letsPass := ⟨B.exec, B.bytes, hml, findClass_of_methodNamed B.named, atoms_spec (ws := ws_Fu_letsPass) B.pre, B.returns, B.notSynchronized⟩
  subst hsz
  have hD := hD0.self (sz := s.heap.size)
  generalize hAe : va_A (w_fuse cI q_fu vat) s.heap.size = A at hD ⊢
  have hA : ∀ q : Nat, s.heap.size ≤ q → A q := fun q h => by rw [← hAe]; exact Or.inr h
  have hS : va_S A s.heap s.heap [] := va_S.rf
  have hl := lv_entry ([.ref q_fu]) (n := 1) (Nat.le_of_ble_eq_true rfl)
  rw [lg_entry_eq]
  generalize (lg_sl ([.ref q_fu]) ++ List.replicate (1 - (lg_sl ([.ref q_fu])).length) Slot.unset).toArray = ls at hl ⊢
  have hl : lv_has ls 1 [(0, .ref q_fu)] := hl
  exact b_Fu_letsPass_0 (y0 := vat) cx hK hA (lv_sub hl [0] rfl) hP hD hS hf
def f_D_get_0 (vD : Nat → Int32) (y0 : Int32) (y1 : Int32) : Option (Int32) :=
  (jv_ga vD 232 ((y0 * (8 : Int32)) + y1)).bind fun x1 => some x1
set_option maxHeartbeats 4000000 in
set_option maxRecDepth 100000 in
theorem b_D_get_0 {l : Launch} {dC : Nat → ClassId} {dI : Nat → Nat → Nat} {cI cA cL : ClassId} {q_di q_pl q_dr q_jo : Nat} {vjn : Int32} {vmk : Int32} {vwr : Int32} {vP : Nat → Int32} {vD : Nat → Int32} {vJ : Nat → Int32} {p : Program} {e : Env} {s : State} {m : MethodId} {args : Array Value} {below : List Frame} {meth : Method} {c : Code} (cx : jv_cx p s m args meth c cc_D_get 3 R_Disk (some .int) ws_D_get) (hK : va_K (dC, dI) vwCl (jv_ty cI cA cL) s) (hP : va_P (dC, dI) vwCl (w_disk cI q_di q_pl q_dr q_jo vjn vmk vwr vP vD vJ) s.heap) {r : Int32} {y0 : Int32} {y1 : Int32} {ls : Array Slot} (hl : lv_has ls 3 [(0, .ref q_di), (1, .int y0), (2, .int y1)]) (hf : f_D_get_0 vD y0 y1 = some r) : W p l e rm_D_get s m args below meth c s.heap [] 0 0 (MQ below (QcRead r) args s 0 0 (fun _ => False)) (F0 m 0 ls []) := by
  unfold f_D_get_0 at hf
  obtain ⟨hx, hb, hml, hown, hts, hr, hlocks⟩ := id cx
  refine lv_aload_n hx hb d_D_get_0 rfl (lv_at hl 0 rfl) ?_
  refine va_get (D := (dC, dI)) (ci := kDisk) (v := .ref q_dr) (C := R_Disk) (T := T_Disk) (N := 6) hx hb hts (fun w h => List.mem_cons_of_mem _ (in_Disk w h)) hown hK hP 0 rfl rfl 1 (by decide) (jv_w hts wa_22) (fun _ h9 => h9) rfl d_D_get_1 ?_
  refine lv_iload_n hx hb d_D_get_4 rfl (lv_at hl 1 rfl) ?_
  refine lv_bipush (v := (8 : Int32)) hx hb d_D_get_5 (by decide) ?_
  refine lv_imul hx hb d_D_get_7 ?_
  refine lv_iload_n hx hb d_D_get_8 rfl (lv_at hl 2 rfl) ?_
  refine lv_iadd hx hb d_D_get_9 ?_
  obtain ⟨x1, g2, hf⟩ := jv_ob hf
  refine jv_iald hx hb hK hP 2 0 rfl rfl g2 d_D_get_10 ?_
  obtain rfl := Option.some.inj hf
  exact W.iret hx hb hr (fun t ht hW => ⟨rfl, ht⟩) (fun q h => by cases h) d_D_get_11
def f_D_get (vD : Nat → Int32) (a0 : Int32) (a1 : Int32) : Option (Int32) := f_D_get_0 vD a0 a1
set_option maxHeartbeats 4000000 in
set_option maxRecDepth 100000 in
theorem c_D_get (l : Launch) (dC : Nat → ClassId) (dI : Nat → Nat → Nat) (cI cA cL : ClassId) (q_di q_pl q_dr q_jo : Nat) (vjn : Int32) (vmk : Int32) (vwr : Int32) (vP : Nat → Int32) (vD : Nat → Int32) (vJ : Nat → Int32) (a0 : Int32) (a1 : Int32) (r : Int32) (hf : f_D_get vD a0 a1 = some r) : Met l y_D_get ws_D_get rm_D_get (jv_Pr [.ref q_di, .int a0, .int a1] (dC, dI) (jv_ty cI cA cL) (w_disk cI q_di q_pl q_dr q_jo vjn vmk vwr vP vD vJ)) (QcRead r) 0 0 (fun _ => False) := by
  refine Met.ofW (cc := cc_D_get) (maxL := 3) (ret := (some .int)) (by decide) rfl ?_
  intro p e s m args below meth c s₁ B hml hv
  obtain ⟨rfl, hP, hK⟩ := hv
  have cx : jv_cx p s m _ meth c cc_D_get 3 R_Disk (some .int) ws_D_get := ⟨B.exec, B.bytes, hml, findClass_of_methodNamed B.named, atoms_spec (ws := ws_D_get) B.pre, B.returns, B.notSynchronized⟩
  have hl := lv_entry ([.ref q_di, .int a0, .int a1]) (n := 3) (Nat.le_of_ble_eq_true rfl)
  rw [lg_entry_eq]
  generalize (lg_sl ([.ref q_di, .int a0, .int a1]) ++ List.replicate (3 - (lg_sl ([.ref q_di, .int a0, .int a1])).length) Slot.unset).toArray = ls at hl ⊢
  have hl : lv_has ls 3 [(0, .ref q_di), (1, .int a0), (2, .int a1)] := hl
  exact b_D_get_0 (y0 := a0) (y1 := a1) cx hK hP (lv_sub hl [0, 1, 2] rfl) hf
def f_D_inodeWord_0 (vD : Nat → Int32) (y0 : Int32) (y1 : Int32) : Option (Int32) :=
  (jv_ga vD 232 ((((1 : Int32) + y0) * (8 : Int32)) + y1)).bind fun x1 => some x1
set_option maxHeartbeats 4000000 in
set_option maxRecDepth 100000 in
theorem b_D_inodeWord_0 {l : Launch} {dC : Nat → ClassId} {dI : Nat → Nat → Nat} {cI cA cL : ClassId} {q_di q_pl q_dr q_jo : Nat} {vjn : Int32} {vmk : Int32} {vwr : Int32} {vP : Nat → Int32} {vD : Nat → Int32} {vJ : Nat → Int32} {p : Program} {e : Env} {s : State} {m : MethodId} {args : Array Value} {below : List Frame} {meth : Method} {c : Code} (cx : jv_cx p s m args meth c cc_D_inodeWord 3 R_Disk (some .int) ws_D_inodeWord) (hK : va_K (dC, dI) vwCl (jv_ty cI cA cL) s) (hP : va_P (dC, dI) vwCl (w_disk cI q_di q_pl q_dr q_jo vjn vmk vwr vP vD vJ) s.heap) {r : Int32} {y0 : Int32} {y1 : Int32} {ls : Array Slot} (hl : lv_has ls 3 [(0, .ref q_di), (1, .int y0), (2, .int y1)]) (hf : f_D_inodeWord_0 vD y0 y1 = some r) : W p l e rm_D_inodeWord s m args below meth c s.heap [] 0 0 (MQ below (QcRead r) args s 0 0 (fun _ => False)) (F0 m 0 ls []) := by
  unfold f_D_inodeWord_0 at hf
  obtain ⟨hx, hb, hml, hown, hts, hr, hlocks⟩ := id cx
  refine lv_aload_n hx hb d_D_inodeWord_0 rfl (lv_at hl 0 rfl) ?_
  refine va_get (D := (dC, dI)) (ci := kDisk) (v := .ref q_dr) (C := R_Disk) (T := T_Disk) (N := 6) hx hb hts (fun w h => List.mem_cons_of_mem _ (in_Disk w h)) hown hK hP 0 rfl rfl 1 (by decide) (jv_w hts wa_22) (fun _ h9 => h9) rfl d_D_inodeWord_1 ?_
  refine lv_iconst (v := (1 : Int32)) hx hb d_D_inodeWord_4 (by decide) ?_
  refine lv_iload_n hx hb d_D_inodeWord_5 rfl (lv_at hl 1 rfl) ?_
  refine lv_iadd hx hb d_D_inodeWord_6 ?_
  refine lv_bipush (v := (8 : Int32)) hx hb d_D_inodeWord_7 (by decide) ?_
  refine lv_imul hx hb d_D_inodeWord_9 ?_
  refine lv_iload_n hx hb d_D_inodeWord_10 rfl (lv_at hl 2 rfl) ?_
  refine lv_iadd hx hb d_D_inodeWord_11 ?_
  obtain ⟨x1, g2, hf⟩ := jv_ob hf
  refine jv_iald hx hb hK hP 2 0 rfl rfl g2 d_D_inodeWord_12 ?_
  obtain rfl := Option.some.inj hf
  exact W.iret hx hb hr (fun t ht hW => ⟨rfl, ht⟩) (fun q h => by cases h) d_D_inodeWord_13
def f_D_inodeWord (vD : Nat → Int32) (a0 : Int32) (a1 : Int32) : Option (Int32) := f_D_inodeWord_0 vD a0 a1
set_option maxHeartbeats 4000000 in
set_option maxRecDepth 100000 in
theorem c_D_inodeWord (l : Launch) (dC : Nat → ClassId) (dI : Nat → Nat → Nat) (cI cA cL : ClassId) (q_di q_pl q_dr q_jo : Nat) (vjn : Int32) (vmk : Int32) (vwr : Int32) (vP : Nat → Int32) (vD : Nat → Int32) (vJ : Nat → Int32) (a0 : Int32) (a1 : Int32) (r : Int32) (hf : f_D_inodeWord vD a0 a1 = some r) : Met l y_D_inodeWord ws_D_inodeWord rm_D_inodeWord (jv_Pr [.ref q_di, .int a0, .int a1] (dC, dI) (jv_ty cI cA cL) (w_disk cI q_di q_pl q_dr q_jo vjn vmk vwr vP vD vJ)) (QcRead r) 0 0 (fun _ => False) := by
  refine Met.ofW (cc := cc_D_inodeWord) (maxL := 3) (ret := (some .int)) (by decide) rfl ?_
  intro p e s m args below meth c s₁ B hml hv
  obtain ⟨rfl, hP, hK⟩ := hv
  have cx : jv_cx p s m _ meth c cc_D_inodeWord 3 R_Disk (some .int) ws_D_inodeWord := ⟨B.exec, B.bytes, hml, findClass_of_methodNamed B.named, atoms_spec (ws := ws_D_inodeWord) B.pre, B.returns, B.notSynchronized⟩
  have hl := lv_entry ([.ref q_di, .int a0, .int a1]) (n := 3) (Nat.le_of_ble_eq_true rfl)
  rw [lg_entry_eq]
  generalize (lg_sl ([.ref q_di, .int a0, .int a1]) ++ List.replicate (3 - (lg_sl ([.ref q_di, .int a0, .int a1])).length) Slot.unset).toArray = ls at hl ⊢
  have hl : lv_has ls 3 [(0, .ref q_di), (1, .int a0), (2, .int a1)] := hl
  exact b_D_inodeWord_0 (y0 := a0) (y1 := a1) cx hK hP (lv_sub hl [0, 1, 2] rfl) hf
def f_D_put_0 (y0 : Int32) (y1 : Int32) (y2 : Int32) (y3 : Nat → Int32) : Option (Nat → Int32) :=
  (jv_sa y3 232 ((y0 * (8 : Int32)) + y1) y2).bind fun F1 => some F1
set_option maxHeartbeats 4000000 in
set_option maxRecDepth 100000 in
theorem b_D_put_0 {l : Launch} {dC : Nat → ClassId} {dI : Nat → Nat → Nat} {cI cA cL : ClassId} {q_di q_pl q_dr q_jo : Nat} {vjn : Int32} {vmk : Int32} {vwr : Int32} {vP : Nat → Int32} {vJ : Nat → Int32} {p : Program} {e : Env} {s : State} {m : MethodId} {args : Array Value} {below : List Frame} {meth : Method} {c : Code} (cx : jv_cx p s m args meth c cc_D_put 4 R_Disk none ws_D_put) (hK : va_K (dC, dI) vwCl (jv_ty cI cA cL) s) {A : Nat → Prop} (hA : ∀ q : Nat, s.heap.size ≤ q → A q) {r : Nat → Int32} {y0 : Int32} {y1 : Int32} {y2 : Int32} {y3 : Nat → Int32} {ls : Array Slot} (hl : lv_has ls 4 [(0, .ref q_di), (1, .int y0), (2, .int y1), (3, .int y2)]) {H : Heap} {locs : List Loc} (hP : va_P (dC, dI) vwCl (w_disk cI q_di q_pl q_dr q_jo vjn vmk vwr vP y3 vJ) H) (hD : va_D A (w_disk cI q_di q_pl q_dr q_jo vjn vmk vwr vP y3 vJ)) (hS : va_S A s.heap H locs) (hf : f_D_put_0 y0 y1 y2 y3 = some r) : W p l e rm_D_put s m args below meth c H locs 0 0 (MQ below (jv_Qv (dC, dI) (w_disk cI q_di q_pl q_dr q_jo vjn vmk vwr vP r vJ) A) args s 0 0 A) (F0 m 0 ls []) := by
  unfold f_D_put_0 at hf
  obtain ⟨hx, hb, hml, hown, hts, hr, hlocks⟩ := id cx
  refine lv_aload_n hx hb d_D_put_0 rfl (lv_at hl 0 rfl) ?_
  refine va_get (D := (dC, dI)) (ci := kDisk) (v := .ref q_dr) (C := R_Disk) (T := T_Disk) (N := 6) hx hb hts (fun w h => List.mem_cons_of_mem _ (in_Disk w h)) hown hK hP 0 rfl rfl 1 (by decide) (jv_w hts wa_22) (fun _ h9 => h9) rfl d_D_put_1 ?_
  refine lv_iload_n hx hb d_D_put_4 rfl (lv_at hl 1 rfl) ?_
  refine lv_bipush (v := (8 : Int32)) hx hb d_D_put_5 (by decide) ?_
  refine lv_imul hx hb d_D_put_7 ?_
  refine lv_iload_n hx hb d_D_put_8 rfl (lv_at hl 2 rfl) ?_
  refine lv_iadd hx hb d_D_put_9 ?_
  refine lv_iload_n hx hb d_D_put_10 rfl (lv_at hl 3 rfl) ?_
  obtain ⟨F1, g2, hf⟩ := jv_ob hf
  refine jv_iast hx hb hK hP hD hS 2 0 rfl rfl g2 d_D_put_11 (fun H locs hP hD hS => ?_)
  have hP : va_P (dC, dI) vwCl (w_disk cI q_di q_pl q_dr q_jo vjn vmk vwr vP F1 vJ) H := hP
  have hD : va_D A (w_disk cI q_di q_pl q_dr q_jo vjn vmk vwr vP F1 vJ) := hD
  obtain rfl := Option.some.inj hf
  exact W.vret hx hb hr (fun t ht hW => ⟨rfl, by rw [ht]; exact hP, hD, hS.F ht⟩) hS.2.2 d_D_put_12
def f_D_put (a0 : Int32) (a1 : Int32) (a2 : Int32) (vD : Nat → Int32) : Option (Nat → Int32) := f_D_put_0 a0 a1 a2 vD
set_option maxHeartbeats 4000000 in
set_option maxRecDepth 100000 in
theorem c_D_put (l : Launch) (dC : Nat → ClassId) (dI : Nat → Nat → Nat) (cI cA cL : ClassId) (q_di q_pl q_dr q_jo : Nat) (vjn : Int32) (vmk : Int32) (vwr : Int32) (vP : Nat → Int32) (vD : Nat → Int32) (vJ : Nat → Int32) (a0 : Int32) (a1 : Int32) (a2 : Int32) (sz : Nat) (r : Nat → Int32) (hf : f_D_put a0 a1 a2 vD = some r) : Met l y_D_put ws_D_put rm_D_put (jv_Pw [.ref q_di, .int a0, .int a1, .int a2] (dC, dI) (jv_ty cI cA cL) (w_disk cI q_di q_pl q_dr q_jo vjn vmk vwr vP vD vJ) sz) (jv_Qv (dC, dI) (w_disk cI q_di q_pl q_dr q_jo vjn vmk vwr vP r vJ) (va_A (w_disk cI q_di q_pl q_dr q_jo vjn vmk vwr vP vD vJ) sz)) 0 0 (va_A (w_disk cI q_di q_pl q_dr q_jo vjn vmk vwr vP vD vJ) sz) := by
  refine Met.ofW (cc := cc_D_put) (maxL := 4) (ret := none) (by decide) rfl ?_
  intro p e s m args below meth c s₁ B hml hv
  obtain ⟨rfl, hsz, hP, hK, hD0⟩ := hv
  have cx : jv_cx p s m _ meth c cc_D_put 4 R_Disk none ws_D_put := ⟨B.exec, B.bytes, hml, findClass_of_methodNamed B.named, atoms_spec (ws := ws_D_put) B.pre, B.returns, B.notSynchronized⟩
  subst hsz
  have hD := hD0.self (sz := s.heap.size)
  generalize hAe : va_A (w_disk cI q_di q_pl q_dr q_jo vjn vmk vwr vP vD vJ) s.heap.size = A at hD ⊢
  have hA : ∀ q : Nat, s.heap.size ≤ q → A q := fun q h => by rw [← hAe]; exact Or.inr h
  have hS : va_S A s.heap s.heap [] := va_S.rf
  have hl := lv_entry ([.ref q_di, .int a0, .int a1, .int a2]) (n := 4) (Nat.le_of_ble_eq_true rfl)
  rw [lg_entry_eq]
  generalize (lg_sl ([.ref q_di, .int a0, .int a1, .int a2]) ++ List.replicate (4 - (lg_sl ([.ref q_di, .int a0, .int a1, .int a2])).length) Slot.unset).toArray = ls at hl ⊢
  have hl : lv_has ls 4 [(0, .ref q_di), (1, .int a0), (2, .int a1), (3, .int a2)] := hl
  exact b_D_put_0 (y0 := a0) (y1 := a1) (y2 := a2) (y3 := vD) cx hK hA (lv_sub hl [0, 1, 2, 3] rfl) hP hD hS hf
def f_D_putInodeWord_0 (y0 : Int32) (y1 : Int32) (y2 : Int32) (y3 : Nat → Int32) : Option (Nat → Int32) :=
  (jv_sa y3 232 ((((1 : Int32) + y0) * (8 : Int32)) + y1) y2).bind fun F1 => some F1
set_option maxHeartbeats 4000000 in
set_option maxRecDepth 100000 in
theorem b_D_putInodeWord_0 {l : Launch} {dC : Nat → ClassId} {dI : Nat → Nat → Nat} {cI cA cL : ClassId} {q_di q_pl q_dr q_jo : Nat} {vjn : Int32} {vmk : Int32} {vwr : Int32} {vP : Nat → Int32} {vJ : Nat → Int32} {p : Program} {e : Env} {s : State} {m : MethodId} {args : Array Value} {below : List Frame} {meth : Method} {c : Code} (cx : jv_cx p s m args meth c cc_D_putInodeWord 4 R_Disk none ws_D_putInodeWord) (hK : va_K (dC, dI) vwCl (jv_ty cI cA cL) s) {A : Nat → Prop} (hA : ∀ q : Nat, s.heap.size ≤ q → A q) {r : Nat → Int32} {y0 : Int32} {y1 : Int32} {y2 : Int32} {y3 : Nat → Int32} {ls : Array Slot} (hl : lv_has ls 4 [(0, .ref q_di), (1, .int y0), (2, .int y1), (3, .int y2)]) {H : Heap} {locs : List Loc} (hP : va_P (dC, dI) vwCl (w_disk cI q_di q_pl q_dr q_jo vjn vmk vwr vP y3 vJ) H) (hD : va_D A (w_disk cI q_di q_pl q_dr q_jo vjn vmk vwr vP y3 vJ)) (hS : va_S A s.heap H locs) (hf : f_D_putInodeWord_0 y0 y1 y2 y3 = some r) : W p l e rm_D_putInodeWord s m args below meth c H locs 0 0 (MQ below (jv_Qv (dC, dI) (w_disk cI q_di q_pl q_dr q_jo vjn vmk vwr vP r vJ) A) args s 0 0 A) (F0 m 0 ls []) := by
  unfold f_D_putInodeWord_0 at hf
  obtain ⟨hx, hb, hml, hown, hts, hr, hlocks⟩ := id cx
  refine lv_aload_n hx hb d_D_putInodeWord_0 rfl (lv_at hl 0 rfl) ?_
  refine va_get (D := (dC, dI)) (ci := kDisk) (v := .ref q_dr) (C := R_Disk) (T := T_Disk) (N := 6) hx hb hts (fun w h => List.mem_cons_of_mem _ (in_Disk w h)) hown hK hP 0 rfl rfl 1 (by decide) (jv_w hts wa_22) (fun _ h9 => h9) rfl d_D_putInodeWord_1 ?_
  refine lv_iconst (v := (1 : Int32)) hx hb d_D_putInodeWord_4 (by decide) ?_
  refine lv_iload_n hx hb d_D_putInodeWord_5 rfl (lv_at hl 1 rfl) ?_
  refine lv_iadd hx hb d_D_putInodeWord_6 ?_
  refine lv_bipush (v := (8 : Int32)) hx hb d_D_putInodeWord_7 (by decide) ?_
  refine lv_imul hx hb d_D_putInodeWord_9 ?_
  refine lv_iload_n hx hb d_D_putInodeWord_10 rfl (lv_at hl 2 rfl) ?_
  refine lv_iadd hx hb d_D_putInodeWord_11 ?_
  refine lv_iload_n hx hb d_D_putInodeWord_12 rfl (lv_at hl 3 rfl) ?_
  obtain ⟨F1, g2, hf⟩ := jv_ob hf
  refine jv_iast hx hb hK hP hD hS 2 0 rfl rfl g2 d_D_putInodeWord_13 (fun H locs hP hD hS => ?_)
  have hP : va_P (dC, dI) vwCl (w_disk cI q_di q_pl q_dr q_jo vjn vmk vwr vP F1 vJ) H := hP
  have hD : va_D A (w_disk cI q_di q_pl q_dr q_jo vjn vmk vwr vP F1 vJ) := hD
  obtain rfl := Option.some.inj hf
  exact W.vret hx hb hr (fun t ht hW => ⟨rfl, by rw [ht]; exact hP, hD, hS.F ht⟩) hS.2.2 d_D_putInodeWord_14
def f_D_putInodeWord (a0 : Int32) (a1 : Int32) (a2 : Int32) (vD : Nat → Int32) : Option (Nat → Int32) := f_D_putInodeWord_0 a0 a1 a2 vD
set_option maxHeartbeats 4000000 in
set_option maxRecDepth 100000 in
theorem c_D_putInodeWord (l : Launch) (dC : Nat → ClassId) (dI : Nat → Nat → Nat) (cI cA cL : ClassId) (q_di q_pl q_dr q_jo : Nat) (vjn : Int32) (vmk : Int32) (vwr : Int32) (vP : Nat → Int32) (vD : Nat → Int32) (vJ : Nat → Int32) (a0 : Int32) (a1 : Int32) (a2 : Int32) (sz : Nat) (r : Nat → Int32) (hf : f_D_putInodeWord a0 a1 a2 vD = some r) : Met l y_D_putInodeWord ws_D_putInodeWord rm_D_putInodeWord (jv_Pw [.ref q_di, .int a0, .int a1, .int a2] (dC, dI) (jv_ty cI cA cL) (w_disk cI q_di q_pl q_dr q_jo vjn vmk vwr vP vD vJ) sz) (jv_Qv (dC, dI) (w_disk cI q_di q_pl q_dr q_jo vjn vmk vwr vP r vJ) (va_A (w_disk cI q_di q_pl q_dr q_jo vjn vmk vwr vP vD vJ) sz)) 0 0 (va_A (w_disk cI q_di q_pl q_dr q_jo vjn vmk vwr vP vD vJ) sz) := by
  refine Met.ofW (cc := cc_D_putInodeWord) (maxL := 4) (ret := none) (by decide) rfl ?_
  intro p e s m args below meth c s₁ B hml hv
  obtain ⟨rfl, hsz, hP, hK, hD0⟩ := hv
  have cx : jv_cx p s m _ meth c cc_D_putInodeWord 4 R_Disk none ws_D_putInodeWord := ⟨B.exec, B.bytes, hml, findClass_of_methodNamed B.named, atoms_spec (ws := ws_D_putInodeWord) B.pre, B.returns, B.notSynchronized⟩
  subst hsz
  have hD := hD0.self (sz := s.heap.size)
  generalize hAe : va_A (w_disk cI q_di q_pl q_dr q_jo vjn vmk vwr vP vD vJ) s.heap.size = A at hD ⊢
  have hA : ∀ q : Nat, s.heap.size ≤ q → A q := fun q h => by rw [← hAe]; exact Or.inr h
  have hS : va_S A s.heap s.heap [] := va_S.rf
  have hl := lv_entry ([.ref q_di, .int a0, .int a1, .int a2]) (n := 4) (Nat.le_of_ble_eq_true rfl)
  rw [lg_entry_eq]
  generalize (lg_sl ([.ref q_di, .int a0, .int a1, .int a2]) ++ List.replicate (4 - (lg_sl ([.ref q_di, .int a0, .int a1, .int a2])).length) Slot.unset).toArray = ls at hl ⊢
  have hl : lv_has ls 4 [(0, .ref q_di), (1, .int a0), (2, .int a1), (3, .int a2)] := hl
  exact b_D_putInodeWord_0 (y0 := a0) (y1 := a1) (y2 := a2) (y3 := vD) cx hK hA (lv_sub hl [0, 1, 2, 3] rfl) hP hD hS hf
def f_D_zeroFrom_2 (y0 : Int32) (k2 : (Int32 × (Nat → Int32)) → Option (Nat → Int32)) (a : Int32 × (Nat → Int32)) : Option (Nat → Int32) :=
  if (8 : Int32) ≤ a.1 then (some a.2) else ((jv_sa a.2 232 ((y0 * (8 : Int32)) + a.1) (0 : Int32)).bind fun F1 => k2 (a.1 + (1 : Int32), F1))
set_option maxHeartbeats 4000000 in
set_option maxRecDepth 100000 in
theorem b_D_zeroFrom_2 {l : Launch} {dC : Nat → ClassId} {dI : Nat → Nat → Nat} {cI cA cL : ClassId} {q_di q_pl q_dr q_jo : Nat} {vjn : Int32} {vmk : Int32} {vwr : Int32} {vP : Nat → Int32} {vJ : Nat → Int32} {p : Program} {e : Env} {s : State} {m : MethodId} {args : Array Value} {below : List Frame} {meth : Method} {c : Code} (cx : jv_cx p s m args meth c cc_D_zeroFrom 4 R_Disk none ws_D_zeroFrom) (hK : va_K (dC, dI) vwCl (jv_ty cI cA cL) s) {A : Nat → Prop} (hA : ∀ q : Nat, s.heap.size ≤ q → A q) {r : Nat → Int32} {y0 : Int32} {k2 : (Int32 × (Nat → Int32)) → Option (Nat → Int32)} (hk2 : ∀ (a : Int32 × (Nat → Int32)) (ls : Array Slot) (H : Heap) (locs : List Loc), lv_has ls 4 [(0, .ref q_di), (1, .int y0), (3, .int a.1)] → va_P (dC, dI) vwCl (w_disk cI q_di q_pl q_dr q_jo vjn vmk vwr vP a.2 vJ) H → va_D A (w_disk cI q_di q_pl q_dr q_jo vjn vmk vwr vP a.2 vJ) → va_S A s.heap H locs → k2 a = some r → W p l e rm_D_zeroFrom s m args below meth c H locs 0 0 (MQ below (jv_Qv (dC, dI) (w_disk cI q_di q_pl q_dr q_jo vjn vmk vwr vP r vJ) A) args s 0 0 A) (F0 m 2 ls [])) {a : Int32 × (Nat → Int32)} {ls : Array Slot} (hl : lv_has ls 4 [(0, .ref q_di), (1, .int y0), (3, .int a.1)]) {H : Heap} {locs : List Loc} (hP : va_P (dC, dI) vwCl (w_disk cI q_di q_pl q_dr q_jo vjn vmk vwr vP a.2 vJ) H) (hD : va_D A (w_disk cI q_di q_pl q_dr q_jo vjn vmk vwr vP a.2 vJ)) (hS : va_S A s.heap H locs) (hf : f_D_zeroFrom_2 y0 k2 a = some r) : W p l e rm_D_zeroFrom s m args below meth c H locs 0 0 (MQ below (jv_Qv (dC, dI) (w_disk cI q_di q_pl q_dr q_jo vjn vmk vwr vP r vJ) A) args s 0 0 A) (F0 m 2 ls []) := by
  unfold f_D_zeroFrom_2 at hf
  obtain ⟨hx, hb, hml, hown, hts, hr, hlocks⟩ := id cx
  refine lv_iload_n hx hb d_D_zeroFrom_2 rfl (lv_at hl 2 rfl) ?_
  refine lv_bipush (v := (8 : Int32)) hx hb d_D_zeroFrom_3 (by decide) ?_
  refine lv_icmp_ge (tgt := 26) hx hb d_D_zeroFrom_5 (by decide) (fun hc => ?_) (fun hc => ?_)
  · have hf := jv_it hf hc
    obtain rfl := Option.some.inj hf
    exact W.vret hx hb hr (fun t ht hW => ⟨rfl, by rw [ht]; exact hP, hD, hS.F ht⟩) hS.2.2 d_D_zeroFrom_26
  · have hf := jv_if hf hc
    refine lv_aload_n hx hb d_D_zeroFrom_8 rfl (lv_at hl 0 rfl) ?_
    refine va_get (D := (dC, dI)) (ci := kDisk) (v := .ref q_dr) (C := R_Disk) (T := T_Disk) (N := 6) hx hb hts (fun w h => List.mem_cons_of_mem _ (in_Disk w h)) hown hK hP 0 rfl rfl 1 (by decide) (jv_w hts wa_22) (fun _ h9 => h9) rfl d_D_zeroFrom_9 ?_
    refine lv_iload_n hx hb d_D_zeroFrom_12 rfl (lv_at hl 1 rfl) ?_
    refine lv_bipush (v := (8 : Int32)) hx hb d_D_zeroFrom_13 (by decide) ?_
    refine lv_imul hx hb d_D_zeroFrom_15 ?_
    refine lv_iload_n hx hb d_D_zeroFrom_16 rfl (lv_at hl 2 rfl) ?_
    refine lv_iadd hx hb d_D_zeroFrom_17 ?_
    refine lv_iconst (v := (0 : Int32)) hx hb d_D_zeroFrom_18 (by decide) ?_
    obtain ⟨F1, g2, hf⟩ := jv_ob hf
    refine jv_iast hx hb hK hP hD hS 2 0 rfl rfl g2 d_D_zeroFrom_19 (fun H locs hP hD hS => ?_)
    have hP : va_P (dC, dI) vwCl (w_disk cI q_di q_pl q_dr q_jo vjn vmk vwr vP F1 vJ) H := hP
    have hD : va_D A (w_disk cI q_di q_pl q_dr q_jo vjn vmk vwr vP F1 vJ) := hD
    refine lv_iinc (k := 2) (v := a.1 + (1 : Int32)) (lv' := [(3, .int (a.1 + (1 : Int32))), (0, .ref q_di), (1, .int y0)]) hx hb d_D_zeroFrom_20 hl rfl rfl (by decide) rfl (fun ls hl => ?_)
    refine lv_goto (tgt := 2) hx hb d_D_zeroFrom_23 (by decide) ?_
    exact hk2 (a.1 + (1 : Int32), F1) _ _ _ (lv_sub hl [1, 2, 0] rfl) hP hD hS hf
set_option maxHeartbeats 4000000 in
set_option maxRecDepth 100000 in
theorem l_D_zeroFrom_2 {l : Launch} {dC : Nat → ClassId} {dI : Nat → Nat → Nat} {cI cA cL : ClassId} {q_di q_pl q_dr q_jo : Nat} {vjn : Int32} {vmk : Int32} {vwr : Int32} {vP : Nat → Int32} {vJ : Nat → Int32} {p : Program} {e : Env} {s : State} {m : MethodId} {args : Array Value} {below : List Frame} {meth : Method} {c : Code} (cx : jv_cx p s m args meth c cc_D_zeroFrom 4 R_Disk none ws_D_zeroFrom) (hK : va_K (dC, dI) vwCl (jv_ty cI cA cL) s) {A : Nat → Prop} (hA : ∀ q : Nat, s.heap.size ≤ q → A q) {r : Nat → Int32} {y0 : Int32} : ∀ n : Nat, ∀ (a : Int32 × (Nat → Int32)) (ls : Array Slot) (H : Heap) (locs : List Loc), lv_has ls 4 [(0, .ref q_di), (1, .int y0), (3, .int a.1)] → va_P (dC, dI) vwCl (w_disk cI q_di q_pl q_dr q_jo vjn vmk vwr vP a.2 vJ) H → va_D A (w_disk cI q_di q_pl q_dr q_jo vjn vmk vwr vP a.2 vJ) → va_S A s.heap H locs → jv_fx (f_D_zeroFrom_2 y0) n a = some r → W p l e rm_D_zeroFrom s m args below meth c H locs 0 0 (MQ below (jv_Qv (dC, dI) (w_disk cI q_di q_pl q_dr q_jo vjn vmk vwr vP r vJ) A) args s 0 0 A) (F0 m 2 ls []) := by
  intro n
  induction n with
  | zero => intro a ls H locs hl hP hD hS hf; exact jv_no hf
  | succ n ih => intro a ls H locs hl hP hD hS hf; exact b_D_zeroFrom_2 cx hK hA ih hl hP hD hS hf
def f_D_zeroFrom_0 (y0 : Int32) (y1 : Int32) (y2 : Nat → Int32) : Option (Nat → Int32) :=
  jv_fx (f_D_zeroFrom_2 y0) 300 (y1, y2)
set_option maxHeartbeats 4000000 in
set_option maxRecDepth 100000 in
theorem b_D_zeroFrom_0 {l : Launch} {dC : Nat → ClassId} {dI : Nat → Nat → Nat} {cI cA cL : ClassId} {q_di q_pl q_dr q_jo : Nat} {vjn : Int32} {vmk : Int32} {vwr : Int32} {vP : Nat → Int32} {vJ : Nat → Int32} {p : Program} {e : Env} {s : State} {m : MethodId} {args : Array Value} {below : List Frame} {meth : Method} {c : Code} (cx : jv_cx p s m args meth c cc_D_zeroFrom 4 R_Disk none ws_D_zeroFrom) (hK : va_K (dC, dI) vwCl (jv_ty cI cA cL) s) {A : Nat → Prop} (hA : ∀ q : Nat, s.heap.size ≤ q → A q) {r : Nat → Int32} {y0 : Int32} {y1 : Int32} {y2 : Nat → Int32} {ls : Array Slot} (hl : lv_has ls 4 [(0, .ref q_di), (1, .int y0), (2, .int y1)]) {H : Heap} {locs : List Loc} (hP : va_P (dC, dI) vwCl (w_disk cI q_di q_pl q_dr q_jo vjn vmk vwr vP y2 vJ) H) (hD : va_D A (w_disk cI q_di q_pl q_dr q_jo vjn vmk vwr vP y2 vJ)) (hS : va_S A s.heap H locs) (hf : f_D_zeroFrom_0 y0 y1 y2 = some r) : W p l e rm_D_zeroFrom s m args below meth c H locs 0 0 (MQ below (jv_Qv (dC, dI) (w_disk cI q_di q_pl q_dr q_jo vjn vmk vwr vP r vJ) A) args s 0 0 A) (F0 m 0 ls []) := by
  unfold f_D_zeroFrom_0 at hf
  obtain ⟨hx, hb, hml, hown, hts, hr, hlocks⟩ := id cx
  refine lv_iload_n hx hb d_D_zeroFrom_0 rfl (lv_at hl 2 rfl) ?_
  refine lv_istore_n (lv' := [(3, .int y1), (0, .ref q_di), (1, .int y0), (2, .int y1)]) hx hb d_D_zeroFrom_1 rfl hl (by decide) rfl (fun ls hl => ?_)
  exact l_D_zeroFrom_2 (y0 := y0) cx hK hA 300 (y1, y2) _ _ _ (lv_sub hl [1, 2, 0] rfl) hP hD hS hf
def f_D_zeroFrom (a0 : Int32) (a1 : Int32) (vD : Nat → Int32) : Option (Nat → Int32) := f_D_zeroFrom_0 a0 a1 vD
set_option maxHeartbeats 4000000 in
set_option maxRecDepth 100000 in
theorem c_D_zeroFrom (l : Launch) (dC : Nat → ClassId) (dI : Nat → Nat → Nat) (cI cA cL : ClassId) (q_di q_pl q_dr q_jo : Nat) (vjn : Int32) (vmk : Int32) (vwr : Int32) (vP : Nat → Int32) (vD : Nat → Int32) (vJ : Nat → Int32) (a0 : Int32) (a1 : Int32) (sz : Nat) (r : Nat → Int32) (hf : f_D_zeroFrom a0 a1 vD = some r) : Met l y_D_zeroFrom ws_D_zeroFrom rm_D_zeroFrom (jv_Pw [.ref q_di, .int a0, .int a1] (dC, dI) (jv_ty cI cA cL) (w_disk cI q_di q_pl q_dr q_jo vjn vmk vwr vP vD vJ) sz) (jv_Qv (dC, dI) (w_disk cI q_di q_pl q_dr q_jo vjn vmk vwr vP r vJ) (va_A (w_disk cI q_di q_pl q_dr q_jo vjn vmk vwr vP vD vJ) sz)) 0 0 (va_A (w_disk cI q_di q_pl q_dr q_jo vjn vmk vwr vP vD vJ) sz) := by
  refine Met.ofW (cc := cc_D_zeroFrom) (maxL := 4) (ret := none) (by decide) rfl ?_
  intro p e s m args below meth c s₁ B hml hv
  obtain ⟨rfl, hsz, hP, hK, hD0⟩ := hv
  have cx : jv_cx p s m _ meth c cc_D_zeroFrom 4 R_Disk none ws_D_zeroFrom := ⟨B.exec, B.bytes, hml, findClass_of_methodNamed B.named, atoms_spec (ws := ws_D_zeroFrom) B.pre, B.returns, B.notSynchronized⟩
  subst hsz
  have hD := hD0.self (sz := s.heap.size)
  generalize hAe : va_A (w_disk cI q_di q_pl q_dr q_jo vjn vmk vwr vP vD vJ) s.heap.size = A at hD ⊢
  have hA : ∀ q : Nat, s.heap.size ≤ q → A q := fun q h => by rw [← hAe]; exact Or.inr h
  have hS : va_S A s.heap s.heap [] := va_S.rf
  have hl := lv_entry ([.ref q_di, .int a0, .int a1]) (n := 4) (Nat.le_of_ble_eq_true rfl)
  rw [lg_entry_eq]
  generalize (lg_sl ([.ref q_di, .int a0, .int a1]) ++ List.replicate (4 - (lg_sl ([.ref q_di, .int a0, .int a1])).length) Slot.unset).toArray = ls at hl ⊢
  have hl : lv_has ls 4 [(0, .ref q_di), (1, .int a0), (2, .int a1)] := hl
  exact b_D_zeroFrom_0 (y0 := a0) (y1 := a1) (y2 := vD) cx hK hA (lv_sub hl [0, 1, 2] rfl) hP hD hS hf
