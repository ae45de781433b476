theorem d_C_blockBehind_0 : decode cc_C_blockBehind 0 = .ok (.iload_n 0, 1) := by decide +kernel
theorem d_C_blockBehind_1 : decode cc_C_blockBehind 1 = .ok (.iconst 1, 1) := by decide +kernel
theorem d_C_blockBehind_2 : decode cc_C_blockBehind 2 = .ok (.if_icmp .lt 9, 3) := by decide +kernel
theorem d_C_blockBehind_11 : decode cc_C_blockBehind 11 = .ok (.iconst (-1), 1) := by decide +kernel
theorem d_C_blockBehind_12 : decode cc_C_blockBehind 12 = .ok (.goto 9, 3) := by decide +kernel
theorem d_C_blockBehind_21 : decode cc_C_blockBehind 21 = .ok (.ireturn, 1) := by decide +kernel
theorem d_C_blockBehind_5 : decode cc_C_blockBehind 5 = .ok (.iload_n 0, 1) := by decide +kernel
theorem d_C_blockBehind_6 : decode cc_C_blockBehind 6 = .ok (.bipush 20, 2) := by decide +kernel
theorem d_C_blockBehind_8 : decode cc_C_blockBehind 8 = .ok (.if_icmp .le 7, 3) := by decide +kernel
theorem d_C_blockBehind_15 : decode cc_C_blockBehind 15 = .ok (.bipush 9, 2) := by decide +kernel
theorem d_C_blockBehind_17 : decode cc_C_blockBehind 17 = .ok (.iload_n 0, 1) := by decide +kernel
theorem d_C_blockBehind_18 : decode cc_C_blockBehind 18 = .ok (.iadd, 1) := by decide +kernel
theorem d_C_blockBehind_19 : decode cc_C_blockBehind 19 = .ok (.iconst 1, 1) := by decide +kernel
theorem d_C_blockBehind_20 : decode cc_C_blockBehind 20 = .ok (.isub, 1) := by decide +kernel
def f_C_blockBehind_0 (y0 : Int32) : Option (Int32) :=
  if y0 < (1 : Int32) then (some (-1 : Int32)) else (if y0 ≤ (20 : Int32) then (some (((9 : Int32) + y0) - (1 : Int32))) else (some (-1 : Int32)))
set_option maxHeartbeats 4000000 in
set_option maxRecDepth 100000 in
theorem b_C_blockBehind_0 {l : Launch} {p : Program} {e : Env} {s : State} {m : MethodId} {args : Array Value} {below : List Frame} {meth : Method} {c : Code} (cx : jv_cx p s m args meth c cc_C_blockBehind 1 R_Cont (some .int) ws_C_blockBehind) {r : Int32} {y0 : Int32} {ls : Array Slot} (hl : lv_has ls 1 [(0, .int y0)]) (hf : f_C_blockBehind_0 y0 = some r) : W p l e rm_C_blockBehind s m args below meth c s.heap [] 0 0 (MQ below (QcRead r) args s 0 0 (fun _ => False)) (F0 m 0 ls []) := by
  unfold f_C_blockBehind_0 at hf
  obtain ⟨hx, hb, hml, hown, hts, hr, hlocks⟩ := id cx
  refine lv_iload_n hx hb d_C_blockBehind_0 rfl (lv_at hl 0 rfl) ?_
  refine lv_iconst (v := (1 : Int32)) hx hb d_C_blockBehind_1 (by decide) ?_
  refine lv_icmp_lt (tgt := 11) hx hb d_C_blockBehind_2 (by decide) (fun hc => ?_) (fun hc => ?_)
  · have hf := jv_it hf hc
    refine lv_iconst (v := (-1 : Int32)) hx hb d_C_blockBehind_11 (by decide) ?_
    refine lv_goto (tgt := 21) hx hb d_C_blockBehind_12 (by decide) ?_
    obtain rfl := Option.some.inj hf
    exact W.iret hx hb hr (fun t ht hW => ⟨rfl, ht⟩) (fun q h => by cases h) d_C_blockBehind_21
  · have hf := jv_if hf hc
    refine lv_iload_n hx hb d_C_blockBehind_5 rfl (lv_at hl 0 rfl) ?_
    refine lv_bipush (v := (20 : Int32)) hx hb d_C_blockBehind_6 (by decide) ?_
    refine lv_icmp_le (tgt := 15) hx hb d_C_blockBehind_8 (by decide) (fun hc => ?_) (fun hc => ?_)
    · have hf := jv_it hf hc
      refine lv_bipush (v := (9 : Int32)) hx hb d_C_blockBehind_15 (by decide) ?_
      refine lv_iload_n hx hb d_C_blockBehind_17 rfl (lv_at hl 0 rfl) ?_
      refine lv_iadd hx hb d_C_blockBehind_18 ?_
      refine lv_iconst (v := (1 : Int32)) hx hb d_C_blockBehind_19 (by decide) ?_
      refine lv_isub hx hb d_C_blockBehind_20 ?_
      obtain rfl := Option.some.inj hf
      exact W.iret hx hb hr (fun t ht hW => ⟨rfl, ht⟩) (fun q h => by cases h) d_C_blockBehind_21
    · have hf := jv_if hf hc
      refine lv_iconst (v := (-1 : Int32)) hx hb d_C_blockBehind_11 (by decide) ?_
      refine lv_goto (tgt := 21) hx hb d_C_blockBehind_12 (by decide) ?_
      obtain rfl := Option.some.inj hf
      exact W.iret hx hb hr (fun t ht hW => ⟨rfl, ht⟩) (fun q h => by cases h) d_C_blockBehind_21
def f_C_blockBehind (a0 : Int32) : Option (Int32) := f_C_blockBehind_0 a0
set_option maxHeartbeats 4000000 in
set_option maxRecDepth 100000 in
theorem c_C_blockBehind (l : Launch) (a0 : Int32) (r : Int32) (hf : f_C_blockBehind a0 = some r) : Met l y_C_blockBehind ws_C_blockBehind rm_C_blockBehind (jv_P0 [.int a0]) (QcRead r) 0 0 (fun _ => False) := by
  refine Met.ofW (cc := cc_C_blockBehind) (maxL := 1) (ret := (some .int)) (by decide) rfl ?_
  intro p e s m args below meth c s₁ B hml hv
  obtain ⟨rfl, -⟩ := hv
  have cx : jv_cx p s m _ meth c cc_C_blockBehind 1 R_Cont (some .int) ws_C_blockBehind := ⟨B.exec, B.bytes, hml, findClass_of_methodNamed B.named, atoms_spec (ws := ws_C_blockBehind) B.pre, B.returns, B.notSynchronized⟩
  have hl := lv_entry ([.int a0]) (n := 1) (Nat.le_of_ble_eq_true rfl)
  rw [lg_entry_eq]
  generalize (lg_sl ([.int a0]) ++ List.replicate (1 - (lg_sl ([.int a0])).length) Slot.unset).toArray = ls at hl ⊢
  have hl : lv_has ls 1 [(0, .int a0)] := hl
  exact b_C_blockBehind_0 (y0 := a0) cx (lv_sub hl [0] rfl) hf
theorem d_C_wordInHolder_0 : decode cc_C_wordInHolder 0 = .ok (.iload_n 0, 1) := by decide +kernel
theorem d_C_wordInHolder_1 : decode cc_C_wordInHolder 1 = .ok (.iconst 2, 1) := by decide +kernel
theorem d_C_wordInHolder_2 : decode cc_C_wordInHolder 2 = .ok (.if_icmp .ge 9, 3) := by decide +kernel
theorem d_C_wordInHolder_11 : decode cc_C_wordInHolder 11 = .ok (.iload_n 0, 1) := by decide +kernel
theorem d_C_wordInHolder_12 : decode cc_C_wordInHolder 12 = .ok (.iconst 2, 1) := by decide +kernel
theorem d_C_wordInHolder_13 : decode cc_C_wordInHolder 13 = .ok (.isub, 1) := by decide +kernel
theorem d_C_wordInHolder_14 : decode cc_C_wordInHolder 14 = .ok (.ireturn, 1) := by decide +kernel
theorem d_C_wordInHolder_5 : decode cc_C_wordInHolder 5 = .ok (.iconst 4, 1) := by decide +kernel
theorem d_C_wordInHolder_6 : decode cc_C_wordInHolder 6 = .ok (.iload_n 0, 1) := by decide +kernel
theorem d_C_wordInHolder_7 : decode cc_C_wordInHolder 7 = .ok (.iadd, 1) := by decide +kernel
theorem d_C_wordInHolder_8 : decode cc_C_wordInHolder 8 = .ok (.goto 6, 3) := by decide +kernel
def f_C_wordInHolder_0 (y0 : Int32) : Option (Int32) :=
  if (2 : Int32) ≤ y0 then (some (y0 - (2 : Int32))) else (some ((4 : Int32) + y0))
set_option maxHeartbeats 4000000 in
set_option maxRecDepth 100000 in
theorem b_C_wordInHolder_0 {l : Launch} {p : Program} {e : Env} {s : State} {m : MethodId} {args : Array Value} {below : List Frame} {meth : Method} {c : Code} (cx : jv_cx p s m args meth c cc_C_wordInHolder 1 R_Cont (some .int) ws_C_wordInHolder) {r : Int32} {y0 : Int32} {ls : Array Slot} (hl : lv_has ls 1 [(0, .int y0)]) (hf : f_C_wordInHolder_0 y0 = some r) : W p l e rm_C_wordInHolder s m args below meth c s.heap [] 0 0 (MQ below (QcRead r) args s 0 0 (fun _ => False)) (F0 m 0 ls []) := by
  unfold f_C_wordInHolder_0 at hf
  obtain ⟨hx, hb, hml, hown, hts, hr, hlocks⟩ := id cx
  refine lv_iload_n hx hb d_C_wordInHolder_0 rfl (lv_at hl 0 rfl) ?_
  refine lv_iconst (v := (2 : Int32)) hx hb d_C_wordInHolder_1 (by decide) ?_
  refine lv_icmp_ge (tgt := 11) hx hb d_C_wordInHolder_2 (by decide) (fun hc => ?_) (fun hc => ?_)
  · have hf := jv_it hf hc
    refine lv_iload_n hx hb d_C_wordInHolder_11 rfl (lv_at hl 0 rfl) ?_
    refine lv_iconst (v := (2 : Int32)) hx hb d_C_wordInHolder_12 (by decide) ?_
    refine lv_isub hx hb d_C_wordInHolder_13 ?_
    obtain rfl := Option.some.inj hf
    exact W.iret hx hb hr (fun t ht hW => ⟨rfl, ht⟩) (fun q h => by cases h) d_C_wordInHolder_14
  · have hf := jv_if hf hc
    refine lv_iconst (v := (4 : Int32)) hx hb d_C_wordInHolder_5 (by decide) ?_
    refine lv_iload_n hx hb d_C_wordInHolder_6 rfl (lv_at hl 0 rfl) ?_
    refine lv_iadd hx hb d_C_wordInHolder_7 ?_
    refine lv_goto (tgt := 14) hx hb d_C_wordInHolder_8 (by decide) ?_
    obtain rfl := Option.some.inj hf
    exact W.iret hx hb hr (fun t ht hW => ⟨rfl, ht⟩) (fun q h => by cases h) d_C_wordInHolder_14
def f_C_wordInHolder (a0 : Int32) : Option (Int32) := f_C_wordInHolder_0 a0
set_option maxHeartbeats 4000000 in
set_option maxRecDepth 100000 in
theorem c_C_wordInHolder (l : Launch) (a0 : Int32) (r : Int32) (hf : f_C_wordInHolder a0 = some r) : Met l y_C_wordInHolder ws_C_wordInHolder rm_C_wordInHolder (jv_P0 [.int a0]) (QcRead r) 0 0 (fun _ => False) := by
  refine Met.ofW (cc := cc_C_wordInHolder) (maxL := 1) (ret := (some .int)) (by decide) rfl ?_
  intro p e s m args below meth c s₁ B hml hv
  obtain ⟨rfl, -⟩ := hv
  have cx : jv_cx p s m _ meth c cc_C_wordInHolder 1 R_Cont (some .int) ws_C_wordInHolder := ⟨B.exec, B.bytes, hml, findClass_of_methodNamed B.named, atoms_spec (ws := ws_C_wordInHolder) B.pre, B.returns, B.notSynchronized⟩
  have hl := lv_entry ([.int a0]) (n := 1) (Nat.le_of_ble_eq_true rfl)
  rw [lg_entry_eq]
  generalize (lg_sl ([.int a0]) ++ List.replicate (1 - (lg_sl ([.int a0])).length) Slot.unset).toArray = ls at hl ⊢
  have hl : lv_has ls 1 [(0, .int a0)] := hl
  exact b_C_wordInHolder_0 (y0 := a0) cx (lv_sub hl [0] rfl) hf
theorem d_C_sizeOf_0 : decode cc_C_sizeOf 0 = .ok (.aload_n 0, 1) := by decide +kernel
theorem d_C_sizeOf_1 : decode cc_C_sizeOf 1 = .ok (.getfield 9, 3) := by decide +kernel
theorem d_C_sizeOf_4 : decode cc_C_sizeOf 4 = .ok (.iload_n 1, 1) := by decide +kernel
theorem d_C_sizeOf_5 : decode cc_C_sizeOf 5 = .ok (.iconst 3, 1) := by decide +kernel
theorem d_C_sizeOf_6 : decode cc_C_sizeOf 6 = .ok (.invokevirtual 15, 3) := by decide +kernel
theorem d_C_sizeOf_9 : decode cc_C_sizeOf 9 = .ok (.ireturn, 1) := by decide +kernel
def f_C_sizeOf_0 (vD : Nat → Int32) (y0 : Int32) : Option (Int32) :=
  (f_D_inodeWord vD y0 (3 : Int32)).bind fun x1 => some x1
set_option maxHeartbeats 4000000 in
set_option maxRecDepth 100000 in
theorem b_C_sizeOf_0 {l : Launch} {dC : Nat → ClassId} {dI : Nat → Nat → Nat} {cI cA cL : ClassId} {q_co q_di q_pl q_dr q_jo : Nat} {vjn : Int32} {vmk : Int32} {vwr : Int32} {vP : Nat → Int32} {vD : Nat → Int32} {vJ : Nat → Int32} {p : Program} {e : Env} {s : State} {m : MethodId} {args : Array Value} {below : List Frame} {meth : Method} {c : Code} (cx : jv_cx p s m args meth c cc_C_sizeOf 2 R_Cont (some .int) ws_C_sizeOf) (hK : va_K (dC, dI) vwCl (jv_ty cI cA cL) s) (hP : va_P (dC, dI) vwCl (w_cont cI q_co q_di q_pl q_dr q_jo vjn vmk vwr vP vD vJ) s.heap) {r : Int32} {y0 : Int32} {ls : Array Slot} (hl : lv_has ls 2 [(0, .ref q_co), (1, .int y0)]) (hf : f_C_sizeOf_0 vD y0 = some r) : W p l e rm_C_sizeOf s m args below meth c s.heap [] 0 0 (MQ below (QcRead r) args s 0 0 (fun _ => False)) (F0 m 0 ls []) := by
  unfold f_C_sizeOf_0 at hf
  obtain ⟨hx, hb, hml, hown, hts, hr, hlocks⟩ := id cx
  refine lv_aload_n hx hb d_C_sizeOf_0 rfl (lv_at hl 0 rfl) ?_
  refine va_get (D := (dC, dI)) (ci := kCont) (v := .ref q_di) (C := R_Cont) (T := T_Cont) (N := 1) hx hb hts (fun w h => List.mem_cons_of_mem _ (in_Cont w h)) hown hK hP 0 rfl rfl 0 (by decide) (jv_w hts wa_122) (fun _ h9 => h9) rfl d_C_sizeOf_1 ?_
  refine lv_iload_n hx hb d_C_sizeOf_4 rfl (lv_at hl 1 rfl) ?_
  refine lv_iconst (v := (3 : Int32)) hx hb d_C_sizeOf_5 (by decide) ?_
  obtain ⟨x1, g2, hf⟩ := jv_ob hf
  have hPc := hP.sub (ws' := (w_disk cI q_di q_pl q_dr q_jo vjn vmk vwr vP vD vJ)) [1, 2, 3, 4] rfl
  refine jv_cs (W.runV (As := [.int y0, .int (3 : Int32)]) (rest := []) (b := q_di) ⟨hx, hb, hml, hown, hts⟩ (c_D_inodeWord l dC dI cI cA cL q_di q_pl q_dr q_jo vjn vmk vwr vP vD vJ y0 (3 : Int32) x1 g2) (jv_cwV hts wa_68 wa_29 wa_123 wa_70 wa_71 rfl rfl yd_D_inodeWord ⟨Nat.le_of_ble_eq_true rfl, Nat.le_of_ble_eq_true rfl⟩) (jv_preV hK hPc 0 rfl rfl) rfl rfl hl.1 rfl (lv_room (Nat.le_of_ble_eq_true rfl)) d_C_sizeOf_6 ⟨Nat.zero_le _, Nat.zero_le _⟩) ?_
  obtain rfl := Option.some.inj hf
  exact W.iret hx hb hr (fun t ht hW => ⟨rfl, ht⟩) (fun q h => by cases h) d_C_sizeOf_9
def f_C_sizeOf (vD : Nat → Int32) (a0 : Int32) : Option (Int32) := f_C_sizeOf_0 vD a0
set_option maxHeartbeats 4000000 in
set_option maxRecDepth 100000 in
theorem c_C_sizeOf (l : Launch) (dC : Nat → ClassId) (dI : Nat → Nat → Nat) (cI cA cL : ClassId) (q_co q_di q_pl q_dr q_jo : Nat) (vjn : Int32) (vmk : Int32) (vwr : Int32) (vP : Nat → Int32) (vD : Nat → Int32) (vJ : Nat → Int32) (a0 : Int32) (r : Int32) (hf : f_C_sizeOf vD a0 = some r) : Met l y_C_sizeOf ws_C_sizeOf rm_C_sizeOf (jv_Pr [.ref q_co, .int a0] (dC, dI) (jv_ty cI cA cL) (w_cont cI q_co q_di q_pl q_dr q_jo vjn vmk vwr vP vD vJ)) (QcRead r) 0 0 (fun _ => False) := by
  refine Met.ofW (cc := cc_C_sizeOf) (maxL := 2) (ret := (some .int)) (by decide) rfl ?_
  intro p e s m args below meth c s₁ B hml hv
  obtain ⟨rfl, hP, hK⟩ := hv
  have cx : jv_cx p s m _ meth c cc_C_sizeOf 2 R_Cont (some .int) ws_C_sizeOf := ⟨B.exec, B.bytes, hml, findClass_of_methodNamed B.named, atoms_spec (ws := ws_C_sizeOf) B.pre, B.returns, B.notSynchronized⟩
  have hl := lv_entry ([.ref q_co, .int a0]) (n := 2) (Nat.le_of_ble_eq_true rfl)
  rw [lg_entry_eq]
  generalize (lg_sl ([.ref q_co, .int a0]) ++ List.replicate (2 - (lg_sl ([.ref q_co, .int a0])).length) Slot.unset).toArray = ls at hl ⊢
  have hl : lv_has ls 2 [(0, .ref q_co), (1, .int a0)] := hl
  exact b_C_sizeOf_0 (y0 := a0) cx hK hP (lv_sub hl [0, 1] rfl) hf
theorem d_C_holderOf_0 : decode cc_C_holderOf 0 = .ok (.iconst 1, 1) := by decide +kernel
theorem d_C_holderOf_1 : decode cc_C_holderOf 1 = .ok (.iload_n 1, 1) := by decide +kernel
theorem d_C_holderOf_2 : decode cc_C_holderOf 2 = .ok (.iadd, 1) := by decide +kernel
theorem d_C_holderOf_3 : decode cc_C_holderOf 3 = .ok (.istore_n 3, 1) := by decide +kernel
theorem d_C_holderOf_4 : decode cc_C_holderOf 4 = .ok (.iload_n 2, 1) := by decide +kernel
theorem d_C_holderOf_5 : decode cc_C_holderOf 5 = .ok (.iconst 2, 1) := by decide +kernel
theorem d_C_holderOf_6 : decode cc_C_holderOf 6 = .ok (.if_icmp .ge 7, 3) := by decide +kernel
theorem d_C_holderOf_13 : decode cc_C_holderOf 13 = .ok (.aload_n 0, 1) := by decide +kernel
theorem d_C_holderOf_14 : decode cc_C_holderOf 14 = .ok (.getfield 9, 3) := by decide +kernel
theorem d_C_holderOf_17 : decode cc_C_holderOf 17 = .ok (.iload_n 3, 1) := by decide +kernel
theorem d_C_holderOf_18 : decode cc_C_holderOf 18 = .ok (.bipush 6, 2) := by decide +kernel
theorem d_C_holderOf_20 : decode cc_C_holderOf 20 = .ok (.invokevirtual 28, 3) := by decide +kernel
theorem d_C_holderOf_23 : decode cc_C_holderOf 23 = .ok (.invokestatic 24, 3) := by decide +kernel
theorem d_C_holderOf_26 : decode cc_C_holderOf 26 = .ok (.ireturn, 1) := by decide +kernel
theorem d_C_holderOf_9 : decode cc_C_holderOf 9 = .ok (.iload_n 3, 1) := by decide +kernel
theorem d_C_holderOf_10 : decode cc_C_holderOf 10 = .ok (.goto 16, 3) := by decide +kernel
def f_C_holderOf_0 (vD : Nat → Int32) (y0 : Int32) (y1 : Int32) : Option (Int32) :=
  if (2 : Int32) ≤ y1 then ((f_D_get vD ((1 : Int32) + y0) (6 : Int32)).bind fun x1 => (f_C_blockBehind x1).bind fun x3 => some x3) else (some ((1 : Int32) + y0))
set_option maxHeartbeats 4000000 in
set_option maxRecDepth 100000 in
theorem b_C_holderOf_0 {l : Launch} {dC : Nat → ClassId} {dI : Nat → Nat → Nat} {cI cA cL : ClassId} {q_co q_di q_pl q_dr q_jo : Nat} {vjn : Int32} {vmk : Int32} {vwr : Int32} {vP : Nat → Int32} {vD : Nat → Int32} {vJ : Nat → Int32} {p : Program} {e : Env} {s : State} {m : MethodId} {args : Array Value} {below : List Frame} {meth : Method} {c : Code} (cx : jv_cx p s m args meth c cc_C_holderOf 4 R_Cont (some .int) ws_C_holderOf) (hK : va_K (dC, dI) vwCl (jv_ty cI cA cL) s) (hP : va_P (dC, dI) vwCl (w_cont cI q_co q_di q_pl q_dr q_jo vjn vmk vwr vP vD vJ) s.heap) {r : Int32} {y0 : Int32} {y1 : Int32} {ls : Array Slot} (hl : lv_has ls 4 [(0, .ref q_co), (1, .int y0), (2, .int y1)]) (hf : f_C_holderOf_0 vD y0 y1 = some r) : W p l e rm_C_holderOf s m args below meth c s.heap [] 0 0 (MQ below (QcRead r) args s 0 0 (fun _ => False)) (F0 m 0 ls []) := by
  unfold f_C_holderOf_0 at hf
  obtain ⟨hx, hb, hml, hown, hts, hr, hlocks⟩ := id cx
  refine lv_iconst (v := (1 : Int32)) hx hb d_C_holderOf_0 (by decide) ?_
  refine lv_iload_n hx hb d_C_holderOf_1 rfl (lv_at hl 1 rfl) ?_
  refine lv_iadd hx hb d_C_holderOf_2 ?_
  refine lv_istore_n (lv' := [(3, .int ((1 : Int32) + y0)), (0, .ref q_co), (1, .int y0), (2, .int y1)]) hx hb d_C_holderOf_3 rfl hl (by decide) rfl (fun ls hl => ?_)
  refine lv_iload_n hx hb d_C_holderOf_4 rfl (lv_at hl 3 rfl) ?_
  refine lv_iconst (v := (2 : Int32)) hx hb d_C_holderOf_5 (by decide) ?_
  refine lv_icmp_ge (tgt := 13) hx hb d_C_holderOf_6 (by decide) (fun hc => ?_) (fun hc => ?_)
  · have hf := jv_it hf hc
    refine lv_aload_n hx hb d_C_holderOf_13 rfl (lv_at hl 1 rfl) ?_
    refine va_get (D := (dC, dI)) (ci := kCont) (v := .ref q_di) (C := R_Cont) (T := T_Cont) (N := 1) hx hb hts (fun w h => List.mem_cons_of_mem _ (in_Cont w h)) hown hK hP 0 rfl rfl 0 (by decide) (jv_w hts wa_122) (fun _ h9 => h9) rfl d_C_holderOf_14 ?_
    refine lv_iload_n hx hb d_C_holderOf_17 rfl (lv_at hl 0 rfl) ?_
    refine lv_bipush (v := (6 : Int32)) hx hb d_C_holderOf_18 (by decide) ?_
    obtain ⟨x1, g2, hf⟩ := jv_ob hf
    have hPc := hP.sub (ws' := (w_disk cI q_di q_pl q_dr q_jo vjn vmk vwr vP vD vJ)) [1, 2, 3, 4] rfl
    refine jv_cs (W.runV (As := [.int ((1 : Int32) + y0), .int (6 : Int32)]) (rest := []) (b := q_di) ⟨hx, hb, hml, hown, hts⟩ (c_D_get l dC dI cI cA cL q_di q_pl q_dr q_jo vjn vmk vwr vP vD vJ ((1 : Int32) + y0) (6 : Int32) x1 g2) (jv_cwV hts wa_124 wa_29 wa_125 wa_126 wa_127 rfl rfl yd_D_get ⟨Nat.le_of_ble_eq_true rfl, Nat.le_of_ble_eq_true rfl⟩) (jv_preV hK hPc 0 rfl rfl) rfl rfl hl.1 rfl (lv_room (Nat.le_of_ble_eq_true rfl)) d_C_holderOf_20 ⟨Nat.zero_le _, Nat.zero_le _⟩) ?_
    obtain ⟨x3, g4, hf⟩ := jv_ob hf
    refine jv_cs (W.runS (As := [.int x1]) (rest := []) ⟨hx, hb, hml, hown, hts⟩ (c_C_blockBehind l x1 x3 g4) (jv_cwS hts wa_128 wa_129 wa_130 wa_131 rfl rfl yd_C_blockBehind ⟨Nat.le_of_ble_eq_true rfl, Nat.le_of_ble_eq_true rfl⟩) jv_pre0 rfl rfl hl.1 rfl (lv_room (Nat.le_of_ble_eq_true rfl)) d_C_holderOf_23 ⟨Nat.zero_le _, Nat.zero_le _⟩) ?_
    obtain rfl := Option.some.inj hf
    exact W.iret hx hb hr (fun t ht hW => ⟨rfl, ht⟩) (fun q h => by cases h) d_C_holderOf_26
  · have hf := jv_if hf hc
    refine lv_iload_n hx hb d_C_holderOf_9 rfl (lv_at hl 0 rfl) ?_
    refine lv_goto (tgt := 26) hx hb d_C_holderOf_10 (by decide) ?_
    obtain rfl := Option.some.inj hf
    exact W.iret hx hb hr (fun t ht hW => ⟨rfl, ht⟩) (fun q h => by cases h) d_C_holderOf_26
def f_C_holderOf (vD : Nat → Int32) (a0 : Int32) (a1 : Int32) : Option (Int32) := f_C_holderOf_0 vD a0 a1
set_option maxHeartbeats 4000000 in
set_option maxRecDepth 100000 in
theorem c_C_holderOf (l : Launch) (dC : Nat → ClassId) (dI : Nat → Nat → Nat) (cI cA cL : ClassId) (q_co q_di q_pl q_dr q_jo : Nat) (vjn : Int32) (vmk : Int32) (vwr : Int32) (vP : Nat → Int32) (vD : Nat → Int32) (vJ : Nat → Int32) (a0 : Int32) (a1 : Int32) (r : Int32) (hf : f_C_holderOf vD a0 a1 = some r) : Met l y_C_holderOf ws_C_holderOf rm_C_holderOf (jv_Pr [.ref q_co, .int a0, .int a1] (dC, dI) (jv_ty cI cA cL) (w_cont cI q_co q_di q_pl q_dr q_jo vjn vmk vwr vP vD vJ)) (QcRead r) 0 0 (fun _ => False) := by
  refine Met.ofW (cc := cc_C_holderOf) (maxL := 4) (ret := (some .int)) (by decide) rfl ?_
  intro p e s m args below meth c s₁ B hml hv
  obtain ⟨rfl, hP, hK⟩ := hv
  have cx : jv_cx p s m _ meth c cc_C_holderOf 4 R_Cont (some .int) ws_C_holderOf := ⟨B.exec, B.bytes, hml, findClass_of_methodNamed B.named, atoms_spec (ws := ws_C_holderOf) B.pre, B.returns, B.notSynchronized⟩
  have hl := lv_entry ([.ref q_co, .int a0, .int a1]) (n := 4) (Nat.le_of_ble_eq_true rfl)
  rw [lg_entry_eq]
  generalize (lg_sl ([.ref q_co, .int a0, .int a1]) ++ List.replicate (4 - (lg_sl ([.ref q_co, .int a0, .int a1])).length) Slot.unset).toArray = ls at hl ⊢
  have hl : lv_has ls 4 [(0, .ref q_co), (1, .int a0), (2, .int a1)] := hl
  exact b_C_holderOf_0 (y0 := a0) (y1 := a1) cx hK hP (lv_sub hl [0, 1, 2] rfl) hf
theorem d_C_pointerTo_0 : decode cc_C_pointerTo 0 = .ok (.aload_n 0, 1) := by decide +kernel
theorem d_C_pointerTo_1 : decode cc_C_pointerTo 1 = .ok (.iload_n 1, 1) := by decide +kernel
theorem d_C_pointerTo_2 : decode cc_C_pointerTo 2 = .ok (.iload_n 2, 1) := by decide +kernel
theorem d_C_pointerTo_3 : decode cc_C_pointerTo 3 = .ok (.invokevirtual 44, 3) := by decide +kernel
theorem d_C_pointerTo_6 : decode cc_C_pointerTo 6 = .ok (.istore_n 3, 1) := by decide +kernel
theorem d_C_pointerTo_7 : decode cc_C_pointerTo 7 = .ok (.iload_n 3, 1) := by decide +kernel
theorem d_C_pointerTo_8 : decode cc_C_pointerTo 8 = .ok (.iconst (-1), 1) := by decide +kernel
theorem d_C_pointerTo_9 : decode cc_C_pointerTo 9 = .ok (.if_icmp .ne 7, 3) := by decide +kernel
theorem d_C_pointerTo_16 : decode cc_C_pointerTo 16 = .ok (.aload_n 0, 1) := by decide +kernel
theorem d_C_pointerTo_17 : decode cc_C_pointerTo 17 = .ok (.getfield 9, 3) := by decide +kernel
theorem d_C_pointerTo_20 : decode cc_C_pointerTo 20 = .ok (.iload_n 3, 1) := by decide +kernel
theorem d_C_pointerTo_21 : decode cc_C_pointerTo 21 = .ok (.iload_n 2, 1) := by decide +kernel
theorem d_C_pointerTo_22 : decode cc_C_pointerTo 22 = .ok (.invokestatic 47, 3) := by decide +kernel
theorem d_C_pointerTo_25 : decode cc_C_pointerTo 25 = .ok (.invokevirtual 28, 3) := by decide +kernel
theorem d_C_pointerTo_28 : decode cc_C_pointerTo 28 = .ok (.ireturn, 1) := by decide +kernel
theorem d_C_pointerTo_12 : decode cc_C_pointerTo 12 = .ok (.iconst 0, 1) := by decide +kernel
theorem d_C_pointerTo_13 : decode cc_C_pointerTo 13 = .ok (.goto 15, 3) := by decide +kernel
def f_C_pointerTo_0 (vD : Nat → Int32) (y0 : Int32) (y1 : Int32) : Option (Int32) :=
  (f_C_holderOf vD y0 y1).bind fun x1 => if x1 = (-1 : Int32) then (some (0 : Int32)) else ((f_C_wordInHolder y1).bind fun x3 => (f_D_get vD x1 x3).bind fun x5 => some x5)
set_option maxHeartbeats 4000000 in
set_option maxRecDepth 100000 in
theorem b_C_pointerTo_0 {l : Launch} {dC : Nat → ClassId} {dI : Nat → Nat → Nat} {cI cA cL : ClassId} {q_co q_di q_pl q_dr q_jo : Nat} {vjn : Int32} {vmk : Int32} {vwr : Int32} {vP : Nat → Int32} {vD : Nat → Int32} {vJ : Nat → Int32} {p : Program} {e : Env} {s : State} {m : MethodId} {args : Array Value} {below : List Frame} {meth : Method} {c : Code} (cx : jv_cx p s m args meth c cc_C_pointerTo 4 R_Cont (some .int) ws_C_pointerTo) (hK : va_K (dC, dI) vwCl (jv_ty cI cA cL) s) (hP : va_P (dC, dI) vwCl (w_cont cI q_co q_di q_pl q_dr q_jo vjn vmk vwr vP vD vJ) s.heap) {r : Int32} {y0 : Int32} {y1 : Int32} {ls : Array Slot} (hl : lv_has ls 4 [(0, .ref q_co), (1, .int y0), (2, .int y1)]) (hf : f_C_pointerTo_0 vD y0 y1 = some r) : W p l e rm_C_pointerTo s m args below meth c s.heap [] 0 0 (MQ below (QcRead r) args s 0 0 (fun _ => False)) (F0 m 0 ls []) := by
  unfold f_C_pointerTo_0 at hf
  obtain ⟨hx, hb, hml, hown, hts, hr, hlocks⟩ := id cx
  refine lv_aload_n hx hb d_C_pointerTo_0 rfl (lv_at hl 0 rfl) ?_
  refine lv_iload_n hx hb d_C_pointerTo_1 rfl (lv_at hl 1 rfl) ?_
  refine lv_iload_n hx hb d_C_pointerTo_2 rfl (lv_at hl 2 rfl) ?_
  obtain ⟨x1, g2, hf⟩ := jv_ob hf
  have hPc := hP.sub (ws' := (w_cont cI q_co q_di q_pl q_dr q_jo vjn vmk vwr vP vD vJ)) [0, 1, 2, 3, 4] rfl
  refine jv_cs (W.runV (As := [.int y0, .int y1]) (rest := []) (b := q_co) ⟨hx, hb, hml, hown, hts⟩ (c_C_holderOf l dC dI cI cA cL q_co q_di q_pl q_dr q_jo vjn vmk vwr vP vD vJ y0 y1 x1 g2) (jv_cwV hts wa_132 wa_129 wa_133 wa_134 wa_135 rfl rfl yd_C_holderOf ⟨Nat.le_of_ble_eq_true rfl, Nat.le_of_ble_eq_true rfl⟩) (jv_preV hK hPc 0 rfl rfl) rfl rfl hl.1 rfl (lv_room (Nat.le_of_ble_eq_true rfl)) d_C_pointerTo_3 ⟨Nat.zero_le _, Nat.zero_le _⟩) ?_
  refine lv_istore_n (lv' := [(3, .int x1), (0, .ref q_co), (1, .int y0), (2, .int y1)]) hx hb d_C_pointerTo_6 rfl hl (by decide) rfl (fun ls hl => ?_)
  refine lv_iload_n hx hb d_C_pointerTo_7 rfl (lv_at hl 0 rfl) ?_
  refine lv_iconst (v := (-1 : Int32)) hx hb d_C_pointerTo_8 (by decide) ?_
  refine lv_icmp_ne (tgt := 16) hx hb d_C_pointerTo_9 (by decide) (fun hc => ?_) (fun hc => ?_)
  · have hf := jv_if hf hc
    refine lv_aload_n hx hb d_C_pointerTo_16 rfl (lv_at hl 1 rfl) ?_
    refine va_get (D := (dC, dI)) (ci := kCont) (v := .ref q_di) (C := R_Cont) (T := T_Cont) (N := 1) hx hb hts (fun w h => List.mem_cons_of_mem _ (in_Cont w h)) hown hK hP 0 rfl rfl 0 (by decide) (jv_w hts wa_122) (fun _ h9 => h9) rfl d_C_pointerTo_17 ?_
    refine lv_iload_n hx hb d_C_pointerTo_20 rfl (lv_at hl 0 rfl) ?_
    refine lv_iload_n hx hb d_C_pointerTo_21 rfl (lv_at hl 3 rfl) ?_
    obtain ⟨x3, g4, hf⟩ := jv_ob hf
    refine jv_cs (W.runS (As := [.int y1]) (rest := [.int x1, .ref q_di]) ⟨hx, hb, hml, hown, hts⟩ (c_C_wordInHolder l y1 x3 g4) (jv_cwS hts wa_136 wa_129 wa_137 wa_138 rfl rfl yd_C_wordInHolder ⟨Nat.le_of_ble_eq_true rfl, Nat.le_of_ble_eq_true rfl⟩) jv_pre0 rfl rfl hl.1 rfl (lv_room (Nat.le_of_ble_eq_true rfl)) d_C_pointerTo_22 ⟨Nat.zero_le _, Nat.zero_le _⟩) ?_
    obtain ⟨x5, g6, hf⟩ := jv_ob hf
    have hPc := hP.sub (ws' := (w_disk cI q_di q_pl q_dr q_jo vjn vmk vwr vP vD vJ)) [1, 2, 3, 4] rfl
    refine jv_cs (W.runV (As := [.int x1, .int x3]) (rest := []) (b := q_di) ⟨hx, hb, hml, hown, hts⟩ (c_D_get l dC dI cI cA cL q_di q_pl q_dr q_jo vjn vmk vwr vP vD vJ x1 x3 x5 g6) (jv_cwV hts wa_124 wa_29 wa_125 wa_126 wa_127 rfl rfl yd_D_get ⟨Nat.le_of_ble_eq_true rfl, Nat.le_of_ble_eq_true rfl⟩) (jv_preV hK hPc 0 rfl rfl) rfl rfl hl.1 rfl (lv_room (Nat.le_of_ble_eq_true rfl)) d_C_pointerTo_25 ⟨Nat.zero_le _, Nat.zero_le _⟩) ?_
    obtain rfl := Option.some.inj hf
    exact W.iret hx hb hr (fun t ht hW => ⟨rfl, ht⟩) (fun q h => by cases h) d_C_pointerTo_28
  · have hf := jv_it hf hc
    refine lv_iconst (v := (0 : Int32)) hx hb d_C_pointerTo_12 (by decide) ?_
    refine lv_goto (tgt := 28) hx hb d_C_pointerTo_13 (by decide) ?_
    obtain rfl := Option.some.inj hf
    exact W.iret hx hb hr (fun t ht hW => ⟨rfl, ht⟩) (fun q h => by cases h) d_C_pointerTo_28
def f_C_pointerTo (vD : Nat → Int32) (a0 : Int32) (a1 : Int32) : Option (Int32) := f_C_pointerTo_0 vD a0 a1
set_option maxHeartbeats 4000000 in
set_option maxRecDepth 100000 in
theorem c_C_pointerTo (l : Launch) (dC : Nat → ClassId) (dI : Nat → Nat → Nat) (cI cA cL : ClassId) (q_co q_di q_pl q_dr q_jo : Nat) (vjn : Int32) (vmk : Int32) (vwr : Int32) (vP : Nat → Int32) (vD : Nat → Int32) (vJ : Nat → Int32) (a0 : Int32) (a1 : Int32) (r : Int32) (hf : f_C_pointerTo vD a0 a1 = some r) : Met l y_C_pointerTo ws_C_pointerTo rm_C_pointerTo (jv_Pr [.ref q_co, .int a0, .int a1] (dC, dI) (jv_ty cI cA cL) (w_cont cI q_co q_di q_pl q_dr q_jo vjn vmk vwr vP vD vJ)) (QcRead r) 0 0 (fun _ => False) := by
  refine Met.ofW (cc := cc_C_pointerTo) (maxL := 4) (ret := (some .int)) (by decide) rfl ?_
  intro p e s m args below meth c s₁ B hml hv
  obtain ⟨rfl, hP, hK⟩ := hv
  have cx : jv_cx p s m _ meth c cc_C_pointerTo 4 R_Cont (some .int) ws_C_pointerTo := ⟨B.exec, B.bytes, hml, findClass_of_methodNamed B.named, atoms_spec (ws := ws_C_pointerTo) B.pre, B.returns, B.notSynchronized⟩
  have hl := lv_entry ([.ref q_co, .int a0, .int a1]) (n := 4) (Nat.le_of_ble_eq_true rfl)
  rw [lg_entry_eq]
  generalize (lg_sl ([.ref q_co, .int a0, .int a1]) ++ List.replicate (4 - (lg_sl ([.ref q_co, .int a0, .int a1])).length) Slot.unset).toArray = ls at hl ⊢
  have hl : lv_has ls 4 [(0, .ref q_co), (1, .int a0), (2, .int a1)] := hl
  exact b_C_pointerTo_0 (y0 := a0) (y1 := a1) cx hK hP (lv_sub hl [0, 1, 2] rfl) hf
theorem d_C_wordOf_0 : decode cc_C_wordOf 0 = .ok (.aload_n 0, 1) := by decide +kernel
theorem d_C_wordOf_1 : decode cc_C_wordOf 1 = .ok (.iload_n 1, 1) := by decide +kernel
theorem d_C_wordOf_2 : decode cc_C_wordOf 2 = .ok (.iload_n 2, 1) := by decide +kernel
theorem d_C_wordOf_3 : decode cc_C_wordOf 3 = .ok (.bipush 8, 2) := by decide +kernel
theorem d_C_wordOf_5 : decode cc_C_wordOf 5 = .ok (.idiv, 1) := by decide +kernel
theorem d_C_wordOf_6 : decode cc_C_wordOf 6 = .ok (.invokevirtual 21, 3) := by decide +kernel
theorem d_C_wordOf_9 : decode cc_C_wordOf 9 = .ok (.invokestatic 24, 3) := by decide +kernel
theorem d_C_wordOf_12 : decode cc_C_wordOf 12 = .ok (.istore_n 3, 1) := by decide +kernel
theorem d_C_wordOf_13 : decode cc_C_wordOf 13 = .ok (.iload_n 3, 1) := by decide +kernel
theorem d_C_wordOf_14 : decode cc_C_wordOf 14 = .ok (.iconst (-1), 1) := by decide +kernel
theorem d_C_wordOf_15 : decode cc_C_wordOf 15 = .ok (.if_icmp .ne 7, 3) := by decide +kernel
theorem d_C_wordOf_22 : decode cc_C_wordOf 22 = .ok (.aload_n 0, 1) := by decide +kernel
theorem d_C_wordOf_23 : decode cc_C_wordOf 23 = .ok (.getfield 9, 3) := by decide +kernel
theorem d_C_wordOf_26 : decode cc_C_wordOf 26 = .ok (.iload_n 3, 1) := by decide +kernel
theorem d_C_wordOf_27 : decode cc_C_wordOf 27 = .ok (.iload_n 2, 1) := by decide +kernel
theorem d_C_wordOf_28 : decode cc_C_wordOf 28 = .ok (.bipush 8, 2) := by decide +kernel
theorem d_C_wordOf_30 : decode cc_C_wordOf 30 = .ok (.irem, 1) := by decide +kernel
theorem d_C_wordOf_31 : decode cc_C_wordOf 31 = .ok (.invokevirtual 28, 3) := by decide +kernel
theorem d_C_wordOf_34 : decode cc_C_wordOf 34 = .ok (.ireturn, 1) := by decide +kernel
theorem d_C_wordOf_18 : decode cc_C_wordOf 18 = .ok (.iconst 0, 1) := by decide +kernel
theorem d_C_wordOf_19 : decode cc_C_wordOf 19 = .ok (.goto 15, 3) := by decide +kernel
def f_C_wordOf_0 (vD : Nat → Int32) (y0 : Int32) (y1 : Int32) : Option (Int32) :=
  (f_C_pointerTo vD y0 (y1 / (8 : Int32))).bind fun x1 => (f_C_blockBehind x1).bind fun x3 => if x3 = (-1 : Int32) then (some (0 : Int32)) else ((f_D_get vD x3 (y1 - y1 / (8 : Int32) * (8 : Int32))).bind fun x5 => some x5)
set_option maxHeartbeats 4000000 in
set_option maxRecDepth 100000 in
theorem b_C_wordOf_0 {l : Launch} {dC : Nat → ClassId} {dI : Nat → Nat → Nat} {cI cA cL : ClassId} {q_co q_di q_pl q_dr q_jo : Nat} {vjn : Int32} {vmk : Int32} {vwr : Int32} {vP : Nat → Int32} {vD : Nat → Int32} {vJ : Nat → Int32} {p : Program} {e : Env} {s : State} {m : MethodId} {args : Array Value} {below : List Frame} {meth : Method} {c : Code} (cx : jv_cx p s m args meth c cc_C_wordOf 4 R_Cont (some .int) ws_C_wordOf) (hK : va_K (dC, dI) vwCl (jv_ty cI cA cL) s) (hP : va_P (dC, dI) vwCl (w_cont cI q_co q_di q_pl q_dr q_jo vjn vmk vwr vP vD vJ) s.heap) {r : Int32} {y0 : Int32} {y1 : Int32} {ls : Array Slot} (hl : lv_has ls 4 [(0, .ref q_co), (1, .int y0), (2, .int y1)]) (hf : f_C_wordOf_0 vD y0 y1 = some r) : W p l e rm_C_wordOf s m args below meth c s.heap [] 0 0 (MQ below (QcRead r) args s 0 0 (fun _ => False)) (F0 m 0 ls []) := by
  unfold f_C_wordOf_0 at hf
  obtain ⟨hx, hb, hml, hown, hts, hr, hlocks⟩ := id cx
  refine lv_aload_n hx hb d_C_wordOf_0 rfl (lv_at hl 0 rfl) ?_
  refine lv_iload_n hx hb d_C_wordOf_1 rfl (lv_at hl 1 rfl) ?_
  refine lv_iload_n hx hb d_C_wordOf_2 rfl (lv_at hl 2 rfl) ?_
  refine lv_bipush (v := (8 : Int32)) hx hb d_C_wordOf_3 (by decide) ?_
  refine lv_idiv hx hb d_C_wordOf_5 (by decide) ?_
  obtain ⟨x1, g2, hf⟩ := jv_ob hf
  have hPc := hP.sub (ws' := (w_cont cI q_co q_di q_pl q_dr q_jo vjn vmk vwr vP vD vJ)) [0, 1, 2, 3, 4] rfl
  refine jv_cs (W.runV (As := [.int y0, .int (y1 / (8 : Int32))]) (rest := []) (b := q_co) ⟨hx, hb, hml, hown, hts⟩ (c_C_pointerTo l dC dI cI cA cL q_co q_di q_pl q_dr q_jo vjn vmk vwr vP vD vJ y0 (y1 / (8 : Int32)) x1 g2) (jv_cwV hts wa_139 wa_129 wa_140 wa_141 wa_142 rfl rfl yd_C_pointerTo ⟨Nat.le_of_ble_eq_true rfl, Nat.le_of_ble_eq_true rfl⟩) (jv_preV hK hPc 0 rfl rfl) rfl rfl hl.1 rfl (lv_room (Nat.le_of_ble_eq_true rfl)) d_C_wordOf_6 ⟨Nat.zero_le _, Nat.zero_le _⟩) ?_
  obtain ⟨x3, g4, hf⟩ := jv_ob hf
  refine jv_cs (W.runS (As := [.int x1]) (rest := []) ⟨hx, hb, hml, hown, hts⟩ (c_C_blockBehind l x1 x3 g4) (jv_cwS hts wa_128 wa_129 wa_130 wa_131 rfl rfl yd_C_blockBehind ⟨Nat.le_of_ble_eq_true rfl, Nat.le_of_ble_eq_true rfl⟩) jv_pre0 rfl rfl hl.1 rfl (lv_room (Nat.le_of_ble_eq_true rfl)) d_C_wordOf_9 ⟨Nat.zero_le _, Nat.zero_le _⟩) ?_
  refine lv_istore_n (lv' := [(3, .int x3), (0, .ref q_co), (1, .int y0), (2, .int y1)]) hx hb d_C_wordOf_12 rfl hl (by decide) rfl (fun ls hl => ?_)
  refine lv_iload_n hx hb d_C_wordOf_13 rfl (lv_at hl 0 rfl) ?_
  refine lv_iconst (v := (-1 : Int32)) hx hb d_C_wordOf_14 (by decide) ?_
  refine lv_icmp_ne (tgt := 22) hx hb d_C_wordOf_15 (by decide) (fun hc => ?_) (fun hc => ?_)
  · have hf := jv_if hf hc
    refine lv_aload_n hx hb d_C_wordOf_22 rfl (lv_at hl 1 rfl) ?_
    refine va_get (D := (dC, dI)) (ci := kCont) (v := .ref q_di) (C := R_Cont) (T := T_Cont) (N := 1) hx hb hts (fun w h => List.mem_cons_of_mem _ (in_Cont w h)) hown hK hP 0 rfl rfl 0 (by decide) (jv_w hts wa_122) (fun _ h9 => h9) rfl d_C_wordOf_23 ?_
    refine lv_iload_n hx hb d_C_wordOf_26 rfl (lv_at hl 0 rfl) ?_
    refine lv_iload_n hx hb d_C_wordOf_27 rfl (lv_at hl 3 rfl) ?_
    refine lv_bipush (v := (8 : Int32)) hx hb d_C_wordOf_28 (by decide) ?_
    refine lv_irem hx hb d_C_wordOf_30 (by decide) ?_
    obtain ⟨x5, g6, hf⟩ := jv_ob hf
    have hPc := hP.sub (ws' := (w_disk cI q_di q_pl q_dr q_jo vjn vmk vwr vP vD vJ)) [1, 2, 3, 4] rfl
    refine jv_cs (W.runV (As := [.int x3, .int (y1 - y1 / (8 : Int32) * (8 : Int32))]) (rest := []) (b := q_di) ⟨hx, hb, hml, hown, hts⟩ (c_D_get l dC dI cI cA cL q_di q_pl q_dr q_jo vjn vmk vwr vP vD vJ x3 (y1 - y1 / (8 : Int32) * (8 : Int32)) x5 g6) (jv_cwV hts wa_124 wa_29 wa_125 wa_126 wa_127 rfl rfl yd_D_get ⟨Nat.le_of_ble_eq_true rfl, Nat.le_of_ble_eq_true rfl⟩) (jv_preV hK hPc 0 rfl rfl) rfl rfl hl.1 rfl (lv_room (Nat.le_of_ble_eq_true rfl)) d_C_wordOf_31 ⟨Nat.zero_le _, Nat.zero_le _⟩) ?_
    obtain rfl := Option.some.inj hf
    exact W.iret hx hb hr (fun t ht hW => ⟨rfl, ht⟩) (fun q h => by cases h) d_C_wordOf_34
  · have hf := jv_it hf hc
    refine lv_iconst (v := (0 : Int32)) hx hb d_C_wordOf_18 (by decide) ?_
    refine lv_goto (tgt := 34) hx hb d_C_wordOf_19 (by decide) ?_
    obtain rfl := Option.some.inj hf
    exact W.iret hx hb hr (fun t ht hW => ⟨rfl, ht⟩) (fun q h => by cases h) d_C_wordOf_34
def f_C_wordOf (vD : Nat → Int32) (a0 : Int32) (a1 : Int32) : Option (Int32) := f_C_wordOf_0 vD a0 a1
set_option maxHeartbeats 4000000 in
set_option maxRecDepth 100000 in
theorem c_C_wordOf (l : Launch) (dC : Nat → ClassId) (dI : Nat → Nat → Nat) (cI cA cL : ClassId) (q_co q_di q_pl q_dr q_jo : Nat) (vjn : Int32) (vmk : Int32) (vwr : Int32) (vP : Nat → Int32) (vD : Nat → Int32) (vJ : Nat → Int32) (a0 : Int32) (a1 : Int32) (r : Int32) (hf : f_C_wordOf vD a0 a1 = some r) : Met l y_C_wordOf ws_C_wordOf rm_C_wordOf (jv_Pr [.ref q_co, .int a0, .int a1] (dC, dI) (jv_ty cI cA cL) (w_cont cI q_co q_di q_pl q_dr q_jo vjn vmk vwr vP vD vJ)) (QcRead r) 0 0 (fun _ => False) := by
  refine Met.ofW (cc := cc_C_wordOf) (maxL := 4) (ret := (some .int)) (by decide) rfl ?_
  intro p e s m args below meth c s₁ B hml hv
  obtain ⟨rfl, hP, hK⟩ := hv
  have cx : jv_cx p s m _ meth c cc_C_wordOf 4 R_Cont (some .int) ws_C_wordOf := ⟨B.exec, B.bytes, hml, findClass_of_methodNamed B.named, atoms_spec (ws := ws_C_wordOf) B.pre, B.returns, B.notSynchronized⟩
  have hl := lv_entry ([.ref q_co, .int a0, .int a1]) (n := 4) (Nat.le_of_ble_eq_true rfl)
  rw [lg_entry_eq]
  generalize (lg_sl ([.ref q_co, .int a0, .int a1]) ++ List.replicate (4 - (lg_sl ([.ref q_co, .int a0, .int a1])).length) Slot.unset).toArray = ls at hl ⊢
  have hl : lv_has ls 4 [(0, .ref q_co), (1, .int a0), (2, .int a1)] := hl
  exact b_C_wordOf_0 (y0 := a0) (y1 := a1) cx hK hP (lv_sub hl [0, 1, 2] rfl) hf
theorem d_C_isIndirectEmpty_0 : decode cc_C_isIndirectEmpty 0 = .ok (.aload_n 0, 1) := by decide +kernel
theorem d_C_isIndirectEmpty_1 : decode cc_C_isIndirectEmpty 1 = .ok (.getfield 9, 3) := by decide +kernel
theorem d_C_isIndirectEmpty_4 : decode cc_C_isIndirectEmpty 4 = .ok (.iload_n 1, 1) := by decide +kernel
theorem d_C_isIndirectEmpty_5 : decode cc_C_isIndirectEmpty 5 = .ok (.bipush 6, 2) := by decide +kernel
theorem d_C_isIndirectEmpty_7 : decode cc_C_isIndirectEmpty 7 = .ok (.invokevirtual 15, 3) := by decide +kernel
theorem d_C_isIndirectEmpty_10 : decode cc_C_isIndirectEmpty 10 = .ok (.invokestatic 24, 3) := by decide +kernel
theorem d_C_isIndirectEmpty_13 : decode cc_C_isIndirectEmpty 13 = .ok (.istore_n 2, 1) := by decide +kernel
theorem d_C_isIndirectEmpty_14 : decode cc_C_isIndirectEmpty 14 = .ok (.iload_n 2, 1) := by decide +kernel
theorem d_C_isIndirectEmpty_15 : decode cc_C_isIndirectEmpty 15 = .ok (.iconst (-1), 1) := by decide +kernel
theorem d_C_isIndirectEmpty_16 : decode cc_C_isIndirectEmpty 16 = .ok (.if_icmp .ne 5, 3) := by decide +kernel
theorem d_C_isIndirectEmpty_21 : decode cc_C_isIndirectEmpty 21 = .ok (.iconst 0, 1) := by decide +kernel
theorem d_C_isIndirectEmpty_22 : decode cc_C_isIndirectEmpty 22 = .ok (.istore_n 3, 1) := by decide +kernel
theorem d_C_isIndirectEmpty_19 : decode cc_C_isIndirectEmpty 19 = .ok (.iconst 0, 1) := by decide +kernel
theorem d_C_isIndirectEmpty_20 : decode cc_C_isIndirectEmpty 20 = .ok (.ireturn, 1) := by decide +kernel
theorem d_C_isIndirectEmpty_23 : decode cc_C_isIndirectEmpty 23 = .ok (.iload_n 3, 1) := by decide +kernel
theorem d_C_isIndirectEmpty_24 : decode cc_C_isIndirectEmpty 24 = .ok (.bipush 8, 2) := by decide +kernel
theorem d_C_isIndirectEmpty_26 : decode cc_C_isIndirectEmpty 26 = .ok (.if_icmp .ge 23, 3) := by decide +kernel
theorem d_C_isIndirectEmpty_49 : decode cc_C_isIndirectEmpty 49 = .ok (.iconst 1, 1) := by decide +kernel
theorem d_C_isIndirectEmpty_50 : decode cc_C_isIndirectEmpty 50 = .ok (.ireturn, 1) := by decide +kernel
theorem d_C_isIndirectEmpty_29 : decode cc_C_isIndirectEmpty 29 = .ok (.aload_n 0, 1) := by decide +kernel
theorem d_C_isIndirectEmpty_30 : decode cc_C_isIndirectEmpty 30 = .ok (.getfield 9, 3) := by decide +kernel
theorem d_C_isIndirectEmpty_33 : decode cc_C_isIndirectEmpty 33 = .ok (.iload_n 2, 1) := by decide +kernel
theorem d_C_isIndirectEmpty_34 : decode cc_C_isIndirectEmpty 34 = .ok (.iload_n 3, 1) := by decide +kernel
theorem d_C_isIndirectEmpty_35 : decode cc_C_isIndirectEmpty 35 = .ok (.invokevirtual 28, 3) := by decide +kernel
theorem d_C_isIndirectEmpty_38 : decode cc_C_isIndirectEmpty 38 = .ok (.ifCond .eq 5, 3) := by decide +kernel
theorem d_C_isIndirectEmpty_43 : decode cc_C_isIndirectEmpty 43 = .ok (.iinc 3 1, 3) := by decide +kernel
theorem d_C_isIndirectEmpty_46 : decode cc_C_isIndirectEmpty 46 = .ok (.goto (-23), 3) := by decide +kernel
theorem d_C_isIndirectEmpty_41 : decode cc_C_isIndirectEmpty 41 = .ok (.iconst 0, 1) := by decide +kernel
theorem d_C_isIndirectEmpty_42 : decode cc_C_isIndirectEmpty 42 = .ok (.ireturn, 1) := by decide +kernel
def f_C_isIndirectEmpty_23 (vD : Nat → Int32) (y0 : Int32) (k23 : (Int32) → Option (Int32)) (a : Int32) : Option (Int32) :=
  if (8 : Int32) ≤ a then (some (1 : Int32)) else ((f_D_get vD y0 a).bind fun x5 => if x5 = 0 then (k23 (a + (1 : Int32))) else (some (0 : Int32)))
set_option maxHeartbeats 4000000 in
set_option maxRecDepth 100000 in
theorem b_C_isIndirectEmpty_23 {l : Launch} {dC : Nat → ClassId} {dI : Nat → Nat → Nat} {cI cA cL : ClassId} {q_co q_di q_pl q_dr q_jo : Nat} {vjn : Int32} {vmk : Int32} {vwr : Int32} {vP : Nat → Int32} {vD : Nat → Int32} {vJ : Nat → Int32} {p : Program} {e : Env} {s : State} {m : MethodId} {args : Array Value} {below : List Frame} {meth : Method} {c : Code} (cx : jv_cx p s m args meth c cc_C_isIndirectEmpty 4 R_Cont (some .boolean) ws_C_isIndirectEmpty) (hK : va_K (dC, dI) vwCl (jv_ty cI cA cL) s) (hP : va_P (dC, dI) vwCl (w_cont cI q_co q_di q_pl q_dr q_jo vjn vmk vwr vP vD vJ) s.heap) {r : Int32} {y0 : Int32} {k23 : (Int32) → Option (Int32)} (hk23 : ∀ (a : Int32) (ls : Array Slot), lv_has ls 4 [(0, .ref q_co), (2, .int y0), (3, .int a)] → k23 a = some r → W p l e rm_C_isIndirectEmpty s m args below meth c s.heap [] 0 0 (MQ below (QcRead r) args s 0 0 (fun _ => False)) (F0 m 23 ls [])) {a : Int32} {ls : Array Slot} (hl : lv_has ls 4 [(0, .ref q_co), (2, .int y0), (3, .int a)]) (hf : f_C_isIndirectEmpty_23 vD y0 k23 a = some r) : W p l e rm_C_isIndirectEmpty s m args below meth c s.heap [] 0 0 (MQ below (QcRead r) args s 0 0 (fun _ => False)) (F0 m 23 ls []) := by
  unfold f_C_isIndirectEmpty_23 at hf
  obtain ⟨hx, hb, hml, hown, hts, hr, hlocks⟩ := id cx
  refine lv_iload_n hx hb d_C_isIndirectEmpty_23 rfl (lv_at hl 2 rfl) ?_
  refine lv_bipush (v := (8 : Int32)) hx hb d_C_isIndirectEmpty_24 (by decide) ?_
  refine lv_icmp_ge (tgt := 49) hx hb d_C_isIndirectEmpty_26 (by decide) (fun hc => ?_) (fun hc => ?_)
  · have hf := jv_it hf hc
    refine lv_iconst (v := (1 : Int32)) hx hb d_C_isIndirectEmpty_49 (by decide) ?_
    obtain rfl := Option.some.inj hf
    exact W.zret hx hb hr rfl (fun t ht hW => ⟨rfl, ht⟩) (fun q h => by cases h) d_C_isIndirectEmpty_50
  · have hf := jv_if hf hc
    refine lv_aload_n hx hb d_C_isIndirectEmpty_29 rfl (lv_at hl 0 rfl) ?_
    refine va_get (D := (dC, dI)) (ci := kCont) (v := .ref q_di) (C := R_Cont) (T := T_Cont) (N := 1) hx hb hts (fun w h => List.mem_cons_of_mem _ (in_Cont w h)) hown hK hP 0 rfl rfl 0 (by decide) (jv_w hts wa_122) (fun _ h9 => h9) rfl d_C_isIndirectEmpty_30 ?_
    refine lv_iload_n hx hb d_C_isIndirectEmpty_33 rfl (lv_at hl 1 rfl) ?_
    refine lv_iload_n hx hb d_C_isIndirectEmpty_34 rfl (lv_at hl 2 rfl) ?_
    obtain ⟨x5, g6, hf⟩ := jv_ob hf
    have hPc := hP.sub (ws' := (w_disk cI q_di q_pl q_dr q_jo vjn vmk vwr vP vD vJ)) [1, 2, 3, 4] rfl
    refine jv_cs (W.runV (As := [.int y0, .int a]) (rest := []) (b := q_di) ⟨hx, hb, hml, hown, hts⟩ (c_D_get l dC dI cI cA cL q_di q_pl q_dr q_jo vjn vmk vwr vP vD vJ y0 a x5 g6) (jv_cwV hts wa_124 wa_29 wa_125 wa_126 wa_127 rfl rfl yd_D_get ⟨Nat.le_of_ble_eq_true rfl, Nat.le_of_ble_eq_true rfl⟩) (jv_preV hK hPc 0 rfl rfl) rfl rfl hl.1 rfl (lv_room (Nat.le_of_ble_eq_true rfl)) d_C_isIndirectEmpty_35 ⟨Nat.zero_le _, Nat.zero_le _⟩) ?_
    refine lv_if_eq (tgt := 43) hx hb d_C_isIndirectEmpty_38 (by decide) (fun hc => ?_) (fun hc => ?_)
    · have hf := jv_it hf hc
      refine lv_iinc (k := 2) (v := a + (1 : Int32)) (lv' := [(3, .int (a + (1 : Int32))), (0, .ref q_co), (2, .int y0)]) hx hb d_C_isIndirectEmpty_43 hl rfl (jv_inc _) (by decide) rfl (fun ls hl => ?_)
      refine lv_goto (tgt := 23) hx hb d_C_isIndirectEmpty_46 (by decide) ?_
      exact hk23 (a + (1 : Int32)) _ (lv_sub hl [1, 2, 0] rfl) hf
    · have hf := jv_if hf hc
      refine lv_iconst (v := (0 : Int32)) hx hb d_C_isIndirectEmpty_41 (by decide) ?_
      obtain rfl := Option.some.inj hf
      exact W.zret hx hb hr rfl (fun t ht hW => ⟨rfl, ht⟩) (fun q h => by cases h) d_C_isIndirectEmpty_42
set_option maxHeartbeats 4000000 in
set_option maxRecDepth 100000 in
theorem l_C_isIndirectEmpty_23 {l : Launch} {dC : Nat → ClassId} {dI : Nat → Nat → Nat} {cI cA cL : ClassId} {q_co q_di q_pl q_dr q_jo : Nat} {vjn : Int32} {vmk : Int32} {vwr : Int32} {vP : Nat → Int32} {vD : Nat → Int32} {vJ : Nat → Int32} {p : Program} {e : Env} {s : State} {m : MethodId} {args : Array Value} {below : List Frame} {meth : Method} {c : Code} (cx : jv_cx p s m args meth c cc_C_isIndirectEmpty 4 R_Cont (some .boolean) ws_C_isIndirectEmpty) (hK : va_K (dC, dI) vwCl (jv_ty cI cA cL) s) (hP : va_P (dC, dI) vwCl (w_cont cI q_co q_di q_pl q_dr q_jo vjn vmk vwr vP vD vJ) s.heap) {r : Int32} {y0 : Int32} : ∀ n : Nat, ∀ (a : Int32) (ls : Array Slot), lv_has ls 4 [(0, .ref q_co), (2, .int y0), (3, .int a)] → jv_fx (f_C_isIndirectEmpty_23 vD y0) n a = some r → W p l e rm_C_isIndirectEmpty s m args below meth c s.heap [] 0 0 (MQ below (QcRead r) args s 0 0 (fun _ => False)) (F0 m 23 ls []) := by
  intro n
  induction n with
  | zero => intro a ls hl hf; exact jv_no hf
  | succ n ih => intro a ls hl hf; exact b_C_isIndirectEmpty_23 cx hK hP ih hl hf
def f_C_isIndirectEmpty_0 (vD : Nat → Int32) (y0 : Int32) : Option (Int32) :=
  (f_D_inodeWord vD y0 (6 : Int32)).bind fun x1 => (f_C_blockBehind x1).bind fun x3 => if x3 = (-1 : Int32) then (some (0 : Int32)) else (jv_fx (f_C_isIndirectEmpty_23 vD x3) 300 (0 : Int32))
set_option maxHeartbeats 4000000 in
set_option maxRecDepth 100000 in
theorem b_C_isIndirectEmpty_0 {l : Launch} {dC : Nat → ClassId} {dI : Nat → Nat → Nat} {cI cA cL : ClassId} {q_co q_di q_pl q_dr q_jo : Nat} {vjn : Int32} {vmk : Int32} {vwr : Int32} {vP : Nat → Int32} {vD : Nat → Int32} {vJ : Nat → Int32} {p : Program} {e : Env} {s : State} {m : MethodId} {args : Array Value} {below : List Frame} {meth : Method} {c : Code} (cx : jv_cx p s m args meth c cc_C_isIndirectEmpty 4 R_Cont (some .boolean) ws_C_isIndirectEmpty) (hK : va_K (dC, dI) vwCl (jv_ty cI cA cL) s) (hP : va_P (dC, dI) vwCl (w_cont cI q_co q_di q_pl q_dr q_jo vjn vmk vwr vP vD vJ) s.heap) {r : Int32} {y0 : Int32} {ls : Array Slot} (hl : lv_has ls 4 [(0, .ref q_co), (1, .int y0)]) (hf : f_C_isIndirectEmpty_0 vD y0 = some r) : W p l e rm_C_isIndirectEmpty s m args below meth c s.heap [] 0 0 (MQ below (QcRead r) args s 0 0 (fun _ => False)) (F0 m 0 ls []) := by
  unfold f_C_isIndirectEmpty_0 at hf
  obtain ⟨hx, hb, hml, hown, hts, hr, hlocks⟩ := id cx
  refine lv_aload_n hx hb d_C_isIndirectEmpty_0 rfl (lv_at hl 0 rfl) ?_
  refine va_get (D := (dC, dI)) (ci := kCont) (v := .ref q_di) (C := R_Cont) (T := T_Cont) (N := 1) hx hb hts (fun w h => List.mem_cons_of_mem _ (in_Cont w h)) hown hK hP 0 rfl rfl 0 (by decide) (jv_w hts wa_122) (fun _ h9 => h9) rfl d_C_isIndirectEmpty_1 ?_
  refine lv_iload_n hx hb d_C_isIndirectEmpty_4 rfl (lv_at hl 1 rfl) ?_
  refine lv_bipush (v := (6 : Int32)) hx hb d_C_isIndirectEmpty_5 (by decide) ?_
  obtain ⟨x1, g2, hf⟩ := jv_ob hf
  have hPc := hP.sub (ws' := (w_disk cI q_di q_pl q_dr q_jo vjn vmk vwr vP vD vJ)) [1, 2, 3, 4] rfl
  refine jv_cs (W.runV (As := [.int y0, .int (6 : Int32)]) (rest := []) (b := q_di) ⟨hx, hb, hml, hown, hts⟩ (c_D_inodeWord l dC dI cI cA cL q_di q_pl q_dr q_jo vjn vmk vwr vP vD vJ y0 (6 : Int32) x1 g2) (jv_cwV hts wa_68 wa_29 wa_123 wa_70 wa_71 rfl rfl yd_D_inodeWord ⟨Nat.le_of_ble_eq_true rfl, Nat.le_of_ble_eq_true rfl⟩) (jv_preV hK hPc 0 rfl rfl) rfl rfl hl.1 rfl (lv_room (Nat.le_of_ble_eq_true rfl)) d_C_isIndirectEmpty_7 ⟨Nat.zero_le _, Nat.zero_le _⟩) ?_
  obtain ⟨x3, g4, hf⟩ := jv_ob hf
  refine jv_cs (W.runS (As := [.int x1]) (rest := []) ⟨hx, hb, hml, hown, hts⟩ (c_C_blockBehind l x1 x3 g4) (jv_cwS hts wa_128 wa_129 wa_130 wa_131 rfl rfl yd_C_blockBehind ⟨Nat.le_of_ble_eq_true rfl, Nat.le_of_ble_eq_true rfl⟩) jv_pre0 rfl rfl hl.1 rfl (lv_room (Nat.le_of_ble_eq_true rfl)) d_C_isIndirectEmpty_10 ⟨Nat.zero_le _, Nat.zero_le _⟩) ?_
  refine lv_istore_n (lv' := [(2, .int x3), (0, .ref q_co), (1, .int y0)]) hx hb d_C_isIndirectEmpty_13 rfl hl (by decide) rfl (fun ls hl => ?_)
  refine lv_iload_n hx hb d_C_isIndirectEmpty_14 rfl (lv_at hl 0 rfl) ?_
  refine lv_iconst (v := (-1 : Int32)) hx hb d_C_isIndirectEmpty_15 (by decide) ?_
  refine lv_icmp_ne (tgt := 21) hx hb d_C_isIndirectEmpty_16 (by decide) (fun hc => ?_) (fun hc => ?_)
  · have hf := jv_if hf hc
    refine lv_iconst (v := (0 : Int32)) hx hb d_C_isIndirectEmpty_21 (by decide) ?_
    refine lv_istore_n (lv' := [(3, .int (0 : Int32)), (2, .int x3), (0, .ref q_co), (1, .int y0)]) hx hb d_C_isIndirectEmpty_22 rfl hl (by decide) rfl (fun ls hl => ?_)
    exact l_C_isIndirectEmpty_23 (y0 := x3) cx hK hP 300 (0 : Int32) _ (lv_sub hl [2, 1, 0] rfl) hf
  · have hf := jv_it hf hc
    refine lv_iconst (v := (0 : Int32)) hx hb d_C_isIndirectEmpty_19 (by decide) ?_
    obtain rfl := Option.some.inj hf
    exact W.zret hx hb hr rfl (fun t ht hW => ⟨rfl, ht⟩) (fun q h => by cases h) d_C_isIndirectEmpty_20
def f_C_isIndirectEmpty (vD : Nat → Int32) (a0 : Int32) : Option (Int32) := f_C_isIndirectEmpty_0 vD a0
set_option maxHeartbeats 4000000 in
set_option maxRecDepth 100000 in
theorem c_C_isIndirectEmpty (l : Launch) (dC : Nat → ClassId) (dI : Nat → Nat → Nat) (cI cA cL : ClassId) (q_co q_di q_pl q_dr q_jo : Nat) (vjn : Int32) (vmk : Int32) (vwr : Int32) (vP : Nat → Int32) (vD : Nat → Int32) (vJ : Nat → Int32) (a0 : Int32) (r : Int32) (hf : f_C_isIndirectEmpty vD a0 = some r) : Met l y_C_isIndirectEmpty ws_C_isIndirectEmpty rm_C_isIndirectEmpty (jv_Pr [.ref q_co, .int a0] (dC, dI) (jv_ty cI cA cL) (w_cont cI q_co q_di q_pl q_dr q_jo vjn vmk vwr vP vD vJ)) (QcRead r) 0 0 (fun _ => False) := by
  refine Met.ofW (cc := cc_C_isIndirectEmpty) (maxL := 4) (ret := (some .boolean)) (by decide) rfl ?_
  intro p e s m args below meth c s₁ B hml hv
  obtain ⟨rfl, hP, hK⟩ := hv
  have cx : jv_cx p s m _ meth c cc_C_isIndirectEmpty 4 R_Cont (some .boolean) ws_C_isIndirectEmpty := ⟨B.exec, B.bytes, hml, findClass_of_methodNamed B.named, atoms_spec (ws := ws_C_isIndirectEmpty) B.pre, B.returns, B.notSynchronized⟩
  have hl := lv_entry ([.ref q_co, .int a0]) (n := 4) (Nat.le_of_ble_eq_true rfl)
  rw [lg_entry_eq]
  generalize (lg_sl ([.ref q_co, .int a0]) ++ List.replicate (4 - (lg_sl ([.ref q_co, .int a0])).length) Slot.unset).toArray = ls at hl ⊢
  have hl : lv_has ls 4 [(0, .ref q_co), (1, .int a0)] := hl
  exact b_C_isIndirectEmpty_0 (y0 := a0) cx hK hP (lv_sub hl [0, 1] rfl) hf
theorem d_C_takePointer_0 : decode cc_C_takePointer 0 = .ok (.aload_n 0, 1) := by decide +kernel
theorem d_C_takePointer_1 : decode cc_C_takePointer 1 = .ok (.getfield 9, 3) := by decide +kernel
theorem d_C_takePointer_4 : decode cc_C_takePointer 4 = .ok (.iconst 0, 1) := by decide +kernel
theorem d_C_takePointer_5 : decode cc_C_takePointer 5 = .ok (.iconst 0, 1) := by decide +kernel
theorem d_C_takePointer_6 : decode cc_C_takePointer 6 = .ok (.invokevirtual 28, 3) := by decide +kernel
theorem d_C_takePointer_9 : decode cc_C_takePointer 9 = .ok (.istore_n 1, 1) := by decide +kernel
theorem d_C_takePointer_10 : decode cc_C_takePointer 10 = .ok (.iconst 0, 1) := by decide +kernel
theorem d_C_takePointer_11 : decode cc_C_takePointer 11 = .ok (.istore_n 2, 1) := by decide +kernel
theorem d_C_takePointer_12 : decode cc_C_takePointer 12 = .ok (.iload_n 2, 1) := by decide +kernel
theorem d_C_takePointer_13 : decode cc_C_takePointer 13 = .ok (.bipush 20, 2) := by decide +kernel
theorem d_C_takePointer_15 : decode cc_C_takePointer 15 = .ok (.if_icmp .ge 47, 3) := by decide +kernel
theorem d_C_takePointer_62 : decode cc_C_takePointer 62 = .ok (.iconst 0, 1) := by decide +kernel
theorem d_C_takePointer_63 : decode cc_C_takePointer 63 = .ok (.ireturn, 1) := by decide +kernel
theorem d_C_takePointer_18 : decode cc_C_takePointer 18 = .ok (.iload_n 1, 1) := by decide +kernel
theorem d_C_takePointer_19 : decode cc_C_takePointer 19 = .ok (.iload_n 2, 1) := by decide +kernel
theorem d_C_takePointer_20 : decode cc_C_takePointer 20 = .ok (.ishr, 1) := by decide +kernel
theorem d_C_takePointer_21 : decode cc_C_takePointer 21 = .ok (.iconst 1, 1) := by decide +kernel
theorem d_C_takePointer_22 : decode cc_C_takePointer 22 = .ok (.iand, 1) := by decide +kernel
theorem d_C_takePointer_23 : decode cc_C_takePointer 23 = .ok (.ifCond .ne 33, 3) := by decide +kernel
theorem d_C_takePointer_56 : decode cc_C_takePointer 56 = .ok (.iinc 2 1, 3) := by decide +kernel
theorem d_C_takePointer_59 : decode cc_C_takePointer 59 = .ok (.goto (-47), 3) := by decide +kernel
theorem d_C_takePointer_26 : decode cc_C_takePointer 26 = .ok (.aload_n 0, 1) := by decide +kernel
theorem d_C_takePointer_27 : decode cc_C_takePointer 27 = .ok (.getfield 9, 3) := by decide +kernel
theorem d_C_takePointer_30 : decode cc_C_takePointer 30 = .ok (.iconst 0, 1) := by decide +kernel
theorem d_C_takePointer_31 : decode cc_C_takePointer 31 = .ok (.iconst 0, 1) := by decide +kernel
theorem d_C_takePointer_32 : decode cc_C_takePointer 32 = .ok (.iload_n 1, 1) := by decide +kernel
theorem d_C_takePointer_33 : decode cc_C_takePointer 33 = .ok (.iconst 1, 1) := by decide +kernel
theorem d_C_takePointer_34 : decode cc_C_takePointer 34 = .ok (.iload_n 2, 1) := by decide +kernel
theorem d_C_takePointer_35 : decode cc_C_takePointer 35 = .ok (.ishl, 1) := by decide +kernel
theorem d_C_takePointer_36 : decode cc_C_takePointer 36 = .ok (.ior, 1) := by decide +kernel
theorem d_C_takePointer_37 : decode cc_C_takePointer 37 = .ok (.invokevirtual 34, 3) := by decide +kernel
theorem d_C_takePointer_40 : decode cc_C_takePointer 40 = .ok (.aload_n 0, 1) := by decide +kernel
theorem d_C_takePointer_41 : decode cc_C_takePointer 41 = .ok (.getfield 9, 3) := by decide +kernel
theorem d_C_takePointer_44 : decode cc_C_takePointer 44 = .ok (.bipush 9, 2) := by decide +kernel
theorem d_C_takePointer_46 : decode cc_C_takePointer 46 = .ok (.iload_n 2, 1) := by decide +kernel
theorem d_C_takePointer_47 : decode cc_C_takePointer 47 = .ok (.iadd, 1) := by decide +kernel
theorem d_C_takePointer_48 : decode cc_C_takePointer 48 = .ok (.iconst 0, 1) := by decide +kernel
theorem d_C_takePointer_49 : decode cc_C_takePointer 49 = .ok (.invokevirtual 76, 3) := by decide +kernel
theorem d_C_takePointer_52 : decode cc_C_takePointer 52 = .ok (.iload_n 2, 1) := by decide +kernel
theorem d_C_takePointer_53 : decode cc_C_takePointer 53 = .ok (.iconst 1, 1) := by decide +kernel
theorem d_C_takePointer_54 : decode cc_C_takePointer 54 = .ok (.iadd, 1) := by decide +kernel
theorem d_C_takePointer_55 : decode cc_C_takePointer 55 = .ok (.ireturn, 1) := by decide +kernel
def f_C_takePointer_12 (y0 : Int32) (y1 : Nat → Int32) (k12 : (Int32) → Option (Int32 × (Nat → Int32))) (a : Int32) : Option (Int32 × (Nat → Int32)) :=
  if (20 : Int32) ≤ a then (some ((0 : Int32), y1)) else (if ((y0 >>> (a &&& 31)) &&& (1 : Int32)) = 0 then ((f_D_put (0 : Int32) (0 : Int32) (y0 ||| ((1 : Int32) <<< (a &&& 31))) y1).bind fun x3 => (f_D_zeroFrom ((9 : Int32) + a) (0 : Int32) x3).bind fun x5 => some (a + (1 : Int32), x5)) else (k12 (a + (1 : Int32))))
set_option maxHeartbeats 4000000 in
set_option maxRecDepth 100000 in
theorem b_C_takePointer_12 {l : Launch} {dC : Nat → ClassId} {dI : Nat → Nat → Nat} {cI cA cL : ClassId} {q_co q_di q_pl q_dr q_jo : Nat} {vjn : Int32} {vmk : Int32} {vwr : Int32} {vP : Nat → Int32} {vJ : Nat → Int32} {p : Program} {e : Env} {s : State} {m : MethodId} {args : Array Value} {below : List Frame} {meth : Method} {c : Code} (cx : jv_cx p s m args meth c cc_C_takePointer 3 R_Cont (some .int) ws_C_takePointer) (hK : va_K (dC, dI) vwCl (jv_ty cI cA cL) s) {A : Nat → Prop} (hA : ∀ q : Nat, s.heap.size ≤ q → A q) {r : Int32 × (Nat → Int32)} {y0 : Int32} {y1 : Nat → Int32} {k12 : (Int32) → Option (Int32 × (Nat → Int32))} (hk12 : ∀ (a : Int32) (ls : Array Slot) (H : Heap) (locs : List Loc), lv_has ls 3 [(0, .ref q_co), (1, .int y0), (2, .int a)] → va_P (dC, dI) vwCl (w_cont cI q_co q_di q_pl q_dr q_jo vjn vmk vwr vP y1 vJ) H → va_D A (w_cont cI q_co q_di q_pl q_dr q_jo vjn vmk vwr vP y1 vJ) → va_S A s.heap H locs → k12 a = some r → W p l e rm_C_takePointer s m args below meth c H locs 0 0 (MQ below (jv_Qi r.1 (dC, dI) (w_cont cI q_co q_di q_pl q_dr q_jo vjn vmk vwr vP r.2 vJ) A) args s 0 0 A) (F0 m 12 ls [])) {a : Int32} {ls : Array Slot} (hl : lv_has ls 3 [(0, .ref q_co), (1, .int y0), (2, .int a)]) {H : Heap} {locs : List Loc} (hP : va_P (dC, dI) vwCl (w_cont cI q_co q_di q_pl q_dr q_jo vjn vmk vwr vP y1 vJ) H) (hD : va_D A (w_cont cI q_co q_di q_pl q_dr q_jo vjn vmk vwr vP y1 vJ)) (hS : va_S A s.heap H locs) (hf : f_C_takePointer_12 y0 y1 k12 a = some r) : W p l e rm_C_takePointer s m args below meth c H locs 0 0 (MQ below (jv_Qi r.1 (dC, dI) (w_cont cI q_co q_di q_pl q_dr q_jo vjn vmk vwr vP r.2 vJ) A) args s 0 0 A) (F0 m 12 ls []) := by
  unfold f_C_takePointer_12 at hf
  obtain ⟨hx, hb, hml, hown, hts, hr, hlocks⟩ := id cx
  refine lv_iload_n hx hb d_C_takePointer_12 rfl (lv_at hl 2 rfl) ?_
  refine lv_bipush (v := (20 : Int32)) hx hb d_C_takePointer_13 (by decide) ?_
  refine lv_icmp_ge (tgt := 62) hx hb d_C_takePointer_15 (by decide) (fun hc => ?_) (fun hc => ?_)
  · have hf := jv_it hf hc
    refine lv_iconst (v := (0 : Int32)) hx hb d_C_takePointer_62 (by decide) ?_
    obtain rfl := Option.some.inj hf
    exact W.iret hx hb hr (fun t ht hW => ⟨rfl, by rw [ht]; exact hP, hD, hS.F ht⟩) hS.2.2 d_C_takePointer_63
  · have hf := jv_if hf hc
    refine lv_iload_n hx hb d_C_takePointer_18 rfl (lv_at hl 1 rfl) ?_
    refine lv_iload_n hx hb d_C_takePointer_19 rfl (lv_at hl 2 rfl) ?_
    refine lv_ishr hx hb d_C_takePointer_20 ?_
    refine lv_iconst (v := (1 : Int32)) hx hb d_C_takePointer_21 (by decide) ?_
    refine lv_iand hx hb d_C_takePointer_22 ?_
    refine lv_if_ne (tgt := 56) hx hb d_C_takePointer_23 (by decide) (fun hc => ?_) (fun hc => ?_)
    · have hf := jv_if hf hc
      refine lv_iinc (k := 2) (v := a + (1 : Int32)) (lv' := [(2, .int (a + (1 : Int32))), (0, .ref q_co), (1, .int y0)]) hx hb d_C_takePointer_56 hl rfl (jv_inc _) (by decide) rfl (fun ls hl => ?_)
      refine lv_goto (tgt := 12) hx hb d_C_takePointer_59 (by decide) ?_
      exact hk12 (a + (1 : Int32)) _ _ _ (lv_sub hl [1, 2, 0] rfl) hP hD hS hf
    · have hf := jv_it hf hc
      refine lv_aload_n hx hb d_C_takePointer_26 rfl (lv_at hl 0 rfl) ?_
      refine va_get (D := (dC, dI)) (ci := kCont) (v := .ref q_di) (C := R_Cont) (T := T_Cont) (N := 1) hx hb hts (fun w h => List.mem_cons_of_mem _ (in_Cont w h)) hown hK hP 0 rfl rfl 0 (by decide) (jv_w hts wa_122) (fun _ h9 => h9) rfl d_C_takePointer_27 ?_
      refine lv_iconst (v := (0 : Int32)) hx hb d_C_takePointer_30 (by decide) ?_
      refine lv_iconst (v := (0 : Int32)) hx hb d_C_takePointer_31 (by decide) ?_
      refine lv_iload_n hx hb d_C_takePointer_32 rfl (lv_at hl 1 rfl) ?_
      refine lv_iconst (v := (1 : Int32)) hx hb d_C_takePointer_33 (by decide) ?_
      refine lv_iload_n hx hb d_C_takePointer_34 rfl (lv_at hl 2 rfl) ?_
      refine lv_ishl hx hb d_C_takePointer_35 ?_
      refine lv_ior hx hb d_C_takePointer_36 ?_
      obtain ⟨x3, g4, hf⟩ := jv_ob hf
      have hPc := hP.sub (ws' := (w_disk cI q_di q_pl q_dr q_jo vjn vmk vwr vP y1 vJ)) [1, 2, 3, 4] rfl
      have hDc := hD.sub (ws' := (w_disk cI q_di q_pl q_dr q_jo vjn vmk vwr vP y1 vJ)) [1, 2, 3, 4] (by decide) rfl
      have hFc := va_free (wc := (w_disk cI q_di q_pl q_dr q_jo vjn vmk vwr vP y1 vJ)) hD hS hA [1, 2, 3, 4] rfl
      refine jv_cwv (va_runV (As := [.int (0 : Int32), .int (0 : Int32), .int (y0 ||| ((1 : Int32) <<< (a &&& 31)))]) (rest := []) (b := q_di) ⟨hx, hb, hml, hown, hts⟩ (c_D_put l dC dI cI cA cL q_di q_pl q_dr q_jo vjn vmk vwr vP y1 vJ (0 : Int32) (0 : Int32) (y0 ||| ((1 : Int32) <<< (a &&& 31))) H.size x3 g4) (jv_cwV hts wa_143 wa_29 wa_144 wa_145 wa_146 rfl rfl yd_D_put ⟨Nat.le_of_ble_eq_true rfl, Nat.le_of_ble_eq_true rfl⟩) (jv_preVW hK hPc hDc 0 rfl rfl) rfl rfl hl.1 rfl (lv_room (Nat.le_of_ble_eq_true rfl)) d_C_takePointer_37 ⟨Nat.zero_le _, Nat.zero_le _⟩) hS hFc (fun H1 locs hP1 hD1 hk1 hS => ?_)
      obtain ⟨hP, hD⟩ := va_join (wc := (w_disk cI q_di q_pl q_dr q_jo vjn vmk vwr vP y1 vJ)) (wr := [(q_co, .inr (kCont, [.ref q_di]))]) (w1 := (w_disk cI q_di q_pl q_dr q_jo vjn vmk vwr vP x3 vJ)) hP hD [1, 2, 3, 4] [0] rfl rfl (by decide) (by decide) hk1 hFc hP1 hD1
      have hP : va_P (dC, dI) vwCl (w_cont cI q_co q_di q_pl q_dr q_jo vjn vmk vwr vP x3 vJ) H1 := hP.sub [0, 1, 2, 3, 4] rfl
      have hD : va_D A (w_cont cI q_co q_di q_pl q_dr q_jo vjn vmk vwr vP x3 vJ) := hD.sub [0, 1, 2, 3, 4] (by decide) rfl
      generalize H1 = H at hP hS ⊢
      refine lv_aload_n hx hb d_C_takePointer_40 rfl (lv_at hl 0 rfl) ?_
      refine va_get (D := (dC, dI)) (ci := kCont) (v := .ref q_di) (C := R_Cont) (T := T_Cont) (N := 1) hx hb hts (fun w h => List.mem_cons_of_mem _ (in_Cont w h)) hown hK hP 0 rfl rfl 0 (by decide) (jv_w hts wa_122) (fun _ h9 => h9) rfl d_C_takePointer_41 ?_
      refine lv_bipush (v := (9 : Int32)) hx hb d_C_takePointer_44 (by decide) ?_
      refine lv_iload_n hx hb d_C_takePointer_46 rfl (lv_at hl 2 rfl) ?_
      refine lv_iadd hx hb d_C_takePointer_47 ?_
      refine lv_iconst (v := (0 : Int32)) hx hb d_C_takePointer_48 (by decide) ?_
      obtain ⟨x5, g6, hf⟩ := jv_ob hf
      have hPc := hP.sub (ws' := (w_disk cI q_di q_pl q_dr q_jo vjn vmk vwr vP x3 vJ)) [1, 2, 3, 4] rfl
      have hDc := hD.sub (ws' := (w_disk cI q_di q_pl q_dr q_jo vjn vmk vwr vP x3 vJ)) [1, 2, 3, 4] (by decide) rfl
      have hFc := va_free (wc := (w_disk cI q_di q_pl q_dr q_jo vjn vmk vwr vP x3 vJ)) hD hS hA [1, 2, 3, 4] rfl
      refine jv_cwv (va_runV (As := [.int ((9 : Int32) + a), .int (0 : Int32)]) (rest := []) (b := q_di) ⟨hx, hb, hml, hown, hts⟩ (c_D_zeroFrom l dC dI cI cA cL q_di q_pl q_dr q_jo vjn vmk vwr vP x3 vJ ((9 : Int32) + a) (0 : Int32) H.size x5 g6) (jv_cwV hts wa_110 wa_29 wa_147 wa_112 wa_113 rfl rfl yd_D_zeroFrom ⟨Nat.le_of_ble_eq_true rfl, Nat.le_of_ble_eq_true rfl⟩) (jv_preVW hK hPc hDc 0 rfl rfl) rfl rfl hl.1 rfl (lv_room (Nat.le_of_ble_eq_true rfl)) d_C_takePointer_49 ⟨Nat.zero_le _, Nat.zero_le _⟩) hS hFc (fun H1 locs hP1 hD1 hk1 hS => ?_)
      obtain ⟨hP, hD⟩ := va_join (wc := (w_disk cI q_di q_pl q_dr q_jo vjn vmk vwr vP x3 vJ)) (wr := [(q_co, .inr (kCont, [.ref q_di]))]) (w1 := (w_disk cI q_di q_pl q_dr q_jo vjn vmk vwr vP x5 vJ)) hP hD [1, 2, 3, 4] [0] rfl rfl (by decide) (by decide) hk1 hFc hP1 hD1
      have hP : va_P (dC, dI) vwCl (w_cont cI q_co q_di q_pl q_dr q_jo vjn vmk vwr vP x5 vJ) H1 := hP.sub [0, 1, 2, 3, 4] rfl
      have hD : va_D A (w_cont cI q_co q_di q_pl q_dr q_jo vjn vmk vwr vP x5 vJ) := hD.sub [0, 1, 2, 3, 4] (by decide) rfl
      generalize H1 = H at hP hS ⊢
      refine lv_iload_n hx hb d_C_takePointer_52 rfl (lv_at hl 2 rfl) ?_
      refine lv_iconst (v := (1 : Int32)) hx hb d_C_takePointer_53 (by decide) ?_
      refine lv_iadd hx hb d_C_takePointer_54 ?_
      obtain rfl := Option.some.inj hf
      exact W.iret hx hb hr (fun t ht hW => ⟨rfl, by rw [ht]; exact hP, hD, hS.F ht⟩) hS.2.2 d_C_takePointer_55
set_option maxHeartbeats 4000000 in
set_option maxRecDepth 100000 in
theorem l_C_takePointer_12 {l : Launch} {dC : Nat → ClassId} {dI : Nat → Nat → Nat} {cI cA cL : ClassId} {q_co q_di q_pl q_dr q_jo : Nat} {vjn : Int32} {vmk : Int32} {vwr : Int32} {vP : Nat → Int32} {vJ : Nat → Int32} {p : Program} {e : Env} {s : State} {m : MethodId} {args : Array Value} {below : List Frame} {meth : Method} {c : Code} (cx : jv_cx p s m args meth c cc_C_takePointer 3 R_Cont (some .int) ws_C_takePointer) (hK : va_K (dC, dI) vwCl (jv_ty cI cA cL) s) {A : Nat → Prop} (hA : ∀ q : Nat, s.heap.size ≤ q → A q) {r : Int32 × (Nat → Int32)} {y0 : Int32} {y1 : Nat → Int32} : ∀ n : Nat, ∀ (a : Int32) (ls : Array Slot) (H : Heap) (locs : List Loc), lv_has ls 3 [(0, .ref q_co), (1, .int y0), (2, .int a)] → va_P (dC, dI) vwCl (w_cont cI q_co q_di q_pl q_dr q_jo vjn vmk vwr vP y1 vJ) H → va_D A (w_cont cI q_co q_di q_pl q_dr q_jo vjn vmk vwr vP y1 vJ) → va_S A s.heap H locs → jv_fx (f_C_takePointer_12 y0 y1) n a = some r → W p l e rm_C_takePointer s m args below meth c H locs 0 0 (MQ below (jv_Qi r.1 (dC, dI) (w_cont cI q_co q_di q_pl q_dr q_jo vjn vmk vwr vP r.2 vJ) A) args s 0 0 A) (F0 m 12 ls []) := by
  intro n
  induction n with
  | zero => intro a ls H locs hl hP hD hS hf; exact jv_no hf
  | succ n ih => intro a ls H locs hl hP hD hS hf; exact b_C_takePointer_12 cx hK hA ih hl hP hD hS hf
def f_C_takePointer_0 (y0 : Nat → Int32) : Option (Int32 × (Nat → Int32)) :=
  (f_D_get y0 (0 : Int32) (0 : Int32)).bind fun x1 => jv_fx (f_C_takePointer_12 x1 y0) 300 (0 : Int32)
set_option maxHeartbeats 4000000 in
set_option maxRecDepth 100000 in
theorem b_C_takePointer_0 {l : Launch} {dC : Nat → ClassId} {dI : Nat → Nat → Nat} {cI cA cL : ClassId} {q_co q_di q_pl q_dr q_jo : Nat} {vjn : Int32} {vmk : Int32} {vwr : Int32} {vP : Nat → Int32} {vJ : Nat → Int32} {p : Program} {e : Env} {s : State} {m : MethodId} {args : Array Value} {below : List Frame} {meth : Method} {c : Code} (cx : jv_cx p s m args meth c cc_C_takePointer 3 R_Cont (some .int) ws_C_takePointer) (hK : va_K (dC, dI) vwCl (jv_ty cI cA cL) s) {A : Nat → Prop} (hA : ∀ q : Nat, s.heap.size ≤ q → A q) {r : Int32 × (Nat → Int32)} {y0 : Nat → Int32} {ls : Array Slot} (hl : lv_has ls 3 [(0, .ref q_co)]) {H : Heap} {locs : List Loc} (hP : va_P (dC, dI) vwCl (w_cont cI q_co q_di q_pl q_dr q_jo vjn vmk vwr vP y0 vJ) H) (hD : va_D A (w_cont cI q_co q_di q_pl q_dr q_jo vjn vmk vwr vP y0 vJ)) (hS : va_S A s.heap H locs) (hf : f_C_takePointer_0 y0 = some r) : W p l e rm_C_takePointer s m args below meth c H locs 0 0 (MQ below (jv_Qi r.1 (dC, dI) (w_cont cI q_co q_di q_pl q_dr q_jo vjn vmk vwr vP r.2 vJ) A) args s 0 0 A) (F0 m 0 ls []) := by
  unfold f_C_takePointer_0 at hf
  obtain ⟨hx, hb, hml, hown, hts, hr, hlocks⟩ := id cx
  refine lv_aload_n hx hb d_C_takePointer_0 rfl (lv_at hl 0 rfl) ?_
  refine va_get (D := (dC, dI)) (ci := kCont) (v := .ref q_di) (C := R_Cont) (T := T_Cont) (N := 1) hx hb hts (fun w h => List.mem_cons_of_mem _ (in_Cont w h)) hown hK hP 0 rfl rfl 0 (by decide) (jv_w hts wa_122) (fun _ h9 => h9) rfl d_C_takePointer_1 ?_
  refine lv_iconst (v := (0 : Int32)) hx hb d_C_takePointer_4 (by decide) ?_
  refine lv_iconst (v := (0 : Int32)) hx hb d_C_takePointer_5 (by decide) ?_
  obtain ⟨x1, g2, hf⟩ := jv_ob hf
  have hPc := hP.sub (ws' := (w_disk cI q_di q_pl q_dr q_jo vjn vmk vwr vP y0 vJ)) [1, 2, 3, 4] rfl
  refine jv_cs (W.runV (As := [.int (0 : Int32), .int (0 : Int32)]) (rest := []) (b := q_di) ⟨hx, hb, hml, hown, hts⟩ (c_D_get l dC dI cI cA cL q_di q_pl q_dr q_jo vjn vmk vwr vP y0 vJ (0 : Int32) (0 : Int32) x1 g2) (jv_cwV hts wa_124 wa_29 wa_125 wa_126 wa_127 rfl rfl yd_D_get ⟨Nat.le_of_ble_eq_true rfl, Nat.le_of_ble_eq_true rfl⟩) (jv_preV hK hPc 0 rfl rfl) rfl rfl hl.1 rfl (lv_room (Nat.le_of_ble_eq_true rfl)) d_C_takePointer_6 ⟨Nat.zero_le _, Nat.zero_le _⟩) ?_
  refine lv_istore_n (lv' := [(1, .int x1), (0, .ref q_co)]) hx hb d_C_takePointer_9 rfl hl (by decide) rfl (fun ls hl => ?_)
  refine lv_iconst (v := (0 : Int32)) hx hb d_C_takePointer_10 (by decide) ?_
  refine lv_istore_n (lv' := [(2, .int (0 : Int32)), (1, .int x1), (0, .ref q_co)]) hx hb d_C_takePointer_11 rfl hl (by decide) rfl (fun ls hl => ?_)
  exact l_C_takePointer_12 (y0 := x1) (y1 := y0) cx hK hA 300 (0 : Int32) _ _ _ (lv_sub hl [2, 1, 0] rfl) hP hD hS hf
def f_C_takePointer (vD : Nat → Int32) : Option (Int32 × (Nat → Int32)) := f_C_takePointer_0 vD
set_option maxHeartbeats 4000000 in
set_option maxRecDepth 100000 in
theorem c_C_takePointer (l : Launch) (dC : Nat → ClassId) (dI : Nat → Nat → Nat) (cI cA cL : ClassId) (q_co q_di q_pl q_dr q_jo : Nat) (vjn : Int32) (vmk : Int32) (vwr : Int32) (vP : Nat → Int32) (vD : Nat → Int32) (vJ : Nat → Int32) (sz : Nat) (r : Int32 × (Nat → Int32)) (hf : f_C_takePointer vD = some r) : Met l y_C_takePointer ws_C_takePointer rm_C_takePointer (jv_Pw [.ref q_co] (dC, dI) (jv_ty cI cA cL) (w_cont cI q_co q_di q_pl q_dr q_jo vjn vmk vwr vP vD vJ) sz) (jv_Qi r.1 (dC, dI) (w_cont cI q_co q_di q_pl q_dr q_jo vjn vmk vwr vP r.2 vJ) (va_A (w_cont cI q_co q_di q_pl q_dr q_jo vjn vmk vwr vP vD vJ) sz)) 0 0 (va_A (w_cont cI q_co q_di q_pl q_dr q_jo vjn vmk vwr vP vD vJ) sz) := by
  refine Met.ofW (cc := cc_C_takePointer) (maxL := 3) (ret := (some .int)) (by decide) rfl ?_
  intro p e s m args below meth c s₁ B hml hv
  obtain ⟨rfl, hsz, hP, hK, hD0⟩ := hv
  have cx : jv_cx p s m _ meth c cc_C_takePointer 3 R_Cont (some .int) ws_C_takePointer := ⟨B.exec, B.bytes, hml, findClass_of_methodNamed B.named, atoms_spec (ws := ws_C_takePointer) B.pre, B.returns, B.notSynchronized⟩
  subst hsz
  have hD := hD0.self (sz := s.heap.size)
  generalize hAe : va_A (w_cont cI q_co q_di q_pl q_dr q_jo vjn vmk vwr vP vD vJ) s.heap.size = A at hD ⊢
  have hA : ∀ q : Nat, s.heap.size ≤ q → A q := fun q h => by rw [← hAe]; exact Or.inr h
  have hS : va_S A s.heap s.heap [] := va_S.rf
  have hl := lv_entry ([.ref q_co]) (n := 3) (Nat.le_of_ble_eq_true rfl)
  rw [lg_entry_eq]
  generalize (lg_sl ([.ref q_co]) ++ List.replicate (3 - (lg_sl ([.ref q_co])).length) Slot.unset).toArray = ls at hl ⊢
  have hl : lv_has ls 3 [(0, .ref q_co)] := hl
  exact b_C_takePointer_0 (y0 := vD) cx hK hA (lv_sub hl [0] rfl) hP hD hS hf
theorem d_C_takeBehind_0 : decode cc_C_takeBehind 0 = .ok (.aload_n 0, 1) := by decide +kernel
theorem d_C_takeBehind_1 : decode cc_C_takeBehind 1 = .ok (.getfield 9, 3) := by decide +kernel
theorem d_C_takeBehind_4 : decode cc_C_takeBehind 4 = .ok (.iload_n 1, 1) := by decide +kernel
theorem d_C_takeBehind_5 : decode cc_C_takeBehind 5 = .ok (.iload_n 2, 1) := by decide +kernel
theorem d_C_takeBehind_6 : decode cc_C_takeBehind 6 = .ok (.invokevirtual 28, 3) := by decide +kernel
theorem d_C_takeBehind_9 : decode cc_C_takeBehind 9 = .ok (.ifCond .ne 16, 3) := by decide +kernel
theorem d_C_takeBehind_25 : decode cc_C_takeBehind 25 = .ok (.aload_n 0, 1) := by decide +kernel
theorem d_C_takeBehind_26 : decode cc_C_takeBehind 26 = .ok (.getfield 9, 3) := by decide +kernel
theorem d_C_takeBehind_29 : decode cc_C_takeBehind 29 = .ok (.iload_n 1, 1) := by decide +kernel
theorem d_C_takeBehind_30 : decode cc_C_takeBehind 30 = .ok (.iload_n 2, 1) := by decide +kernel
theorem d_C_takeBehind_31 : decode cc_C_takeBehind 31 = .ok (.invokevirtual 28, 3) := by decide +kernel
theorem d_C_takeBehind_34 : decode cc_C_takeBehind 34 = .ok (.invokestatic 24, 3) := by decide +kernel
theorem d_C_takeBehind_37 : decode cc_C_takeBehind 37 = .ok (.ireturn, 1) := by decide +kernel
theorem d_C_takeBehind_12 : decode cc_C_takeBehind 12 = .ok (.aload_n 0, 1) := by decide +kernel
theorem d_C_takeBehind_13 : decode cc_C_takeBehind 13 = .ok (.getfield 9, 3) := by decide +kernel
theorem d_C_takeBehind_16 : decode cc_C_takeBehind 16 = .ok (.iload_n 1, 1) := by decide +kernel
theorem d_C_takeBehind_17 : decode cc_C_takeBehind 17 = .ok (.iload_n 2, 1) := by decide +kernel
theorem d_C_takeBehind_18 : decode cc_C_takeBehind 18 = .ok (.aload_n 0, 1) := by decide +kernel
theorem d_C_takeBehind_19 : decode cc_C_takeBehind 19 = .ok (.invokevirtual 72, 3) := by decide +kernel
theorem d_C_takeBehind_22 : decode cc_C_takeBehind 22 = .ok (.invokevirtual 34, 3) := by decide +kernel
def f_C_takeBehind_0 (y0 : Int32) (y1 : Int32) (y2 : Nat → Int32) : Option (Int32 × (Nat → Int32)) :=
  (f_D_get y2 y0 y1).bind fun x1 => if x1 = 0 then ((f_C_takePointer y2).bind fun x7 => (f_D_put y0 y1 x7.1 x7.2).bind fun x9 => (f_D_get x9 y0 y1).bind fun x11 => (f_C_blockBehind x11).bind fun x13 => some (x13, x9)) else ((f_D_get y2 y0 y1).bind fun x3 => (f_C_blockBehind x3).bind fun x5 => some (x5, y2))
set_option maxHeartbeats 4000000 in
set_option maxRecDepth 100000 in
theorem b_C_takeBehind_0 {l : Launch} {dC : Nat → ClassId} {dI : Nat → Nat → Nat} {cI cA cL : ClassId} {q_co q_di q_pl q_dr q_jo : Nat} {vjn : Int32} {vmk : Int32} {vwr : Int32} {vP : Nat → Int32} {vJ : Nat → Int32} {p : Program} {e : Env} {s : State} {m : MethodId} {args : Array Value} {below : List Frame} {meth : Method} {c : Code} (cx : jv_cx p s m args meth c cc_C_takeBehind 3 R_Cont (some .int) ws_C_takeBehind) (hK : va_K (dC, dI) vwCl (jv_ty cI cA cL) s) {A : Nat → Prop} (hA : ∀ q : Nat, s.heap.size ≤ q → A q) {r : Int32 × (Nat → Int32)} {y0 : Int32} {y1 : Int32} {y2 : Nat → Int32} {ls : Array Slot} (hl : lv_has ls 3 [(0, .ref q_co), (1, .int y0), (2, .int y1)]) {H : Heap} {locs : List Loc} (hP : va_P (dC, dI) vwCl (w_cont cI q_co q_di q_pl q_dr q_jo vjn vmk vwr vP y2 vJ) H) (hD : va_D A (w_cont cI q_co q_di q_pl q_dr q_jo vjn vmk vwr vP y2 vJ)) (hS : va_S A s.heap H locs) (hf : f_C_takeBehind_0 y0 y1 y2 = some r) : W p l e rm_C_takeBehind s m args below meth c H locs 0 0 (MQ below (jv_Qi r.1 (dC, dI) (w_cont cI q_co q_di q_pl q_dr q_jo vjn vmk vwr vP r.2 vJ) A) args s 0 0 A) (F0 m 0 ls []) := by
  unfold f_C_takeBehind_0 at hf
  obtain ⟨hx, hb, hml, hown, hts, hr, hlocks⟩ := id cx
  refine lv_aload_n hx hb d_C_takeBehind_0 rfl (lv_at hl 0 rfl) ?_
  refine va_get (D := (dC, dI)) (ci := kCont) (v := .ref q_di) (C := R_Cont) (T := T_Cont) (N := 1) hx hb hts (fun w h => List.mem_cons_of_mem _ (in_Cont w h)) hown hK hP 0 rfl rfl 0 (by decide) (jv_w hts wa_122) (fun _ h9 => h9) rfl d_C_takeBehind_1 ?_
  refine lv_iload_n hx hb d_C_takeBehind_4 rfl (lv_at hl 1 rfl) ?_
  refine lv_iload_n hx hb d_C_takeBehind_5 rfl (lv_at hl 2 rfl) ?_
  obtain ⟨x1, g2, hf⟩ := jv_ob hf
  have hPc := hP.sub (ws' := (w_disk cI q_di q_pl q_dr q_jo vjn vmk vwr vP y2 vJ)) [1, 2, 3, 4] rfl
  refine jv_cs (W.runV (As := [.int y0, .int y1]) (rest := []) (b := q_di) ⟨hx, hb, hml, hown, hts⟩ (c_D_get l dC dI cI cA cL q_di q_pl q_dr q_jo vjn vmk vwr vP y2 vJ y0 y1 x1 g2) (jv_cwV hts wa_124 wa_29 wa_125 wa_126 wa_127 rfl rfl yd_D_get ⟨Nat.le_of_ble_eq_true rfl, Nat.le_of_ble_eq_true rfl⟩) (jv_preV hK hPc 0 rfl rfl) rfl rfl hl.1 rfl (lv_room (Nat.le_of_ble_eq_true rfl)) d_C_takeBehind_6 ⟨Nat.zero_le _, Nat.zero_le _⟩) ?_
  refine lv_if_ne (tgt := 25) hx hb d_C_takeBehind_9 (by decide) (fun hc => ?_) (fun hc => ?_)
  · have hf := jv_if hf hc
    refine lv_aload_n hx hb d_C_takeBehind_25 rfl (lv_at hl 0 rfl) ?_
    refine va_get (D := (dC, dI)) (ci := kCont) (v := .ref q_di) (C := R_Cont) (T := T_Cont) (N := 1) hx hb hts (fun w h => List.mem_cons_of_mem _ (in_Cont w h)) hown hK hP 0 rfl rfl 0 (by decide) (jv_w hts wa_122) (fun _ h9 => h9) rfl d_C_takeBehind_26 ?_
    refine lv_iload_n hx hb d_C_takeBehind_29 rfl (lv_at hl 1 rfl) ?_
    refine lv_iload_n hx hb d_C_takeBehind_30 rfl (lv_at hl 2 rfl) ?_
    obtain ⟨x3, g4, hf⟩ := jv_ob hf
    have hPc := hP.sub (ws' := (w_disk cI q_di q_pl q_dr q_jo vjn vmk vwr vP y2 vJ)) [1, 2, 3, 4] rfl
    refine jv_cs (W.runV (As := [.int y0, .int y1]) (rest := []) (b := q_di) ⟨hx, hb, hml, hown, hts⟩ (c_D_get l dC dI cI cA cL q_di q_pl q_dr q_jo vjn vmk vwr vP y2 vJ y0 y1 x3 g4) (jv_cwV hts wa_124 wa_29 wa_125 wa_126 wa_127 rfl rfl yd_D_get ⟨Nat.le_of_ble_eq_true rfl, Nat.le_of_ble_eq_true rfl⟩) (jv_preV hK hPc 0 rfl rfl) rfl rfl hl.1 rfl (lv_room (Nat.le_of_ble_eq_true rfl)) d_C_takeBehind_31 ⟨Nat.zero_le _, Nat.zero_le _⟩) ?_
    obtain ⟨x5, g6, hf⟩ := jv_ob hf
    refine jv_cs (W.runS (As := [.int x3]) (rest := []) ⟨hx, hb, hml, hown, hts⟩ (c_C_blockBehind l x3 x5 g6) (jv_cwS hts wa_128 wa_129 wa_130 wa_131 rfl rfl yd_C_blockBehind ⟨Nat.le_of_ble_eq_true rfl, Nat.le_of_ble_eq_true rfl⟩) jv_pre0 rfl rfl hl.1 rfl (lv_room (Nat.le_of_ble_eq_true rfl)) d_C_takeBehind_34 ⟨Nat.zero_le _, Nat.zero_le _⟩) ?_
    obtain rfl := Option.some.inj hf
    exact W.iret hx hb hr (fun t ht hW => ⟨rfl, by rw [ht]; exact hP, hD, hS.F ht⟩) hS.2.2 d_C_takeBehind_37
  · have hf := jv_it hf hc
    refine lv_aload_n hx hb d_C_takeBehind_12 rfl (lv_at hl 0 rfl) ?_
    refine va_get (D := (dC, dI)) (ci := kCont) (v := .ref q_di) (C := R_Cont) (T := T_Cont) (N := 1) hx hb hts (fun w h => List.mem_cons_of_mem _ (in_Cont w h)) hown hK hP 0 rfl rfl 0 (by decide) (jv_w hts wa_122) (fun _ h9 => h9) rfl d_C_takeBehind_13 ?_
    refine lv_iload_n hx hb d_C_takeBehind_16 rfl (lv_at hl 1 rfl) ?_
    refine lv_iload_n hx hb d_C_takeBehind_17 rfl (lv_at hl 2 rfl) ?_
    refine lv_aload_n hx hb d_C_takeBehind_18 rfl (lv_at hl 0 rfl) ?_
    obtain ⟨x7, g8, hf⟩ := jv_ob hf
    have hPc := hP.sub (ws' := (w_cont cI q_co q_di q_pl q_dr q_jo vjn vmk vwr vP y2 vJ)) [0, 1, 2, 3, 4] rfl
    have hDc := hD.sub (ws' := (w_cont cI q_co q_di q_pl q_dr q_jo vjn vmk vwr vP y2 vJ)) [0, 1, 2, 3, 4] (by decide) rfl
    have hFc := va_free (wc := (w_cont cI q_co q_di q_pl q_dr q_jo vjn vmk vwr vP y2 vJ)) hD hS hA [0, 1, 2, 3, 4] rfl
    refine jv_cwi (va_runV (As := []) (rest := [.int y1, .int y0, .ref q_di]) (b := q_co) ⟨hx, hb, hml, hown, hts⟩ (c_C_takePointer l dC dI cI cA cL q_co q_di q_pl q_dr q_jo vjn vmk vwr vP y2 vJ H.size x7 g8) (jv_cwV hts wa_148 wa_129 wa_149 wa_150 wa_151 rfl rfl yd_C_takePointer ⟨Nat.le_of_ble_eq_true rfl, Nat.le_of_ble_eq_true rfl⟩) (jv_preVW hK hPc hDc 0 rfl rfl) rfl rfl hl.1 rfl (lv_room (Nat.le_of_ble_eq_true rfl)) d_C_takeBehind_19 ⟨Nat.zero_le _, Nat.zero_le _⟩) hS hFc (fun H1 locs hP1 hD1 hk1 hS => ?_)
    have hP : va_P (dC, dI) vwCl (w_cont cI q_co q_di q_pl q_dr q_jo vjn vmk vwr vP x7.2 vJ) H1 := hP1.sub [0, 1, 2, 3, 4] rfl
    have hD : va_D A (w_cont cI q_co q_di q_pl q_dr q_jo vjn vmk vwr vP x7.2 vJ) := (hD1.weaken (fun _ q _ h => hFc q.1 h)).sub [0, 1, 2, 3, 4] (by decide) rfl
    generalize H1 = H at hP hS ⊢
    obtain ⟨x9, g10, hf⟩ := jv_ob hf
    have hPc := hP.sub (ws' := (w_disk cI q_di q_pl q_dr q_jo vjn vmk vwr vP x7.2 vJ)) [1, 2, 3, 4] rfl
    have hDc := hD.sub (ws' := (w_disk cI q_di q_pl q_dr q_jo vjn vmk vwr vP x7.2 vJ)) [1, 2, 3, 4] (by decide) rfl
    have hFc := va_free (wc := (w_disk cI q_di q_pl q_dr q_jo vjn vmk vwr vP x7.2 vJ)) hD hS hA [1, 2, 3, 4] rfl
    refine jv_cwv (va_runV (As := [.int y0, .int y1, .int x7.1]) (rest := []) (b := q_di) ⟨hx, hb, hml, hown, hts⟩ (c_D_put l dC dI cI cA cL q_di q_pl q_dr q_jo vjn vmk vwr vP x7.2 vJ y0 y1 x7.1 H.size x9 g10) (jv_cwV hts wa_143 wa_29 wa_144 wa_145 wa_146 rfl rfl yd_D_put ⟨Nat.le_of_ble_eq_true rfl, Nat.le_of_ble_eq_true rfl⟩) (jv_preVW hK hPc hDc 0 rfl rfl) rfl rfl hl.1 rfl (lv_room (Nat.le_of_ble_eq_true rfl)) d_C_takeBehind_22 ⟨Nat.zero_le _, Nat.zero_le _⟩) hS hFc (fun H1 locs hP1 hD1 hk1 hS => ?_)
    obtain ⟨hP, hD⟩ := va_join (wc := (w_disk cI q_di q_pl q_dr q_jo vjn vmk vwr vP x7.2 vJ)) (wr := [(q_co, .inr (kCont, [.ref q_di]))]) (w1 := (w_disk cI q_di q_pl q_dr q_jo vjn vmk vwr vP x9 vJ)) hP hD [1, 2, 3, 4] [0] rfl rfl (by decide) (by decide) hk1 hFc hP1 hD1
    have hP : va_P (dC, dI) vwCl (w_cont cI q_co q_di q_pl q_dr q_jo vjn vmk vwr vP x9 vJ) H1 := hP.sub [0, 1, 2, 3, 4] rfl
    have hD : va_D A (w_cont cI q_co q_di q_pl q_dr q_jo vjn vmk vwr vP x9 vJ) := hD.sub [0, 1, 2, 3, 4] (by decide) rfl
    generalize H1 = H at hP hS ⊢
    refine lv_aload_n hx hb d_C_takeBehind_25 rfl (lv_at hl 0 rfl) ?_
    refine va_get (D := (dC, dI)) (ci := kCont) (v := .ref q_di) (C := R_Cont) (T := T_Cont) (N := 1) hx hb hts (fun w h => List.mem_cons_of_mem _ (in_Cont w h)) hown hK hP 0 rfl rfl 0 (by decide) (jv_w hts wa_122) (fun _ h9 => h9) rfl d_C_takeBehind_26 ?_
    refine lv_iload_n hx hb d_C_takeBehind_29 rfl (lv_at hl 1 rfl) ?_
    refine lv_iload_n hx hb d_C_takeBehind_30 rfl (lv_at hl 2 rfl) ?_
    obtain ⟨x11, g12, hf⟩ := jv_ob hf
    have hPc := hP.sub (ws' := (w_disk cI q_di q_pl q_dr q_jo vjn vmk vwr vP x9 vJ)) [1, 2, 3, 4] rfl
    refine jv_cs (W.runV (As := [.int y0, .int y1]) (rest := []) (b := q_di) ⟨hx, hb, hml, hown, hts⟩ (c_D_get l dC dI cI cA cL q_di q_pl q_dr q_jo vjn vmk vwr vP x9 vJ y0 y1 x11 g12) (jv_cwV hts wa_124 wa_29 wa_125 wa_126 wa_127 rfl rfl yd_D_get ⟨Nat.le_of_ble_eq_true rfl, Nat.le_of_ble_eq_true rfl⟩) (jv_preV hK hPc 0 rfl rfl) rfl rfl hl.1 rfl (lv_room (Nat.le_of_ble_eq_true rfl)) d_C_takeBehind_31 ⟨Nat.zero_le _, Nat.zero_le _⟩) ?_
    obtain ⟨x13, g14, hf⟩ := jv_ob hf
    refine jv_cs (W.runS (As := [.int x11]) (rest := []) ⟨hx, hb, hml, hown, hts⟩ (c_C_blockBehind l x11 x13 g14) (jv_cwS hts wa_128 wa_129 wa_130 wa_131 rfl rfl yd_C_blockBehind ⟨Nat.le_of_ble_eq_true rfl, Nat.le_of_ble_eq_true rfl⟩) jv_pre0 rfl rfl hl.1 rfl (lv_room (Nat.le_of_ble_eq_true rfl)) d_C_takeBehind_34 ⟨Nat.zero_le _, Nat.zero_le _⟩) ?_
    obtain rfl := Option.some.inj hf
    exact W.iret hx hb hr (fun t ht hW => ⟨rfl, by rw [ht]; exact hP, hD, hS.F ht⟩) hS.2.2 d_C_takeBehind_37
def f_C_takeBehind (a0 : Int32) (a1 : Int32) (vD : Nat → Int32) : Option (Int32 × (Nat → Int32)) := f_C_takeBehind_0 a0 a1 vD
set_option maxHeartbeats 4000000 in
set_option maxRecDepth 100000 in
theorem c_C_takeBehind (l : Launch) (dC : Nat → ClassId) (dI : Nat → Nat → Nat) (cI cA cL : ClassId) (q_co q_di q_pl q_dr q_jo : Nat) (vjn : Int32) (vmk : Int32) (vwr : Int32) (vP : Nat → Int32) (vD : Nat → Int32) (vJ : Nat → Int32) (a0 : Int32) (a1 : Int32) (sz : Nat) (r : Int32 × (Nat → Int32)) (hf : f_C_takeBehind a0 a1 vD = some r) : Met l y_C_takeBehind ws_C_takeBehind rm_C_takeBehind (jv_Pw [.ref q_co, .int a0, .int a1] (dC, dI) (jv_ty cI cA cL) (w_cont cI q_co q_di q_pl q_dr q_jo vjn vmk vwr vP vD vJ) sz) (jv_Qi r.1 (dC, dI) (w_cont cI q_co q_di q_pl q_dr q_jo vjn vmk vwr vP r.2 vJ) (va_A (w_cont cI q_co q_di q_pl q_dr q_jo vjn vmk vwr vP vD vJ) sz)) 0 0 (va_A (w_cont cI q_co q_di q_pl q_dr q_jo vjn vmk vwr vP vD vJ) sz) := by
  refine Met.ofW (cc := cc_C_takeBehind) (maxL := 3) (ret := (some .int)) (by decide) rfl ?_
  intro p e s m args below meth c s₁ B hml hv
  obtain ⟨rfl, hsz, hP, hK, hD0⟩ := hv
  have cx : jv_cx p s m _ meth c cc_C_takeBehind 3 R_Cont (some .int) ws_C_takeBehind := ⟨B.exec, B.bytes, hml, findClass_of_methodNamed B.named, atoms_spec (ws := ws_C_takeBehind) B.pre, B.returns, B.notSynchronized⟩
  subst hsz
  have hD := hD0.self (sz := s.heap.size)
  generalize hAe : va_A (w_cont cI q_co q_di q_pl q_dr q_jo vjn vmk vwr vP vD vJ) s.heap.size = A at hD ⊢
  have hA : ∀ q : Nat, s.heap.size ≤ q → A q := fun q h => by rw [← hAe]; exact Or.inr h
  have hS : va_S A s.heap s.heap [] := va_S.rf
  have hl := lv_entry ([.ref q_co, .int a0, .int a1]) (n := 3) (Nat.le_of_ble_eq_true rfl)
  rw [lg_entry_eq]
  generalize (lg_sl ([.ref q_co, .int a0, .int a1]) ++ List.replicate (3 - (lg_sl ([.ref q_co, .int a0, .int a1])).length) Slot.unset).toArray = ls at hl ⊢
  have hl : lv_has ls 3 [(0, .ref q_co), (1, .int a0), (2, .int a1)] := hl
  exact b_C_takeBehind_0 (y0 := a0) (y1 := a1) (y2 := vD) cx hK hA (lv_sub hl [0, 1, 2] rfl) hP hD hS hf
theorem d_C_takenBlock_0 : decode cc_C_takenBlock 0 = .ok (.iload_n 2, 1) := by decide +kernel
theorem d_C_takenBlock_1 : decode cc_C_takenBlock 1 = .ok (.iconst 2, 1) := by decide +kernel
theorem d_C_takenBlock_2 : decode cc_C_takenBlock 2 = .ok (.if_icmp .lt 13, 3) := by decide +kernel
theorem d_C_takenBlock_5 : decode cc_C_takenBlock 5 = .ok (.aload_n 0, 1) := by decide +kernel
theorem d_C_takenBlock_6 : decode cc_C_takenBlock 6 = .ok (.iconst 1, 1) := by decide +kernel
theorem d_C_takenBlock_7 : decode cc_C_takenBlock 7 = .ok (.iload_n 1, 1) := by decide +kernel
theorem d_C_takenBlock_8 : decode cc_C_takenBlock 8 = .ok (.iadd, 1) := by decide +kernel
theorem d_C_takenBlock_9 : decode cc_C_takenBlock 9 = .ok (.bipush 6, 2) := by decide +kernel
theorem d_C_takenBlock_11 : decode cc_C_takenBlock 11 = .ok (.invokevirtual 69, 3) := by decide +kernel
theorem d_C_takenBlock_14 : decode cc_C_takenBlock 14 = .ok (.pop, 1) := by decide +kernel
theorem d_C_takenBlock_15 : decode cc_C_takenBlock 15 = .ok (.aload_n 0, 1) := by decide +kernel
theorem d_C_takenBlock_16 : decode cc_C_takenBlock 16 = .ok (.iload_n 1, 1) := by decide +kernel
theorem d_C_takenBlock_17 : decode cc_C_takenBlock 17 = .ok (.iload_n 2, 1) := by decide +kernel
theorem d_C_takenBlock_18 : decode cc_C_takenBlock 18 = .ok (.invokevirtual 44, 3) := by decide +kernel
theorem d_C_takenBlock_21 : decode cc_C_takenBlock 21 = .ok (.istore_n 3, 1) := by decide +kernel
theorem d_C_takenBlock_22 : decode cc_C_takenBlock 22 = .ok (.iload_n 3, 1) := by decide +kernel
theorem d_C_takenBlock_23 : decode cc_C_takenBlock 23 = .ok (.iconst (-1), 1) := by decide +kernel
theorem d_C_takenBlock_24 : decode cc_C_takenBlock 24 = .ok (.if_icmp .ne 7, 3) := by decide +kernel
theorem d_C_takenBlock_31 : decode cc_C_takenBlock 31 = .ok (.aload_n 0, 1) := by decide +kernel
theorem d_C_takenBlock_32 : decode cc_C_takenBlock 32 = .ok (.iload_n 3, 1) := by decide +kernel
theorem d_C_takenBlock_33 : decode cc_C_takenBlock 33 = .ok (.iload_n 2, 1) := by decide +kernel
theorem d_C_takenBlock_34 : decode cc_C_takenBlock 34 = .ok (.invokestatic 47, 3) := by decide +kernel
theorem d_C_takenBlock_37 : decode cc_C_takenBlock 37 = .ok (.invokevirtual 69, 3) := by decide +kernel
theorem d_C_takenBlock_40 : decode cc_C_takenBlock 40 = .ok (.ireturn, 1) := by decide +kernel
theorem d_C_takenBlock_27 : decode cc_C_takenBlock 27 = .ok (.iconst (-1), 1) := by decide +kernel
theorem d_C_takenBlock_28 : decode cc_C_takenBlock 28 = .ok (.goto 12, 3) := by decide +kernel
def f_C_takenBlock_15 (y0 : Int32) (y1 : Int32) (y2 : Nat → Int32) : Option (Int32 × (Nat → Int32)) :=
  (f_C_holderOf y2 y0 y1).bind fun x3 => if x3 = (-1 : Int32) then (some ((-1 : Int32), y2)) else ((f_C_wordInHolder y1).bind fun x5 => (f_C_takeBehind x3 x5 y2).bind fun x7 => some (x7.1, x7.2))
set_option maxHeartbeats 4000000 in
set_option maxRecDepth 100000 in
theorem b_C_takenBlock_15 {l : Launch} {dC : Nat → ClassId} {dI : Nat → Nat → Nat} {cI cA cL : ClassId} {q_co q_di q_pl q_dr q_jo : Nat} {vjn : Int32} {vmk : Int32} {vwr : Int32} {vP : Nat → Int32} {vJ : Nat → Int32} {p : Program} {e : Env} {s : State} {m : MethodId} {args : Array Value} {below : List Frame} {meth : Method} {c : Code} (cx : jv_cx p s m args meth c cc_C_takenBlock 4 R_Cont (some .int) ws_C_takenBlock) (hK : va_K (dC, dI) vwCl (jv_ty cI cA cL) s) {A : Nat → Prop} (hA : ∀ q : Nat, s.heap.size ≤ q → A q) {r : Int32 × (Nat → Int32)} {y0 : Int32} {y1 : Int32} {y2 : Nat → Int32} {ls : Array Slot} (hl : lv_has ls 4 [(0, .ref q_co), (1, .int y0), (2, .int y1)]) {H : Heap} {locs : List Loc} (hP : va_P (dC, dI) vwCl (w_cont cI q_co q_di q_pl q_dr q_jo vjn vmk vwr vP y2 vJ) H) (hD : va_D A (w_cont cI q_co q_di q_pl q_dr q_jo vjn vmk vwr vP y2 vJ)) (hS : va_S A s.heap H locs) (hf : f_C_takenBlock_15 y0 y1 y2 = some r) : W p l e rm_C_takenBlock s m args below meth c H locs 0 0 (MQ below (jv_Qi r.1 (dC, dI) (w_cont cI q_co q_di q_pl q_dr q_jo vjn vmk vwr vP r.2 vJ) A) args s 0 0 A) (F0 m 15 ls []) := by
  unfold f_C_takenBlock_15 at hf
  obtain ⟨hx, hb, hml, hown, hts, hr, hlocks⟩ := id cx
  refine lv_aload_n hx hb d_C_takenBlock_15 rfl (lv_at hl 0 rfl) ?_
  refine lv_iload_n hx hb d_C_takenBlock_16 rfl (lv_at hl 1 rfl) ?_
  refine lv_iload_n hx hb d_C_takenBlock_17 rfl (lv_at hl 2 rfl) ?_
  obtain ⟨x3, g4, hf⟩ := jv_ob hf
  have hPc := hP.sub (ws' := (w_cont cI q_co q_di q_pl q_dr q_jo vjn vmk vwr vP y2 vJ)) [0, 1, 2, 3, 4] rfl
  refine jv_cs (W.runV (As := [.int y0, .int y1]) (rest := []) (b := q_co) ⟨hx, hb, hml, hown, hts⟩ (c_C_holderOf l dC dI cI cA cL q_co q_di q_pl q_dr q_jo vjn vmk vwr vP y2 vJ y0 y1 x3 g4) (jv_cwV hts wa_132 wa_129 wa_133 wa_134 wa_135 rfl rfl yd_C_holderOf ⟨Nat.le_of_ble_eq_true rfl, Nat.le_of_ble_eq_true rfl⟩) (jv_preV hK hPc 0 rfl rfl) rfl rfl hl.1 rfl (lv_room (Nat.le_of_ble_eq_true rfl)) d_C_takenBlock_18 ⟨Nat.zero_le _, Nat.zero_le _⟩) ?_
  refine lv_istore_n (lv' := [(3, .int x3), (0, .ref q_co), (1, .int y0), (2, .int y1)]) hx hb d_C_takenBlock_21 rfl hl (by decide) rfl (fun ls hl => ?_)
  refine lv_iload_n hx hb d_C_takenBlock_22 rfl (lv_at hl 0 rfl) ?_
  refine lv_iconst (v := (-1 : Int32)) hx hb d_C_takenBlock_23 (by decide) ?_
  refine lv_icmp_ne (tgt := 31) hx hb d_C_takenBlock_24 (by decide) (fun hc => ?_) (fun hc => ?_)
  · have hf := jv_if hf hc
    refine lv_aload_n hx hb d_C_takenBlock_31 rfl (lv_at hl 1 rfl) ?_
    refine lv_iload_n hx hb d_C_takenBlock_32 rfl (lv_at hl 0 rfl) ?_
    refine lv_iload_n hx hb d_C_takenBlock_33 rfl (lv_at hl 3 rfl) ?_
    obtain ⟨x5, g6, hf⟩ := jv_ob hf
    refine jv_cs (W.runS (As := [.int y1]) (rest := [.int x3, .ref q_co]) ⟨hx, hb, hml, hown, hts⟩ (c_C_wordInHolder l y1 x5 g6) (jv_cwS hts wa_136 wa_129 wa_137 wa_138 rfl rfl yd_C_wordInHolder ⟨Nat.le_of_ble_eq_true rfl, Nat.le_of_ble_eq_true rfl⟩) jv_pre0 rfl rfl hl.1 rfl (lv_room (Nat.le_of_ble_eq_true rfl)) d_C_takenBlock_34 ⟨Nat.zero_le _, Nat.zero_le _⟩) ?_
    obtain ⟨x7, g8, hf⟩ := jv_ob hf
    have hPc := hP.sub (ws' := (w_cont cI q_co q_di q_pl q_dr q_jo vjn vmk vwr vP y2 vJ)) [0, 1, 2, 3, 4] rfl
    have hDc := hD.sub (ws' := (w_cont cI q_co q_di q_pl q_dr q_jo vjn vmk vwr vP y2 vJ)) [0, 1, 2, 3, 4] (by decide) rfl
    have hFc := va_free (wc := (w_cont cI q_co q_di q_pl q_dr q_jo vjn vmk vwr vP y2 vJ)) hD hS hA [0, 1, 2, 3, 4] rfl
    refine jv_cwi (va_runV (As := [.int x3, .int x5]) (rest := []) (b := q_co) ⟨hx, hb, hml, hown, hts⟩ (c_C_takeBehind l dC dI cI cA cL q_co q_di q_pl q_dr q_jo vjn vmk vwr vP y2 vJ x3 x5 H.size x7 g8) (jv_cwV hts wa_152 wa_129 wa_153 wa_154 wa_155 rfl rfl yd_C_takeBehind ⟨Nat.le_of_ble_eq_true rfl, Nat.le_of_ble_eq_true rfl⟩) (jv_preVW hK hPc hDc 0 rfl rfl) rfl rfl hl.1 rfl (lv_room (Nat.le_of_ble_eq_true rfl)) d_C_takenBlock_37 ⟨Nat.zero_le _, Nat.zero_le _⟩) hS hFc (fun H1 locs hP1 hD1 hk1 hS => ?_)
    have hP : va_P (dC, dI) vwCl (w_cont cI q_co q_di q_pl q_dr q_jo vjn vmk vwr vP x7.2 vJ) H1 := hP1.sub [0, 1, 2, 3, 4] rfl
    have hD : va_D A (w_cont cI q_co q_di q_pl q_dr q_jo vjn vmk vwr vP x7.2 vJ) := (hD1.weaken (fun _ q _ h => hFc q.1 h)).sub [0, 1, 2, 3, 4] (by decide) rfl
    generalize H1 = H at hP hS ⊢
    obtain rfl := Option.some.inj hf
    exact W.iret hx hb hr (fun t ht hW => ⟨rfl, by rw [ht]; exact hP, hD, hS.F ht⟩) hS.2.2 d_C_takenBlock_40
  · have hf := jv_it hf hc
    refine lv_iconst (v := (-1 : Int32)) hx hb d_C_takenBlock_27 (by decide) ?_
    refine lv_goto (tgt := 40) hx hb d_C_takenBlock_28 (by decide) ?_
    obtain rfl := Option.some.inj hf
    exact W.iret hx hb hr (fun t ht hW => ⟨rfl, by rw [ht]; exact hP, hD, hS.F ht⟩) hS.2.2 d_C_takenBlock_40
def f_C_takenBlock_0 (y0 : Int32) (y1 : Int32) (y2 : Nat → Int32) : Option (Int32 × (Nat → Int32)) :=
  if y1 < (2 : Int32) then (f_C_takenBlock_15 y0 y1 y2) else ((f_C_takeBehind ((1 : Int32) + y0) (6 : Int32) y2).bind fun x1 => f_C_takenBlock_15 y0 y1 x1.2)
set_option maxHeartbeats 4000000 in
set_option maxRecDepth 100000 in
theorem b_C_takenBlock_0 {l : Launch} {dC : Nat → ClassId} {dI : Nat → Nat → Nat} {cI cA cL : ClassId} {q_co q_di q_pl q_dr q_jo : Nat} {vjn : Int32} {vmk : Int32} {vwr : Int32} {vP : Nat → Int32} {vJ : Nat → Int32} {p : Program} {e : Env} {s : State} {m : MethodId} {args : Array Value} {below : List Frame} {meth : Method} {c : Code} (cx : jv_cx p s m args meth c cc_C_takenBlock 4 R_Cont (some .int) ws_C_takenBlock) (hK : va_K (dC, dI) vwCl (jv_ty cI cA cL) s) {A : Nat → Prop} (hA : ∀ q : Nat, s.heap.size ≤ q → A q) {r : Int32 × (Nat → Int32)} {y0 : Int32} {y1 : Int32} {y2 : Nat → Int32} {ls : Array Slot} (hl : lv_has ls 4 [(0, .ref q_co), (1, .int y0), (2, .int y1)]) {H : Heap} {locs : List Loc} (hP : va_P (dC, dI) vwCl (w_cont cI q_co q_di q_pl q_dr q_jo vjn vmk vwr vP y2 vJ) H) (hD : va_D A (w_cont cI q_co q_di q_pl q_dr q_jo vjn vmk vwr vP y2 vJ)) (hS : va_S A s.heap H locs) (hf : f_C_takenBlock_0 y0 y1 y2 = some r) : W p l e rm_C_takenBlock s m args below meth c H locs 0 0 (MQ below (jv_Qi r.1 (dC, dI) (w_cont cI q_co q_di q_pl q_dr q_jo vjn vmk vwr vP r.2 vJ) A) args s 0 0 A) (F0 m 0 ls []) := by
  unfold f_C_takenBlock_0 at hf
  obtain ⟨hx, hb, hml, hown, hts, hr, hlocks⟩ := id cx
  refine lv_iload_n hx hb d_C_takenBlock_0 rfl (lv_at hl 2 rfl) ?_
  refine lv_iconst (v := (2 : Int32)) hx hb d_C_takenBlock_1 (by decide) ?_
  refine lv_icmp_lt (tgt := 15) hx hb d_C_takenBlock_2 (by decide) (fun hc => ?_) (fun hc => ?_)
  · have hf := jv_it hf hc
    exact b_C_takenBlock_15 (y0 := y0) (y1 := y1) (y2 := y2) cx hK hA (lv_sub hl [0, 1, 2] rfl) hP hD hS hf
  · have hf := jv_if hf hc
    refine lv_aload_n hx hb d_C_takenBlock_5 rfl (lv_at hl 0 rfl) ?_
    refine lv_iconst (v := (1 : Int32)) hx hb d_C_takenBlock_6 (by decide) ?_
    refine lv_iload_n hx hb d_C_takenBlock_7 rfl (lv_at hl 1 rfl) ?_
    refine lv_iadd hx hb d_C_takenBlock_8 ?_
    refine lv_bipush (v := (6 : Int32)) hx hb d_C_takenBlock_9 (by decide) ?_
    obtain ⟨x1, g2, hf⟩ := jv_ob hf
    have hPc := hP.sub (ws' := (w_cont cI q_co q_di q_pl q_dr q_jo vjn vmk vwr vP y2 vJ)) [0, 1, 2, 3, 4] rfl
    have hDc := hD.sub (ws' := (w_cont cI q_co q_di q_pl q_dr q_jo vjn vmk vwr vP y2 vJ)) [0, 1, 2, 3, 4] (by decide) rfl
    have hFc := va_free (wc := (w_cont cI q_co q_di q_pl q_dr q_jo vjn vmk vwr vP y2 vJ)) hD hS hA [0, 1, 2, 3, 4] rfl
    refine jv_cwi (va_runV (As := [.int ((1 : Int32) + y0), .int (6 : Int32)]) (rest := []) (b := q_co) ⟨hx, hb, hml, hown, hts⟩ (c_C_takeBehind l dC dI cI cA cL q_co q_di q_pl q_dr q_jo vjn vmk vwr vP y2 vJ ((1 : Int32) + y0) (6 : Int32) H.size x1 g2) (jv_cwV hts wa_152 wa_129 wa_153 wa_154 wa_155 rfl rfl yd_C_takeBehind ⟨Nat.le_of_ble_eq_true rfl, Nat.le_of_ble_eq_true rfl⟩) (jv_preVW hK hPc hDc 0 rfl rfl) rfl rfl hl.1 rfl (lv_room (Nat.le_of_ble_eq_true rfl)) d_C_takenBlock_11 ⟨Nat.zero_le _, Nat.zero_le _⟩) hS hFc (fun H1 locs hP1 hD1 hk1 hS => ?_)
    have hP : va_P (dC, dI) vwCl (w_cont cI q_co q_di q_pl q_dr q_jo vjn vmk vwr vP x1.2 vJ) H1 := hP1.sub [0, 1, 2, 3, 4] rfl
    have hD : va_D A (w_cont cI q_co q_di q_pl q_dr q_jo vjn vmk vwr vP x1.2 vJ) := (hD1.weaken (fun _ q _ h => hFc q.1 h)).sub [0, 1, 2, 3, 4] (by decide) rfl
    generalize H1 = H at hP hS ⊢
    refine lv_pop hx hb d_C_takenBlock_14 rfl ?_
    exact b_C_takenBlock_15 (y0 := y0) (y1 := y1) (y2 := x1.2) cx hK hA (lv_sub hl [0, 1, 2] rfl) hP hD hS hf
def f_C_takenBlock (a0 : Int32) (a1 : Int32) (vD : Nat → Int32) : Option (Int32 × (Nat → Int32)) := f_C_takenBlock_0 a0 a1 vD
set_option maxHeartbeats 4000000 in
set_option maxRecDepth 100000 in
theorem c_C_takenBlock (l : Launch) (dC : Nat → ClassId) (dI : Nat → Nat → Nat) (cI cA cL : ClassId) (q_co q_di q_pl q_dr q_jo : Nat) (vjn : Int32) (vmk : Int32) (vwr : Int32) (vP : Nat → Int32) (vD : Nat → Int32) (vJ : Nat → Int32) (a0 : Int32) (a1 : Int32) (sz : Nat) (r : Int32 × (Nat → Int32)) (hf : f_C_takenBlock a0 a1 vD = some r) : Met l y_C_takenBlock ws_C_takenBlock rm_C_takenBlock (jv_Pw [.ref q_co, .int a0, .int a1] (dC, dI) (jv_ty cI cA cL) (w_cont cI q_co q_di q_pl q_dr q_jo vjn vmk vwr vP vD vJ) sz) (jv_Qi r.1 (dC, dI) (w_cont cI q_co q_di q_pl q_dr q_jo vjn vmk vwr vP r.2 vJ) (va_A (w_cont cI q_co q_di q_pl q_dr q_jo vjn vmk vwr vP vD vJ) sz)) 0 0 (va_A (w_cont cI q_co q_di q_pl q_dr q_jo vjn vmk vwr vP vD vJ) sz) := by
  refine Met.ofW (cc := cc_C_takenBlock) (maxL := 4) (ret := (some .int)) (by decide) rfl ?_
  intro p e s m args below meth c s₁ B hml hv
  obtain ⟨rfl, hsz, hP, hK, hD0⟩ := hv
  have cx : jv_cx p s m _ meth c cc_C_takenBlock 4 R_Cont (some .int) ws_C_takenBlock := ⟨B.exec, B.bytes, hml, findClass_of_methodNamed B.named, atoms_spec (ws := ws_C_takenBlock) B.pre, B.returns, B.notSynchronized⟩
  subst hsz
  have hD := hD0.self (sz := s.heap.size)
  generalize hAe : va_A (w_cont cI q_co q_di q_pl q_dr q_jo vjn vmk vwr vP vD vJ) s.heap.size = A at hD ⊢
  have hA : ∀ q : Nat, s.heap.size ≤ q → A q := fun q h => by rw [← hAe]; exact Or.inr h
  have hS : va_S A s.heap s.heap [] := va_S.rf
  have hl := lv_entry ([.ref q_co, .int a0, .int a1]) (n := 4) (Nat.le_of_ble_eq_true rfl)
  rw [lg_entry_eq]
  generalize (lg_sl ([.ref q_co, .int a0, .int a1]) ++ List.replicate (4 - (lg_sl ([.ref q_co, .int a0, .int a1])).length) Slot.unset).toArray = ls at hl ⊢
  have hl : lv_has ls 4 [(0, .ref q_co), (1, .int a0), (2, .int a1)] := hl
  exact b_C_takenBlock_0 (y0 := a0) (y1 := a1) (y2 := vD) cx hK hA (lv_sub hl [0, 1, 2] rfl) hP hD hS hf
theorem d_C_store_0 : decode cc_C_store 0 = .ok (.aload_n 0, 1) := by decide +kernel
theorem d_C_store_1 : decode cc_C_store 1 = .ok (.iload_n 1, 1) := by decide +kernel
theorem d_C_store_2 : decode cc_C_store 2 = .ok (.iload_n 2, 1) := by decide +kernel
theorem d_C_store_3 : decode cc_C_store 3 = .ok (.bipush 8, 2) := by decide +kernel
theorem d_C_store_5 : decode cc_C_store 5 = .ok (.idiv, 1) := by decide +kernel
theorem d_C_store_6 : decode cc_C_store 6 = .ok (.invokevirtual 31, 3) := by decide +kernel
theorem d_C_store_9 : decode cc_C_store 9 = .ok (.istore 4, 2) := by decide +kernel
theorem d_C_store_11 : decode cc_C_store 11 = .ok (.iload 4, 2) := by decide +kernel
theorem d_C_store_13 : decode cc_C_store 13 = .ok (.iconst (-1), 1) := by decide +kernel
theorem d_C_store_14 : decode cc_C_store 14 = .ok (.if_icmp .ne 5, 3) := by decide +kernel
theorem d_C_store_19 : decode cc_C_store 19 = .ok (.aload_n 0, 1) := by decide +kernel
theorem d_C_store_20 : decode cc_C_store 20 = .ok (.getfield 9, 3) := by decide +kernel
theorem d_C_store_23 : decode cc_C_store 23 = .ok (.iload 4, 2) := by decide +kernel
theorem d_C_store_25 : decode cc_C_store 25 = .ok (.iload_n 2, 1) := by decide +kernel
theorem d_C_store_26 : decode cc_C_store 26 = .ok (.bipush 8, 2) := by decide +kernel
theorem d_C_store_28 : decode cc_C_store 28 = .ok (.irem, 1) := by decide +kernel
theorem d_C_store_29 : decode cc_C_store 29 = .ok (.iload_n 3, 1) := by decide +kernel
theorem d_C_store_30 : decode cc_C_store 30 = .ok (.invokevirtual 34, 3) := by decide +kernel
theorem d_C_store_33 : decode cc_C_store 33 = .ok (.aload_n 0, 1) := by decide +kernel
theorem d_C_store_34 : decode cc_C_store 34 = .ok (.iload_n 1, 1) := by decide +kernel
theorem d_C_store_35 : decode cc_C_store 35 = .ok (.invokevirtual 38, 3) := by decide +kernel
theorem d_C_store_38 : decode cc_C_store 38 = .ok (.iload_n 2, 1) := by decide +kernel
theorem d_C_store_39 : decode cc_C_store 39 = .ok (.if_icmp .gt 15, 3) := by decide +kernel
theorem d_C_store_54 : decode cc_C_store 54 = .ok (.iconst 1, 1) := by decide +kernel
theorem d_C_store_55 : decode cc_C_store 55 = .ok (.ireturn, 1) := by decide +kernel
theorem d_C_store_42 : decode cc_C_store 42 = .ok (.aload_n 0, 1) := by decide +kernel
theorem d_C_store_43 : decode cc_C_store 43 = .ok (.getfield 9, 3) := by decide +kernel
theorem d_C_store_46 : decode cc_C_store 46 = .ok (.iload_n 1, 1) := by decide +kernel
theorem d_C_store_47 : decode cc_C_store 47 = .ok (.iconst 3, 1) := by decide +kernel
theorem d_C_store_48 : decode cc_C_store 48 = .ok (.iload_n 2, 1) := by decide +kernel
theorem d_C_store_49 : decode cc_C_store 49 = .ok (.iconst 1, 1) := by decide +kernel
theorem d_C_store_50 : decode cc_C_store 50 = .ok (.iadd, 1) := by decide +kernel
theorem d_C_store_51 : decode cc_C_store 51 = .ok (.invokevirtual 41, 3) := by decide +kernel
theorem d_C_store_17 : decode cc_C_store 17 = .ok (.iconst 0, 1) := by decide +kernel
theorem d_C_store_18 : decode cc_C_store 18 = .ok (.ireturn, 1) := by decide +kernel
def f_C_store_0 (y0 : Int32) (y1 : Int32) (y2 : Int32) (y3 : Nat → Int32) : Option (Int32 × (Nat → Int32)) :=
  (f_C_takenBlock y0 (y1 / (8 : Int32)) y3).bind fun x1 => if x1.1 = (-1 : Int32) then (some ((0 : Int32), x1.2)) else ((f_D_put x1.1 (y1 - y1 / (8 : Int32) * (8 : Int32)) y2 x1.2).bind fun x3 => (f_C_sizeOf x3 y0).bind fun x5 => if y1 < x5 then (some ((1 : Int32), x3)) else ((f_D_putInodeWord y0 (3 : Int32) (y1 + (1 : Int32)) x3).bind fun x7 => some ((1 : Int32), x7)))
set_option maxHeartbeats 4000000 in
set_option maxRecDepth 100000 in
theorem b_C_store_0 {l : Launch} {dC : Nat → ClassId} {dI : Nat → Nat → Nat} {cI cA cL : ClassId} {q_co q_di q_pl q_dr q_jo : Nat} {vjn : Int32} {vmk : Int32} {vwr : Int32} {vP : Nat → Int32} {vJ : Nat → Int32} {p : Program} {e : Env} {s : State} {m : MethodId} {args : Array Value} {below : List Frame} {meth : Method} {c : Code} (cx : jv_cx p s m args meth c cc_C_store 5 R_Cont (some .boolean) ws_C_store) (hK : va_K (dC, dI) vwCl (jv_ty cI cA cL) s) {A : Nat → Prop} (hA : ∀ q : Nat, s.heap.size ≤ q → A q) {r : Int32 × (Nat → Int32)} {y0 : Int32} {y1 : Int32} {y2 : Int32} {y3 : Nat → Int32} {ls : Array Slot} (hl : lv_has ls 5 [(0, .ref q_co), (1, .int y0), (2, .int y1), (3, .int y2)]) {H : Heap} {locs : List Loc} (hP : va_P (dC, dI) vwCl (w_cont cI q_co q_di q_pl q_dr q_jo vjn vmk vwr vP y3 vJ) H) (hD : va_D A (w_cont cI q_co q_di q_pl q_dr q_jo vjn vmk vwr vP y3 vJ)) (hS : va_S A s.heap H locs) (hf : f_C_store_0 y0 y1 y2 y3 = some r) : W p l e rm_C_store s m args below meth c H locs 0 0 (MQ below (jv_Qi r.1 (dC, dI) (w_cont cI q_co q_di q_pl q_dr q_jo vjn vmk vwr vP r.2 vJ) A) args s 0 0 A) (F0 m 0 ls []) := by
  unfold f_C_store_0 at hf
  obtain ⟨hx, hb, hml, hown, hts, hr, hlocks⟩ := id cx
  refine lv_aload_n hx hb d_C_store_0 rfl (lv_at hl 0 rfl) ?_
  refine lv_iload_n hx hb d_C_store_1 rfl (lv_at hl 1 rfl) ?_
  refine lv_iload_n hx hb d_C_store_2 rfl (lv_at hl 2 rfl) ?_
  refine lv_bipush (v := (8 : Int32)) hx hb d_C_store_3 (by decide) ?_
  refine lv_idiv hx hb d_C_store_5 (by decide) ?_
  obtain ⟨x1, g2, hf⟩ := jv_ob hf
  have hPc := hP.sub (ws' := (w_cont cI q_co q_di q_pl q_dr q_jo vjn vmk vwr vP y3 vJ)) [0, 1, 2, 3, 4] rfl
  have hDc := hD.sub (ws' := (w_cont cI q_co q_di q_pl q_dr q_jo vjn vmk vwr vP y3 vJ)) [0, 1, 2, 3, 4] (by decide) rfl
  have hFc := va_free (wc := (w_cont cI q_co q_di q_pl q_dr q_jo vjn vmk vwr vP y3 vJ)) hD hS hA [0, 1, 2, 3, 4] rfl
  refine jv_cwi (va_runV (As := [.int y0, .int (y1 / (8 : Int32))]) (rest := []) (b := q_co) ⟨hx, hb, hml, hown, hts⟩ (c_C_takenBlock l dC dI cI cA cL q_co q_di q_pl q_dr q_jo vjn vmk vwr vP y3 vJ y0 (y1 / (8 : Int32)) H.size x1 g2) (jv_cwV hts wa_156 wa_129 wa_157 wa_158 wa_159 rfl rfl yd_C_takenBlock ⟨Nat.le_of_ble_eq_true rfl, Nat.le_of_ble_eq_true rfl⟩) (jv_preVW hK hPc hDc 0 rfl rfl) rfl rfl hl.1 rfl (lv_room (Nat.le_of_ble_eq_true rfl)) d_C_store_6 ⟨Nat.zero_le _, Nat.zero_le _⟩) hS hFc (fun H1 locs hP1 hD1 hk1 hS => ?_)
  have hP : va_P (dC, dI) vwCl (w_cont cI q_co q_di q_pl q_dr q_jo vjn vmk vwr vP x1.2 vJ) H1 := hP1.sub [0, 1, 2, 3, 4] rfl
  have hD : va_D A (w_cont cI q_co q_di q_pl q_dr q_jo vjn vmk vwr vP x1.2 vJ) := (hD1.weaken (fun _ q _ h => hFc q.1 h)).sub [0, 1, 2, 3, 4] (by decide) rfl
  generalize H1 = H at hP hS ⊢
  refine lv_istore (lv' := [(4, .int x1.1), (0, .ref q_co), (1, .int y0), (2, .int y1), (3, .int y2)]) hx hb d_C_store_9 hl (by decide) rfl (fun ls hl => ?_)
  refine lv_iload hx hb d_C_store_11 (lv_at hl 0 rfl) ?_
  refine lv_iconst (v := (-1 : Int32)) hx hb d_C_store_13 (by decide) ?_
  refine lv_icmp_ne (tgt := 19) hx hb d_C_store_14 (by decide) (fun hc => ?_) (fun hc => ?_)
  · have hf := jv_if hf hc
    refine lv_aload_n hx hb d_C_store_19 rfl (lv_at hl 1 rfl) ?_
    refine va_get (D := (dC, dI)) (ci := kCont) (v := .ref q_di) (C := R_Cont) (T := T_Cont) (N := 1) hx hb hts (fun w h => List.mem_cons_of_mem _ (in_Cont w h)) hown hK hP 0 rfl rfl 0 (by decide) (jv_w hts wa_122) (fun _ h9 => h9) rfl d_C_store_20 ?_
    refine lv_iload hx hb d_C_store_23 (lv_at hl 0 rfl) ?_
    refine lv_iload_n hx hb d_C_store_25 rfl (lv_at hl 3 rfl) ?_
    refine lv_bipush (v := (8 : Int32)) hx hb d_C_store_26 (by decide) ?_
    refine lv_irem hx hb d_C_store_28 (by decide) ?_
    refine lv_iload_n hx hb d_C_store_29 rfl (lv_at hl 4 rfl) ?_
    obtain ⟨x3, g4, hf⟩ := jv_ob hf
    have hPc := hP.sub (ws' := (w_disk cI q_di q_pl q_dr q_jo vjn vmk vwr vP x1.2 vJ)) [1, 2, 3, 4] rfl
    have hDc := hD.sub (ws' := (w_disk cI q_di q_pl q_dr q_jo vjn vmk vwr vP x1.2 vJ)) [1, 2, 3, 4] (by decide) rfl
    have hFc := va_free (wc := (w_disk cI q_di q_pl q_dr q_jo vjn vmk vwr vP x1.2 vJ)) hD hS hA [1, 2, 3, 4] rfl
    refine jv_cwv (va_runV (As := [.int x1.1, .int (y1 - y1 / (8 : Int32) * (8 : Int32)), .int y2]) (rest := []) (b := q_di) ⟨hx, hb, hml, hown, hts⟩ (c_D_put l dC dI cI cA cL q_di q_pl q_dr q_jo vjn vmk vwr vP x1.2 vJ x1.1 (y1 - y1 / (8 : Int32) * (8 : Int32)) y2 H.size x3 g4) (jv_cwV hts wa_143 wa_29 wa_144 wa_145 wa_146 rfl rfl yd_D_put ⟨Nat.le_of_ble_eq_true rfl, Nat.le_of_ble_eq_true rfl⟩) (jv_preVW hK hPc hDc 0 rfl rfl) rfl rfl hl.1 rfl (lv_room (Nat.le_of_ble_eq_true rfl)) d_C_store_30 ⟨Nat.zero_le _, Nat.zero_le _⟩) hS hFc (fun H1 locs hP1 hD1 hk1 hS => ?_)
    obtain ⟨hP, hD⟩ := va_join (wc := (w_disk cI q_di q_pl q_dr q_jo vjn vmk vwr vP x1.2 vJ)) (wr := [(q_co, .inr (kCont, [.ref q_di]))]) (w1 := (w_disk cI q_di q_pl q_dr q_jo vjn vmk vwr vP x3 vJ)) hP hD [1, 2, 3, 4] [0] rfl rfl (by decide) (by decide) hk1 hFc hP1 hD1
    have hP : va_P (dC, dI) vwCl (w_cont cI q_co q_di q_pl q_dr q_jo vjn vmk vwr vP x3 vJ) H1 := hP.sub [0, 1, 2, 3, 4] rfl
    have hD : va_D A (w_cont cI q_co q_di q_pl q_dr q_jo vjn vmk vwr vP x3 vJ) := hD.sub [0, 1, 2, 3, 4] (by decide) rfl
    generalize H1 = H at hP hS ⊢
    refine lv_aload_n hx hb d_C_store_33 rfl (lv_at hl 1 rfl) ?_
    refine lv_iload_n hx hb d_C_store_34 rfl (lv_at hl 2 rfl) ?_
    obtain ⟨x5, g6, hf⟩ := jv_ob hf
    have hPc := hP.sub (ws' := (w_cont cI q_co q_di q_pl q_dr q_jo vjn vmk vwr vP x3 vJ)) [0, 1, 2, 3, 4] rfl
    refine jv_cs (W.runV (As := [.int y0]) (rest := []) (b := q_co) ⟨hx, hb, hml, hown, hts⟩ (c_C_sizeOf l dC dI cI cA cL q_co q_di q_pl q_dr q_jo vjn vmk vwr vP x3 vJ y0 x5 g6) (jv_cwV hts wa_160 wa_129 wa_161 wa_162 wa_163 rfl rfl yd_C_sizeOf ⟨Nat.le_of_ble_eq_true rfl, Nat.le_of_ble_eq_true rfl⟩) (jv_preV hK hPc 0 rfl rfl) rfl rfl hl.1 rfl (lv_room (Nat.le_of_ble_eq_true rfl)) d_C_store_35 ⟨Nat.zero_le _, Nat.zero_le _⟩) ?_
    refine lv_iload_n hx hb d_C_store_38 rfl (lv_at hl 3 rfl) ?_
    refine lv_icmp_gt (tgt := 54) hx hb d_C_store_39 (by decide) (fun hc => ?_) (fun hc => ?_)
    · have hf := jv_it hf hc
      refine lv_iconst (v := (1 : Int32)) hx hb d_C_store_54 (by decide) ?_
      obtain rfl := Option.some.inj hf
      exact W.zret hx hb hr rfl (fun t ht hW => ⟨rfl, by rw [ht]; exact hP, hD, hS.F ht⟩) hS.2.2 d_C_store_55
    · have hf := jv_if hf hc
      refine lv_aload_n hx hb d_C_store_42 rfl (lv_at hl 1 rfl) ?_
      refine va_get (D := (dC, dI)) (ci := kCont) (v := .ref q_di) (C := R_Cont) (T := T_Cont) (N := 1) hx hb hts (fun w h => List.mem_cons_of_mem _ (in_Cont w h)) hown hK hP 0 rfl rfl 0 (by decide) (jv_w hts wa_122) (fun _ h9 => h9) rfl d_C_store_43 ?_
      refine lv_iload_n hx hb d_C_store_46 rfl (lv_at hl 2 rfl) ?_
      refine lv_iconst (v := (3 : Int32)) hx hb d_C_store_47 (by decide) ?_
      refine lv_iload_n hx hb d_C_store_48 rfl (lv_at hl 3 rfl) ?_
      refine lv_iconst (v := (1 : Int32)) hx hb d_C_store_49 (by decide) ?_
      refine lv_iadd hx hb d_C_store_50 ?_
      obtain ⟨x7, g8, hf⟩ := jv_ob hf
      have hPc := hP.sub (ws' := (w_disk cI q_di q_pl q_dr q_jo vjn vmk vwr vP x3 vJ)) [1, 2, 3, 4] rfl
      have hDc := hD.sub (ws' := (w_disk cI q_di q_pl q_dr q_jo vjn vmk vwr vP x3 vJ)) [1, 2, 3, 4] (by decide) rfl
      have hFc := va_free (wc := (w_disk cI q_di q_pl q_dr q_jo vjn vmk vwr vP x3 vJ)) hD hS hA [1, 2, 3, 4] rfl
      refine jv_cwv (va_runV (As := [.int y0, .int (3 : Int32), .int (y1 + (1 : Int32))]) (rest := []) (b := q_di) ⟨hx, hb, hml, hown, hts⟩ (c_D_putInodeWord l dC dI cI cA cL q_di q_pl q_dr q_jo vjn vmk vwr vP x3 vJ y0 (3 : Int32) (y1 + (1 : Int32)) H.size x7 g8) (jv_cwV hts wa_106 wa_29 wa_164 wa_108 wa_109 rfl rfl yd_D_putInodeWord ⟨Nat.le_of_ble_eq_true rfl, Nat.le_of_ble_eq_true rfl⟩) (jv_preVW hK hPc hDc 0 rfl rfl) rfl rfl hl.1 rfl (lv_room (Nat.le_of_ble_eq_true rfl)) d_C_store_51 ⟨Nat.zero_le _, Nat.zero_le _⟩) hS hFc (fun H1 locs hP1 hD1 hk1 hS => ?_)
      obtain ⟨hP, hD⟩ := va_join (wc := (w_disk cI q_di q_pl q_dr q_jo vjn vmk vwr vP x3 vJ)) (wr := [(q_co, .inr (kCont, [.ref q_di]))]) (w1 := (w_disk cI q_di q_pl q_dr q_jo vjn vmk vwr vP x7 vJ)) hP hD [1, 2, 3, 4] [0] rfl rfl (by decide) (by decide) hk1 hFc hP1 hD1
      have hP : va_P (dC, dI) vwCl (w_cont cI q_co q_di q_pl q_dr q_jo vjn vmk vwr vP x7 vJ) H1 := hP.sub [0, 1, 2, 3, 4] rfl
      have hD : va_D A (w_cont cI q_co q_di q_pl q_dr q_jo vjn vmk vwr vP x7 vJ) := hD.sub [0, 1, 2, 3, 4] (by decide) rfl
      generalize H1 = H at hP hS ⊢
      refine lv_iconst (v := (1 : Int32)) hx hb d_C_store_54 (by decide) ?_
      obtain rfl := Option.some.inj hf
      exact W.zret hx hb hr rfl (fun t ht hW => ⟨rfl, by rw [ht]; exact hP, hD, hS.F ht⟩) hS.2.2 d_C_store_55
  · have hf := jv_it hf hc
    refine lv_iconst (v := (0 : Int32)) hx hb d_C_store_17 (by decide) ?_
    obtain rfl := Option.some.inj hf
    exact W.zret hx hb hr rfl (fun t ht hW => ⟨rfl, by rw [ht]; exact hP, hD, hS.F ht⟩) hS.2.2 d_C_store_18
def f_C_store (a0 : Int32) (a1 : Int32) (a2 : Int32) (vD : Nat → Int32) : Option (Int32 × (Nat → Int32)) := f_C_store_0 a0 a1 a2 vD
set_option maxHeartbeats 4000000 in
set_option maxRecDepth 100000 in
theorem c_C_store (l : Launch) (dC : Nat → ClassId) (dI : Nat → Nat → Nat) (cI cA cL : ClassId) (q_co q_di q_pl q_dr q_jo : Nat) (vjn : Int32) (vmk : Int32) (vwr : Int32) (vP : Nat → Int32) (vD : Nat → Int32) (vJ : Nat → Int32) (a0 : Int32) (a1 : Int32) (a2 : Int32) (sz : Nat) (r : Int32 × (Nat → Int32)) (hf : f_C_store a0 a1 a2 vD = some r) : Met l y_C_store ws_C_store rm_C_store (jv_Pw [.ref q_co, .int a0, .int a1, .int a2] (dC, dI) (jv_ty cI cA cL) (w_cont cI q_co q_di q_pl q_dr q_jo vjn vmk vwr vP vD vJ) sz) (jv_Qi r.1 (dC, dI) (w_cont cI q_co q_di q_pl q_dr q_jo vjn vmk vwr vP r.2 vJ) (va_A (w_cont cI q_co q_di q_pl q_dr q_jo vjn vmk vwr vP vD vJ) sz)) 0 0 (va_A (w_cont cI q_co q_di q_pl q_dr q_jo vjn vmk vwr vP vD vJ) sz) := by
  refine Met.ofW (cc := cc_C_store) (maxL := 5) (ret := (some .boolean)) (by decide) rfl ?_
  intro p e s m args below meth c s₁ B hml hv
  obtain ⟨rfl, hsz, hP, hK, hD0⟩ := hv
  have cx : jv_cx p s m _ meth c cc_C_store 5 R_Cont (some .boolean) ws_C_store := ⟨B.exec, B.bytes, hml, findClass_of_methodNamed B.named, atoms_spec (ws := ws_C_store) B.pre, B.returns, B.notSynchronized⟩
  subst hsz
  have hD := hD0.self (sz := s.heap.size)
  generalize hAe : va_A (w_cont cI q_co q_di q_pl q_dr q_jo vjn vmk vwr vP vD vJ) s.heap.size = A at hD ⊢
  have hA : ∀ q : Nat, s.heap.size ≤ q → A q := fun q h => by rw [← hAe]; exact Or.inr h
  have hS : va_S A s.heap s.heap [] := va_S.rf
  have hl := lv_entry ([.ref q_co, .int a0, .int a1, .int a2]) (n := 5) (Nat.le_of_ble_eq_true rfl)
  rw [lg_entry_eq]
  generalize (lg_sl ([.ref q_co, .int a0, .int a1, .int a2]) ++ List.replicate (5 - (lg_sl ([.ref q_co, .int a0, .int a1, .int a2])).length) Slot.unset).toArray = ls at hl ⊢
  have hl : lv_has ls 5 [(0, .ref q_co), (1, .int a0), (2, .int a1), (3, .int a2)] := hl
  exact b_C_store_0 (y0 := a0) (y1 := a1) (y2 := a2) (y3 := vD) cx hK hA (lv_sub hl [0, 1, 2, 3] rfl) hP hD hS hf
theorem d_C_release_0 : decode cc_C_release 0 = .ok (.iload_n 1, 1) := by decide +kernel
theorem d_C_release_1 : decode cc_C_release 1 = .ok (.invokestatic 24, 3) := by decide +kernel
theorem d_C_release_4 : decode cc_C_release 4 = .ok (.iconst (-1), 1) := by decide +kernel
theorem d_C_release_5 : decode cc_C_release 5 = .ok (.if_icmp .ne 5, 3) := by decide +kernel
theorem d_C_release_10 : decode cc_C_release 10 = .ok (.aload_n 0, 1) := by decide +kernel
theorem d_C_release_11 : decode cc_C_release 11 = .ok (.getfield 9, 3) := by decide +kernel
theorem d_C_release_14 : decode cc_C_release 14 = .ok (.iconst 0, 1) := by decide +kernel
theorem d_C_release_15 : decode cc_C_release 15 = .ok (.iconst 0, 1) := by decide +kernel
theorem d_C_release_16 : decode cc_C_release 16 = .ok (.aload_n 0, 1) := by decide +kernel
theorem d_C_release_17 : decode cc_C_release 17 = .ok (.getfield 9, 3) := by decide +kernel
theorem d_C_release_20 : decode cc_C_release 20 = .ok (.iconst 0, 1) := by decide +kernel
theorem d_C_release_21 : decode cc_C_release 21 = .ok (.iconst 0, 1) := by decide +kernel
theorem d_C_release_22 : decode cc_C_release 22 = .ok (.invokevirtual 28, 3) := by decide +kernel
theorem d_C_release_25 : decode cc_C_release 25 = .ok (.iconst 1, 1) := by decide +kernel
theorem d_C_release_26 : decode cc_C_release 26 = .ok (.iload_n 1, 1) := by decide +kernel
theorem d_C_release_27 : decode cc_C_release 27 = .ok (.iconst 1, 1) := by decide +kernel
theorem d_C_release_28 : decode cc_C_release 28 = .ok (.isub, 1) := by decide +kernel
theorem d_C_release_29 : decode cc_C_release 29 = .ok (.ishl, 1) := by decide +kernel
theorem d_C_release_30 : decode cc_C_release 30 = .ok (.iconst (-1), 1) := by decide +kernel
theorem d_C_release_31 : decode cc_C_release 31 = .ok (.ixor, 1) := by decide +kernel
theorem d_C_release_32 : decode cc_C_release 32 = .ok (.iand, 1) := by decide +kernel
theorem d_C_release_33 : decode cc_C_release 33 = .ok (.invokevirtual 34, 3) := by decide +kernel
theorem d_C_release_36 : decode cc_C_release 36 = .ok (.iconst 1, 1) := by decide +kernel
theorem d_C_release_37 : decode cc_C_release 37 = .ok (.ireturn, 1) := by decide +kernel
theorem d_C_release_8 : decode cc_C_release 8 = .ok (.iconst 0, 1) := by decide +kernel
theorem d_C_release_9 : decode cc_C_release 9 = .ok (.ireturn, 1) := by decide +kernel
def f_C_release_0 (y0 : Int32) (y1 : Nat → Int32) : Option (Int32 × (Nat → Int32)) :=
  (f_C_blockBehind y0).bind fun x1 => if x1 = (-1 : Int32) then (some ((0 : Int32), y1)) else ((f_D_get y1 (0 : Int32) (0 : Int32)).bind fun x3 => (f_D_put (0 : Int32) (0 : Int32) (x3 &&& (((1 : Int32) <<< ((y0 - (1 : Int32)) &&& 31)) ^^^ (-1 : Int32))) y1).bind fun x5 => some ((1 : Int32), x5))
set_option maxHeartbeats 4000000 in
set_option maxRecDepth 100000 in
theorem b_C_release_0 {l : Launch} {dC : Nat → ClassId} {dI : Nat → Nat → Nat} {cI cA cL : ClassId} {q_co q_di q_pl q_dr q_jo : Nat} {vjn : Int32} {vmk : Int32} {vwr : Int32} {vP : Nat → Int32} {vJ : Nat → Int32} {p : Program} {e : Env} {s : State} {m : MethodId} {args : Array Value} {below : List Frame} {meth : Method} {c : Code} (cx : jv_cx p s m args meth c cc_C_release 2 R_Cont (some .int) ws_C_release) (hK : va_K (dC, dI) vwCl (jv_ty cI cA cL) s) {A : Nat → Prop} (hA : ∀ q : Nat, s.heap.size ≤ q → A q) {r : Int32 × (Nat → Int32)} {y0 : Int32} {y1 : Nat → Int32} {ls : Array Slot} (hl : lv_has ls 2 [(0, .ref q_co), (1, .int y0)]) {H : Heap} {locs : List Loc} (hP : va_P (dC, dI) vwCl (w_cont cI q_co q_di q_pl q_dr q_jo vjn vmk vwr vP y1 vJ) H) (hD : va_D A (w_cont cI q_co q_di q_pl q_dr q_jo vjn vmk vwr vP y1 vJ)) (hS : va_S A s.heap H locs) (hf : f_C_release_0 y0 y1 = some r) : W p l e rm_C_release s m args below meth c H locs 0 0 (MQ below (jv_Qi r.1 (dC, dI) (w_cont cI q_co q_di q_pl q_dr q_jo vjn vmk vwr vP r.2 vJ) A) args s 0 0 A) (F0 m 0 ls []) := by
  unfold f_C_release_0 at hf
  obtain ⟨hx, hb, hml, hown, hts, hr, hlocks⟩ := id cx
  refine lv_iload_n hx hb d_C_release_0 rfl (lv_at hl 1 rfl) ?_
  obtain ⟨x1, g2, hf⟩ := jv_ob hf
  refine jv_cs (W.runS (As := [.int y0]) (rest := []) ⟨hx, hb, hml, hown, hts⟩ (c_C_blockBehind l y0 x1 g2) (jv_cwS hts wa_128 wa_129 wa_130 wa_131 rfl rfl yd_C_blockBehind ⟨Nat.le_of_ble_eq_true rfl, Nat.le_of_ble_eq_true rfl⟩) jv_pre0 rfl rfl hl.1 rfl (lv_room (Nat.le_of_ble_eq_true rfl)) d_C_release_1 ⟨Nat.zero_le _, Nat.zero_le _⟩) ?_
  refine lv_iconst (v := (-1 : Int32)) hx hb d_C_release_4 (by decide) ?_
  refine lv_icmp_ne (tgt := 10) hx hb d_C_release_5 (by decide) (fun hc => ?_) (fun hc => ?_)
  · have hf := jv_if hf hc
    refine lv_aload_n hx hb d_C_release_10 rfl (lv_at hl 0 rfl) ?_
    refine va_get (D := (dC, dI)) (ci := kCont) (v := .ref q_di) (C := R_Cont) (T := T_Cont) (N := 1) hx hb hts (fun w h => List.mem_cons_of_mem _ (in_Cont w h)) hown hK hP 0 rfl rfl 0 (by decide) (jv_w hts wa_122) (fun _ h9 => h9) rfl d_C_release_11 ?_
    refine lv_iconst (v := (0 : Int32)) hx hb d_C_release_14 (by decide) ?_
    refine lv_iconst (v := (0 : Int32)) hx hb d_C_release_15 (by decide) ?_
    refine lv_aload_n hx hb d_C_release_16 rfl (lv_at hl 0 rfl) ?_
    refine va_get (D := (dC, dI)) (ci := kCont) (v := .ref q_di) (C := R_Cont) (T := T_Cont) (N := 1) hx hb hts (fun w h => List.mem_cons_of_mem _ (in_Cont w h)) hown hK hP 0 rfl rfl 0 (by decide) (jv_w hts wa_122) (fun _ h9 => h9) rfl d_C_release_17 ?_
    refine lv_iconst (v := (0 : Int32)) hx hb d_C_release_20 (by decide) ?_
    refine lv_iconst (v := (0 : Int32)) hx hb d_C_release_21 (by decide) ?_
    obtain ⟨x3, g4, hf⟩ := jv_ob hf
    have hPc := hP.sub (ws' := (w_disk cI q_di q_pl q_dr q_jo vjn vmk vwr vP y1 vJ)) [1, 2, 3, 4] rfl
    refine jv_cs (W.runV (As := [.int (0 : Int32), .int (0 : Int32)]) (rest := [.int (0 : Int32), .int (0 : Int32), .ref q_di]) (b := q_di) ⟨hx, hb, hml, hown, hts⟩ (c_D_get l dC dI cI cA cL q_di q_pl q_dr q_jo vjn vmk vwr vP y1 vJ (0 : Int32) (0 : Int32) x3 g4) (jv_cwV hts wa_124 wa_29 wa_125 wa_126 wa_127 rfl rfl yd_D_get ⟨Nat.le_of_ble_eq_true rfl, Nat.le_of_ble_eq_true rfl⟩) (jv_preV hK hPc 0 rfl rfl) rfl rfl hl.1 rfl (lv_room (Nat.le_of_ble_eq_true rfl)) d_C_release_22 ⟨Nat.zero_le _, Nat.zero_le _⟩) ?_
    refine lv_iconst (v := (1 : Int32)) hx hb d_C_release_25 (by decide) ?_
    refine lv_iload_n hx hb d_C_release_26 rfl (lv_at hl 1 rfl) ?_
    refine lv_iconst (v := (1 : Int32)) hx hb d_C_release_27 (by decide) ?_
    refine lv_isub hx hb d_C_release_28 ?_
    refine lv_ishl hx hb d_C_release_29 ?_
    refine lv_iconst (v := (-1 : Int32)) hx hb d_C_release_30 (by decide) ?_
    refine lv_ixor hx hb d_C_release_31 ?_
    refine lv_iand hx hb d_C_release_32 ?_
    obtain ⟨x5, g6, hf⟩ := jv_ob hf
    have hPc := hP.sub (ws' := (w_disk cI q_di q_pl q_dr q_jo vjn vmk vwr vP y1 vJ)) [1, 2, 3, 4] rfl
    have hDc := hD.sub (ws' := (w_disk cI q_di q_pl q_dr q_jo vjn vmk vwr vP y1 vJ)) [1, 2, 3, 4] (by decide) rfl
    have hFc := va_free (wc := (w_disk cI q_di q_pl q_dr q_jo vjn vmk vwr vP y1 vJ)) hD hS hA [1, 2, 3, 4] rfl
    refine jv_cwv (va_runV (As := [.int (0 : Int32), .int (0 : Int32), .int (x3 &&& (((1 : Int32) <<< ((y0 - (1 : Int32)) &&& 31)) ^^^ (-1 : Int32)))]) (rest := []) (b := q_di) ⟨hx, hb, hml, hown, hts⟩ (c_D_put l dC dI cI cA cL q_di q_pl q_dr q_jo vjn vmk vwr vP y1 vJ (0 : Int32) (0 : Int32) (x3 &&& (((1 : Int32) <<< ((y0 - (1 : Int32)) &&& 31)) ^^^ (-1 : Int32))) H.size x5 g6) (jv_cwV hts wa_143 wa_29 wa_144 wa_145 wa_146 rfl rfl yd_D_put ⟨Nat.le_of_ble_eq_true rfl, Nat.le_of_ble_eq_true rfl⟩) (jv_preVW hK hPc hDc 0 rfl rfl) rfl rfl hl.1 rfl (lv_room (Nat.le_of_ble_eq_true rfl)) d_C_release_33 ⟨Nat.zero_le _, Nat.zero_le _⟩) hS hFc (fun H1 locs hP1 hD1 hk1 hS => ?_)
    obtain ⟨hP, hD⟩ := va_join (wc := (w_disk cI q_di q_pl q_dr q_jo vjn vmk vwr vP y1 vJ)) (wr := [(q_co, .inr (kCont, [.ref q_di]))]) (w1 := (w_disk cI q_di q_pl q_dr q_jo vjn vmk vwr vP x5 vJ)) hP hD [1, 2, 3, 4] [0] rfl rfl (by decide) (by decide) hk1 hFc hP1 hD1
    have hP : va_P (dC, dI) vwCl (w_cont cI q_co q_di q_pl q_dr q_jo vjn vmk vwr vP x5 vJ) H1 := hP.sub [0, 1, 2, 3, 4] rfl
    have hD : va_D A (w_cont cI q_co q_di q_pl q_dr q_jo vjn vmk vwr vP x5 vJ) := hD.sub [0, 1, 2, 3, 4] (by decide) rfl
    generalize H1 = H at hP hS ⊢
    refine lv_iconst (v := (1 : Int32)) hx hb d_C_release_36 (by decide) ?_
    obtain rfl := Option.some.inj hf
    exact W.iret hx hb hr (fun t ht hW => ⟨rfl, by rw [ht]; exact hP, hD, hS.F ht⟩) hS.2.2 d_C_release_37
  · have hf := jv_it hf hc
    refine lv_iconst (v := (0 : Int32)) hx hb d_C_release_8 (by decide) ?_
    obtain rfl := Option.some.inj hf
    exact W.iret hx hb hr (fun t ht hW => ⟨rfl, by rw [ht]; exact hP, hD, hS.F ht⟩) hS.2.2 d_C_release_9
def f_C_release (a0 : Int32) (vD : Nat → Int32) : Option (Int32 × (Nat → Int32)) := f_C_release_0 a0 vD
set_option maxHeartbeats 4000000 in
set_option maxRecDepth 100000 in
theorem c_C_release (l : Launch) (dC : Nat → ClassId) (dI : Nat → Nat → Nat) (cI cA cL : ClassId) (q_co q_di q_pl q_dr q_jo : Nat) (vjn : Int32) (vmk : Int32) (vwr : Int32) (vP : Nat → Int32) (vD : Nat → Int32) (vJ : Nat → Int32) (a0 : Int32) (sz : Nat) (r : Int32 × (Nat → Int32)) (hf : f_C_release a0 vD = some r) : Met l y_C_release ws_C_release rm_C_release (jv_Pw [.ref q_co, .int a0] (dC, dI) (jv_ty cI cA cL) (w_cont cI q_co q_di q_pl q_dr q_jo vjn vmk vwr vP vD vJ) sz) (jv_Qi r.1 (dC, dI) (w_cont cI q_co q_di q_pl q_dr q_jo vjn vmk vwr vP r.2 vJ) (va_A (w_cont cI q_co q_di q_pl q_dr q_jo vjn vmk vwr vP vD vJ) sz)) 0 0 (va_A (w_cont cI q_co q_di q_pl q_dr q_jo vjn vmk vwr vP vD vJ) sz) := by
  refine Met.ofW (cc := cc_C_release) (maxL := 2) (ret := (some .int)) (by decide) rfl ?_
  intro p e s m args below meth c s₁ B hml hv
  obtain ⟨rfl, hsz, hP, hK, hD0⟩ := hv
  have cx : jv_cx p s m _ meth c cc_C_release 2 R_Cont (some .int) ws_C_release := ⟨B.exec, B.bytes, hml, findClass_of_methodNamed B.named, atoms_spec (ws := ws_C_release) B.pre, B.returns, B.notSynchronized⟩
  subst hsz
  have hD := hD0.self (sz := s.heap.size)
  generalize hAe : va_A (w_cont cI q_co q_di q_pl q_dr q_jo vjn vmk vwr vP vD vJ) s.heap.size = A at hD ⊢
  have hA : ∀ q : Nat, s.heap.size ≤ q → A q := fun q h => by rw [← hAe]; exact Or.inr h
  have hS : va_S A s.heap s.heap [] := va_S.rf
  have hl := lv_entry ([.ref q_co, .int a0]) (n := 2) (Nat.le_of_ble_eq_true rfl)
  rw [lg_entry_eq]
  generalize (lg_sl ([.ref q_co, .int a0]) ++ List.replicate (2 - (lg_sl ([.ref q_co, .int a0])).length) Slot.unset).toArray = ls at hl ⊢
  have hl : lv_has ls 2 [(0, .ref q_co), (1, .int a0)] := hl
  exact b_C_release_0 (y0 := a0) (y1 := vD) cx hK hA (lv_sub hl [0, 1] rfl) hP hD hS hf
theorem d_C_dropPointer_0 : decode cc_C_dropPointer 0 = .ok (.iload_n 1, 1) := by decide +kernel
theorem d_C_dropPointer_1 : decode cc_C_dropPointer 1 = .ok (.iconst (-1), 1) := by decide +kernel
theorem d_C_dropPointer_2 : decode cc_C_dropPointer 2 = .ok (.if_icmp .ne 5, 3) := by decide +kernel
theorem d_C_dropPointer_7 : decode cc_C_dropPointer 7 = .ok (.aload_n 0, 1) := by decide +kernel
theorem d_C_dropPointer_8 : decode cc_C_dropPointer 8 = .ok (.aload_n 0, 1) := by decide +kernel
theorem d_C_dropPointer_9 : decode cc_C_dropPointer 9 = .ok (.getfield 9, 3) := by decide +kernel
theorem d_C_dropPointer_12 : decode cc_C_dropPointer 12 = .ok (.iload_n 1, 1) := by decide +kernel
theorem d_C_dropPointer_13 : decode cc_C_dropPointer 13 = .ok (.iload_n 2, 1) := by decide +kernel
theorem d_C_dropPointer_14 : decode cc_C_dropPointer 14 = .ok (.invokevirtual 28, 3) := by decide +kernel
theorem d_C_dropPointer_17 : decode cc_C_dropPointer 17 = .ok (.invokevirtual 61, 3) := by decide +kernel
theorem d_C_dropPointer_20 : decode cc_C_dropPointer 20 = .ok (.istore_n 3, 1) := by decide +kernel
theorem d_C_dropPointer_21 : decode cc_C_dropPointer 21 = .ok (.aload_n 0, 1) := by decide +kernel
theorem d_C_dropPointer_22 : decode cc_C_dropPointer 22 = .ok (.getfield 9, 3) := by decide +kernel
theorem d_C_dropPointer_25 : decode cc_C_dropPointer 25 = .ok (.iload_n 1, 1) := by decide +kernel
theorem d_C_dropPointer_26 : decode cc_C_dropPointer 26 = .ok (.iload_n 2, 1) := by decide +kernel
theorem d_C_dropPointer_27 : decode cc_C_dropPointer 27 = .ok (.iconst 0, 1) := by decide +kernel
theorem d_C_dropPointer_28 : decode cc_C_dropPointer 28 = .ok (.invokevirtual 34, 3) := by decide +kernel
theorem d_C_dropPointer_31 : decode cc_C_dropPointer 31 = .ok (.iload_n 3, 1) := by decide +kernel
theorem d_C_dropPointer_32 : decode cc_C_dropPointer 32 = .ok (.ireturn, 1) := by decide +kernel
theorem d_C_dropPointer_5 : decode cc_C_dropPointer 5 = .ok (.iconst 0, 1) := by decide +kernel
theorem d_C_dropPointer_6 : decode cc_C_dropPointer 6 = .ok (.ireturn, 1) := by decide +kernel
def f_C_dropPointer_0 (y0 : Int32) (y1 : Int32) (y2 : Nat → Int32) : Option (Int32 × (Nat → Int32)) :=
  if y0 = (-1 : Int32) then (some ((0 : Int32), y2)) else ((f_D_get y2 y0 y1).bind fun x1 => (f_C_release x1 y2).bind fun x3 => (f_D_put y0 y1 (0 : Int32) x3.2).bind fun x5 => some (x3.1, x5))
set_option maxHeartbeats 4000000 in
set_option maxRecDepth 100000 in
theorem b_C_dropPointer_0 {l : Launch} {dC : Nat → ClassId} {dI : Nat → Nat → Nat} {cI cA cL : ClassId} {q_co q_di q_pl q_dr q_jo : Nat} {vjn : Int32} {vmk : Int32} {vwr : Int32} {vP : Nat → Int32} {vJ : Nat → Int32} {p : Program} {e : Env} {s : State} {m : MethodId} {args : Array Value} {below : List Frame} {meth : Method} {c : Code} (cx : jv_cx p s m args meth c cc_C_dropPointer 4 R_Cont (some .int) ws_C_dropPointer) (hK : va_K (dC, dI) vwCl (jv_ty cI cA cL) s) {A : Nat → Prop} (hA : ∀ q : Nat, s.heap.size ≤ q → A q) {r : Int32 × (Nat → Int32)} {y0 : Int32} {y1 : Int32} {y2 : Nat → Int32} {ls : Array Slot} (hl : lv_has ls 4 [(0, .ref q_co), (1, .int y0), (2, .int y1)]) {H : Heap} {locs : List Loc} (hP : va_P (dC, dI) vwCl (w_cont cI q_co q_di q_pl q_dr q_jo vjn vmk vwr vP y2 vJ) H) (hD : va_D A (w_cont cI q_co q_di q_pl q_dr q_jo vjn vmk vwr vP y2 vJ)) (hS : va_S A s.heap H locs) (hf : f_C_dropPointer_0 y0 y1 y2 = some r) : W p l e rm_C_dropPointer s m args below meth c H locs 0 0 (MQ below (jv_Qi r.1 (dC, dI) (w_cont cI q_co q_di q_pl q_dr q_jo vjn vmk vwr vP r.2 vJ) A) args s 0 0 A) (F0 m 0 ls []) := by
  unfold f_C_dropPointer_0 at hf
  obtain ⟨hx, hb, hml, hown, hts, hr, hlocks⟩ := id cx
  refine lv_iload_n hx hb d_C_dropPointer_0 rfl (lv_at hl 1 rfl) ?_
  refine lv_iconst (v := (-1 : Int32)) hx hb d_C_dropPointer_1 (by decide) ?_
  refine lv_icmp_ne (tgt := 7) hx hb d_C_dropPointer_2 (by decide) (fun hc => ?_) (fun hc => ?_)
  · have hf := jv_if hf hc
    refine lv_aload_n hx hb d_C_dropPointer_7 rfl (lv_at hl 0 rfl) ?_
    refine lv_aload_n hx hb d_C_dropPointer_8 rfl (lv_at hl 0 rfl) ?_
    refine va_get (D := (dC, dI)) (ci := kCont) (v := .ref q_di) (C := R_Cont) (T := T_Cont) (N := 1) hx hb hts (fun w h => List.mem_cons_of_mem _ (in_Cont w h)) hown hK hP 0 rfl rfl 0 (by decide) (jv_w hts wa_122) (fun _ h9 => h9) rfl d_C_dropPointer_9 ?_
    refine lv_iload_n hx hb d_C_dropPointer_12 rfl (lv_at hl 1 rfl) ?_
    refine lv_iload_n hx hb d_C_dropPointer_13 rfl (lv_at hl 2 rfl) ?_
    obtain ⟨x1, g2, hf⟩ := jv_ob hf
    have hPc := hP.sub (ws' := (w_disk cI q_di q_pl q_dr q_jo vjn vmk vwr vP y2 vJ)) [1, 2, 3, 4] rfl
    refine jv_cs (W.runV (As := [.int y0, .int y1]) (rest := [.ref q_co]) (b := q_di) ⟨hx, hb, hml, hown, hts⟩ (c_D_get l dC dI cI cA cL q_di q_pl q_dr q_jo vjn vmk vwr vP y2 vJ y0 y1 x1 g2) (jv_cwV hts wa_124 wa_29 wa_125 wa_126 wa_127 rfl rfl yd_D_get ⟨Nat.le_of_ble_eq_true rfl, Nat.le_of_ble_eq_true rfl⟩) (jv_preV hK hPc 0 rfl rfl) rfl rfl hl.1 rfl (lv_room (Nat.le_of_ble_eq_true rfl)) d_C_dropPointer_14 ⟨Nat.zero_le _, Nat.zero_le _⟩) ?_
    obtain ⟨x3, g4, hf⟩ := jv_ob hf
    have hPc := hP.sub (ws' := (w_cont cI q_co q_di q_pl q_dr q_jo vjn vmk vwr vP y2 vJ)) [0, 1, 2, 3, 4] rfl
    have hDc := hD.sub (ws' := (w_cont cI q_co q_di q_pl q_dr q_jo vjn vmk vwr vP y2 vJ)) [0, 1, 2, 3, 4] (by decide) rfl
    have hFc := va_free (wc := (w_cont cI q_co q_di q_pl q_dr q_jo vjn vmk vwr vP y2 vJ)) hD hS hA [0, 1, 2, 3, 4] rfl
    refine jv_cwi (va_runV (As := [.int x1]) (rest := []) (b := q_co) ⟨hx, hb, hml, hown, hts⟩ (c_C_release l dC dI cI cA cL q_co q_di q_pl q_dr q_jo vjn vmk vwr vP y2 vJ x1 H.size x3 g4) (jv_cwV hts wa_165 wa_129 wa_166 wa_167 wa_168 rfl rfl yd_C_release ⟨Nat.le_of_ble_eq_true rfl, Nat.le_of_ble_eq_true rfl⟩) (jv_preVW hK hPc hDc 0 rfl rfl) rfl rfl hl.1 rfl (lv_room (Nat.le_of_ble_eq_true rfl)) d_C_dropPointer_17 ⟨Nat.zero_le _, Nat.zero_le _⟩) hS hFc (fun H1 locs hP1 hD1 hk1 hS => ?_)
    have hP : va_P (dC, dI) vwCl (w_cont cI q_co q_di q_pl q_dr q_jo vjn vmk vwr vP x3.2 vJ) H1 := hP1.sub [0, 1, 2, 3, 4] rfl
    have hD : va_D A (w_cont cI q_co q_di q_pl q_dr q_jo vjn vmk vwr vP x3.2 vJ) := (hD1.weaken (fun _ q _ h => hFc q.1 h)).sub [0, 1, 2, 3, 4] (by decide) rfl
    generalize H1 = H at hP hS ⊢
    refine lv_istore_n (lv' := [(3, .int x3.1), (0, .ref q_co), (1, .int y0), (2, .int y1)]) hx hb d_C_dropPointer_20 rfl hl (by decide) rfl (fun ls hl => ?_)
    refine lv_aload_n hx hb d_C_dropPointer_21 rfl (lv_at hl 1 rfl) ?_
    refine va_get (D := (dC, dI)) (ci := kCont) (v := .ref q_di) (C := R_Cont) (T := T_Cont) (N := 1) hx hb hts (fun w h => List.mem_cons_of_mem _ (in_Cont w h)) hown hK hP 0 rfl rfl 0 (by decide) (jv_w hts wa_122) (fun _ h9 => h9) rfl d_C_dropPointer_22 ?_
    refine lv_iload_n hx hb d_C_dropPointer_25 rfl (lv_at hl 2 rfl) ?_
    refine lv_iload_n hx hb d_C_dropPointer_26 rfl (lv_at hl 3 rfl) ?_
    refine lv_iconst (v := (0 : Int32)) hx hb d_C_dropPointer_27 (by decide) ?_
    obtain ⟨x5, g6, hf⟩ := jv_ob hf
    have hPc := hP.sub (ws' := (w_disk cI q_di q_pl q_dr q_jo vjn vmk vwr vP x3.2 vJ)) [1, 2, 3, 4] rfl
    have hDc := hD.sub (ws' := (w_disk cI q_di q_pl q_dr q_jo vjn vmk vwr vP x3.2 vJ)) [1, 2, 3, 4] (by decide) rfl
    have hFc := va_free (wc := (w_disk cI q_di q_pl q_dr q_jo vjn vmk vwr vP x3.2 vJ)) hD hS hA [1, 2, 3, 4] rfl
    refine jv_cwv (va_runV (As := [.int y0, .int y1, .int (0 : Int32)]) (rest := []) (b := q_di) ⟨hx, hb, hml, hown, hts⟩ (c_D_put l dC dI cI cA cL q_di q_pl q_dr q_jo vjn vmk vwr vP x3.2 vJ y0 y1 (0 : Int32) H.size x5 g6) (jv_cwV hts wa_143 wa_29 wa_144 wa_145 wa_146 rfl rfl yd_D_put ⟨Nat.le_of_ble_eq_true rfl, Nat.le_of_ble_eq_true rfl⟩) (jv_preVW hK hPc hDc 0 rfl rfl) rfl rfl hl.1 rfl (lv_room (Nat.le_of_ble_eq_true rfl)) d_C_dropPointer_28 ⟨Nat.zero_le _, Nat.zero_le _⟩) hS hFc (fun H1 locs hP1 hD1 hk1 hS => ?_)
    obtain ⟨hP, hD⟩ := va_join (wc := (w_disk cI q_di q_pl q_dr q_jo vjn vmk vwr vP x3.2 vJ)) (wr := [(q_co, .inr (kCont, [.ref q_di]))]) (w1 := (w_disk cI q_di q_pl q_dr q_jo vjn vmk vwr vP x5 vJ)) hP hD [1, 2, 3, 4] [0] rfl rfl (by decide) (by decide) hk1 hFc hP1 hD1
    have hP : va_P (dC, dI) vwCl (w_cont cI q_co q_di q_pl q_dr q_jo vjn vmk vwr vP x5 vJ) H1 := hP.sub [0, 1, 2, 3, 4] rfl
    have hD : va_D A (w_cont cI q_co q_di q_pl q_dr q_jo vjn vmk vwr vP x5 vJ) := hD.sub [0, 1, 2, 3, 4] (by decide) rfl
    generalize H1 = H at hP hS ⊢
    refine lv_iload_n hx hb d_C_dropPointer_31 rfl (lv_at hl 0 rfl) ?_
    obtain rfl := Option.some.inj hf
    exact W.iret hx hb hr (fun t ht hW => ⟨rfl, by rw [ht]; exact hP, hD, hS.F ht⟩) hS.2.2 d_C_dropPointer_32
  · have hf := jv_it hf hc
    refine lv_iconst (v := (0 : Int32)) hx hb d_C_dropPointer_5 (by decide) ?_
    obtain rfl := Option.some.inj hf
    exact W.iret hx hb hr (fun t ht hW => ⟨rfl, by rw [ht]; exact hP, hD, hS.F ht⟩) hS.2.2 d_C_dropPointer_6
def f_C_dropPointer (a0 : Int32) (a1 : Int32) (vD : Nat → Int32) : Option (Int32 × (Nat → Int32)) := f_C_dropPointer_0 a0 a1 vD
set_option maxHeartbeats 4000000 in
set_option maxRecDepth 100000 in
theorem c_C_dropPointer (l : Launch) (dC : Nat → ClassId) (dI : Nat → Nat → Nat) (cI cA cL : ClassId) (q_co q_di q_pl q_dr q_jo : Nat) (vjn : Int32) (vmk : Int32) (vwr : Int32) (vP : Nat → Int32) (vD : Nat → Int32) (vJ : Nat → Int32) (a0 : Int32) (a1 : Int32) (sz : Nat) (r : Int32 × (Nat → Int32)) (hf : f_C_dropPointer a0 a1 vD = some r) : Met l y_C_dropPointer ws_C_dropPointer rm_C_dropPointer (jv_Pw [.ref q_co, .int a0, .int a1] (dC, dI) (jv_ty cI cA cL) (w_cont cI q_co q_di q_pl q_dr q_jo vjn vmk vwr vP vD vJ) sz) (jv_Qi r.1 (dC, dI) (w_cont cI q_co q_di q_pl q_dr q_jo vjn vmk vwr vP r.2 vJ) (va_A (w_cont cI q_co q_di q_pl q_dr q_jo vjn vmk vwr vP vD vJ) sz)) 0 0 (va_A (w_cont cI q_co q_di q_pl q_dr q_jo vjn vmk vwr vP vD vJ) sz) := by
  refine Met.ofW (cc := cc_C_dropPointer) (maxL := 4) (ret := (some .int)) (by decide) rfl ?_
  intro p e s m args below meth c s₁ B hml hv
  obtain ⟨rfl, hsz, hP, hK, hD0⟩ := hv
  have cx : jv_cx p s m _ meth c cc_C_dropPointer 4 R_Cont (some .int) ws_C_dropPointer := ⟨B.exec, B.bytes, hml, findClass_of_methodNamed B.named, atoms_spec (ws := ws_C_dropPointer) B.pre, B.returns, B.notSynchronized⟩
  subst hsz
  have hD := hD0.self (sz := s.heap.size)
  generalize hAe : va_A (w_cont cI q_co q_di q_pl q_dr q_jo vjn vmk vwr vP vD vJ) s.heap.size = A at hD ⊢
  have hA : ∀ q : Nat, s.heap.size ≤ q → A q := fun q h => by rw [← hAe]; exact Or.inr h
  have hS : va_S A s.heap s.heap [] := va_S.rf
  have hl := lv_entry ([.ref q_co, .int a0, .int a1]) (n := 4) (Nat.le_of_ble_eq_true rfl)
  rw [lg_entry_eq]
  generalize (lg_sl ([.ref q_co, .int a0, .int a1]) ++ List.replicate (4 - (lg_sl ([.ref q_co, .int a0, .int a1])).length) Slot.unset).toArray = ls at hl ⊢
  have hl : lv_has ls 4 [(0, .ref q_co), (1, .int a0), (2, .int a1)] := hl
  exact b_C_dropPointer_0 (y0 := a0) (y1 := a1) (y2 := vD) cx hK hA (lv_sub hl [0, 1, 2] rfl) hP hD hS hf
theorem d_C_zeroBehind_0 : decode cc_C_zeroBehind 0 = .ok (.iload_n 2, 1) := by decide +kernel
theorem d_C_zeroBehind_1 : decode cc_C_zeroBehind 1 = .ok (.bipush 8, 2) := by decide +kernel
theorem d_C_zeroBehind_3 : decode cc_C_zeroBehind 3 = .ok (.irem, 1) := by decide +kernel
theorem d_C_zeroBehind_4 : decode cc_C_zeroBehind 4 = .ok (.ifCond .eq 33, 3) := by decide +kernel
theorem d_C_zeroBehind_37 : decode cc_C_zeroBehind 37 = .ok (.return_, 1) := by decide +kernel
theorem d_C_zeroBehind_7 : decode cc_C_zeroBehind 7 = .ok (.aload_n 0, 1) := by decide +kernel
theorem d_C_zeroBehind_8 : decode cc_C_zeroBehind 8 = .ok (.iload_n 1, 1) := by decide +kernel
theorem d_C_zeroBehind_9 : decode cc_C_zeroBehind 9 = .ok (.iload_n 2, 1) := by decide +kernel
theorem d_C_zeroBehind_10 : decode cc_C_zeroBehind 10 = .ok (.bipush 8, 2) := by decide +kernel
theorem d_C_zeroBehind_12 : decode cc_C_zeroBehind 12 = .ok (.idiv, 1) := by decide +kernel
theorem d_C_zeroBehind_13 : decode cc_C_zeroBehind 13 = .ok (.invokevirtual 21, 3) := by decide +kernel
theorem d_C_zeroBehind_16 : decode cc_C_zeroBehind 16 = .ok (.invokestatic 24, 3) := by decide +kernel
theorem d_C_zeroBehind_19 : decode cc_C_zeroBehind 19 = .ok (.istore_n 3, 1) := by decide +kernel
theorem d_C_zeroBehind_20 : decode cc_C_zeroBehind 20 = .ok (.iload_n 3, 1) := by decide +kernel
theorem d_C_zeroBehind_21 : decode cc_C_zeroBehind 21 = .ok (.iconst (-1), 1) := by decide +kernel
theorem d_C_zeroBehind_22 : decode cc_C_zeroBehind 22 = .ok (.if_icmp .eq 15, 3) := by decide +kernel
theorem d_C_zeroBehind_25 : decode cc_C_zeroBehind 25 = .ok (.aload_n 0, 1) := by decide +kernel
theorem d_C_zeroBehind_26 : decode cc_C_zeroBehind 26 = .ok (.getfield 9, 3) := by decide +kernel
theorem d_C_zeroBehind_29 : decode cc_C_zeroBehind 29 = .ok (.iload_n 3, 1) := by decide +kernel
theorem d_C_zeroBehind_30 : decode cc_C_zeroBehind 30 = .ok (.iload_n 2, 1) := by decide +kernel
theorem d_C_zeroBehind_31 : decode cc_C_zeroBehind 31 = .ok (.bipush 8, 2) := by decide +kernel
theorem d_C_zeroBehind_33 : decode cc_C_zeroBehind 33 = .ok (.irem, 1) := by decide +kernel
theorem d_C_zeroBehind_34 : decode cc_C_zeroBehind 34 = .ok (.invokevirtual 76, 3) := by decide +kernel
def f_C_zeroBehind_0 (y0 : Int32) (y1 : Int32) (y2 : Nat → Int32) : Option (Nat → Int32) :=
  if (y1 - y1 / (8 : Int32) * (8 : Int32)) = 0 then (some y2) else ((f_C_pointerTo y2 y0 (y1 / (8 : Int32))).bind fun x1 => (f_C_blockBehind x1).bind fun x3 => if x3 = (-1 : Int32) then (some y2) else ((f_D_zeroFrom x3 (y1 - y1 / (8 : Int32) * (8 : Int32)) y2).bind fun x5 => some x5))
set_option maxHeartbeats 4000000 in
set_option maxRecDepth 100000 in
theorem b_C_zeroBehind_0 {l : Launch} {dC : Nat → ClassId} {dI : Nat → Nat → Nat} {cI cA cL : ClassId} {q_co q_di q_pl q_dr q_jo : Nat} {vjn : Int32} {vmk : Int32} {vwr : Int32} {vP : Nat → Int32} {vJ : Nat → Int32} {p : Program} {e : Env} {s : State} {m : MethodId} {args : Array Value} {below : List Frame} {meth : Method} {c : Code} (cx : jv_cx p s m args meth c cc_C_zeroBehind 4 R_Cont none ws_C_zeroBehind) (hK : va_K (dC, dI) vwCl (jv_ty cI cA cL) s) {A : Nat → Prop} (hA : ∀ q : Nat, s.heap.size ≤ q → A q) {r : Nat → Int32} {y0 : Int32} {y1 : Int32} {y2 : Nat → Int32} {ls : Array Slot} (hl : lv_has ls 4 [(0, .ref q_co), (1, .int y0), (2, .int y1)]) {H : Heap} {locs : List Loc} (hP : va_P (dC, dI) vwCl (w_cont cI q_co q_di q_pl q_dr q_jo vjn vmk vwr vP y2 vJ) H) (hD : va_D A (w_cont cI q_co q_di q_pl q_dr q_jo vjn vmk vwr vP y2 vJ)) (hS : va_S A s.heap H locs) (hf : f_C_zeroBehind_0 y0 y1 y2 = some r) : W p l e rm_C_zeroBehind s m args below meth c H locs 0 0 (MQ below (jv_Qv (dC, dI) (w_cont cI q_co q_di q_pl q_dr q_jo vjn vmk vwr vP r vJ) A) args s 0 0 A) (F0 m 0 ls []) := by
  unfold f_C_zeroBehind_0 at hf
  obtain ⟨hx, hb, hml, hown, hts, hr, hlocks⟩ := id cx
  refine lv_iload_n hx hb d_C_zeroBehind_0 rfl (lv_at hl 2 rfl) ?_
  refine lv_bipush (v := (8 : Int32)) hx hb d_C_zeroBehind_1 (by decide) ?_
  refine lv_irem hx hb d_C_zeroBehind_3 (by decide) ?_
  refine lv_if_eq (tgt := 37) hx hb d_C_zeroBehind_4 (by decide) (fun hc => ?_) (fun hc => ?_)
  · have hf := jv_it hf hc
    obtain rfl := Option.some.inj hf
    exact W.vret hx hb hr (fun t ht hW => ⟨rfl, by rw [ht]; exact hP, hD, hS.F ht⟩) hS.2.2 d_C_zeroBehind_37
  · have hf := jv_if hf hc
    refine lv_aload_n hx hb d_C_zeroBehind_7 rfl (lv_at hl 0 rfl) ?_
    refine lv_iload_n hx hb d_C_zeroBehind_8 rfl (lv_at hl 1 rfl) ?_
    refine lv_iload_n hx hb d_C_zeroBehind_9 rfl (lv_at hl 2 rfl) ?_
    refine lv_bipush (v := (8 : Int32)) hx hb d_C_zeroBehind_10 (by decide) ?_
    refine lv_idiv hx hb d_C_zeroBehind_12 (by decide) ?_
    obtain ⟨x1, g2, hf⟩ := jv_ob hf
    have hPc := hP.sub (ws' := (w_cont cI q_co q_di q_pl q_dr q_jo vjn vmk vwr vP y2 vJ)) [0, 1, 2, 3, 4] rfl
    refine jv_cs (W.runV (As := [.int y0, .int (y1 / (8 : Int32))]) (rest := []) (b := q_co) ⟨hx, hb, hml, hown, hts⟩ (c_C_pointerTo l dC dI cI cA cL q_co q_di q_pl q_dr q_jo vjn vmk vwr vP y2 vJ y0 (y1 / (8 : Int32)) x1 g2) (jv_cwV hts wa_139 wa_129 wa_140 wa_141 wa_142 rfl rfl yd_C_pointerTo ⟨Nat.le_of_ble_eq_true rfl, Nat.le_of_ble_eq_true rfl⟩) (jv_preV hK hPc 0 rfl rfl) rfl rfl hl.1 rfl (lv_room (Nat.le_of_ble_eq_true rfl)) d_C_zeroBehind_13 ⟨Nat.zero_le _, Nat.zero_le _⟩) ?_
    obtain ⟨x3, g4, hf⟩ := jv_ob hf
    refine jv_cs (W.runS (As := [.int x1]) (rest := []) ⟨hx, hb, hml, hown, hts⟩ (c_C_blockBehind l x1 x3 g4) (jv_cwS hts wa_128 wa_129 wa_130 wa_131 rfl rfl yd_C_blockBehind ⟨Nat.le_of_ble_eq_true rfl, Nat.le_of_ble_eq_true rfl⟩) jv_pre0 rfl rfl hl.1 rfl (lv_room (Nat.le_of_ble_eq_true rfl)) d_C_zeroBehind_16 ⟨Nat.zero_le _, Nat.zero_le _⟩) ?_
    refine lv_istore_n (lv' := [(3, .int x3), (0, .ref q_co), (1, .int y0), (2, .int y1)]) hx hb d_C_zeroBehind_19 rfl hl (by decide) rfl (fun ls hl => ?_)
    refine lv_iload_n hx hb d_C_zeroBehind_20 rfl (lv_at hl 0 rfl) ?_
    refine lv_iconst (v := (-1 : Int32)) hx hb d_C_zeroBehind_21 (by decide) ?_
    refine lv_icmp_eq (tgt := 37) hx hb d_C_zeroBehind_22 (by decide) (fun hc => ?_) (fun hc => ?_)
    · have hf := jv_it hf hc
      obtain rfl := Option.some.inj hf
      exact W.vret hx hb hr (fun t ht hW => ⟨rfl, by rw [ht]; exact hP, hD, hS.F ht⟩) hS.2.2 d_C_zeroBehind_37
    · have hf := jv_if hf hc
      refine lv_aload_n hx hb d_C_zeroBehind_25 rfl (lv_at hl 1 rfl) ?_
      refine va_get (D := (dC, dI)) (ci := kCont) (v := .ref q_di) (C := R_Cont) (T := T_Cont) (N := 1) hx hb hts (fun w h => List.mem_cons_of_mem _ (in_Cont w h)) hown hK hP 0 rfl rfl 0 (by decide) (jv_w hts wa_122) (fun _ h9 => h9) rfl d_C_zeroBehind_26 ?_
      refine lv_iload_n hx hb d_C_zeroBehind_29 rfl (lv_at hl 0 rfl) ?_
      refine lv_iload_n hx hb d_C_zeroBehind_30 rfl (lv_at hl 3 rfl) ?_
      refine lv_bipush (v := (8 : Int32)) hx hb d_C_zeroBehind_31 (by decide) ?_
      refine lv_irem hx hb d_C_zeroBehind_33 (by decide) ?_
      obtain ⟨x5, g6, hf⟩ := jv_ob hf
      have hPc := hP.sub (ws' := (w_disk cI q_di q_pl q_dr q_jo vjn vmk vwr vP y2 vJ)) [1, 2, 3, 4] rfl
      have hDc := hD.sub (ws' := (w_disk cI q_di q_pl q_dr q_jo vjn vmk vwr vP y2 vJ)) [1, 2, 3, 4] (by decide) rfl
      have hFc := va_free (wc := (w_disk cI q_di q_pl q_dr q_jo vjn vmk vwr vP y2 vJ)) hD hS hA [1, 2, 3, 4] rfl
      refine jv_cwv (va_runV (As := [.int x3, .int (y1 - y1 / (8 : Int32) * (8 : Int32))]) (rest := []) (b := q_di) ⟨hx, hb, hml, hown, hts⟩ (c_D_zeroFrom l dC dI cI cA cL q_di q_pl q_dr q_jo vjn vmk vwr vP y2 vJ x3 (y1 - y1 / (8 : Int32) * (8 : Int32)) H.size x5 g6) (jv_cwV hts wa_110 wa_29 wa_147 wa_112 wa_113 rfl rfl yd_D_zeroFrom ⟨Nat.le_of_ble_eq_true rfl, Nat.le_of_ble_eq_true rfl⟩) (jv_preVW hK hPc hDc 0 rfl rfl) rfl rfl hl.1 rfl (lv_room (Nat.le_of_ble_eq_true rfl)) d_C_zeroBehind_34 ⟨Nat.zero_le _, Nat.zero_le _⟩) hS hFc (fun H1 locs hP1 hD1 hk1 hS => ?_)
      obtain ⟨hP, hD⟩ := va_join (wc := (w_disk cI q_di q_pl q_dr q_jo vjn vmk vwr vP y2 vJ)) (wr := [(q_co, .inr (kCont, [.ref q_di]))]) (w1 := (w_disk cI q_di q_pl q_dr q_jo vjn vmk vwr vP x5 vJ)) hP hD [1, 2, 3, 4] [0] rfl rfl (by decide) (by decide) hk1 hFc hP1 hD1
      have hP : va_P (dC, dI) vwCl (w_cont cI q_co q_di q_pl q_dr q_jo vjn vmk vwr vP x5 vJ) H1 := hP.sub [0, 1, 2, 3, 4] rfl
      have hD : va_D A (w_cont cI q_co q_di q_pl q_dr q_jo vjn vmk vwr vP x5 vJ) := hD.sub [0, 1, 2, 3, 4] (by decide) rfl
      generalize H1 = H at hP hS ⊢
      obtain rfl := Option.some.inj hf
      exact W.vret hx hb hr (fun t ht hW => ⟨rfl, by rw [ht]; exact hP, hD, hS.F ht⟩) hS.2.2 d_C_zeroBehind_37
def f_C_zeroBehind (a0 : Int32) (a1 : Int32) (vD : Nat → Int32) : Option (Nat → Int32) := f_C_zeroBehind_0 a0 a1 vD
set_option maxHeartbeats 4000000 in
set_option maxRecDepth 100000 in
theorem c_C_zeroBehind (l : Launch) (dC : Nat → ClassId) (dI : Nat → Nat → Nat) (cI cA cL : ClassId) (q_co q_di q_pl q_dr q_jo : Nat) (vjn : Int32) (vmk : Int32) (vwr : Int32) (vP : Nat → Int32) (vD : Nat → Int32) (vJ : Nat → Int32) (a0 : Int32) (a1 : Int32) (sz : Nat) (r : Nat → Int32) (hf : f_C_zeroBehind a0 a1 vD = some r) : Met l y_C_zeroBehind ws_C_zeroBehind rm_C_zeroBehind (jv_Pw [.ref q_co, .int a0, .int a1] (dC, dI) (jv_ty cI cA cL) (w_cont cI q_co q_di q_pl q_dr q_jo vjn vmk vwr vP vD vJ) sz) (jv_Qv (dC, dI) (w_cont cI q_co q_di q_pl q_dr q_jo vjn vmk vwr vP r vJ) (va_A (w_cont cI q_co q_di q_pl q_dr q_jo vjn vmk vwr vP vD vJ) sz)) 0 0 (va_A (w_cont cI q_co q_di q_pl q_dr q_jo vjn vmk vwr vP vD vJ) sz) := by
  refine Met.ofW (cc := cc_C_zeroBehind) (maxL := 4) (ret := none) (by decide) rfl ?_
  intro p e s m args below meth c s₁ B hml hv
  obtain ⟨rfl, hsz, hP, hK, hD0⟩ := hv
  have cx : jv_cx p s m _ meth c cc_C_zeroBehind 4 R_Cont none ws_C_zeroBehind := ⟨B.exec, B.bytes, hml, findClass_of_methodNamed B.named, atoms_spec (ws := ws_C_zeroBehind) B.pre, B.returns, B.notSynchronized⟩
  subst hsz
  have hD := hD0.self (sz := s.heap.size)
  generalize hAe : va_A (w_cont cI q_co q_di q_pl q_dr q_jo vjn vmk vwr vP vD vJ) s.heap.size = A at hD ⊢
  have hA : ∀ q : Nat, s.heap.size ≤ q → A q := fun q h => by rw [← hAe]; exact Or.inr h
  have hS : va_S A s.heap s.heap [] := va_S.rf
  have hl := lv_entry ([.ref q_co, .int a0, .int a1]) (n := 4) (Nat.le_of_ble_eq_true rfl)
  rw [lg_entry_eq]
  generalize (lg_sl ([.ref q_co, .int a0, .int a1]) ++ List.replicate (4 - (lg_sl ([.ref q_co, .int a0, .int a1])).length) Slot.unset).toArray = ls at hl ⊢
  have hl : lv_has ls 4 [(0, .ref q_co), (1, .int a0), (2, .int a1)] := hl
  exact b_C_zeroBehind_0 (y0 := a0) (y1 := a1) (y2 := vD) cx hK hA (lv_sub hl [0, 1, 2] rfl) hP hD hS hf
theorem d_C_cut_0 : decode cc_C_cut 0 = .ok (.iconst 0, 1) := by decide +kernel
theorem d_C_cut_1 : decode cc_C_cut 1 = .ok (.istore_n 3, 1) := by decide +kernel
theorem d_C_cut_2 : decode cc_C_cut 2 = .ok (.iload_n 2, 1) := by decide +kernel
theorem d_C_cut_3 : decode cc_C_cut 3 = .ok (.bipush 8, 2) := by decide +kernel
theorem d_C_cut_5 : decode cc_C_cut 5 = .ok (.iadd, 1) := by decide +kernel
theorem d_C_cut_6 : decode cc_C_cut 6 = .ok (.iconst 1, 1) := by decide +kernel
theorem d_C_cut_7 : decode cc_C_cut 7 = .ok (.isub, 1) := by decide +kernel
theorem d_C_cut_8 : decode cc_C_cut 8 = .ok (.bipush 8, 2) := by decide +kernel
theorem d_C_cut_10 : decode cc_C_cut 10 = .ok (.idiv, 1) := by decide +kernel
theorem d_C_cut_11 : decode cc_C_cut 11 = .ok (.istore 4, 2) := by decide +kernel
theorem d_C_cut_13 : decode cc_C_cut 13 = .ok (.iload 4, 2) := by decide +kernel
theorem d_C_cut_15 : decode cc_C_cut 15 = .ok (.bipush 10, 2) := by decide +kernel
theorem d_C_cut_17 : decode cc_C_cut 17 = .ok (.if_icmp .ge 28, 3) := by decide +kernel
theorem d_C_cut_45 : decode cc_C_cut 45 = .ok (.aload_n 0, 1) := by decide +kernel
theorem d_C_cut_46 : decode cc_C_cut 46 = .ok (.iload_n 1, 1) := by decide +kernel
theorem d_C_cut_47 : decode cc_C_cut 47 = .ok (.invokevirtual 53, 3) := by decide +kernel
theorem d_C_cut_50 : decode cc_C_cut 50 = .ok (.ifCond .eq 15, 3) := by decide +kernel
theorem d_C_cut_65 : decode cc_C_cut 65 = .ok (.aload_n 0, 1) := by decide +kernel
theorem d_C_cut_66 : decode cc_C_cut 66 = .ok (.iload_n 1, 1) := by decide +kernel
theorem d_C_cut_67 : decode cc_C_cut 67 = .ok (.iload_n 2, 1) := by decide +kernel
theorem d_C_cut_68 : decode cc_C_cut 68 = .ok (.invokevirtual 57, 3) := by decide +kernel
theorem d_C_cut_71 : decode cc_C_cut 71 = .ok (.aload_n 0, 1) := by decide +kernel
theorem d_C_cut_72 : decode cc_C_cut 72 = .ok (.getfield 9, 3) := by decide +kernel
theorem d_C_cut_75 : decode cc_C_cut 75 = .ok (.iload_n 1, 1) := by decide +kernel
theorem d_C_cut_76 : decode cc_C_cut 76 = .ok (.iconst 3, 1) := by decide +kernel
theorem d_C_cut_77 : decode cc_C_cut 77 = .ok (.iload_n 2, 1) := by decide +kernel
theorem d_C_cut_78 : decode cc_C_cut 78 = .ok (.invokevirtual 41, 3) := by decide +kernel
theorem d_C_cut_81 : decode cc_C_cut 81 = .ok (.iload_n 3, 1) := by decide +kernel
theorem d_C_cut_82 : decode cc_C_cut 82 = .ok (.ireturn, 1) := by decide +kernel
theorem d_C_cut_53 : decode cc_C_cut 53 = .ok (.iload_n 3, 1) := by decide +kernel
theorem d_C_cut_54 : decode cc_C_cut 54 = .ok (.aload_n 0, 1) := by decide +kernel
theorem d_C_cut_55 : decode cc_C_cut 55 = .ok (.iconst 1, 1) := by decide +kernel
theorem d_C_cut_56 : decode cc_C_cut 56 = .ok (.iload_n 1, 1) := by decide +kernel
theorem d_C_cut_57 : decode cc_C_cut 57 = .ok (.iadd, 1) := by decide +kernel
theorem d_C_cut_58 : decode cc_C_cut 58 = .ok (.bipush 6, 2) := by decide +kernel
theorem d_C_cut_60 : decode cc_C_cut 60 = .ok (.invokevirtual 50, 3) := by decide +kernel
theorem d_C_cut_63 : decode cc_C_cut 63 = .ok (.iadd, 1) := by decide +kernel
theorem d_C_cut_64 : decode cc_C_cut 64 = .ok (.istore_n 3, 1) := by decide +kernel
theorem d_C_cut_20 : decode cc_C_cut 20 = .ok (.iload_n 3, 1) := by decide +kernel
theorem d_C_cut_21 : decode cc_C_cut 21 = .ok (.aload_n 0, 1) := by decide +kernel
theorem d_C_cut_22 : decode cc_C_cut 22 = .ok (.aload_n 0, 1) := by decide +kernel
theorem d_C_cut_23 : decode cc_C_cut 23 = .ok (.iload_n 1, 1) := by decide +kernel
theorem d_C_cut_24 : decode cc_C_cut 24 = .ok (.iload 4, 2) := by decide +kernel
theorem d_C_cut_26 : decode cc_C_cut 26 = .ok (.invokevirtual 44, 3) := by decide +kernel
theorem d_C_cut_29 : decode cc_C_cut 29 = .ok (.iload 4, 2) := by decide +kernel
theorem d_C_cut_31 : decode cc_C_cut 31 = .ok (.invokestatic 47, 3) := by decide +kernel
theorem d_C_cut_34 : decode cc_C_cut 34 = .ok (.invokevirtual 50, 3) := by decide +kernel
theorem d_C_cut_37 : decode cc_C_cut 37 = .ok (.iadd, 1) := by decide +kernel
theorem d_C_cut_38 : decode cc_C_cut 38 = .ok (.istore_n 3, 1) := by decide +kernel
theorem d_C_cut_39 : decode cc_C_cut 39 = .ok (.iinc 4 1, 3) := by decide +kernel
theorem d_C_cut_42 : decode cc_C_cut 42 = .ok (.goto (-29), 3) := by decide +kernel
def f_C_cut_13 (y0 : Int32) (y1 : Int32) (k13 : (Int32 × Int32 × (Nat → Int32)) → Option (Int32 × (Nat → Int32))) (a : Int32 × Int32 × (Nat → Int32)) : Option (Int32 × (Nat → Int32)) :=
  if (10 : Int32) ≤ a.2.1 then ((f_C_isIndirectEmpty a.2.2 y0).bind fun x1 => if x1 = 0 then ((f_C_zeroBehind y0 y1 a.2.2).bind fun x3 => (f_D_putInodeWord y0 (3 : Int32) y1 x3).bind fun x5 => some (a.1, x5)) else ((f_C_dropPointer ((1 : Int32) + y0) (6 : Int32) a.2.2).bind fun x7 => (f_C_zeroBehind y0 y1 x7.2).bind fun x9 => (f_D_putInodeWord y0 (3 : Int32) y1 x9).bind fun x11 => some (a.1 + x7.1, x11))) else ((f_C_holderOf a.2.2 y0 a.2.1).bind fun x13 => (f_C_wordInHolder a.2.1).bind fun x15 => (f_C_dropPointer x13 x15 a.2.2).bind fun x17 => k13 (a.1 + x17.1, a.2.1 + (1 : Int32), x17.2))
set_option maxHeartbeats 4000000 in
set_option maxRecDepth 100000 in
theorem b_C_cut_13 {l : Launch} {dC : Nat → ClassId} {dI : Nat → Nat → Nat} {cI cA cL : ClassId} {q_co q_di q_pl q_dr q_jo : Nat} {vjn : Int32} {vmk : Int32} {vwr : Int32} {vP : Nat → Int32} {vJ : Nat → Int32} {p : Program} {e : Env} {s : State} {m : MethodId} {args : Array Value} {below : List Frame} {meth : Method} {c : Code} (cx : jv_cx p s m args meth c cc_C_cut 5 R_Cont (some .int) ws_C_cut) (hK : va_K (dC, dI) vwCl (jv_ty cI cA cL) s) {A : Nat → Prop} (hA : ∀ q : Nat, s.heap.size ≤ q → A q) {r : Int32 × (Nat → Int32)} {y0 : Int32} {y1 : Int32} {k13 : (Int32 × Int32 × (Nat → Int32)) → Option (Int32 × (Nat → Int32))} (hk13 : ∀ (a : Int32 × Int32 × (Nat → Int32)) (ls : Array Slot) (H : Heap) (locs : List Loc), lv_has ls 5 [(0, .ref q_co), (1, .int y0), (2, .int y1), (3, .int a.1), (4, .int a.2.1)] → va_P (dC, dI) vwCl (w_cont cI q_co q_di q_pl q_dr q_jo vjn vmk vwr vP a.2.2 vJ) H → va_D A (w_cont cI q_co q_di q_pl q_dr q_jo vjn vmk vwr vP a.2.2 vJ) → va_S A s.heap H locs → k13 a = some r → W p l e rm_C_cut s m args below meth c H locs 0 0 (MQ below (jv_Qi r.1 (dC, dI) (w_cont cI q_co q_di q_pl q_dr q_jo vjn vmk vwr vP r.2 vJ) A) args s 0 0 A) (F0 m 13 ls [])) {a : Int32 × Int32 × (Nat → Int32)} {ls : Array Slot} (hl : lv_has ls 5 [(0, .ref q_co), (1, .int y0), (2, .int y1), (3, .int a.1), (4, .int a.2.1)]) {H : Heap} {locs : List Loc} (hP : va_P (dC, dI) vwCl (w_cont cI q_co q_di q_pl q_dr q_jo vjn vmk vwr vP a.2.2 vJ) H) (hD : va_D A (w_cont cI q_co q_di q_pl q_dr q_jo vjn vmk vwr vP a.2.2 vJ)) (hS : va_S A s.heap H locs) (hf : f_C_cut_13 y0 y1 k13 a = some r) : W p l e rm_C_cut s m args below meth c H locs 0 0 (MQ below (jv_Qi r.1 (dC, dI) (w_cont cI q_co q_di q_pl q_dr q_jo vjn vmk vwr vP r.2 vJ) A) args s 0 0 A) (F0 m 13 ls []) := by
  unfold f_C_cut_13 at hf
  obtain ⟨hx, hb, hml, hown, hts, hr, hlocks⟩ := id cx
  refine lv_iload hx hb d_C_cut_13 (lv_at hl 4 rfl) ?_
  refine lv_bipush (v := (10 : Int32)) hx hb d_C_cut_15 (by decide) ?_
  refine lv_icmp_ge (tgt := 45) hx hb d_C_cut_17 (by decide) (fun hc => ?_) (fun hc => ?_)
  · have hf := jv_it hf hc
    refine lv_aload_n hx hb d_C_cut_45 rfl (lv_at hl 0 rfl) ?_
    refine lv_iload_n hx hb d_C_cut_46 rfl (lv_at hl 1 rfl) ?_
    obtain ⟨x1, g2, hf⟩ := jv_ob hf
    have hPc := hP.sub (ws' := (w_cont cI q_co q_di q_pl q_dr q_jo vjn vmk vwr vP a.2.2 vJ)) [0, 1, 2, 3, 4] rfl
    refine jv_cs (W.runV (As := [.int y0]) (rest := []) (b := q_co) ⟨hx, hb, hml, hown, hts⟩ (c_C_isIndirectEmpty l dC dI cI cA cL q_co q_di q_pl q_dr q_jo vjn vmk vwr vP a.2.2 vJ y0 x1 g2) (jv_cwV hts wa_169 wa_129 wa_170 wa_171 wa_172 rfl rfl yd_C_isIndirectEmpty ⟨Nat.le_of_ble_eq_true rfl, Nat.le_of_ble_eq_true rfl⟩) (jv_preV hK hPc 0 rfl rfl) rfl rfl hl.1 rfl (lv_room (Nat.le_of_ble_eq_true rfl)) d_C_cut_47 ⟨Nat.zero_le _, Nat.zero_le _⟩) ?_
    refine lv_if_eq (tgt := 65) hx hb d_C_cut_50 (by decide) (fun hc => ?_) (fun hc => ?_)
    · have hf := jv_it hf hc
      refine lv_aload_n hx hb d_C_cut_65 rfl (lv_at hl 0 rfl) ?_
      refine lv_iload_n hx hb d_C_cut_66 rfl (lv_at hl 1 rfl) ?_
      refine lv_iload_n hx hb d_C_cut_67 rfl (lv_at hl 2 rfl) ?_
      obtain ⟨x3, g4, hf⟩ := jv_ob hf
      have hPc := hP.sub (ws' := (w_cont cI q_co q_di q_pl q_dr q_jo vjn vmk vwr vP a.2.2 vJ)) [0, 1, 2, 3, 4] rfl
      have hDc := hD.sub (ws' := (w_cont cI q_co q_di q_pl q_dr q_jo vjn vmk vwr vP a.2.2 vJ)) [0, 1, 2, 3, 4] (by decide) rfl
      have hFc := va_free (wc := (w_cont cI q_co q_di q_pl q_dr q_jo vjn vmk vwr vP a.2.2 vJ)) hD hS hA [0, 1, 2, 3, 4] rfl
      refine jv_cwv (va_runV (As := [.int y0, .int y1]) (rest := []) (b := q_co) ⟨hx, hb, hml, hown, hts⟩ (c_C_zeroBehind l dC dI cI cA cL q_co q_di q_pl q_dr q_jo vjn vmk vwr vP a.2.2 vJ y0 y1 H.size x3 g4) (jv_cwV hts wa_173 wa_129 wa_174 wa_175 wa_176 rfl rfl yd_C_zeroBehind ⟨Nat.le_of_ble_eq_true rfl, Nat.le_of_ble_eq_true rfl⟩) (jv_preVW hK hPc hDc 0 rfl rfl) rfl rfl hl.1 rfl (lv_room (Nat.le_of_ble_eq_true rfl)) d_C_cut_68 ⟨Nat.zero_le _, Nat.zero_le _⟩) hS hFc (fun H1 locs hP1 hD1 hk1 hS => ?_)
      have hP : va_P (dC, dI) vwCl (w_cont cI q_co q_di q_pl q_dr q_jo vjn vmk vwr vP x3 vJ) H1 := hP1.sub [0, 1, 2, 3, 4] rfl
      have hD : va_D A (w_cont cI q_co q_di q_pl q_dr q_jo vjn vmk vwr vP x3 vJ) := (hD1.weaken (fun _ q _ h => hFc q.1 h)).sub [0, 1, 2, 3, 4] (by decide) rfl
      generalize H1 = H at hP hS ⊢
      refine lv_aload_n hx hb d_C_cut_71 rfl (lv_at hl 0 rfl) ?_
      refine va_get (D := (dC, dI)) (ci := kCont) (v := .ref q_di) (C := R_Cont) (T := T_Cont) (N := 1) hx hb hts (fun w h => List.mem_cons_of_mem _ (in_Cont w h)) hown hK hP 0 rfl rfl 0 (by decide) (jv_w hts wa_122) (fun _ h9 => h9) rfl d_C_cut_72 ?_
      refine lv_iload_n hx hb d_C_cut_75 rfl (lv_at hl 1 rfl) ?_
      refine lv_iconst (v := (3 : Int32)) hx hb d_C_cut_76 (by decide) ?_
      refine lv_iload_n hx hb d_C_cut_77 rfl (lv_at hl 2 rfl) ?_
      obtain ⟨x5, g6, hf⟩ := jv_ob hf
      have hPc := hP.sub (ws' := (w_disk cI q_di q_pl q_dr q_jo vjn vmk vwr vP x3 vJ)) [1, 2, 3, 4] rfl
      have hDc := hD.sub (ws' := (w_disk cI q_di q_pl q_dr q_jo vjn vmk vwr vP x3 vJ)) [1, 2, 3, 4] (by decide) rfl
      have hFc := va_free (wc := (w_disk cI q_di q_pl q_dr q_jo vjn vmk vwr vP x3 vJ)) hD hS hA [1, 2, 3, 4] rfl
      refine jv_cwv (va_runV (As := [.int y0, .int (3 : Int32), .int y1]) (rest := []) (b := q_di) ⟨hx, hb, hml, hown, hts⟩ (c_D_putInodeWord l dC dI cI cA cL q_di q_pl q_dr q_jo vjn vmk vwr vP x3 vJ y0 (3 : Int32) y1 H.size x5 g6) (jv_cwV hts wa_106 wa_29 wa_164 wa_108 wa_109 rfl rfl yd_D_putInodeWord ⟨Nat.le_of_ble_eq_true rfl, Nat.le_of_ble_eq_true rfl⟩) (jv_preVW hK hPc hDc 0 rfl rfl) rfl rfl hl.1 rfl (lv_room (Nat.le_of_ble_eq_true rfl)) d_C_cut_78 ⟨Nat.zero_le _, Nat.zero_le _⟩) hS hFc (fun H1 locs hP1 hD1 hk1 hS => ?_)
      obtain ⟨hP, hD⟩ := va_join (wc := (w_disk cI q_di q_pl q_dr q_jo vjn vmk vwr vP x3 vJ)) (wr := [(q_co, .inr (kCont, [.ref q_di]))]) (w1 := (w_disk cI q_di q_pl q_dr q_jo vjn vmk vwr vP x5 vJ)) hP hD [1, 2, 3, 4] [0] rfl rfl (by decide) (by decide) hk1 hFc hP1 hD1
      have hP : va_P (dC, dI) vwCl (w_cont cI q_co q_di q_pl q_dr q_jo vjn vmk vwr vP x5 vJ) H1 := hP.sub [0, 1, 2, 3, 4] rfl
      have hD : va_D A (w_cont cI q_co q_di q_pl q_dr q_jo vjn vmk vwr vP x5 vJ) := hD.sub [0, 1, 2, 3, 4] (by decide) rfl
      generalize H1 = H at hP hS ⊢
      refine lv_iload_n hx hb d_C_cut_81 rfl (lv_at hl 3 rfl) ?_
      obtain rfl := Option.some.inj hf
      exact W.iret hx hb hr (fun t ht hW => ⟨rfl, by rw [ht]; exact hP, hD, hS.F ht⟩) hS.2.2 d_C_cut_82
    · have hf := jv_if hf hc
      refine lv_iload_n hx hb d_C_cut_53 rfl (lv_at hl 3 rfl) ?_
      refine lv_aload_n hx hb d_C_cut_54 rfl (lv_at hl 0 rfl) ?_
      refine lv_iconst (v := (1 : Int32)) hx hb d_C_cut_55 (by decide) ?_
      refine lv_iload_n hx hb d_C_cut_56 rfl (lv_at hl 1 rfl) ?_
      refine lv_iadd hx hb d_C_cut_57 ?_
      refine lv_bipush (v := (6 : Int32)) hx hb d_C_cut_58 (by decide) ?_
      obtain ⟨x7, g8, hf⟩ := jv_ob hf
      have hPc := hP.sub (ws' := (w_cont cI q_co q_di q_pl q_dr q_jo vjn vmk vwr vP a.2.2 vJ)) [0, 1, 2, 3, 4] rfl
      have hDc := hD.sub (ws' := (w_cont cI q_co q_di q_pl q_dr q_jo vjn vmk vwr vP a.2.2 vJ)) [0, 1, 2, 3, 4] (by decide) rfl
      have hFc := va_free (wc := (w_cont cI q_co q_di q_pl q_dr q_jo vjn vmk vwr vP a.2.2 vJ)) hD hS hA [0, 1, 2, 3, 4] rfl
      refine jv_cwi (va_runV (As := [.int ((1 : Int32) + y0), .int (6 : Int32)]) (rest := [.int a.1]) (b := q_co) ⟨hx, hb, hml, hown, hts⟩ (c_C_dropPointer l dC dI cI cA cL q_co q_di q_pl q_dr q_jo vjn vmk vwr vP a.2.2 vJ ((1 : Int32) + y0) (6 : Int32) H.size x7 g8) (jv_cwV hts wa_177 wa_129 wa_178 wa_179 wa_180 rfl rfl yd_C_dropPointer ⟨Nat.le_of_ble_eq_true rfl, Nat.le_of_ble_eq_true rfl⟩) (jv_preVW hK hPc hDc 0 rfl rfl) rfl rfl hl.1 rfl (lv_room (Nat.le_of_ble_eq_true rfl)) d_C_cut_60 ⟨Nat.zero_le _, Nat.zero_le _⟩) hS hFc (fun H1 locs hP1 hD1 hk1 hS => ?_)
      have hP : va_P (dC, dI) vwCl (w_cont cI q_co q_di q_pl q_dr q_jo vjn vmk vwr vP x7.2 vJ) H1 := hP1.sub [0, 1, 2, 3, 4] rfl
      have hD : va_D A (w_cont cI q_co q_di q_pl q_dr q_jo vjn vmk vwr vP x7.2 vJ) := (hD1.weaken (fun _ q _ h => hFc q.1 h)).sub [0, 1, 2, 3, 4] (by decide) rfl
      generalize H1 = H at hP hS ⊢
      refine lv_iadd hx hb d_C_cut_63 ?_
      refine lv_istore_n (lv' := [(3, .int (a.1 + x7.1)), (0, .ref q_co), (1, .int y0), (2, .int y1), (4, .int a.2.1)]) hx hb d_C_cut_64 rfl hl (by decide) rfl (fun ls hl => ?_)
      refine lv_aload_n hx hb d_C_cut_65 rfl (lv_at hl 1 rfl) ?_
      refine lv_iload_n hx hb d_C_cut_66 rfl (lv_at hl 2 rfl) ?_
      refine lv_iload_n hx hb d_C_cut_67 rfl (lv_at hl 3 rfl) ?_
      obtain ⟨x9, g10, hf⟩ := jv_ob hf
      have hPc := hP.sub (ws' := (w_cont cI q_co q_di q_pl q_dr q_jo vjn vmk vwr vP x7.2 vJ)) [0, 1, 2, 3, 4] rfl
      have hDc := hD.sub (ws' := (w_cont cI q_co q_di q_pl q_dr q_jo vjn vmk vwr vP x7.2 vJ)) [0, 1, 2, 3, 4] (by decide) rfl
      have hFc := va_free (wc := (w_cont cI q_co q_di q_pl q_dr q_jo vjn vmk vwr vP x7.2 vJ)) hD hS hA [0, 1, 2, 3, 4] rfl
      refine jv_cwv (va_runV (As := [.int y0, .int y1]) (rest := []) (b := q_co) ⟨hx, hb, hml, hown, hts⟩ (c_C_zeroBehind l dC dI cI cA cL q_co q_di q_pl q_dr q_jo vjn vmk vwr vP x7.2 vJ y0 y1 H.size x9 g10) (jv_cwV hts wa_173 wa_129 wa_174 wa_175 wa_176 rfl rfl yd_C_zeroBehind ⟨Nat.le_of_ble_eq_true rfl, Nat.le_of_ble_eq_true rfl⟩) (jv_preVW hK hPc hDc 0 rfl rfl) rfl rfl hl.1 rfl (lv_room (Nat.le_of_ble_eq_true rfl)) d_C_cut_68 ⟨Nat.zero_le _, Nat.zero_le _⟩) hS hFc (fun H1 locs hP1 hD1 hk1 hS => ?_)
      have hP : va_P (dC, dI) vwCl (w_cont cI q_co q_di q_pl q_dr q_jo vjn vmk vwr vP x9 vJ) H1 := hP1.sub [0, 1, 2, 3, 4] rfl
      have hD : va_D A (w_cont cI q_co q_di q_pl q_dr q_jo vjn vmk vwr vP x9 vJ) := (hD1.weaken (fun _ q _ h => hFc q.1 h)).sub [0, 1, 2, 3, 4] (by decide) rfl
      generalize H1 = H at hP hS ⊢
      refine lv_aload_n hx hb d_C_cut_71 rfl (lv_at hl 1 rfl) ?_
      refine va_get (D := (dC, dI)) (ci := kCont) (v := .ref q_di) (C := R_Cont) (T := T_Cont) (N := 1) hx hb hts (fun w h => List.mem_cons_of_mem _ (in_Cont w h)) hown hK hP 0 rfl rfl 0 (by decide) (jv_w hts wa_122) (fun _ h9 => h9) rfl d_C_cut_72 ?_
      refine lv_iload_n hx hb d_C_cut_75 rfl (lv_at hl 2 rfl) ?_
      refine lv_iconst (v := (3 : Int32)) hx hb d_C_cut_76 (by decide) ?_
      refine lv_iload_n hx hb d_C_cut_77 rfl (lv_at hl 3 rfl) ?_
      obtain ⟨x11, g12, hf⟩ := jv_ob hf
      have hPc := hP.sub (ws' := (w_disk cI q_di q_pl q_dr q_jo vjn vmk vwr vP x9 vJ)) [1, 2, 3, 4] rfl
      have hDc := hD.sub (ws' := (w_disk cI q_di q_pl q_dr q_jo vjn vmk vwr vP x9 vJ)) [1, 2, 3, 4] (by decide) rfl
      have hFc := va_free (wc := (w_disk cI q_di q_pl q_dr q_jo vjn vmk vwr vP x9 vJ)) hD hS hA [1, 2, 3, 4] rfl
      refine jv_cwv (va_runV (As := [.int y0, .int (3 : Int32), .int y1]) (rest := []) (b := q_di) ⟨hx, hb, hml, hown, hts⟩ (c_D_putInodeWord l dC dI cI cA cL q_di q_pl q_dr q_jo vjn vmk vwr vP x9 vJ y0 (3 : Int32) y1 H.size x11 g12) (jv_cwV hts wa_106 wa_29 wa_164 wa_108 wa_109 rfl rfl yd_D_putInodeWord ⟨Nat.le_of_ble_eq_true rfl, Nat.le_of_ble_eq_true rfl⟩) (jv_preVW hK hPc hDc 0 rfl rfl) rfl rfl hl.1 rfl (lv_room (Nat.le_of_ble_eq_true rfl)) d_C_cut_78 ⟨Nat.zero_le _, Nat.zero_le _⟩) hS hFc (fun H1 locs hP1 hD1 hk1 hS => ?_)
      obtain ⟨hP, hD⟩ := va_join (wc := (w_disk cI q_di q_pl q_dr q_jo vjn vmk vwr vP x9 vJ)) (wr := [(q_co, .inr (kCont, [.ref q_di]))]) (w1 := (w_disk cI q_di q_pl q_dr q_jo vjn vmk vwr vP x11 vJ)) hP hD [1, 2, 3, 4] [0] rfl rfl (by decide) (by decide) hk1 hFc hP1 hD1
      have hP : va_P (dC, dI) vwCl (w_cont cI q_co q_di q_pl q_dr q_jo vjn vmk vwr vP x11 vJ) H1 := hP.sub [0, 1, 2, 3, 4] rfl
      have hD : va_D A (w_cont cI q_co q_di q_pl q_dr q_jo vjn vmk vwr vP x11 vJ) := hD.sub [0, 1, 2, 3, 4] (by decide) rfl
      generalize H1 = H at hP hS ⊢
      refine lv_iload_n hx hb d_C_cut_81 rfl (lv_at hl 0 rfl) ?_
      obtain rfl := Option.some.inj hf
      exact W.iret hx hb hr (fun t ht hW => ⟨rfl, by rw [ht]; exact hP, hD, hS.F ht⟩) hS.2.2 d_C_cut_82
  · have hf := jv_if hf hc
    refine lv_iload_n hx hb d_C_cut_20 rfl (lv_at hl 3 rfl) ?_
    refine lv_aload_n hx hb d_C_cut_21 rfl (lv_at hl 0 rfl) ?_
    refine lv_aload_n hx hb d_C_cut_22 rfl (lv_at hl 0 rfl) ?_
    refine lv_iload_n hx hb d_C_cut_23 rfl (lv_at hl 1 rfl) ?_
    refine lv_iload hx hb d_C_cut_24 (lv_at hl 4 rfl) ?_
    obtain ⟨x13, g14, hf⟩ := jv_ob hf
    have hPc := hP.sub (ws' := (w_cont cI q_co q_di q_pl q_dr q_jo vjn vmk vwr vP a.2.2 vJ)) [0, 1, 2, 3, 4] rfl
    refine jv_cs (W.runV (As := [.int y0, .int a.2.1]) (rest := [.ref q_co, .int a.1]) (b := q_co) ⟨hx, hb, hml, hown, hts⟩ (c_C_holderOf l dC dI cI cA cL q_co q_di q_pl q_dr q_jo vjn vmk vwr vP a.2.2 vJ y0 a.2.1 x13 g14) (jv_cwV hts wa_132 wa_129 wa_133 wa_134 wa_135 rfl rfl yd_C_holderOf ⟨Nat.le_of_ble_eq_true rfl, Nat.le_of_ble_eq_true rfl⟩) (jv_preV hK hPc 0 rfl rfl) rfl rfl hl.1 rfl (lv_room (Nat.le_of_ble_eq_true rfl)) d_C_cut_26 ⟨Nat.zero_le _, Nat.zero_le _⟩) ?_
    refine lv_iload hx hb d_C_cut_29 (lv_at hl 4 rfl) ?_
    obtain ⟨x15, g16, hf⟩ := jv_ob hf
    refine jv_cs (W.runS (As := [.int a.2.1]) (rest := [.int x13, .ref q_co, .int a.1]) ⟨hx, hb, hml, hown, hts⟩ (c_C_wordInHolder l a.2.1 x15 g16) (jv_cwS hts wa_136 wa_129 wa_137 wa_138 rfl rfl yd_C_wordInHolder ⟨Nat.le_of_ble_eq_true rfl, Nat.le_of_ble_eq_true rfl⟩) jv_pre0 rfl rfl hl.1 rfl (lv_room (Nat.le_of_ble_eq_true rfl)) d_C_cut_31 ⟨Nat.zero_le _, Nat.zero_le _⟩) ?_
    obtain ⟨x17, g18, hf⟩ := jv_ob hf
    have hPc := hP.sub (ws' := (w_cont cI q_co q_di q_pl q_dr q_jo vjn vmk vwr vP a.2.2 vJ)) [0, 1, 2, 3, 4] rfl
    have hDc := hD.sub (ws' := (w_cont cI q_co q_di q_pl q_dr q_jo vjn vmk vwr vP a.2.2 vJ)) [0, 1, 2, 3, 4] (by decide) rfl
    have hFc := va_free (wc := (w_cont cI q_co q_di q_pl q_dr q_jo vjn vmk vwr vP a.2.2 vJ)) hD hS hA [0, 1, 2, 3, 4] rfl
    refine jv_cwi (va_runV (As := [.int x13, .int x15]) (rest := [.int a.1]) (b := q_co) ⟨hx, hb, hml, hown, hts⟩ (c_C_dropPointer l dC dI cI cA cL q_co q_di q_pl q_dr q_jo vjn vmk vwr vP a.2.2 vJ x13 x15 H.size x17 g18) (jv_cwV hts wa_177 wa_129 wa_178 wa_179 wa_180 rfl rfl yd_C_dropPointer ⟨Nat.le_of_ble_eq_true rfl, Nat.le_of_ble_eq_true rfl⟩) (jv_preVW hK hPc hDc 0 rfl rfl) rfl rfl hl.1 rfl (lv_room (Nat.le_of_ble_eq_true rfl)) d_C_cut_34 ⟨Nat.zero_le _, Nat.zero_le _⟩) hS hFc (fun H1 locs hP1 hD1 hk1 hS => ?_)
    have hP : va_P (dC, dI) vwCl (w_cont cI q_co q_di q_pl q_dr q_jo vjn vmk vwr vP x17.2 vJ) H1 := hP1.sub [0, 1, 2, 3, 4] rfl
    have hD : va_D A (w_cont cI q_co q_di q_pl q_dr q_jo vjn vmk vwr vP x17.2 vJ) := (hD1.weaken (fun _ q _ h => hFc q.1 h)).sub [0, 1, 2, 3, 4] (by decide) rfl
    generalize H1 = H at hP hS ⊢
    refine lv_iadd hx hb d_C_cut_37 ?_
    refine lv_istore_n (lv' := [(3, .int (a.1 + x17.1)), (0, .ref q_co), (1, .int y0), (2, .int y1), (4, .int a.2.1)]) hx hb d_C_cut_38 rfl hl (by decide) rfl (fun ls hl => ?_)
    refine lv_iinc (k := 4) (v := a.2.1 + (1 : Int32)) (lv' := [(4, .int (a.2.1 + (1 : Int32))), (3, .int (a.1 + x17.1)), (0, .ref q_co), (1, .int y0), (2, .int y1)]) hx hb d_C_cut_39 hl rfl (jv_inc _) (by decide) rfl (fun ls hl => ?_)
    refine lv_goto (tgt := 13) hx hb d_C_cut_42 (by decide) ?_
    exact hk13 (a.1 + x17.1, a.2.1 + (1 : Int32), x17.2) _ _ _ (lv_sub hl [2, 3, 4, 1, 0] rfl) hP hD hS hf
set_option maxHeartbeats 4000000 in
set_option maxRecDepth 100000 in
theorem l_C_cut_13 {l : Launch} {dC : Nat → ClassId} {dI : Nat → Nat → Nat} {cI cA cL : ClassId} {q_co q_di q_pl q_dr q_jo : Nat} {vjn : Int32} {vmk : Int32} {vwr : Int32} {vP : Nat → Int32} {vJ : Nat → Int32} {p : Program} {e : Env} {s : State} {m : MethodId} {args : Array Value} {below : List Frame} {meth : Method} {c : Code} (cx : jv_cx p s m args meth c cc_C_cut 5 R_Cont (some .int) ws_C_cut) (hK : va_K (dC, dI) vwCl (jv_ty cI cA cL) s) {A : Nat → Prop} (hA : ∀ q : Nat, s.heap.size ≤ q → A q) {r : Int32 × (Nat → Int32)} {y0 : Int32} {y1 : Int32} : ∀ n : Nat, ∀ (a : Int32 × Int32 × (Nat → Int32)) (ls : Array Slot) (H : Heap) (locs : List Loc), lv_has ls 5 [(0, .ref q_co), (1, .int y0), (2, .int y1), (3, .int a.1), (4, .int a.2.1)] → va_P (dC, dI) vwCl (w_cont cI q_co q_di q_pl q_dr q_jo vjn vmk vwr vP a.2.2 vJ) H → va_D A (w_cont cI q_co q_di q_pl q_dr q_jo vjn vmk vwr vP a.2.2 vJ) → va_S A s.heap H locs → jv_fx (f_C_cut_13 y0 y1) n a = some r → W p l e rm_C_cut s m args below meth c H locs 0 0 (MQ below (jv_Qi r.1 (dC, dI) (w_cont cI q_co q_di q_pl q_dr q_jo vjn vmk vwr vP r.2 vJ) A) args s 0 0 A) (F0 m 13 ls []) := by
  intro n
  induction n with
  | zero => intro a ls H locs hl hP hD hS hf; exact jv_no hf
  | succ n ih => intro a ls H locs hl hP hD hS hf; exact b_C_cut_13 cx hK hA ih hl hP hD hS hf
def f_C_cut_0 (y0 : Int32) (y1 : Int32) (y2 : Nat → Int32) : Option (Int32 × (Nat → Int32)) :=
  jv_fx (f_C_cut_13 y0 y1) 300 ((0 : Int32), ((y1 + (8 : Int32)) - (1 : Int32)) / (8 : Int32), y2)
set_option maxHeartbeats 4000000 in
set_option maxRecDepth 100000 in
theorem b_C_cut_0 {l : Launch} {dC : Nat → ClassId} {dI : Nat → Nat → Nat} {cI cA cL : ClassId} {q_co q_di q_pl q_dr q_jo : Nat} {vjn : Int32} {vmk : Int32} {vwr : Int32} {vP : Nat → Int32} {vJ : Nat → Int32} {p : Program} {e : Env} {s : State} {m : MethodId} {args : Array Value} {below : List Frame} {meth : Method} {c : Code} (cx : jv_cx p s m args meth c cc_C_cut 5 R_Cont (some .int) ws_C_cut) (hK : va_K (dC, dI) vwCl (jv_ty cI cA cL) s) {A : Nat → Prop} (hA : ∀ q : Nat, s.heap.size ≤ q → A q) {r : Int32 × (Nat → Int32)} {y0 : Int32} {y1 : Int32} {y2 : Nat → Int32} {ls : Array Slot} (hl : lv_has ls 5 [(0, .ref q_co), (1, .int y0), (2, .int y1)]) {H : Heap} {locs : List Loc} (hP : va_P (dC, dI) vwCl (w_cont cI q_co q_di q_pl q_dr q_jo vjn vmk vwr vP y2 vJ) H) (hD : va_D A (w_cont cI q_co q_di q_pl q_dr q_jo vjn vmk vwr vP y2 vJ)) (hS : va_S A s.heap H locs) (hf : f_C_cut_0 y0 y1 y2 = some r) : W p l e rm_C_cut s m args below meth c H locs 0 0 (MQ below (jv_Qi r.1 (dC, dI) (w_cont cI q_co q_di q_pl q_dr q_jo vjn vmk vwr vP r.2 vJ) A) args s 0 0 A) (F0 m 0 ls []) := by
  unfold f_C_cut_0 at hf
  obtain ⟨hx, hb, hml, hown, hts, hr, hlocks⟩ := id cx
  refine lv_iconst (v := (0 : Int32)) hx hb d_C_cut_0 (by decide) ?_
  refine lv_istore_n (lv' := [(3, .int (0 : Int32)), (0, .ref q_co), (1, .int y0), (2, .int y1)]) hx hb d_C_cut_1 rfl hl (by decide) rfl (fun ls hl => ?_)
  refine lv_iload_n hx hb d_C_cut_2 rfl (lv_at hl 3 rfl) ?_
  refine lv_bipush (v := (8 : Int32)) hx hb d_C_cut_3 (by decide) ?_
  refine lv_iadd hx hb d_C_cut_5 ?_
  refine lv_iconst (v := (1 : Int32)) hx hb d_C_cut_6 (by decide) ?_
  refine lv_isub hx hb d_C_cut_7 ?_
  refine lv_bipush (v := (8 : Int32)) hx hb d_C_cut_8 (by decide) ?_
  refine lv_idiv hx hb d_C_cut_10 (by decide) ?_
  refine lv_istore (lv' := [(4, .int (((y1 + (8 : Int32)) - (1 : Int32)) / (8 : Int32))), (3, .int (0 : Int32)), (0, .ref q_co), (1, .int y0), (2, .int y1)]) hx hb d_C_cut_11 hl (by decide) rfl (fun ls hl => ?_)
  exact l_C_cut_13 (y0 := y0) (y1 := y1) cx hK hA 300 ((0 : Int32), ((y1 + (8 : Int32)) - (1 : Int32)) / (8 : Int32), y2) _ _ _ (lv_sub hl [2, 3, 4, 1, 0] rfl) hP hD hS hf
def f_C_cut (a0 : Int32) (a1 : Int32) (vD : Nat → Int32) : Option (Int32 × (Nat → Int32)) := f_C_cut_0 a0 a1 vD
set_option maxHeartbeats 4000000 in
set_option maxRecDepth 100000 in
theorem c_C_cut (l : Launch) (dC : Nat → ClassId) (dI : Nat → Nat → Nat) (cI cA cL : ClassId) (q_co q_di q_pl q_dr q_jo : Nat) (vjn : Int32) (vmk : Int32) (vwr : Int32) (vP : Nat → Int32) (vD : Nat → Int32) (vJ : Nat → Int32) (a0 : Int32) (a1 : Int32) (sz : Nat) (r : Int32 × (Nat → Int32)) (hf : f_C_cut a0 a1 vD = some r) : Met l y_C_cut ws_C_cut rm_C_cut (jv_Pw [.ref q_co, .int a0, .int a1] (dC, dI) (jv_ty cI cA cL) (w_cont cI q_co q_di q_pl q_dr q_jo vjn vmk vwr vP vD vJ) sz) (jv_Qi r.1 (dC, dI) (w_cont cI q_co q_di q_pl q_dr q_jo vjn vmk vwr vP r.2 vJ) (va_A (w_cont cI q_co q_di q_pl q_dr q_jo vjn vmk vwr vP vD vJ) sz)) 0 0 (va_A (w_cont cI q_co q_di q_pl q_dr q_jo vjn vmk vwr vP vD vJ) sz) := by
  refine Met.ofW (cc := cc_C_cut) (maxL := 5) (ret := (some .int)) (by decide) rfl ?_
  intro p e s m args below meth c s₁ B hml hv
  obtain ⟨rfl, hsz, hP, hK, hD0⟩ := hv
  have cx : jv_cx p s m _ meth c cc_C_cut 5 R_Cont (some .int) ws_C_cut := ⟨B.exec, B.bytes, hml, findClass_of_methodNamed B.named, atoms_spec (ws := ws_C_cut) B.pre, B.returns, B.notSynchronized⟩
  subst hsz
  have hD := hD0.self (sz := s.heap.size)
  generalize hAe : va_A (w_cont cI q_co q_di q_pl q_dr q_jo vjn vmk vwr vP vD vJ) s.heap.size = A at hD ⊢
  have hA : ∀ q : Nat, s.heap.size ≤ q → A q := fun q h => by rw [← hAe]; exact Or.inr h
  have hS : va_S A s.heap s.heap [] := va_S.rf
  have hl := lv_entry ([.ref q_co, .int a0, .int a1]) (n := 5) (Nat.le_of_ble_eq_true rfl)
  rw [lg_entry_eq]
  generalize (lg_sl ([.ref q_co, .int a0, .int a1]) ++ List.replicate (5 - (lg_sl ([.ref q_co, .int a0, .int a1])).length) Slot.unset).toArray = ls at hl ⊢
  have hl : lv_has ls 5 [(0, .ref q_co), (1, .int a0), (2, .int a1)] := hl
  exact b_C_cut_0 (y0 := a0) (y1 := a1) (y2 := vD) cx hK hA (lv_sub hl [0, 1, 2] rfl) hP hD hS hf
theorem d_C_releaseAll_0 : decode cc_C_releaseAll 0 = .ok (.iconst 0, 1) := by decide +kernel
theorem d_C_releaseAll_1 : decode cc_C_releaseAll 1 = .ok (.istore_n 2, 1) := by decide +kernel
theorem d_C_releaseAll_2 : decode cc_C_releaseAll 2 = .ok (.iload_n 2, 1) := by decide +kernel
theorem d_C_releaseAll_3 : decode cc_C_releaseAll 3 = .ok (.bipush 10, 2) := by decide +kernel
theorem d_C_releaseAll_5 : decode cc_C_releaseAll 5 = .ok (.if_icmp .ge 20, 3) := by decide +kernel
theorem d_C_releaseAll_25 : decode cc_C_releaseAll 25 = .ok (.aload_n 0, 1) := by decide +kernel
theorem d_C_releaseAll_26 : decode cc_C_releaseAll 26 = .ok (.aload_n 0, 1) := by decide +kernel
theorem d_C_releaseAll_27 : decode cc_C_releaseAll 27 = .ok (.getfield 9, 3) := by decide +kernel
theorem d_C_releaseAll_30 : decode cc_C_releaseAll 30 = .ok (.iload_n 1, 1) := by decide +kernel
theorem d_C_releaseAll_31 : decode cc_C_releaseAll 31 = .ok (.bipush 6, 2) := by decide +kernel
theorem d_C_releaseAll_33 : decode cc_C_releaseAll 33 = .ok (.invokevirtual 15, 3) := by decide +kernel
theorem d_C_releaseAll_36 : decode cc_C_releaseAll 36 = .ok (.invokevirtual 61, 3) := by decide +kernel
theorem d_C_releaseAll_39 : decode cc_C_releaseAll 39 = .ok (.pop, 1) := by decide +kernel
theorem d_C_releaseAll_40 : decode cc_C_releaseAll 40 = .ok (.return_, 1) := by decide +kernel
theorem d_C_releaseAll_8 : decode cc_C_releaseAll 8 = .ok (.aload_n 0, 1) := by decide +kernel
theorem d_C_releaseAll_9 : decode cc_C_releaseAll 9 = .ok (.aload_n 0, 1) := by decide +kernel
theorem d_C_releaseAll_10 : decode cc_C_releaseAll 10 = .ok (.iload_n 1, 1) := by decide +kernel
theorem d_C_releaseAll_11 : decode cc_C_releaseAll 11 = .ok (.iload_n 2, 1) := by decide +kernel
theorem d_C_releaseAll_12 : decode cc_C_releaseAll 12 = .ok (.invokevirtual 21, 3) := by decide +kernel
theorem d_C_releaseAll_15 : decode cc_C_releaseAll 15 = .ok (.invokevirtual 61, 3) := by decide +kernel
theorem d_C_releaseAll_18 : decode cc_C_releaseAll 18 = .ok (.pop, 1) := by decide +kernel
theorem d_C_releaseAll_19 : decode cc_C_releaseAll 19 = .ok (.iinc 2 1, 3) := by decide +kernel
theorem d_C_releaseAll_22 : decode cc_C_releaseAll 22 = .ok (.goto (-20), 3) := by decide +kernel
def f_C_releaseAll_2 (y0 : Int32) (k2 : (Int32 × (Nat → Int32)) → Option (Nat → Int32)) (a : Int32 × (Nat → Int32)) : Option (Nat → Int32) :=
  if (10 : Int32) ≤ a.1 then ((f_D_inodeWord a.2 y0 (6 : Int32)).bind fun x1 => (f_C_release x1 a.2).bind fun x3 => some x3.2) else ((f_C_pointerTo a.2 y0 a.1).bind fun x5 => (f_C_release x5 a.2).bind fun x7 => k2 (a.1 + (1 : Int32), x7.2))
set_option maxHeartbeats 4000000 in
set_option maxRecDepth 100000 in
theorem b_C_releaseAll_2 {l : Launch} {dC : Nat → ClassId} {dI : Nat → Nat → Nat} {cI cA cL : ClassId} {q_co q_di q_pl q_dr q_jo : Nat} {vjn : Int32} {vmk : Int32} {vwr : Int32} {vP : Nat → Int32} {vJ : Nat → Int32} {p : Program} {e : Env} {s : State} {m : MethodId} {args : Array Value} {below : List Frame} {meth : Method} {c : Code} (cx : jv_cx p s m args meth c cc_C_releaseAll 3 R_Cont none ws_C_releaseAll) (hK : va_K (dC, dI) vwCl (jv_ty cI cA cL) s) {A : Nat → Prop} (hA : ∀ q : Nat, s.heap.size ≤ q → A q) {r : Nat → Int32} {y0 : Int32} {k2 : (Int32 × (Nat → Int32)) → Option (Nat → Int32)} (hk2 : ∀ (a : Int32 × (Nat → Int32)) (ls : Array Slot) (H : Heap) (locs : List Loc), lv_has ls 3 [(0, .ref q_co), (1, .int y0), (2, .int a.1)] → va_P (dC, dI) vwCl (w_cont cI q_co q_di q_pl q_dr q_jo vjn vmk vwr vP a.2 vJ) H → va_D A (w_cont cI q_co q_di q_pl q_dr q_jo vjn vmk vwr vP a.2 vJ) → va_S A s.heap H locs → k2 a = some r → W p l e rm_C_releaseAll s m args below meth c H locs 0 0 (MQ below (jv_Qv (dC, dI) (w_cont cI q_co q_di q_pl q_dr q_jo vjn vmk vwr vP r vJ) A) args s 0 0 A) (F0 m 2 ls [])) {a : Int32 × (Nat → Int32)} {ls : Array Slot} (hl : lv_has ls 3 [(0, .ref q_co), (1, .int y0), (2, .int a.1)]) {H : Heap} {locs : List Loc} (hP : va_P (dC, dI) vwCl (w_cont cI q_co q_di q_pl q_dr q_jo vjn vmk vwr vP a.2 vJ) H) (hD : va_D A (w_cont cI q_co q_di q_pl q_dr q_jo vjn vmk vwr vP a.2 vJ)) (hS : va_S A s.heap H locs) (hf : f_C_releaseAll_2 y0 k2 a = some r) : W p l e rm_C_releaseAll s m args below meth c H locs 0 0 (MQ below (jv_Qv (dC, dI) (w_cont cI q_co q_di q_pl q_dr q_jo vjn vmk vwr vP r vJ) A) args s 0 0 A) (F0 m 2 ls []) := by
  unfold f_C_releaseAll_2 at hf
  obtain ⟨hx, hb, hml, hown, hts, hr, hlocks⟩ := id cx
  refine lv_iload_n hx hb d_C_releaseAll_2 rfl (lv_at hl 2 rfl) ?_
  refine lv_bipush (v := (10 : Int32)) hx hb d_C_releaseAll_3 (by decide) ?_
  refine lv_icmp_ge (tgt := 25) hx hb d_C_releaseAll_5 (by decide) (fun hc => ?_) (fun hc => ?_)
  · have hf := jv_it hf hc
    refine lv_aload_n hx hb d_C_releaseAll_25 rfl (lv_at hl 0 rfl) ?_
    refine lv_aload_n hx hb d_C_releaseAll_26 rfl (lv_at hl 0 rfl) ?_
    refine va_get (D := (dC, dI)) (ci := kCont) (v := .ref q_di) (C := R_Cont) (T := T_Cont) (N := 1) hx hb hts (fun w h => List.mem_cons_of_mem _ (in_Cont w h)) hown hK hP 0 rfl rfl 0 (by decide) (jv_w hts wa_122) (fun _ h9 => h9) rfl d_C_releaseAll_27 ?_
    refine lv_iload_n hx hb d_C_releaseAll_30 rfl (lv_at hl 1 rfl) ?_
    refine lv_bipush (v := (6 : Int32)) hx hb d_C_releaseAll_31 (by decide) ?_
    obtain ⟨x1, g2, hf⟩ := jv_ob hf
    have hPc := hP.sub (ws' := (w_disk cI q_di q_pl q_dr q_jo vjn vmk vwr vP a.2 vJ)) [1, 2, 3, 4] rfl
    refine jv_cs (W.runV (As := [.int y0, .int (6 : Int32)]) (rest := [.ref q_co]) (b := q_di) ⟨hx, hb, hml, hown, hts⟩ (c_D_inodeWord l dC dI cI cA cL q_di q_pl q_dr q_jo vjn vmk vwr vP a.2 vJ y0 (6 : Int32) x1 g2) (jv_cwV hts wa_68 wa_29 wa_123 wa_70 wa_71 rfl rfl yd_D_inodeWord ⟨Nat.le_of_ble_eq_true rfl, Nat.le_of_ble_eq_true rfl⟩) (jv_preV hK hPc 0 rfl rfl) rfl rfl hl.1 rfl (lv_room (Nat.le_of_ble_eq_true rfl)) d_C_releaseAll_33 ⟨Nat.zero_le _, Nat.zero_le _⟩) ?_
    obtain ⟨x3, g4, hf⟩ := jv_ob hf
    have hPc := hP.sub (ws' := (w_cont cI q_co q_di q_pl q_dr q_jo vjn vmk vwr vP a.2 vJ)) [0, 1, 2, 3, 4] rfl
    have hDc := hD.sub (ws' := (w_cont cI q_co q_di q_pl q_dr q_jo vjn vmk vwr vP a.2 vJ)) [0, 1, 2, 3, 4] (by decide) rfl
    have hFc := va_free (wc := (w_cont cI q_co q_di q_pl q_dr q_jo vjn vmk vwr vP a.2 vJ)) hD hS hA [0, 1, 2, 3, 4] rfl
    refine jv_cwi (va_runV (As := [.int x1]) (rest := []) (b := q_co) ⟨hx, hb, hml, hown, hts⟩ (c_C_release l dC dI cI cA cL q_co q_di q_pl q_dr q_jo vjn vmk vwr vP a.2 vJ x1 H.size x3 g4) (jv_cwV hts wa_165 wa_129 wa_166 wa_167 wa_168 rfl rfl yd_C_release ⟨Nat.le_of_ble_eq_true rfl, Nat.le_of_ble_eq_true rfl⟩) (jv_preVW hK hPc hDc 0 rfl rfl) rfl rfl hl.1 rfl (lv_room (Nat.le_of_ble_eq_true rfl)) d_C_releaseAll_36 ⟨Nat.zero_le _, Nat.zero_le _⟩) hS hFc (fun H1 locs hP1 hD1 hk1 hS => ?_)
    have hP : va_P (dC, dI) vwCl (w_cont cI q_co q_di q_pl q_dr q_jo vjn vmk vwr vP x3.2 vJ) H1 := hP1.sub [0, 1, 2, 3, 4] rfl
    have hD : va_D A (w_cont cI q_co q_di q_pl q_dr q_jo vjn vmk vwr vP x3.2 vJ) := (hD1.weaken (fun _ q _ h => hFc q.1 h)).sub [0, 1, 2, 3, 4] (by decide) rfl
    generalize H1 = H at hP hS ⊢
    refine lv_pop hx hb d_C_releaseAll_39 rfl ?_
    obtain rfl := Option.some.inj hf
    exact W.vret hx hb hr (fun t ht hW => ⟨rfl, by rw [ht]; exact hP, hD, hS.F ht⟩) hS.2.2 d_C_releaseAll_40
  · have hf := jv_if hf hc
    refine lv_aload_n hx hb d_C_releaseAll_8 rfl (lv_at hl 0 rfl) ?_
    refine lv_aload_n hx hb d_C_releaseAll_9 rfl (lv_at hl 0 rfl) ?_
    refine lv_iload_n hx hb d_C_releaseAll_10 rfl (lv_at hl 1 rfl) ?_
    refine lv_iload_n hx hb d_C_releaseAll_11 rfl (lv_at hl 2 rfl) ?_
    obtain ⟨x5, g6, hf⟩ := jv_ob hf
    have hPc := hP.sub (ws' := (w_cont cI q_co q_di q_pl q_dr q_jo vjn vmk vwr vP a.2 vJ)) [0, 1, 2, 3, 4] rfl
    refine jv_cs (W.runV (As := [.int y0, .int a.1]) (rest := [.ref q_co]) (b := q_co) ⟨hx, hb, hml, hown, hts⟩ (c_C_pointerTo l dC dI cI cA cL q_co q_di q_pl q_dr q_jo vjn vmk vwr vP a.2 vJ y0 a.1 x5 g6) (jv_cwV hts wa_139 wa_129 wa_140 wa_141 wa_142 rfl rfl yd_C_pointerTo ⟨Nat.le_of_ble_eq_true rfl, Nat.le_of_ble_eq_true rfl⟩) (jv_preV hK hPc 0 rfl rfl) rfl rfl hl.1 rfl (lv_room (Nat.le_of_ble_eq_true rfl)) d_C_releaseAll_12 ⟨Nat.zero_le _, Nat.zero_le _⟩) ?_
    obtain ⟨x7, g8, hf⟩ := jv_ob hf
    have hPc := hP.sub (ws' := (w_cont cI q_co q_di q_pl q_dr q_jo vjn vmk vwr vP a.2 vJ)) [0, 1, 2, 3, 4] rfl
    have hDc := hD.sub (ws' := (w_cont cI q_co q_di q_pl q_dr q_jo vjn vmk vwr vP a.2 vJ)) [0, 1, 2, 3, 4] (by decide) rfl
    have hFc := va_free (wc := (w_cont cI q_co q_di q_pl q_dr q_jo vjn vmk vwr vP a.2 vJ)) hD hS hA [0, 1, 2, 3, 4] rfl
    refine jv_cwi (va_runV (As := [.int x5]) (rest := []) (b := q_co) ⟨hx, hb, hml, hown, hts⟩ (c_C_release l dC dI cI cA cL q_co q_di q_pl q_dr q_jo vjn vmk vwr vP a.2 vJ x5 H.size x7 g8) (jv_cwV hts wa_165 wa_129 wa_166 wa_167 wa_168 rfl rfl yd_C_release ⟨Nat.le_of_ble_eq_true rfl, Nat.le_of_ble_eq_true rfl⟩) (jv_preVW hK hPc hDc 0 rfl rfl) rfl rfl hl.1 rfl (lv_room (Nat.le_of_ble_eq_true rfl)) d_C_releaseAll_15 ⟨Nat.zero_le _, Nat.zero_le _⟩) hS hFc (fun H1 locs hP1 hD1 hk1 hS => ?_)
    have hP : va_P (dC, dI) vwCl (w_cont cI q_co q_di q_pl q_dr q_jo vjn vmk vwr vP x7.2 vJ) H1 := hP1.sub [0, 1, 2, 3, 4] rfl
    have hD : va_D A (w_cont cI q_co q_di q_pl q_dr q_jo vjn vmk vwr vP x7.2 vJ) := (hD1.weaken (fun _ q _ h => hFc q.1 h)).sub [0, 1, 2, 3, 4] (by decide) rfl
    generalize H1 = H at hP hS ⊢
    refine lv_pop hx hb d_C_releaseAll_18 rfl ?_
    refine lv_iinc (k := 2) (v := a.1 + (1 : Int32)) (lv' := [(2, .int (a.1 + (1 : Int32))), (0, .ref q_co), (1, .int y0)]) hx hb d_C_releaseAll_19 hl rfl (jv_inc _) (by decide) rfl (fun ls hl => ?_)
    refine lv_goto (tgt := 2) hx hb d_C_releaseAll_22 (by decide) ?_
    exact hk2 (a.1 + (1 : Int32), x7.2) _ _ _ (lv_sub hl [1, 2, 0] rfl) hP hD hS hf
set_option maxHeartbeats 4000000 in
set_option maxRecDepth 100000 in
theorem l_C_releaseAll_2 {l : Launch} {dC : Nat → ClassId} {dI : Nat → Nat → Nat} {cI cA cL : ClassId} {q_co q_di q_pl q_dr q_jo : Nat} {vjn : Int32} {vmk : Int32} {vwr : Int32} {vP : Nat → Int32} {vJ : Nat → Int32} {p : Program} {e : Env} {s : State} {m : MethodId} {args : Array Value} {below : List Frame} {meth : Method} {c : Code} (cx : jv_cx p s m args meth c cc_C_releaseAll 3 R_Cont none ws_C_releaseAll) (hK : va_K (dC, dI) vwCl (jv_ty cI cA cL) s) {A : Nat → Prop} (hA : ∀ q : Nat, s.heap.size ≤ q → A q) {r : Nat → Int32} {y0 : Int32} : ∀ n : Nat, ∀ (a : Int32 × (Nat → Int32)) (ls : Array Slot) (H : Heap) (locs : List Loc), lv_has ls 3 [(0, .ref q_co), (1, .int y0), (2, .int a.1)] → va_P (dC, dI) vwCl (w_cont cI q_co q_di q_pl q_dr q_jo vjn vmk vwr vP a.2 vJ) H → va_D A (w_cont cI q_co q_di q_pl q_dr q_jo vjn vmk vwr vP a.2 vJ) → va_S A s.heap H locs → jv_fx (f_C_releaseAll_2 y0) n a = some r → W p l e rm_C_releaseAll s m args below meth c H locs 0 0 (MQ below (jv_Qv (dC, dI) (w_cont cI q_co q_di q_pl q_dr q_jo vjn vmk vwr vP r vJ) A) args s 0 0 A) (F0 m 2 ls []) := by
  intro n
  induction n with
  | zero => intro a ls H locs hl hP hD hS hf; exact jv_no hf
  | succ n ih => intro a ls H locs hl hP hD hS hf; exact b_C_releaseAll_2 cx hK hA ih hl hP hD hS hf
def f_C_releaseAll_0 (y0 : Int32) (y1 : Nat → Int32) : Option (Nat → Int32) :=
  jv_fx (f_C_releaseAll_2 y0) 300 ((0 : Int32), y1)
set_option maxHeartbeats 4000000 in
set_option maxRecDepth 100000 in
theorem b_C_releaseAll_0 {l : Launch} {dC : Nat → ClassId} {dI : Nat → Nat → Nat} {cI cA cL : ClassId} {q_co q_di q_pl q_dr q_jo : Nat} {vjn : Int32} {vmk : Int32} {vwr : Int32} {vP : Nat → Int32} {vJ : Nat → Int32} {p : Program} {e : Env} {s : State} {m : MethodId} {args : Array Value} {below : List Frame} {meth : Method} {c : Code} (cx : jv_cx p s m args meth c cc_C_releaseAll 3 R_Cont none ws_C_releaseAll) (hK : va_K (dC, dI) vwCl (jv_ty cI cA cL) s) {A : Nat → Prop} (hA : ∀ q : Nat, s.heap.size ≤ q → A q) {r : Nat → Int32} {y0 : Int32} {y1 : Nat → Int32} {ls : Array Slot} (hl : lv_has ls 3 [(0, .ref q_co), (1, .int y0)]) {H : Heap} {locs : List Loc} (hP : va_P (dC, dI) vwCl (w_cont cI q_co q_di q_pl q_dr q_jo vjn vmk vwr vP y1 vJ) H) (hD : va_D A (w_cont cI q_co q_di q_pl q_dr q_jo vjn vmk vwr vP y1 vJ)) (hS : va_S A s.heap H locs) (hf : f_C_releaseAll_0 y0 y1 = some r) : W p l e rm_C_releaseAll s m args below meth c H locs 0 0 (MQ below (jv_Qv (dC, dI) (w_cont cI q_co q_di q_pl q_dr q_jo vjn vmk vwr vP r vJ) A) args s 0 0 A) (F0 m 0 ls []) := by
  unfold f_C_releaseAll_0 at hf
  obtain ⟨hx, hb, hml, hown, hts, hr, hlocks⟩ := id cx
  refine lv_iconst (v := (0 : Int32)) hx hb d_C_releaseAll_0 (by decide) ?_
  refine lv_istore_n (lv' := [(2, .int (0 : Int32)), (0, .ref q_co), (1, .int y0)]) hx hb d_C_releaseAll_1 rfl hl (by decide) rfl (fun ls hl => ?_)
  exact l_C_releaseAll_2 (y0 := y0) cx hK hA 300 ((0 : Int32), y1) _ _ _ (lv_sub hl [1, 2, 0] rfl) hP hD hS hf
def f_C_releaseAll (a0 : Int32) (vD : Nat → Int32) : Option (Nat → Int32) := f_C_releaseAll_0 a0 vD
set_option maxHeartbeats 4000000 in
set_option maxRecDepth 100000 in
theorem c_C_releaseAll (l : Launch) (dC : Nat → ClassId) (dI : Nat → Nat → Nat) (cI cA cL : ClassId) (q_co q_di q_pl q_dr q_jo : Nat) (vjn : Int32) (vmk : Int32) (vwr : Int32) (vP : Nat → Int32) (vD : Nat → Int32) (vJ : Nat → Int32) (a0 : Int32) (sz : Nat) (r : Nat → Int32) (hf : f_C_releaseAll a0 vD = some r) : Met l y_C_releaseAll ws_C_releaseAll rm_C_releaseAll (jv_Pw [.ref q_co, .int a0] (dC, dI) (jv_ty cI cA cL) (w_cont cI q_co q_di q_pl q_dr q_jo vjn vmk vwr vP vD vJ) sz) (jv_Qv (dC, dI) (w_cont cI q_co q_di q_pl q_dr q_jo vjn vmk vwr vP r vJ) (va_A (w_cont cI q_co q_di q_pl q_dr q_jo vjn vmk vwr vP vD vJ) sz)) 0 0 (va_A (w_cont cI q_co q_di q_pl q_dr q_jo vjn vmk vwr vP vD vJ) sz) := by
  refine Met.ofW (cc := cc_C_releaseAll) (maxL := 3) (ret := none) (by decide) rfl ?_
  intro p e s m args below meth c s₁ B hml hv
  obtain ⟨rfl, hsz, hP, hK, hD0⟩ := hv
  have cx : jv_cx p s m _ meth c cc_C_releaseAll 3 R_Cont none ws_C_releaseAll := ⟨B.exec, B.bytes, hml, findClass_of_methodNamed B.named, atoms_spec (ws := ws_C_releaseAll) B.pre, B.returns, B.notSynchronized⟩
  subst hsz
  have hD := hD0.self (sz := s.heap.size)
  generalize hAe : va_A (w_cont cI q_co q_di q_pl q_dr q_jo vjn vmk vwr vP vD vJ) s.heap.size = A at hD ⊢
  have hA : ∀ q : Nat, s.heap.size ≤ q → A q := fun q h => by rw [← hAe]; exact Or.inr h
  have hS : va_S A s.heap s.heap [] := va_S.rf
  have hl := lv_entry ([.ref q_co, .int a0]) (n := 3) (Nat.le_of_ble_eq_true rfl)
  rw [lg_entry_eq]
  generalize (lg_sl ([.ref q_co, .int a0]) ++ List.replicate (3 - (lg_sl ([.ref q_co, .int a0])).length) Slot.unset).toArray = ls at hl ⊢
  have hl : lv_has ls 3 [(0, .ref q_co), (1, .int a0)] := hl
  exact b_C_releaseAll_0 (y0 := a0) (y1 := vD) cx hK hA (lv_sub hl [0, 1] rfl) hP hD hS hf
theorem d_J_bitCount_0 : decode cc_J_bitCount 0 = .ok (.iload_n 0, 1) := by decide +kernel
theorem d_J_bitCount_1 : decode cc_J_bitCount 1 = .ok (.iload_n 0, 1) := by decide +kernel
theorem d_J_bitCount_2 : decode cc_J_bitCount 2 = .ok (.iconst 1, 1) := by decide +kernel
theorem d_J_bitCount_3 : decode cc_J_bitCount 3 = .ok (.iushr, 1) := by decide +kernel
theorem d_J_bitCount_4 : decode cc_J_bitCount 4 = .ok (.ldc_w 265, 3) := by decide +kernel
theorem d_J_bitCount_7 : decode cc_J_bitCount 7 = .ok (.iand, 1) := by decide +kernel
theorem d_J_bitCount_8 : decode cc_J_bitCount 8 = .ok (.isub, 1) := by decide +kernel
theorem d_J_bitCount_9 : decode cc_J_bitCount 9 = .ok (.istore_n 0, 1) := by decide +kernel
theorem d_J_bitCount_10 : decode cc_J_bitCount 10 = .ok (.iload_n 0, 1) := by decide +kernel
theorem d_J_bitCount_11 : decode cc_J_bitCount 11 = .ok (.ldc_w 266, 3) := by decide +kernel
theorem d_J_bitCount_14 : decode cc_J_bitCount 14 = .ok (.iand, 1) := by decide +kernel
theorem d_J_bitCount_15 : decode cc_J_bitCount 15 = .ok (.iload_n 0, 1) := by decide +kernel
theorem d_J_bitCount_16 : decode cc_J_bitCount 16 = .ok (.iconst 2, 1) := by decide +kernel
theorem d_J_bitCount_17 : decode cc_J_bitCount 17 = .ok (.iushr, 1) := by decide +kernel
theorem d_J_bitCount_18 : decode cc_J_bitCount 18 = .ok (.ldc_w 266, 3) := by decide +kernel
theorem d_J_bitCount_21 : decode cc_J_bitCount 21 = .ok (.iand, 1) := by decide +kernel
theorem d_J_bitCount_22 : decode cc_J_bitCount 22 = .ok (.iadd, 1) := by decide +kernel
theorem d_J_bitCount_23 : decode cc_J_bitCount 23 = .ok (.istore_n 0, 1) := by decide +kernel
theorem d_J_bitCount_24 : decode cc_J_bitCount 24 = .ok (.iload_n 0, 1) := by decide +kernel
theorem d_J_bitCount_25 : decode cc_J_bitCount 25 = .ok (.iload_n 0, 1) := by decide +kernel
theorem d_J_bitCount_26 : decode cc_J_bitCount 26 = .ok (.iconst 4, 1) := by decide +kernel
theorem d_J_bitCount_27 : decode cc_J_bitCount 27 = .ok (.iushr, 1) := by decide +kernel
theorem d_J_bitCount_28 : decode cc_J_bitCount 28 = .ok (.iadd, 1) := by decide +kernel
theorem d_J_bitCount_29 : decode cc_J_bitCount 29 = .ok (.ldc_w 267, 3) := by decide +kernel
theorem d_J_bitCount_32 : decode cc_J_bitCount 32 = .ok (.iand, 1) := by decide +kernel
theorem d_J_bitCount_33 : decode cc_J_bitCount 33 = .ok (.istore_n 0, 1) := by decide +kernel
theorem d_J_bitCount_34 : decode cc_J_bitCount 34 = .ok (.iload_n 0, 1) := by decide +kernel
theorem d_J_bitCount_35 : decode cc_J_bitCount 35 = .ok (.iload_n 0, 1) := by decide +kernel
theorem d_J_bitCount_36 : decode cc_J_bitCount 36 = .ok (.bipush 8, 2) := by decide +kernel
theorem d_J_bitCount_38 : decode cc_J_bitCount 38 = .ok (.iushr, 1) := by decide +kernel
theorem d_J_bitCount_39 : decode cc_J_bitCount 39 = .ok (.iadd, 1) := by decide +kernel
theorem d_J_bitCount_40 : decode cc_J_bitCount 40 = .ok (.istore_n 0, 1) := by decide +kernel
theorem d_J_bitCount_41 : decode cc_J_bitCount 41 = .ok (.iload_n 0, 1) := by decide +kernel
theorem d_J_bitCount_42 : decode cc_J_bitCount 42 = .ok (.iload_n 0, 1) := by decide +kernel
theorem d_J_bitCount_43 : decode cc_J_bitCount 43 = .ok (.bipush 16, 2) := by decide +kernel
theorem d_J_bitCount_45 : decode cc_J_bitCount 45 = .ok (.iushr, 1) := by decide +kernel
theorem d_J_bitCount_46 : decode cc_J_bitCount 46 = .ok (.iadd, 1) := by decide +kernel
theorem d_J_bitCount_47 : decode cc_J_bitCount 47 = .ok (.istore_n 0, 1) := by decide +kernel
theorem d_J_bitCount_48 : decode cc_J_bitCount 48 = .ok (.iload_n 0, 1) := by decide +kernel
theorem d_J_bitCount_49 : decode cc_J_bitCount 49 = .ok (.bipush 63, 2) := by decide +kernel
theorem d_J_bitCount_51 : decode cc_J_bitCount 51 = .ok (.iand, 1) := by decide +kernel
theorem d_J_bitCount_52 : decode cc_J_bitCount 52 = .ok (.ireturn, 1) := by decide +kernel
def f_J_bitCount_48 (y0 : Int32) : Option (Int32) :=
  some (y0 &&& (63 : Int32))
set_option maxHeartbeats 4000000 in
set_option maxRecDepth 100000 in
theorem b_J_bitCount_48 {l : Launch} {p : Program} {e : Env} {s : State} {m : MethodId} {args : Array Value} {below : List Frame} {meth : Method} {c : Code} (cx : jv_cx p s m args meth c cc_J_bitCount 1 R_Integer (some .int) ws_J_bitCount) {r : Int32} {y0 : Int32} {ls : Array Slot} (hl : lv_has ls 1 [(0, .int y0)]) (hf : f_J_bitCount_48 y0 = some r) : W p l e rm_J_bitCount s m args below meth c s.heap [] 0 0 (MQ below (QcRead r) args s 0 0 (fun _ => False)) (F0 m 48 ls []) := by
  unfold f_J_bitCount_48 at hf
  obtain ⟨hx, hb, hml, hown, hts, hr, hlocks⟩ := id cx
  refine lv_iload_n hx hb d_J_bitCount_48 rfl (lv_at hl 0 rfl) ?_
  refine lv_bipush (v := (63 : Int32)) hx hb d_J_bitCount_49 (by decide) ?_
  refine lv_iand hx hb d_J_bitCount_51 ?_
  obtain rfl := Option.some.inj hf
  exact W.iret hx hb hr (fun t ht hW => ⟨rfl, ht⟩) (fun q h => by cases h) d_J_bitCount_52
def f_J_bitCount_41 (y0 : Int32) : Option (Int32) :=
  f_J_bitCount_48 (y0 + ((y0.toUInt32 >>> ((16 : Int32).toUInt32 &&& Int32.toUInt32 31)).toInt32))
set_option maxHeartbeats 4000000 in
set_option maxRecDepth 100000 in
theorem b_J_bitCount_41 {l : Launch} {p : Program} {e : Env} {s : State} {m : MethodId} {args : Array Value} {below : List Frame} {meth : Method} {c : Code} (cx : jv_cx p s m args meth c cc_J_bitCount 1 R_Integer (some .int) ws_J_bitCount) {r : Int32} {y0 : Int32} {ls : Array Slot} (hl : lv_has ls 1 [(0, .int y0)]) (hf : f_J_bitCount_41 y0 = some r) : W p l e rm_J_bitCount s m args below meth c s.heap [] 0 0 (MQ below (QcRead r) args s 0 0 (fun _ => False)) (F0 m 41 ls []) := by
  unfold f_J_bitCount_41 at hf
  obtain ⟨hx, hb, hml, hown, hts, hr, hlocks⟩ := id cx
  refine lv_iload_n hx hb d_J_bitCount_41 rfl (lv_at hl 0 rfl) ?_
  refine lv_iload_n hx hb d_J_bitCount_42 rfl (lv_at hl 0 rfl) ?_
  refine lv_bipush (v := (16 : Int32)) hx hb d_J_bitCount_43 (by decide) ?_
  refine lv_iushr (v := (y0.toUInt32 >>> ((16 : Int32).toUInt32 &&& Int32.toUInt32 31)).toInt32) hx hb d_J_bitCount_45 rfl ?_
  refine lv_iadd hx hb d_J_bitCount_46 ?_
  refine lv_istore_n (lv' := [(0, .int (y0 + ((y0.toUInt32 >>> ((16 : Int32).toUInt32 &&& Int32.toUInt32 31)).toInt32)))]) hx hb d_J_bitCount_47 rfl hl (by decide) rfl (fun ls hl => ?_)
  exact b_J_bitCount_48 (y0 := y0 + ((y0.toUInt32 >>> ((16 : Int32).toUInt32 &&& Int32.toUInt32 31)).toInt32)) cx (lv_sub hl [0] rfl) hf
def f_J_bitCount_34 (y0 : Int32) : Option (Int32) :=
  f_J_bitCount_41 (y0 + ((y0.toUInt32 >>> ((8 : Int32).toUInt32 &&& Int32.toUInt32 31)).toInt32))
set_option maxHeartbeats 4000000 in
set_option maxRecDepth 100000 in
theorem b_J_bitCount_34 {l : Launch} {p : Program} {e : Env} {s : State} {m : MethodId} {args : Array Value} {below : List Frame} {meth : Method} {c : Code} (cx : jv_cx p s m args meth c cc_J_bitCount 1 R_Integer (some .int) ws_J_bitCount) {r : Int32} {y0 : Int32} {ls : Array Slot} (hl : lv_has ls 1 [(0, .int y0)]) (hf : f_J_bitCount_34 y0 = some r) : W p l e rm_J_bitCount s m args below meth c s.heap [] 0 0 (MQ below (QcRead r) args s 0 0 (fun _ => False)) (F0 m 34 ls []) := by
  unfold f_J_bitCount_34 at hf
  obtain ⟨hx, hb, hml, hown, hts, hr, hlocks⟩ := id cx
  refine lv_iload_n hx hb d_J_bitCount_34 rfl (lv_at hl 0 rfl) ?_
  refine lv_iload_n hx hb d_J_bitCount_35 rfl (lv_at hl 0 rfl) ?_
  refine lv_bipush (v := (8 : Int32)) hx hb d_J_bitCount_36 (by decide) ?_
  refine lv_iushr (v := (y0.toUInt32 >>> ((8 : Int32).toUInt32 &&& Int32.toUInt32 31)).toInt32) hx hb d_J_bitCount_38 rfl ?_
  refine lv_iadd hx hb d_J_bitCount_39 ?_
  refine lv_istore_n (lv' := [(0, .int (y0 + ((y0.toUInt32 >>> ((8 : Int32).toUInt32 &&& Int32.toUInt32 31)).toInt32)))]) hx hb d_J_bitCount_40 rfl hl (by decide) rfl (fun ls hl => ?_)
  exact b_J_bitCount_41 (y0 := y0 + ((y0.toUInt32 >>> ((8 : Int32).toUInt32 &&& Int32.toUInt32 31)).toInt32)) cx (lv_sub hl [0] rfl) hf
def f_J_bitCount_24 (y0 : Int32) : Option (Int32) :=
  f_J_bitCount_34 ((y0 + ((y0.toUInt32 >>> ((4 : Int32).toUInt32 &&& Int32.toUInt32 31)).toInt32)) &&& (252645135 : Int32))
set_option maxHeartbeats 4000000 in
set_option maxRecDepth 100000 in
theorem b_J_bitCount_24 {l : Launch} {p : Program} {e : Env} {s : State} {m : MethodId} {args : Array Value} {below : List Frame} {meth : Method} {c : Code} (cx : jv_cx p s m args meth c cc_J_bitCount 1 R_Integer (some .int) ws_J_bitCount) {r : Int32} {y0 : Int32} {ls : Array Slot} (hl : lv_has ls 1 [(0, .int y0)]) (hf : f_J_bitCount_24 y0 = some r) : W p l e rm_J_bitCount s m args below meth c s.heap [] 0 0 (MQ below (QcRead r) args s 0 0 (fun _ => False)) (F0 m 24 ls []) := by
  unfold f_J_bitCount_24 at hf
  obtain ⟨hx, hb, hml, hown, hts, hr, hlocks⟩ := id cx
  refine lv_iload_n hx hb d_J_bitCount_24 rfl (lv_at hl 0 rfl) ?_
  refine lv_iload_n hx hb d_J_bitCount_25 rfl (lv_at hl 0 rfl) ?_
  refine lv_iconst (v := (4 : Int32)) hx hb d_J_bitCount_26 (by decide) ?_
  refine lv_iushr (v := (y0.toUInt32 >>> ((4 : Int32).toUInt32 &&& Int32.toUInt32 31)).toInt32) hx hb d_J_bitCount_27 rfl ?_
  refine lv_iadd hx hb d_J_bitCount_28 ?_
  refine lv_ldcw (v := (252645135 : Int32)) hx hb hown (jv_w hts wa_183) d_J_bitCount_29 ?_
  refine lv_iand hx hb d_J_bitCount_32 ?_
  refine lv_istore_n (lv' := [(0, .int ((y0 + ((y0.toUInt32 >>> ((4 : Int32).toUInt32 &&& Int32.toUInt32 31)).toInt32)) &&& (252645135 : Int32)))]) hx hb d_J_bitCount_33 rfl hl (by decide) rfl (fun ls hl => ?_)
  exact b_J_bitCount_34 (y0 := (y0 + ((y0.toUInt32 >>> ((4 : Int32).toUInt32 &&& Int32.toUInt32 31)).toInt32)) &&& (252645135 : Int32)) cx (lv_sub hl [0] rfl) hf
def f_J_bitCount_10 (y0 : Int32) : Option (Int32) :=
  f_J_bitCount_24 ((y0 &&& (858993459 : Int32)) + (((y0.toUInt32 >>> ((2 : Int32).toUInt32 &&& Int32.toUInt32 31)).toInt32) &&& (858993459 : Int32)))
set_option maxHeartbeats 4000000 in
set_option maxRecDepth 100000 in
theorem b_J_bitCount_10 {l : Launch} {p : Program} {e : Env} {s : State} {m : MethodId} {args : Array Value} {below : List Frame} {meth : Method} {c : Code} (cx : jv_cx p s m args meth c cc_J_bitCount 1 R_Integer (some .int) ws_J_bitCount) {r : Int32} {y0 : Int32} {ls : Array Slot} (hl : lv_has ls 1 [(0, .int y0)]) (hf : f_J_bitCount_10 y0 = some r) : W p l e rm_J_bitCount s m args below meth c s.heap [] 0 0 (MQ below (QcRead r) args s 0 0 (fun _ => False)) (F0 m 10 ls []) := by
  unfold f_J_bitCount_10 at hf
  obtain ⟨hx, hb, hml, hown, hts, hr, hlocks⟩ := id cx
  refine lv_iload_n hx hb d_J_bitCount_10 rfl (lv_at hl 0 rfl) ?_
  refine lv_ldcw (v := (858993459 : Int32)) hx hb hown (jv_w hts wa_182) d_J_bitCount_11 ?_
  refine lv_iand hx hb d_J_bitCount_14 ?_
  refine lv_iload_n hx hb d_J_bitCount_15 rfl (lv_at hl 0 rfl) ?_
  refine lv_iconst (v := (2 : Int32)) hx hb d_J_bitCount_16 (by decide) ?_
  refine lv_iushr (v := (y0.toUInt32 >>> ((2 : Int32).toUInt32 &&& Int32.toUInt32 31)).toInt32) hx hb d_J_bitCount_17 rfl ?_
  refine lv_ldcw (v := (858993459 : Int32)) hx hb hown (jv_w hts wa_182) d_J_bitCount_18 ?_
  refine lv_iand hx hb d_J_bitCount_21 ?_
  refine lv_iadd hx hb d_J_bitCount_22 ?_
  refine lv_istore_n (lv' := [(0, .int ((y0 &&& (858993459 : Int32)) + (((y0.toUInt32 >>> ((2 : Int32).toUInt32 &&& Int32.toUInt32 31)).toInt32) &&& (858993459 : Int32))))]) hx hb d_J_bitCount_23 rfl hl (by decide) rfl (fun ls hl => ?_)
  exact b_J_bitCount_24 (y0 := (y0 &&& (858993459 : Int32)) + (((y0.toUInt32 >>> ((2 : Int32).toUInt32 &&& Int32.toUInt32 31)).toInt32) &&& (858993459 : Int32))) cx (lv_sub hl [0] rfl) hf
def f_J_bitCount_0 (y0 : Int32) : Option (Int32) :=
  f_J_bitCount_10 (y0 - (((y0.toUInt32 >>> ((1 : Int32).toUInt32 &&& Int32.toUInt32 31)).toInt32) &&& (1431655765 : Int32)))
set_option maxHeartbeats 4000000 in
set_option maxRecDepth 100000 in
theorem b_J_bitCount_0 {l : Launch} {p : Program} {e : Env} {s : State} {m : MethodId} {args : Array Value} {below : List Frame} {meth : Method} {c : Code} (cx : jv_cx p s m args meth c cc_J_bitCount 1 R_Integer (some .int) ws_J_bitCount) {r : Int32} {y0 : Int32} {ls : Array Slot} (hl : lv_has ls 1 [(0, .int y0)]) (hf : f_J_bitCount_0 y0 = some r) : W p l e rm_J_bitCount s m args below meth c s.heap [] 0 0 (MQ below (QcRead r) args s 0 0 (fun _ => False)) (F0 m 0 ls []) := by
  unfold f_J_bitCount_0 at hf
  obtain ⟨hx, hb, hml, hown, hts, hr, hlocks⟩ := id cx
  refine lv_iload_n hx hb d_J_bitCount_0 rfl (lv_at hl 0 rfl) ?_
  refine lv_iload_n hx hb d_J_bitCount_1 rfl (lv_at hl 0 rfl) ?_
  refine lv_iconst (v := (1 : Int32)) hx hb d_J_bitCount_2 (by decide) ?_
  refine lv_iushr (v := (y0.toUInt32 >>> ((1 : Int32).toUInt32 &&& Int32.toUInt32 31)).toInt32) hx hb d_J_bitCount_3 rfl ?_
  refine lv_ldcw (v := (1431655765 : Int32)) hx hb hown (jv_w hts wa_181) d_J_bitCount_4 ?_
  refine lv_iand hx hb d_J_bitCount_7 ?_
  refine lv_isub hx hb d_J_bitCount_8 ?_
  refine lv_istore_n (lv' := [(0, .int (y0 - (((y0.toUInt32 >>> ((1 : Int32).toUInt32 &&& Int32.toUInt32 31)).toInt32) &&& (1431655765 : Int32))))]) hx hb d_J_bitCount_9 rfl hl (by decide) rfl (fun ls hl => ?_)
  exact b_J_bitCount_10 (y0 := y0 - (((y0.toUInt32 >>> ((1 : Int32).toUInt32 &&& Int32.toUInt32 31)).toInt32) &&& (1431655765 : Int32))) cx (lv_sub hl [0] rfl) hf
def f_J_bitCount (a0 : Int32) : Option (Int32) := f_J_bitCount_0 a0
set_option maxHeartbeats 4000000 in
set_option maxRecDepth 100000 in
theorem c_J_bitCount (l : Launch) (a0 : Int32) (r : Int32) (hf : f_J_bitCount a0 = some r) : Met l y_J_bitCount ws_J_bitCount rm_J_bitCount (jv_P0 [.int a0]) (QcRead r) 0 0 (fun _ => False) := by
  refine Met.ofW (cc := cc_J_bitCount) (maxL := 1) (ret := (some .int)) (by decide) rfl ?_
  intro p e s m args below meth c s₁ B hml hv
  obtain ⟨rfl, -⟩ := hv
  have cx : jv_cx p s m _ meth c cc_J_bitCount 1 R_Integer (some .int) ws_J_bitCount := ⟨B.exec, B.bytes, hml, findClass_of_methodNamed B.named, atoms_spec (ws := ws_J_bitCount) B.pre, B.returns, B.notSynchronized⟩
  have hl := lv_entry ([.int a0]) (n := 1) (Nat.le_of_ble_eq_true rfl)
  rw [lg_entry_eq]
  generalize (lg_sl ([.int a0]) ++ List.replicate (1 - (lg_sl ([.int a0])).length) Slot.unset).toArray = ls at hl ⊢
  have hl : lv_has ls 1 [(0, .int a0)] := hl
  exact b_J_bitCount_0 (y0 := a0) cx (lv_sub hl [0] rfl) hf
theorem d_C_countFree_0 : decode cc_C_countFree 0 = .ok (.bipush 20, 2) := by decide +kernel
theorem d_C_countFree_2 : decode cc_C_countFree 2 = .ok (.aload_n 0, 1) := by decide +kernel
theorem d_C_countFree_3 : decode cc_C_countFree 3 = .ok (.getfield 9, 3) := by decide +kernel
theorem d_C_countFree_6 : decode cc_C_countFree 6 = .ok (.iconst 0, 1) := by decide +kernel
theorem d_C_countFree_7 : decode cc_C_countFree 7 = .ok (.iconst 0, 1) := by decide +kernel
theorem d_C_countFree_8 : decode cc_C_countFree 8 = .ok (.invokevirtual 28, 3) := by decide +kernel
theorem d_C_countFree_11 : decode cc_C_countFree 11 = .ok (.invokestatic 64, 3) := by decide +kernel
theorem d_C_countFree_14 : decode cc_C_countFree 14 = .ok (.isub, 1) := by decide +kernel
theorem d_C_countFree_15 : decode cc_C_countFree 15 = .ok (.ireturn, 1) := by decide +kernel
def f_C_countFree_0 (vD : Nat → Int32) : Option (Int32) :=
  (f_D_get vD (0 : Int32) (0 : Int32)).bind fun x1 => (f_J_bitCount x1).bind fun x3 => some ((20 : Int32) - x3)
set_option maxHeartbeats 4000000 in
set_option maxRecDepth 100000 in
theorem b_C_countFree_0 {l : Launch} {dC : Nat → ClassId} {dI : Nat → Nat → Nat} {cI cA cL : ClassId} {q_co q_di q_pl q_dr q_jo : Nat} {vjn : Int32} {vmk : Int32} {vwr : Int32} {vP : Nat → Int32} {vD : Nat → Int32} {vJ : Nat → Int32} {p : Program} {e : Env} {s : State} {m : MethodId} {args : Array Value} {below : List Frame} {meth : Method} {c : Code} (cx : jv_cx p s m args meth c cc_C_countFree 1 R_Cont (some .int) ws_C_countFree) (hK : va_K (dC, dI) vwCl (jv_ty cI cA cL) s) (hP : va_P (dC, dI) vwCl (w_cont cI q_co q_di q_pl q_dr q_jo vjn vmk vwr vP vD vJ) s.heap) {r : Int32} {ls : Array Slot} (hl : lv_has ls 1 [(0, .ref q_co)]) (hf : f_C_countFree_0 vD = some r) : W p l e rm_C_countFree s m args below meth c s.heap [] 0 0 (MQ below (QcRead r) args s 0 0 (fun _ => False)) (F0 m 0 ls []) := by
  unfold f_C_countFree_0 at hf
  obtain ⟨hx, hb, hml, hown, hts, hr, hlocks⟩ := id cx
  refine lv_bipush (v := (20 : Int32)) hx hb d_C_countFree_0 (by decide) ?_
  refine lv_aload_n hx hb d_C_countFree_2 rfl (lv_at hl 0 rfl) ?_
  refine va_get (D := (dC, dI)) (ci := kCont) (v := .ref q_di) (C := R_Cont) (T := T_Cont) (N := 1) hx hb hts (fun w h => List.mem_cons_of_mem _ (in_Cont w h)) hown hK hP 0 rfl rfl 0 (by decide) (jv_w hts wa_122) (fun _ h9 => h9) rfl d_C_countFree_3 ?_
  refine lv_iconst (v := (0 : Int32)) hx hb d_C_countFree_6 (by decide) ?_
  refine lv_iconst (v := (0 : Int32)) hx hb d_C_countFree_7 (by decide) ?_
  obtain ⟨x1, g2, hf⟩ := jv_ob hf
  have hPc := hP.sub (ws' := (w_disk cI q_di q_pl q_dr q_jo vjn vmk vwr vP vD vJ)) [1, 2, 3, 4] rfl
  refine jv_cs (W.runV (As := [.int (0 : Int32), .int (0 : Int32)]) (rest := [.int (20 : Int32)]) (b := q_di) ⟨hx, hb, hml, hown, hts⟩ (c_D_get l dC dI cI cA cL q_di q_pl q_dr q_jo vjn vmk vwr vP vD vJ (0 : Int32) (0 : Int32) x1 g2) (jv_cwV hts wa_124 wa_29 wa_125 wa_126 wa_127 rfl rfl yd_D_get ⟨Nat.le_of_ble_eq_true rfl, Nat.le_of_ble_eq_true rfl⟩) (jv_preV hK hPc 0 rfl rfl) rfl rfl hl.1 rfl (lv_room (Nat.le_of_ble_eq_true rfl)) d_C_countFree_8 ⟨Nat.zero_le _, Nat.zero_le _⟩) ?_
  obtain ⟨x3, g4, hf⟩ := jv_ob hf
  refine jv_cs (W.runS (As := [.int x1]) (rest := [.int (20 : Int32)]) ⟨hx, hb, hml, hown, hts⟩ (c_J_bitCount l x1 x3 g4) (jv_cwS hts wa_184 wa_185 wa_186 wa_187 rfl rfl yd_J_bitCount ⟨Nat.le_of_ble_eq_true rfl, Nat.le_of_ble_eq_true rfl⟩) jv_pre0 rfl rfl hl.1 rfl (lv_room (Nat.le_of_ble_eq_true rfl)) d_C_countFree_11 ⟨Nat.zero_le _, Nat.zero_le _⟩) ?_
  refine lv_isub hx hb d_C_countFree_14 ?_
  obtain rfl := Option.some.inj hf
  exact W.iret hx hb hr (fun t ht hW => ⟨rfl, ht⟩) (fun q h => by cases h) d_C_countFree_15
def f_C_countFree (vD : Nat → Int32) : Option (Int32) := f_C_countFree_0 vD
set_option maxHeartbeats 4000000 in
set_option maxRecDepth 100000 in
theorem c_C_countFree (l : Launch) (dC : Nat → ClassId) (dI : Nat → Nat → Nat) (cI cA cL : ClassId) (q_co q_di q_pl q_dr q_jo : Nat) (vjn : Int32) (vmk : Int32) (vwr : Int32) (vP : Nat → Int32) (vD : Nat → Int32) (vJ : Nat → Int32) (r : Int32) (hf : f_C_countFree vD = some r) : Met l y_C_countFree ws_C_countFree rm_C_countFree (jv_Pr [.ref q_co] (dC, dI) (jv_ty cI cA cL) (w_cont cI q_co q_di q_pl q_dr q_jo vjn vmk vwr vP vD vJ)) (QcRead r) 0 0 (fun _ => False) := by
  refine Met.ofW (cc := cc_C_countFree) (maxL := 1) (ret := (some .int)) (by decide) rfl ?_
  intro p e s m args below meth c s₁ B hml hv
  obtain ⟨rfl, hP, hK⟩ := hv
  have cx : jv_cx p s m _ meth c cc_C_countFree 1 R_Cont (some .int) ws_C_countFree := ⟨B.exec, B.bytes, hml, findClass_of_methodNamed B.named, atoms_spec (ws := ws_C_countFree) B.pre, B.returns, B.notSynchronized⟩
  have hl := lv_entry ([.ref q_co]) (n := 1) (Nat.le_of_ble_eq_true rfl)
  rw [lg_entry_eq]
  generalize (lg_sl ([.ref q_co]) ++ List.replicate (1 - (lg_sl ([.ref q_co])).length) Slot.unset).toArray = ls at hl ⊢
  have hl : lv_has ls 1 [(0, .ref q_co)] := hl
  exact b_C_countFree_0 cx hK hP (lv_sub hl [0] rfl) hf
theorem d_J_fill_0 : decode cc_J_fill 0 = .ok (.iconst 0, 1) := by decide +kernel
theorem d_J_fill_1 : decode cc_J_fill 1 = .ok (.istore_n 2, 1) := by decide +kernel
theorem d_J_fill_2 : decode cc_J_fill 2 = .ok (.aload_n 0, 1) := by decide +kernel
theorem d_J_fill_3 : decode cc_J_fill 3 = .ok (.arraylength, 1) := by decide +kernel
theorem d_J_fill_4 : decode cc_J_fill 4 = .ok (.istore_n 3, 1) := by decide +kernel
theorem d_J_fill_5 : decode cc_J_fill 5 = .ok (.iload_n 2, 1) := by decide +kernel
theorem d_J_fill_6 : decode cc_J_fill 6 = .ok (.iload_n 3, 1) := by decide +kernel
theorem d_J_fill_7 : decode cc_J_fill 7 = .ok (.if_icmp .ge 13, 3) := by decide +kernel
theorem d_J_fill_20 : decode cc_J_fill 20 = .ok (.return_, 1) := by decide +kernel
theorem d_J_fill_10 : decode cc_J_fill 10 = .ok (.aload_n 0, 1) := by decide +kernel
theorem d_J_fill_11 : decode cc_J_fill 11 = .ok (.iload_n 2, 1) := by decide +kernel
theorem d_J_fill_12 : decode cc_J_fill 12 = .ok (.iload_n 1, 1) := by decide +kernel
theorem d_J_fill_13 : decode cc_J_fill 13 = .ok (.iastore, 1) := by decide +kernel
theorem d_J_fill_14 : decode cc_J_fill 14 = .ok (.iinc 2 1, 3) := by decide +kernel
theorem d_J_fill_17 : decode cc_J_fill 17 = .ok (.goto (-12), 3) := by decide +kernel
def f_J_fill_5 (y0 : Int32) (y1 : Int32) (k5 : (Int32 × (Nat → Int32)) → Option (Nat → Int32)) (a : Int32 × (Nat → Int32)) : Option (Nat → Int32) :=
  if y1 ≤ a.1 then (some a.2) else ((jv_sa a.2 4 a.1 y0).bind fun F1 => k5 (a.1 + (1 : Int32), F1))
set_option maxHeartbeats 4000000 in
set_option maxRecDepth 100000 in
theorem b_J_fill_5 {l : Launch} {dC : Nat → ClassId} {dI : Nat → Nat → Nat} {cI cA cL : ClassId} {q_us : Nat} {p : Program} {e : Env} {s : State} {m : MethodId} {args : Array Value} {below : List Frame} {meth : Method} {c : Code} (cx : jv_cx p s m args meth c cc_J_fill 4 R_Arrays none ws_J_fill) (hK : va_K (dC, dI) vwCl (jv_ty cI cA cL) s) {A : Nat → Prop} (hA : ∀ q : Nat, s.heap.size ≤ q → A q) {r : Nat → Int32} {y0 : Int32} {y1 : Int32} {k5 : (Int32 × (Nat → Int32)) → Option (Nat → Int32)} (hk5 : ∀ (a : Int32 × (Nat → Int32)) (ls : Array Slot) (H : Heap) (locs : List Loc), lv_has ls 4 [(0, .ref q_us), (1, .int y0), (2, .int a.1), (3, .int y1)] → va_P (dC, dI) vwCl (w_arr4 cI q_us a.2) H → va_D A (w_arr4 cI q_us a.2) → va_S A s.heap H locs → k5 a = some r → W p l e rm_J_fill s m args below meth c H locs 0 0 (MQ below (jv_Qv (dC, dI) (w_arr4 cI q_us r) A) args s 0 0 A) (F0 m 5 ls [])) {a : Int32 × (Nat → Int32)} {ls : Array Slot} (hl : lv_has ls 4 [(0, .ref q_us), (1, .int y0), (2, .int a.1), (3, .int y1)]) {H : Heap} {locs : List Loc} (hP : va_P (dC, dI) vwCl (w_arr4 cI q_us a.2) H) (hD : va_D A (w_arr4 cI q_us a.2)) (hS : va_S A s.heap H locs) (hf : f_J_fill_5 y0 y1 k5 a = some r) : W p l e rm_J_fill s m args below meth c H locs 0 0 (MQ below (jv_Qv (dC, dI) (w_arr4 cI q_us r) A) args s 0 0 A) (F0 m 5 ls []) := by
  unfold f_J_fill_5 at hf
  obtain ⟨hx, hb, hml, hown, hts, hr, hlocks⟩ := id cx
  refine lv_iload_n hx hb d_J_fill_5 rfl (lv_at hl 2 rfl) ?_
  refine lv_iload_n hx hb d_J_fill_6 rfl (lv_at hl 3 rfl) ?_
  refine lv_icmp_ge (tgt := 20) hx hb d_J_fill_7 (by decide) (fun hc => ?_) (fun hc => ?_)
  · have hf := jv_it hf hc
    obtain rfl := Option.some.inj hf
    exact W.vret hx hb hr (fun t ht hW => ⟨rfl, by rw [ht]; exact hP, hD, hS.F ht⟩) hS.2.2 d_J_fill_20
  · have hf := jv_if hf hc
    refine lv_aload_n hx hb d_J_fill_10 rfl (lv_at hl 0 rfl) ?_
    refine lv_iload_n hx hb d_J_fill_11 rfl (lv_at hl 2 rfl) ?_
    refine lv_iload_n hx hb d_J_fill_12 rfl (lv_at hl 1 rfl) ?_
    obtain ⟨F1, g2, hf⟩ := jv_ob hf
    refine jv_iast hx hb hK hP hD hS 0 0 rfl rfl g2 d_J_fill_13 (fun H locs hP hD hS => ?_)
    have hP : va_P (dC, dI) vwCl (w_arr4 cI q_us F1) H := hP
    have hD : va_D A (w_arr4 cI q_us F1) := hD
    refine lv_iinc (k := 2) (v := a.1 + (1 : Int32)) (lv' := [(2, .int (a.1 + (1 : Int32))), (0, .ref q_us), (1, .int y0), (3, .int y1)]) hx hb d_J_fill_14 hl rfl (jv_inc _) (by decide) rfl (fun ls hl => ?_)
    refine lv_goto (tgt := 5) hx hb d_J_fill_17 (by decide) ?_
    exact hk5 (a.1 + (1 : Int32), F1) _ _ _ (lv_sub hl [1, 2, 0, 3] rfl) hP hD hS hf
set_option maxHeartbeats 4000000 in
set_option maxRecDepth 100000 in
theorem l_J_fill_5 {l : Launch} {dC : Nat → ClassId} {dI : Nat → Nat → Nat} {cI cA cL : ClassId} {q_us : Nat} {p : Program} {e : Env} {s : State} {m : MethodId} {args : Array Value} {below : List Frame} {meth : Method} {c : Code} (cx : jv_cx p s m args meth c cc_J_fill 4 R_Arrays none ws_J_fill) (hK : va_K (dC, dI) vwCl (jv_ty cI cA cL) s) {A : Nat → Prop} (hA : ∀ q : Nat, s.heap.size ≤ q → A q) {r : Nat → Int32} {y0 : Int32} {y1 : Int32} : ∀ n : Nat, ∀ (a : Int32 × (Nat → Int32)) (ls : Array Slot) (H : Heap) (locs : List Loc), lv_has ls 4 [(0, .ref q_us), (1, .int y0), (2, .int a.1), (3, .int y1)] → va_P (dC, dI) vwCl (w_arr4 cI q_us a.2) H → va_D A (w_arr4 cI q_us a.2) → va_S A s.heap H locs → jv_fx (f_J_fill_5 y0 y1) n a = some r → W p l e rm_J_fill s m args below meth c H locs 0 0 (MQ below (jv_Qv (dC, dI) (w_arr4 cI q_us r) A) args s 0 0 A) (F0 m 5 ls []) := by
  intro n
  induction n with
  | zero => intro a ls H locs hl hP hD hS hf; exact jv_no hf
  | succ n ih => intro a ls H locs hl hP hD hS hf; exact b_J_fill_5 cx hK hA ih hl hP hD hS hf
def f_J_fill_0 (y0 : Int32) (y1 : Nat → Int32) : Option (Nat → Int32) :=
  jv_fx (f_J_fill_5 y0 (4 : Int32)) 300 ((0 : Int32), y1)
set_option maxHeartbeats 4000000 in
set_option maxRecDepth 100000 in
theorem b_J_fill_0 {l : Launch} {dC : Nat → ClassId} {dI : Nat → Nat → Nat} {cI cA cL : ClassId} {q_us : Nat} {p : Program} {e : Env} {s : State} {m : MethodId} {args : Array Value} {below : List Frame} {meth : Method} {c : Code} (cx : jv_cx p s m args meth c cc_J_fill 4 R_Arrays none ws_J_fill) (hK : va_K (dC, dI) vwCl (jv_ty cI cA cL) s) {A : Nat → Prop} (hA : ∀ q : Nat, s.heap.size ≤ q → A q) {r : Nat → Int32} {y0 : Int32} {y1 : Nat → Int32} {ls : Array Slot} (hl : lv_has ls 4 [(0, .ref q_us), (1, .int y0)]) {H : Heap} {locs : List Loc} (hP : va_P (dC, dI) vwCl (w_arr4 cI q_us y1) H) (hD : va_D A (w_arr4 cI q_us y1)) (hS : va_S A s.heap H locs) (hf : f_J_fill_0 y0 y1 = some r) : W p l e rm_J_fill s m args below meth c H locs 0 0 (MQ below (jv_Qv (dC, dI) (w_arr4 cI q_us r) A) args s 0 0 A) (F0 m 0 ls []) := by
  unfold f_J_fill_0 at hf
  obtain ⟨hx, hb, hml, hown, hts, hr, hlocks⟩ := id cx
  refine lv_iconst (v := (0 : Int32)) hx hb d_J_fill_0 (by decide) ?_
  refine lv_istore_n (lv' := [(2, .int (0 : Int32)), (0, .ref q_us), (1, .int y0)]) hx hb d_J_fill_1 rfl hl (by decide) rfl (fun ls hl => ?_)
  refine lv_aload_n hx hb d_J_fill_2 rfl (lv_at hl 1 rfl) ?_
  refine va_alen (v := (4 : Int32)) hx hb hK hP 0 0 rfl rfl rfl d_J_fill_3 ?_
  refine lv_istore_n (lv' := [(3, .int (4 : Int32)), (2, .int (0 : Int32)), (0, .ref q_us), (1, .int y0)]) hx hb d_J_fill_4 rfl hl (by decide) rfl (fun ls hl => ?_)
  exact l_J_fill_5 (y0 := y0) (y1 := (4 : Int32)) cx hK hA 300 ((0 : Int32), y1) _ _ _ (lv_sub hl [2, 3, 1, 0] rfl) hP hD hS hf
def f_J_fill (a1 : Int32) (vU : Nat → Int32) : Option (Nat → Int32) := f_J_fill_0 a1 vU
set_option maxHeartbeats 4000000 in
set_option maxRecDepth 100000 in
theorem c_J_fill (l : Launch) (dC : Nat → ClassId) (dI : Nat → Nat → Nat) (cI cA cL : ClassId) (q_us : Nat) (vU : Nat → Int32) (a1 : Int32) (sz : Nat) (r : Nat → Int32) (hf : f_J_fill a1 vU = some r) : Met l y_J_fill ws_J_fill rm_J_fill (jv_Pw [.ref q_us, .int a1] (dC, dI) (jv_ty cI cA cL) (w_arr4 cI q_us vU) sz) (jv_Qv (dC, dI) (w_arr4 cI q_us r) (va_A (w_arr4 cI q_us vU) sz)) 0 0 (va_A (w_arr4 cI q_us vU) sz) := by
  refine Met.ofW (cc := cc_J_fill) (maxL := 4) (ret := none) (by decide) rfl ?_
  intro p e s m args below meth c s₁ B hml hv
  obtain ⟨rfl, hsz, hP, hK, hD0⟩ := hv
  have cx : jv_cx p s m _ meth c cc_J_fill 4 R_Arrays none ws_J_fill := ⟨B.exec, B.bytes, hml, findClass_of_methodNamed B.named, atoms_spec (ws := ws_J_fill) B.pre, B.returns, B.notSynchronized⟩
  subst hsz
  have hD := hD0.self (sz := s.heap.size)
  generalize hAe : va_A (w_arr4 cI q_us vU) s.heap.size = A at hD ⊢
  have hA : ∀ q : Nat, s.heap.size ≤ q → A q := fun q h => by rw [← hAe]; exact Or.inr h
  have hS : va_S A s.heap s.heap [] := va_S.rf
  have hl := lv_entry ([.ref q_us, .int a1]) (n := 4) (Nat.le_of_ble_eq_true rfl)
  rw [lg_entry_eq]
  generalize (lg_sl ([.ref q_us, .int a1]) ++ List.replicate (4 - (lg_sl ([.ref q_us, .int a1])).length) Slot.unset).toArray = ls at hl ⊢
  have hl : lv_has ls 4 [(0, .ref q_us), (1, .int a1)] := hl
  exact b_J_fill_0 (y0 := a1) (y1 := vU) cx hK hA (lv_sub hl [0, 1] rfl) hP hD hS hf
theorem d_A_dismissAll_0 : decode cc_A_dismissAll 0 = .ok (.aload_n 0, 1) := by decide +kernel
theorem d_A_dismissAll_1 : decode cc_A_dismissAll 1 = .ok (.getfield 9, 3) := by decide +kernel
theorem d_A_dismissAll_4 : decode cc_A_dismissAll 4 = .ok (.iconst (-1), 1) := by decide +kernel
theorem d_A_dismissAll_5 : decode cc_A_dismissAll 5 = .ok (.invokestatic 39, 3) := by decide +kernel
theorem d_A_dismissAll_8 : decode cc_A_dismissAll 8 = .ok (.return_, 1) := by decide +kernel
def f_A_dismissAll_0 (y0 : Nat → Int32) : Option (Nat → Int32) :=
  (f_J_fill (-1 : Int32) y0).bind fun x1 => some x1
set_option maxHeartbeats 4000000 in
set_option maxRecDepth 100000 in
theorem b_A_dismissAll_0 {l : Launch} {dC : Nat → ClassId} {dI : Nat → Nat → Nat} {cI cA cL : ClassId} {q_ar q_us q_di q_tr q_co : Nat} {vlb : Int32} {p : Program} {e : Env} {s : State} {m : MethodId} {args : Array Value} {below : List Frame} {meth : Method} {c : Code} (cx : jv_cx p s m args meth c cc_A_dismissAll 1 R_Area none ws_A_dismissAll) (hK : va_K (dC, dI) vwCl (jv_ty cI cA cL) s) {A : Nat → Prop} (hA : ∀ q : Nat, s.heap.size ≤ q → A q) {r : Nat → Int32} {y0 : Nat → Int32} {ls : Array Slot} (hl : lv_has ls 1 [(0, .ref q_ar)]) {H : Heap} {locs : List Loc} (hP : va_P (dC, dI) vwCl (w_area cI q_ar q_us q_di q_tr q_co vlb y0) H) (hD : va_D A (w_area cI q_ar q_us q_di q_tr q_co vlb y0)) (hS : va_S A s.heap H locs) (hf : f_A_dismissAll_0 y0 = some r) : W p l e rm_A_dismissAll s m args below meth c H locs 0 0 (MQ below (jv_Qv (dC, dI) (w_area cI q_ar q_us q_di q_tr q_co vlb r) A) args s 0 0 A) (F0 m 0 ls []) := by
  unfold f_A_dismissAll_0 at hf
  obtain ⟨hx, hb, hml, hown, hts, hr, hlocks⟩ := id cx
  refine lv_aload_n hx hb d_A_dismissAll_0 rfl (lv_at hl 0 rfl) ?_
  refine va_get (D := (dC, dI)) (ci := kArea) (v := .ref q_us) (C := R_Area) (T := T_Area) (N := 5) hx hb hts (fun w h => List.mem_cons_of_mem _ (in_Area w h)) hown hK hP 0 rfl rfl 1 (by decide) (jv_w hts wa_188) (fun _ h9 => h9) rfl d_A_dismissAll_1 ?_
  refine lv_iconst (v := (-1 : Int32)) hx hb d_A_dismissAll_4 (by decide) ?_
  obtain ⟨x1, g2, hf⟩ := jv_ob hf
  have hPc := hP.sub (ws' := (w_arr4 cI q_us y0)) [1] rfl
  have hDc := hD.sub (ws' := (w_arr4 cI q_us y0)) [1] (by decide) rfl
  have hFc := va_free (wc := (w_arr4 cI q_us y0)) hD hS hA [1] rfl
  refine jv_cwv (va_runS (As := [.ref q_us, .int (-1 : Int32)]) (rest := []) ⟨hx, hb, hml, hown, hts⟩ (c_J_fill l dC dI cI cA cL q_us y0 (-1 : Int32) H.size x1 g2) (jv_cwS hts wa_189 wa_190 wa_191 wa_192 rfl rfl yd_J_fill ⟨Nat.le_of_ble_eq_true rfl, Nat.le_of_ble_eq_true rfl⟩) (jv_preSW hK hPc hDc) rfl rfl hl.1 rfl (lv_room (Nat.le_of_ble_eq_true rfl)) d_A_dismissAll_5 ⟨Nat.zero_le _, Nat.zero_le _⟩) hS hFc (fun H1 locs hP1 hD1 hk1 hS => ?_)
  obtain ⟨hP, hD⟩ := va_join (wc := (w_arr4 cI q_us y0)) (wr := [(q_ar, .inr (kArea, [.int vlb, .ref q_us, .ref q_di, .ref q_tr, .ref q_co]))]) (w1 := (w_arr4 cI q_us x1)) hP hD [1] [0] rfl rfl (by decide) (by decide) hk1 hFc hP1 hD1
  have hP : va_P (dC, dI) vwCl (w_area cI q_ar q_us q_di q_tr q_co vlb x1) H1 := hP.sub [0, 1] rfl
  have hD : va_D A (w_area cI q_ar q_us q_di q_tr q_co vlb x1) := hD.sub [0, 1] (by decide) rfl
  generalize H1 = H at hP hS ⊢
  obtain rfl := Option.some.inj hf
  exact W.vret hx hb hr (fun t ht hW => ⟨rfl, by rw [ht]; exact hP, hD, hS.F ht⟩) hS.2.2 d_A_dismissAll_8
def f_A_dismissAll (vU : Nat → Int32) : Option (Nat → Int32) := f_A_dismissAll_0 vU
set_option maxHeartbeats 4000000 in
set_option maxRecDepth 100000 in
theorem c_A_dismissAll (l : Launch) (dC : Nat → ClassId) (dI : Nat → Nat → Nat) (cI cA cL : ClassId) (q_ar q_us q_di q_tr q_co : Nat) (vlb : Int32) (vU : Nat → Int32) (sz : Nat) (r : Nat → Int32) (hf : f_A_dismissAll vU = some r) : Met l y_A_dismissAll ws_A_dismissAll rm_A_dismissAll (jv_Pw [.ref q_ar] (dC, dI) (jv_ty cI cA cL) (w_area cI q_ar q_us q_di q_tr q_co vlb vU) sz) (jv_Qv (dC, dI) (w_area cI q_ar q_us q_di q_tr q_co vlb r) (va_A (w_area cI q_ar q_us q_di q_tr q_co vlb vU) sz)) 0 0 (va_A (w_area cI q_ar q_us q_di q_tr q_co vlb vU) sz) := by
  refine Met.ofW (cc := cc_A_dismissAll) (maxL := 1) (ret := none) (by decide) rfl ?_
  intro p e s m args below meth c s₁ B hml hv
  obtain ⟨rfl, hsz, hP, hK, hD0⟩ := hv
  have cx : jv_cx p s m _ meth c cc_A_dismissAll 1 R_Area none ws_A_dismissAll := ⟨B.exec, B.bytes, hml, findClass_of_methodNamed B.named, atoms_spec (ws := ws_A_dismissAll) B.pre, B.returns, B.notSynchronized⟩
  subst hsz
  have hD := hD0.self (sz := s.heap.size)
  generalize hAe : va_A (w_area cI q_ar q_us q_di q_tr q_co vlb vU) s.heap.size = A at hD ⊢
  have hA : ∀ q : Nat, s.heap.size ≤ q → A q := fun q h => by rw [← hAe]; exact Or.inr h
  have hS : va_S A s.heap s.heap [] := va_S.rf
  have hl := lv_entry ([.ref q_ar]) (n := 1) (Nat.le_of_ble_eq_true rfl)
  rw [lg_entry_eq]
  generalize (lg_sl ([.ref q_ar]) ++ List.replicate (1 - (lg_sl ([.ref q_ar])).length) Slot.unset).toArray = ls at hl ⊢
  have hl : lv_has ls 1 [(0, .ref q_ar)] := hl
  exact b_A_dismissAll_0 (y0 := vU) cx hK hA (lv_sub hl [0] rfl) hP hD hS hf
theorem d_A_admit_0 : decode cc_A_admit 0 = .ok (.iconst 0, 1) := by decide +kernel
theorem d_A_admit_1 : decode cc_A_admit 1 = .ok (.istore_n 2, 1) := by decide +kernel
theorem d_A_admit_2 : decode cc_A_admit 2 = .ok (.iload_n 2, 1) := by decide +kernel
theorem d_A_admit_3 : decode cc_A_admit 3 = .ok (.iconst 4, 1) := by decide +kernel
theorem d_A_admit_4 : decode cc_A_admit 4 = .ok (.if_icmp .ge 28, 3) := by decide +kernel
theorem d_A_admit_32 : decode cc_A_admit 32 = .ok (.iconst (-1), 1) := by decide +kernel
theorem d_A_admit_33 : decode cc_A_admit 33 = .ok (.ireturn, 1) := by decide +kernel
theorem d_A_admit_7 : decode cc_A_admit 7 = .ok (.aload_n 0, 1) := by decide +kernel
theorem d_A_admit_8 : decode cc_A_admit 8 = .ok (.getfield 9, 3) := by decide +kernel
theorem d_A_admit_11 : decode cc_A_admit 11 = .ok (.iload_n 2, 1) := by decide +kernel
theorem d_A_admit_12 : decode cc_A_admit 12 = .ok (.iaload, 1) := by decide +kernel
theorem d_A_admit_13 : decode cc_A_admit 13 = .ok (.iconst (-1), 1) := by decide +kernel
theorem d_A_admit_14 : decode cc_A_admit 14 = .ok (.if_icmp .ne 12, 3) := by decide +kernel
theorem d_A_admit_26 : decode cc_A_admit 26 = .ok (.iinc 2 1, 3) := by decide +kernel
theorem d_A_admit_29 : decode cc_A_admit 29 = .ok (.goto (-27), 3) := by decide +kernel
theorem d_A_admit_17 : decode cc_A_admit 17 = .ok (.aload_n 0, 1) := by decide +kernel
theorem d_A_admit_18 : decode cc_A_admit 18 = .ok (.getfield 9, 3) := by decide +kernel
theorem d_A_admit_21 : decode cc_A_admit 21 = .ok (.iload_n 2, 1) := by decide +kernel
theorem d_A_admit_22 : decode cc_A_admit 22 = .ok (.iload_n 1, 1) := by decide +kernel
theorem d_A_admit_23 : decode cc_A_admit 23 = .ok (.iastore, 1) := by decide +kernel
theorem d_A_admit_24 : decode cc_A_admit 24 = .ok (.iload_n 2, 1) := by decide +kernel
theorem d_A_admit_25 : decode cc_A_admit 25 = .ok (.ireturn, 1) := by decide +kernel
def f_A_admit_2 (y0 : Int32) (y1 : Nat → Int32) (k2 : (Int32) → Option (Int32 × (Nat → Int32))) (a : Int32) : Option (Int32 × (Nat → Int32)) :=
  if (4 : Int32) ≤ a then (some ((-1 : Int32), y1)) else ((jv_ga y1 4 a).bind fun x1 => if x1 = (-1 : Int32) then ((jv_sa y1 4 a y0).bind fun F3 => some (a, F3)) else (k2 (a + (1 : Int32))))
set_option maxHeartbeats 4000000 in
set_option maxRecDepth 100000 in
theorem b_A_admit_2 {l : Launch} {dC : Nat → ClassId} {dI : Nat → Nat → Nat} {cI cA cL : ClassId} {q_ar q_us q_di q_tr q_co : Nat} {vlb : Int32} {p : Program} {e : Env} {s : State} {m : MethodId} {args : Array Value} {below : List Frame} {meth : Method} {c : Code} (cx : jv_cx p s m args meth c cc_A_admit 3 R_Area (some .int) ws_A_admit) (hK : va_K (dC, dI) vwCl (jv_ty cI cA cL) s) {A : Nat → Prop} (hA : ∀ q : Nat, s.heap.size ≤ q → A q) {r : Int32 × (Nat → Int32)} {y0 : Int32} {y1 : Nat → Int32} {k2 : (Int32) → Option (Int32 × (Nat → Int32))} (hk2 : ∀ (a : Int32) (ls : Array Slot) (H : Heap) (locs : List Loc), lv_has ls 3 [(0, .ref q_ar), (1, .int y0), (2, .int a)] → va_P (dC, dI) vwCl (w_area cI q_ar q_us q_di q_tr q_co vlb y1) H → va_D A (w_area cI q_ar q_us q_di q_tr q_co vlb y1) → va_S A s.heap H locs → k2 a = some r → W p l e rm_A_admit s m args below meth c H locs 0 0 (MQ below (jv_Qi r.1 (dC, dI) (w_area cI q_ar q_us q_di q_tr q_co vlb r.2) A) args s 0 0 A) (F0 m 2 ls [])) {a : Int32} {ls : Array Slot} (hl : lv_has ls 3 [(0, .ref q_ar), (1, .int y0), (2, .int a)]) {H : Heap} {locs : List Loc} (hP : va_P (dC, dI) vwCl (w_area cI q_ar q_us q_di q_tr q_co vlb y1) H) (hD : va_D A (w_area cI q_ar q_us q_di q_tr q_co vlb y1)) (hS : va_S A s.heap H locs) (hf : f_A_admit_2 y0 y1 k2 a = some r) : W p l e rm_A_admit s m args below meth c H locs 0 0 (MQ below (jv_Qi r.1 (dC, dI) (w_area cI q_ar q_us q_di q_tr q_co vlb r.2) A) args s 0 0 A) (F0 m 2 ls []) := by
  unfold f_A_admit_2 at hf
  obtain ⟨hx, hb, hml, hown, hts, hr, hlocks⟩ := id cx
  refine lv_iload_n hx hb d_A_admit_2 rfl (lv_at hl 2 rfl) ?_
  refine lv_iconst (v := (4 : Int32)) hx hb d_A_admit_3 (by decide) ?_
  refine lv_icmp_ge (tgt := 32) hx hb d_A_admit_4 (by decide) (fun hc => ?_) (fun hc => ?_)
  · have hf := jv_it hf hc
    refine lv_iconst (v := (-1 : Int32)) hx hb d_A_admit_32 (by decide) ?_
    obtain rfl := Option.some.inj hf
    exact W.iret hx hb hr (fun t ht hW => ⟨rfl, by rw [ht]; exact hP, hD, hS.F ht⟩) hS.2.2 d_A_admit_33
  · have hf := jv_if hf hc
    refine lv_aload_n hx hb d_A_admit_7 rfl (lv_at hl 0 rfl) ?_
    refine va_get (D := (dC, dI)) (ci := kArea) (v := .ref q_us) (C := R_Area) (T := T_Area) (N := 5) hx hb hts (fun w h => List.mem_cons_of_mem _ (in_Area w h)) hown hK hP 0 rfl rfl 1 (by decide) (jv_w hts wa_188) (fun _ h9 => h9) rfl d_A_admit_8 ?_
    refine lv_iload_n hx hb d_A_admit_11 rfl (lv_at hl 2 rfl) ?_
    obtain ⟨x1, g2, hf⟩ := jv_ob hf
    refine jv_iald hx hb hK hP 1 0 rfl rfl g2 d_A_admit_12 ?_
    refine lv_iconst (v := (-1 : Int32)) hx hb d_A_admit_13 (by decide) ?_
    refine lv_icmp_ne (tgt := 26) hx hb d_A_admit_14 (by decide) (fun hc => ?_) (fun hc => ?_)
    · have hf := jv_if hf hc
      refine lv_iinc (k := 2) (v := a + (1 : Int32)) (lv' := [(2, .int (a + (1 : Int32))), (0, .ref q_ar), (1, .int y0)]) hx hb d_A_admit_26 hl rfl (jv_inc _) (by decide) rfl (fun ls hl => ?_)
      refine lv_goto (tgt := 2) hx hb d_A_admit_29 (by decide) ?_
      exact hk2 (a + (1 : Int32)) _ _ _ (lv_sub hl [1, 2, 0] rfl) hP hD hS hf
    · have hf := jv_it hf hc
      refine lv_aload_n hx hb d_A_admit_17 rfl (lv_at hl 0 rfl) ?_
      refine va_get (D := (dC, dI)) (ci := kArea) (v := .ref q_us) (C := R_Area) (T := T_Area) (N := 5) hx hb hts (fun w h => List.mem_cons_of_mem _ (in_Area w h)) hown hK hP 0 rfl rfl 1 (by decide) (jv_w hts wa_188) (fun _ h9 => h9) rfl d_A_admit_18 ?_
      refine lv_iload_n hx hb d_A_admit_21 rfl (lv_at hl 2 rfl) ?_
      refine lv_iload_n hx hb d_A_admit_22 rfl (lv_at hl 1 rfl) ?_
      obtain ⟨F3, g4, hf⟩ := jv_ob hf
      refine jv_iast hx hb hK hP hD hS 1 0 rfl rfl g4 d_A_admit_23 (fun H locs hP hD hS => ?_)
      have hP : va_P (dC, dI) vwCl (w_area cI q_ar q_us q_di q_tr q_co vlb F3) H := hP
      have hD : va_D A (w_area cI q_ar q_us q_di q_tr q_co vlb F3) := hD
      refine lv_iload_n hx hb d_A_admit_24 rfl (lv_at hl 2 rfl) ?_
      obtain rfl := Option.some.inj hf
      exact W.iret hx hb hr (fun t ht hW => ⟨rfl, by rw [ht]; exact hP, hD, hS.F ht⟩) hS.2.2 d_A_admit_25
set_option maxHeartbeats 4000000 in
set_option maxRecDepth 100000 in
theorem l_A_admit_2 {l : Launch} {dC : Nat → ClassId} {dI : Nat → Nat → Nat} {cI cA cL : ClassId} {q_ar q_us q_di q_tr q_co : Nat} {vlb : Int32} {p : Program} {e : Env} {s : State} {m : MethodId} {args : Array Value} {below : List Frame} {meth : Method} {c : Code} (cx : jv_cx p s m args meth c cc_A_admit 3 R_Area (some .int) ws_A_admit) (hK : va_K (dC, dI) vwCl (jv_ty cI cA cL) s) {A : Nat → Prop} (hA : ∀ q : Nat, s.heap.size ≤ q → A q) {r : Int32 × (Nat → Int32)} {y0 : Int32} {y1 : Nat → Int32} : ∀ n : Nat, ∀ (a : Int32) (ls : Array Slot) (H : Heap) (locs : List Loc), lv_has ls 3 [(0, .ref q_ar), (1, .int y0), (2, .int a)] → va_P (dC, dI) vwCl (w_area cI q_ar q_us q_di q_tr q_co vlb y1) H → va_D A (w_area cI q_ar q_us q_di q_tr q_co vlb y1) → va_S A s.heap H locs → jv_fx (f_A_admit_2 y0 y1) n a = some r → W p l e rm_A_admit s m args below meth c H locs 0 0 (MQ below (jv_Qi r.1 (dC, dI) (w_area cI q_ar q_us q_di q_tr q_co vlb r.2) A) args s 0 0 A) (F0 m 2 ls []) := by
  intro n
  induction n with
  | zero => intro a ls H locs hl hP hD hS hf; exact jv_no hf
  | succ n ih => intro a ls H locs hl hP hD hS hf; exact b_A_admit_2 cx hK hA ih hl hP hD hS hf
def f_A_admit_0 (y0 : Int32) (y1 : Nat → Int32) : Option (Int32 × (Nat → Int32)) :=
  jv_fx (f_A_admit_2 y0 y1) 300 (0 : Int32)
set_option maxHeartbeats 4000000 in
set_option maxRecDepth 100000 in
theorem b_A_admit_0 {l : Launch} {dC : Nat → ClassId} {dI : Nat → Nat → Nat} {cI cA cL : ClassId} {q_ar q_us q_di q_tr q_co : Nat} {vlb : Int32} {p : Program} {e : Env} {s : State} {m : MethodId} {args : Array Value} {below : List Frame} {meth : Method} {c : Code} (cx : jv_cx p s m args meth c cc_A_admit 3 R_Area (some .int) ws_A_admit) (hK : va_K (dC, dI) vwCl (jv_ty cI cA cL) s) {A : Nat → Prop} (hA : ∀ q : Nat, s.heap.size ≤ q → A q) {r : Int32 × (Nat → Int32)} {y0 : Int32} {y1 : Nat → Int32} {ls : Array Slot} (hl : lv_has ls 3 [(0, .ref q_ar), (1, .int y0)]) {H : Heap} {locs : List Loc} (hP : va_P (dC, dI) vwCl (w_area cI q_ar q_us q_di q_tr q_co vlb y1) H) (hD : va_D A (w_area cI q_ar q_us q_di q_tr q_co vlb y1)) (hS : va_S A s.heap H locs) (hf : f_A_admit_0 y0 y1 = some r) : W p l e rm_A_admit s m args below meth c H locs 0 0 (MQ below (jv_Qi r.1 (dC, dI) (w_area cI q_ar q_us q_di q_tr q_co vlb r.2) A) args s 0 0 A) (F0 m 0 ls []) := by
  unfold f_A_admit_0 at hf
  obtain ⟨hx, hb, hml, hown, hts, hr, hlocks⟩ := id cx
  refine lv_iconst (v := (0 : Int32)) hx hb d_A_admit_0 (by decide) ?_
  refine lv_istore_n (lv' := [(2, .int (0 : Int32)), (0, .ref q_ar), (1, .int y0)]) hx hb d_A_admit_1 rfl hl (by decide) rfl (fun ls hl => ?_)
  exact l_A_admit_2 (y0 := y0) (y1 := y1) cx hK hA 300 (0 : Int32) _ _ _ (lv_sub hl [1, 2, 0] rfl) hP hD hS hf
def f_A_admit (a0 : Int32) (vU : Nat → Int32) : Option (Int32 × (Nat → Int32)) := f_A_admit_0 a0 vU
set_option maxHeartbeats 4000000 in
set_option maxRecDepth 100000 in
theorem c_A_admit (l : Launch) (dC : Nat → ClassId) (dI : Nat → Nat → Nat) (cI cA cL : ClassId) (q_ar q_us q_di q_tr q_co : Nat) (vlb : Int32) (vU : Nat → Int32) (a0 : Int32) (sz : Nat) (r : Int32 × (Nat → Int32)) (hf : f_A_admit a0 vU = some r) : Met l y_A_admit ws_A_admit rm_A_admit (jv_Pw [.ref q_ar, .int a0] (dC, dI) (jv_ty cI cA cL) (w_area cI q_ar q_us q_di q_tr q_co vlb vU) sz) (jv_Qi r.1 (dC, dI) (w_area cI q_ar q_us q_di q_tr q_co vlb r.2) (va_A (w_area cI q_ar q_us q_di q_tr q_co vlb vU) sz)) 0 0 (va_A (w_area cI q_ar q_us q_di q_tr q_co vlb vU) sz) := by
  refine Met.ofW (cc := cc_A_admit) (maxL := 3) (ret := (some .int)) (by decide) rfl ?_
  intro p e s m args below meth c s₁ B hml hv
  obtain ⟨rfl, hsz, hP, hK, hD0⟩ := hv
  have cx : jv_cx p s m _ meth c cc_A_admit 3 R_Area (some .int) ws_A_admit := ⟨B.exec, B.bytes, hml, findClass_of_methodNamed B.named, atoms_spec (ws := ws_A_admit) B.pre, B.returns, B.notSynchronized⟩
  subst hsz
  have hD := hD0.self (sz := s.heap.size)
  generalize hAe : va_A (w_area cI q_ar q_us q_di q_tr q_co vlb vU) s.heap.size = A at hD ⊢
  have hA : ∀ q : Nat, s.heap.size ≤ q → A q := fun q h => by rw [← hAe]; exact Or.inr h
  have hS : va_S A s.heap s.heap [] := va_S.rf
  have hl := lv_entry ([.ref q_ar, .int a0]) (n := 3) (Nat.le_of_ble_eq_true rfl)
  rw [lg_entry_eq]
  generalize (lg_sl ([.ref q_ar, .int a0]) ++ List.replicate (3 - (lg_sl ([.ref q_ar, .int a0])).length) Slot.unset).toArray = ls at hl ⊢
  have hl : lv_has ls 3 [(0, .ref q_ar), (1, .int a0)] := hl
  exact b_A_admit_0 (y0 := a0) (y1 := vU) cx hK hA (lv_sub hl [0, 1] rfl) hP hD hS hf
theorem d_A_dismiss_0 : decode cc_A_dismiss 0 = .ok (.aload_n 0, 1) := by decide +kernel
theorem d_A_dismiss_1 : decode cc_A_dismiss 1 = .ok (.getfield 9, 3) := by decide +kernel
theorem d_A_dismiss_4 : decode cc_A_dismiss 4 = .ok (.iload_n 1, 1) := by decide +kernel
theorem d_A_dismiss_5 : decode cc_A_dismiss 5 = .ok (.iaload, 1) := by decide +kernel
theorem d_A_dismiss_6 : decode cc_A_dismiss 6 = .ok (.istore_n 2, 1) := by decide +kernel
theorem d_A_dismiss_7 : decode cc_A_dismiss 7 = .ok (.aload_n 0, 1) := by decide +kernel
theorem d_A_dismiss_8 : decode cc_A_dismiss 8 = .ok (.getfield 9, 3) := by decide +kernel
theorem d_A_dismiss_11 : decode cc_A_dismiss 11 = .ok (.iload_n 1, 1) := by decide +kernel
theorem d_A_dismiss_12 : decode cc_A_dismiss 12 = .ok (.iconst (-1), 1) := by decide +kernel
theorem d_A_dismiss_13 : decode cc_A_dismiss 13 = .ok (.iastore, 1) := by decide +kernel
theorem d_A_dismiss_14 : decode cc_A_dismiss 14 = .ok (.iload_n 2, 1) := by decide +kernel
theorem d_A_dismiss_15 : decode cc_A_dismiss 15 = .ok (.ireturn, 1) := by decide +kernel
def f_A_dismiss_0 (y0 : Int32) (y1 : Nat → Int32) : Option (Int32 × (Nat → Int32)) :=
  (jv_ga y1 4 y0).bind fun x1 => (jv_sa y1 4 y0 (-1 : Int32)).bind fun F3 => some (x1, F3)
set_option maxHeartbeats 4000000 in
set_option maxRecDepth 100000 in
theorem b_A_dismiss_0 {l : Launch} {dC : Nat → ClassId} {dI : Nat → Nat → Nat} {cI cA cL : ClassId} {q_ar q_us q_di q_tr q_co : Nat} {vlb : Int32} {p : Program} {e : Env} {s : State} {m : MethodId} {args : Array Value} {below : List Frame} {meth : Method} {c : Code} (cx : jv_cx p s m args meth c cc_A_dismiss 3 R_Area (some .int) ws_A_dismiss) (hK : va_K (dC, dI) vwCl (jv_ty cI cA cL) s) {A : Nat → Prop} (hA : ∀ q : Nat, s.heap.size ≤ q → A q) {r : Int32 × (Nat → Int32)} {y0 : Int32} {y1 : Nat → Int32} {ls : Array Slot} (hl : lv_has ls 3 [(0, .ref q_ar), (1, .int y0)]) {H : Heap} {locs : List Loc} (hP : va_P (dC, dI) vwCl (w_area cI q_ar q_us q_di q_tr q_co vlb y1) H) (hD : va_D A (w_area cI q_ar q_us q_di q_tr q_co vlb y1)) (hS : va_S A s.heap H locs) (hf : f_A_dismiss_0 y0 y1 = some r) : W p l e rm_A_dismiss s m args below meth c H locs 0 0 (MQ below (jv_Qi r.1 (dC, dI) (w_area cI q_ar q_us q_di q_tr q_co vlb r.2) A) args s 0 0 A) (F0 m 0 ls []) := by
  unfold f_A_dismiss_0 at hf
  obtain ⟨hx, hb, hml, hown, hts, hr, hlocks⟩ := id cx
  refine lv_aload_n hx hb d_A_dismiss_0 rfl (lv_at hl 0 rfl) ?_
  refine va_get (D := (dC, dI)) (ci := kArea) (v := .ref q_us) (C := R_Area) (T := T_Area) (N := 5) hx hb hts (fun w h => List.mem_cons_of_mem _ (in_Area w h)) hown hK hP 0 rfl rfl 1 (by decide) (jv_w hts wa_188) (fun _ h9 => h9) rfl d_A_dismiss_1 ?_
  refine lv_iload_n hx hb d_A_dismiss_4 rfl (lv_at hl 1 rfl) ?_
  obtain ⟨x1, g2, hf⟩ := jv_ob hf
  refine jv_iald hx hb hK hP 1 0 rfl rfl g2 d_A_dismiss_5 ?_
  refine lv_istore_n (lv' := [(2, .int x1), (0, .ref q_ar), (1, .int y0)]) hx hb d_A_dismiss_6 rfl hl (by decide) rfl (fun ls hl => ?_)
  refine lv_aload_n hx hb d_A_dismiss_7 rfl (lv_at hl 1 rfl) ?_
  refine va_get (D := (dC, dI)) (ci := kArea) (v := .ref q_us) (C := R_Area) (T := T_Area) (N := 5) hx hb hts (fun w h => List.mem_cons_of_mem _ (in_Area w h)) hown hK hP 0 rfl rfl 1 (by decide) (jv_w hts wa_188) (fun _ h9 => h9) rfl d_A_dismiss_8 ?_
  refine lv_iload_n hx hb d_A_dismiss_11 rfl (lv_at hl 2 rfl) ?_
  refine lv_iconst (v := (-1 : Int32)) hx hb d_A_dismiss_12 (by decide) ?_
  obtain ⟨F3, g4, hf⟩ := jv_ob hf
  refine jv_iast hx hb hK hP hD hS 1 0 rfl rfl g4 d_A_dismiss_13 (fun H locs hP hD hS => ?_)
  have hP : va_P (dC, dI) vwCl (w_area cI q_ar q_us q_di q_tr q_co vlb F3) H := hP
  have hD : va_D A (w_area cI q_ar q_us q_di q_tr q_co vlb F3) := hD
  refine lv_iload_n hx hb d_A_dismiss_14 rfl (lv_at hl 0 rfl) ?_
  obtain rfl := Option.some.inj hf
  exact W.iret hx hb hr (fun t ht hW => ⟨rfl, by rw [ht]; exact hP, hD, hS.F ht⟩) hS.2.2 d_A_dismiss_15
def f_A_dismiss (a0 : Int32) (vU : Nat → Int32) : Option (Int32 × (Nat → Int32)) := f_A_dismiss_0 a0 vU
set_option maxHeartbeats 4000000 in
set_option maxRecDepth 100000 in
theorem c_A_dismiss (l : Launch) (dC : Nat → ClassId) (dI : Nat → Nat → Nat) (cI cA cL : ClassId) (q_ar q_us q_di q_tr q_co : Nat) (vlb : Int32) (vU : Nat → Int32) (a0 : Int32) (sz : Nat) (r : Int32 × (Nat → Int32)) (hf : f_A_dismiss a0 vU = some r) : Met l y_A_dismiss ws_A_dismiss rm_A_dismiss (jv_Pw [.ref q_ar, .int a0] (dC, dI) (jv_ty cI cA cL) (w_area cI q_ar q_us q_di q_tr q_co vlb vU) sz) (jv_Qi r.1 (dC, dI) (w_area cI q_ar q_us q_di q_tr q_co vlb r.2) (va_A (w_area cI q_ar q_us q_di q_tr q_co vlb vU) sz)) 0 0 (va_A (w_area cI q_ar q_us q_di q_tr q_co vlb vU) sz) := by
  refine Met.ofW (cc := cc_A_dismiss) (maxL := 3) (ret := (some .int)) (by decide) rfl ?_
  intro p e s m args below meth c s₁ B hml hv
  obtain ⟨rfl, hsz, hP, hK, hD0⟩ := hv
  have cx : jv_cx p s m _ meth c cc_A_dismiss 3 R_Area (some .int) ws_A_dismiss := ⟨B.exec, B.bytes, hml, findClass_of_methodNamed B.named, atoms_spec (ws := ws_A_dismiss) B.pre, B.returns, B.notSynchronized⟩
  subst hsz
  have hD := hD0.self (sz := s.heap.size)
  generalize hAe : va_A (w_area cI q_ar q_us q_di q_tr q_co vlb vU) s.heap.size = A at hD ⊢
  have hA : ∀ q : Nat, s.heap.size ≤ q → A q := fun q h => by rw [← hAe]; exact Or.inr h
  have hS : va_S A s.heap s.heap [] := va_S.rf
  have hl := lv_entry ([.ref q_ar, .int a0]) (n := 3) (Nat.le_of_ble_eq_true rfl)
  rw [lg_entry_eq]
  generalize (lg_sl ([.ref q_ar, .int a0]) ++ List.replicate (3 - (lg_sl ([.ref q_ar, .int a0])).length) Slot.unset).toArray = ls at hl ⊢
  have hl : lv_has ls 3 [(0, .ref q_ar), (1, .int a0)] := hl
  exact b_A_dismiss_0 (y0 := a0) (y1 := vU) cx hK hA (lv_sub hl [0, 1] rfl) hP hD hS hf
theorem d_A_countSessions_0 : decode cc_A_countSessions 0 = .ok (.iconst 0, 1) := by decide +kernel
theorem d_A_countSessions_1 : decode cc_A_countSessions 1 = .ok (.istore_n 1, 1) := by decide +kernel
theorem d_A_countSessions_2 : decode cc_A_countSessions 2 = .ok (.iconst 0, 1) := by decide +kernel
theorem d_A_countSessions_3 : decode cc_A_countSessions 3 = .ok (.istore_n 2, 1) := by decide +kernel
theorem d_A_countSessions_4 : decode cc_A_countSessions 4 = .ok (.iload_n 2, 1) := by decide +kernel
theorem d_A_countSessions_5 : decode cc_A_countSessions 5 = .ok (.iconst 4, 1) := by decide +kernel
theorem d_A_countSessions_6 : decode cc_A_countSessions 6 = .ok (.if_icmp .ge 22, 3) := by decide +kernel
theorem d_A_countSessions_28 : decode cc_A_countSessions 28 = .ok (.iload_n 1, 1) := by decide +kernel
theorem d_A_countSessions_29 : decode cc_A_countSessions 29 = .ok (.ireturn, 1) := by decide +kernel
theorem d_A_countSessions_9 : decode cc_A_countSessions 9 = .ok (.aload_n 0, 1) := by decide +kernel
theorem d_A_countSessions_10 : decode cc_A_countSessions 10 = .ok (.getfield 9, 3) := by decide +kernel
theorem d_A_countSessions_13 : decode cc_A_countSessions 13 = .ok (.iload_n 2, 1) := by decide +kernel
theorem d_A_countSessions_14 : decode cc_A_countSessions 14 = .ok (.iaload, 1) := by decide +kernel
theorem d_A_countSessions_15 : decode cc_A_countSessions 15 = .ok (.iconst (-1), 1) := by decide +kernel
theorem d_A_countSessions_16 : decode cc_A_countSessions 16 = .ok (.if_icmp .eq 6, 3) := by decide +kernel
theorem d_A_countSessions_22 : decode cc_A_countSessions 22 = .ok (.iinc 2 1, 3) := by decide +kernel
theorem d_A_countSessions_25 : decode cc_A_countSessions 25 = .ok (.goto (-21), 3) := by decide +kernel
theorem d_A_countSessions_19 : decode cc_A_countSessions 19 = .ok (.iinc 1 1, 3) := by decide +kernel
def f_A_countSessions_4 (vU : Nat → Int32) (k4 : (Int32 × Int32) → Option (Int32)) (a : Int32 × Int32) : Option (Int32) :=
  if (4 : Int32) ≤ a.2 then (some a.1) else ((jv_ga vU 4 a.2).bind fun x1 => if x1 = (-1 : Int32) then (k4 (a.1, a.2 + (1 : Int32))) else (k4 (a.1 + (1 : Int32), a.2 + (1 : Int32))))
set_option maxHeartbeats 4000000 in
set_option maxRecDepth 100000 in
theorem b_A_countSessions_4 {l : Launch} {dC : Nat → ClassId} {dI : Nat → Nat → Nat} {cI cA cL : ClassId} {q_ar q_us q_di q_tr q_co : Nat} {vlb : Int32} {vU : Nat → Int32} {p : Program} {e : Env} {s : State} {m : MethodId} {args : Array Value} {below : List Frame} {meth : Method} {c : Code} (cx : jv_cx p s m args meth c cc_A_countSessions 3 R_Area (some .int) ws_A_countSessions) (hK : va_K (dC, dI) vwCl (jv_ty cI cA cL) s) (hP : va_P (dC, dI) vwCl (w_area cI q_ar q_us q_di q_tr q_co vlb vU) s.heap) {r : Int32} {k4 : (Int32 × Int32) → Option (Int32)} (hk4 : ∀ (a : Int32 × Int32) (ls : Array Slot), lv_has ls 3 [(0, .ref q_ar), (1, .int a.1), (2, .int a.2)] → k4 a = some r → W p l e rm_A_countSessions s m args below meth c s.heap [] 0 0 (MQ below (QcRead r) args s 0 0 (fun _ => False)) (F0 m 4 ls [])) {a : Int32 × Int32} {ls : Array Slot} (hl : lv_has ls 3 [(0, .ref q_ar), (1, .int a.1), (2, .int a.2)]) (hf : f_A_countSessions_4 vU k4 a = some r) : W p l e rm_A_countSessions s m args below meth c s.heap [] 0 0 (MQ below (QcRead r) args s 0 0 (fun _ => False)) (F0 m 4 ls []) := by
  unfold f_A_countSessions_4 at hf
  obtain ⟨hx, hb, hml, hown, hts, hr, hlocks⟩ := id cx
  refine lv_iload_n hx hb d_A_countSessions_4 rfl (lv_at hl 2 rfl) ?_
  refine lv_iconst (v := (4 : Int32)) hx hb d_A_countSessions_5 (by decide) ?_
  refine lv_icmp_ge (tgt := 28) hx hb d_A_countSessions_6 (by decide) (fun hc => ?_) (fun hc => ?_)
  · have hf := jv_it hf hc
    refine lv_iload_n hx hb d_A_countSessions_28 rfl (lv_at hl 1 rfl) ?_
    obtain rfl := Option.some.inj hf
    exact W.iret hx hb hr (fun t ht hW => ⟨rfl, ht⟩) (fun q h => by cases h) d_A_countSessions_29
  · have hf := jv_if hf hc
    refine lv_aload_n hx hb d_A_countSessions_9 rfl (lv_at hl 0 rfl) ?_
    refine va_get (D := (dC, dI)) (ci := kArea) (v := .ref q_us) (C := R_Area) (T := T_Area) (N := 5) hx hb hts (fun w h => List.mem_cons_of_mem _ (in_Area w h)) hown hK hP 0 rfl rfl 1 (by decide) (jv_w hts wa_188) (fun _ h9 => h9) rfl d_A_countSessions_10 ?_
    refine lv_iload_n hx hb d_A_countSessions_13 rfl (lv_at hl 2 rfl) ?_
    obtain ⟨x1, g2, hf⟩ := jv_ob hf
    refine jv_iald hx hb hK hP 1 0 rfl rfl g2 d_A_countSessions_14 ?_
    refine lv_iconst (v := (-1 : Int32)) hx hb d_A_countSessions_15 (by decide) ?_
    refine lv_icmp_eq (tgt := 22) hx hb d_A_countSessions_16 (by decide) (fun hc => ?_) (fun hc => ?_)
    · have hf := jv_it hf hc
      refine lv_iinc (k := 2) (v := a.2 + (1 : Int32)) (lv' := [(2, .int (a.2 + (1 : Int32))), (0, .ref q_ar), (1, .int a.1)]) hx hb d_A_countSessions_22 hl rfl (jv_inc _) (by decide) rfl (fun ls hl => ?_)
      refine lv_goto (tgt := 4) hx hb d_A_countSessions_25 (by decide) ?_
      exact hk4 (a.1, a.2 + (1 : Int32)) _ (lv_sub hl [1, 2, 0] rfl) hf
    · have hf := jv_if hf hc
      refine lv_iinc (k := 1) (v := a.1 + (1 : Int32)) (lv' := [(1, .int (a.1 + (1 : Int32))), (0, .ref q_ar), (2, .int a.2)]) hx hb d_A_countSessions_19 hl rfl (jv_inc _) (by decide) rfl (fun ls hl => ?_)
      refine lv_iinc (k := 2) (v := a.2 + (1 : Int32)) (lv' := [(2, .int (a.2 + (1 : Int32))), (1, .int (a.1 + (1 : Int32))), (0, .ref q_ar)]) hx hb d_A_countSessions_22 hl rfl (jv_inc _) (by decide) rfl (fun ls hl => ?_)
      refine lv_goto (tgt := 4) hx hb d_A_countSessions_25 (by decide) ?_
      exact hk4 (a.1 + (1 : Int32), a.2 + (1 : Int32)) _ (lv_sub hl [2, 1, 0] rfl) hf
set_option maxHeartbeats 4000000 in
set_option maxRecDepth 100000 in
theorem l_A_countSessions_4 {l : Launch} {dC : Nat → ClassId} {dI : Nat → Nat → Nat} {cI cA cL : ClassId} {q_ar q_us q_di q_tr q_co : Nat} {vlb : Int32} {vU : Nat → Int32} {p : Program} {e : Env} {s : State} {m : MethodId} {args : Array Value} {below : List Frame} {meth : Method} {c : Code} (cx : jv_cx p s m args meth c cc_A_countSessions 3 R_Area (some .int) ws_A_countSessions) (hK : va_K (dC, dI) vwCl (jv_ty cI cA cL) s) (hP : va_P (dC, dI) vwCl (w_area cI q_ar q_us q_di q_tr q_co vlb vU) s.heap) {r : Int32} : ∀ n : Nat, ∀ (a : Int32 × Int32) (ls : Array Slot), lv_has ls 3 [(0, .ref q_ar), (1, .int a.1), (2, .int a.2)] → jv_fx (f_A_countSessions_4 vU) n a = some r → W p l e rm_A_countSessions s m args below meth c s.heap [] 0 0 (MQ below (QcRead r) args s 0 0 (fun _ => False)) (F0 m 4 ls []) := by
  intro n
  induction n with
  | zero => intro a ls hl hf; exact jv_no hf
  | succ n ih => intro a ls hl hf; exact b_A_countSessions_4 cx hK hP ih hl hf
def f_A_countSessions_0 (vU : Nat → Int32) : Option (Int32) :=
  jv_fx (f_A_countSessions_4 vU) 300 ((0 : Int32), (0 : Int32))
set_option maxHeartbeats 4000000 in
set_option maxRecDepth 100000 in
theorem b_A_countSessions_0 {l : Launch} {dC : Nat → ClassId} {dI : Nat → Nat → Nat} {cI cA cL : ClassId} {q_ar q_us q_di q_tr q_co : Nat} {vlb : Int32} {vU : Nat → Int32} {p : Program} {e : Env} {s : State} {m : MethodId} {args : Array Value} {below : List Frame} {meth : Method} {c : Code} (cx : jv_cx p s m args meth c cc_A_countSessions 3 R_Area (some .int) ws_A_countSessions) (hK : va_K (dC, dI) vwCl (jv_ty cI cA cL) s) (hP : va_P (dC, dI) vwCl (w_area cI q_ar q_us q_di q_tr q_co vlb vU) s.heap) {r : Int32} {ls : Array Slot} (hl : lv_has ls 3 [(0, .ref q_ar)]) (hf : f_A_countSessions_0 vU = some r) : W p l e rm_A_countSessions s m args below meth c s.heap [] 0 0 (MQ below (QcRead r) args s 0 0 (fun _ => False)) (F0 m 0 ls []) := by
  unfold f_A_countSessions_0 at hf
  obtain ⟨hx, hb, hml, hown, hts, hr, hlocks⟩ := id cx
  refine lv_iconst (v := (0 : Int32)) hx hb d_A_countSessions_0 (by decide) ?_
  refine lv_istore_n (lv' := [(1, .int (0 : Int32)), (0, .ref q_ar)]) hx hb d_A_countSessions_1 rfl hl (by decide) rfl (fun ls hl => ?_)
  refine lv_iconst (v := (0 : Int32)) hx hb d_A_countSessions_2 (by decide) ?_
  refine lv_istore_n (lv' := [(2, .int (0 : Int32)), (1, .int (0 : Int32)), (0, .ref q_ar)]) hx hb d_A_countSessions_3 rfl hl (by decide) rfl (fun ls hl => ?_)
  exact l_A_countSessions_4 cx hK hP 300 ((0 : Int32), (0 : Int32)) _ (lv_sub hl [2, 1, 0] rfl) hf
def f_A_countSessions (vU : Nat → Int32) : Option (Int32) := f_A_countSessions_0 vU
set_option maxHeartbeats 4000000 in
set_option maxRecDepth 100000 in
theorem c_A_countSessions (l : Launch) (dC : Nat → ClassId) (dI : Nat → Nat → Nat) (cI cA cL : ClassId) (q_ar q_us q_di q_tr q_co : Nat) (vlb : Int32) (vU : Nat → Int32) (r : Int32) (hf : f_A_countSessions vU = some r) : Met l y_A_countSessions ws_A_countSessions rm_A_countSessions (jv_Pr [.ref q_ar] (dC, dI) (jv_ty cI cA cL) (w_area cI q_ar q_us q_di q_tr q_co vlb vU)) (QcRead r) 0 0 (fun _ => False) := by
  refine Met.ofW (cc := cc_A_countSessions) (maxL := 3) (ret := (some .int)) (by decide) rfl ?_
  intro p e s m args below meth c s₁ B hml hv
  obtain ⟨rfl, hP, hK⟩ := hv
  have cx : jv_cx p s m _ meth c cc_A_countSessions 3 R_Area (some .int) ws_A_countSessions := ⟨B.exec, B.bytes, hml, findClass_of_methodNamed B.named, atoms_spec (ws := ws_A_countSessions) B.pre, B.returns, B.notSynchronized⟩
  have hl := lv_entry ([.ref q_ar]) (n := 3) (Nat.le_of_ble_eq_true rfl)
  rw [lg_entry_eq]
  generalize (lg_sl ([.ref q_ar]) ++ List.replicate (3 - (lg_sl ([.ref q_ar])).length) Slot.unset).toArray = ls at hl ⊢
  have hl : lv_has ls 3 [(0, .ref q_ar)] := hl
  exact b_A_countSessions_0 cx hK hP (lv_sub hl [0] rfl) hf
