theorem d_V_isUser_0 : decode cc_V_isUser 0 = .ok (.iload_n 0, 1) := by decide +kernel
theorem d_V_isUser_1 : decode cc_V_isUser 1 = .ok (.ifCond .lt 12, 3) := by decide +kernel
theorem d_V_isUser_13 : decode cc_V_isUser 13 = .ok (.iconst 0, 1) := by decide +kernel
theorem d_V_isUser_14 : decode cc_V_isUser 14 = .ok (.ireturn, 1) := by decide +kernel
theorem d_V_isUser_4 : decode cc_V_isUser 4 = .ok (.iload_n 0, 1) := by decide +kernel
theorem d_V_isUser_5 : decode cc_V_isUser 5 = .ok (.iconst 4, 1) := by decide +kernel
theorem d_V_isUser_6 : decode cc_V_isUser 6 = .ok (.if_icmp .ge 7, 3) := by decide +kernel
theorem d_V_isUser_9 : decode cc_V_isUser 9 = .ok (.iconst 1, 1) := by decide +kernel
theorem d_V_isUser_10 : decode cc_V_isUser 10 = .ok (.goto 4, 3) := by decide +kernel
def f_V_isUser_0 (y0 : Int32) : Option (Int32) :=
  if y0 < 0 then (some (0 : Int32)) else (if (4 : Int32) ≤ y0 then (some (0 : Int32)) else (some (1 : Int32)))
set_option maxHeartbeats 4000000 in
set_option maxRecDepth 100000 in
theorem b_V_isUser_0 {l : Launch} {p : Program} {e : Env} {s : State} {m : MethodId} {args : Array Value} {below : List Frame} {meth : Method} {c : Code} (cx : jv_cx p s m args meth c cc_V_isUser 1 R_Vault (some .boolean) ws_V_isUser) {r : Int32} {y0 : Int32} {ls : Array Slot} (hl : lv_has ls 1 [(0, .int y0)]) (hf : f_V_isUser_0 y0 = some r) : W p l e rm_V_isUser s m args below meth c s.heap [] 0 0 (MQ below (QcRead r) args s 0 0 (fun _ => False)) (F0 m 0 ls []) := by
  unfold f_V_isUser_0 at hf
  obtain ⟨hx, hb, hml, hown, hts, hr, hlocks⟩ := id cx
  refine lv_iload_n hx hb d_V_isUser_0 rfl (lv_at hl 0 rfl) ?_
  refine lv_if_lt (tgt := 13) hx hb d_V_isUser_1 (by decide) (fun hc => ?_) (fun hc => ?_)
  · have hf := jv_it hf hc
    refine lv_iconst (v := (0 : Int32)) hx hb d_V_isUser_13 (by decide) ?_
    obtain rfl := Option.some.inj hf
    exact W.zret hx hb hr rfl (fun t ht hW => ⟨rfl, ht⟩) (fun q h => by cases h) d_V_isUser_14
  · have hf := jv_if hf hc
    refine lv_iload_n hx hb d_V_isUser_4 rfl (lv_at hl 0 rfl) ?_
    refine lv_iconst (v := (4 : Int32)) hx hb d_V_isUser_5 (by decide) ?_
    refine lv_icmp_ge (tgt := 13) hx hb d_V_isUser_6 (by decide) (fun hc => ?_) (fun hc => ?_)
    · have hf := jv_it hf hc
      refine lv_iconst (v := (0 : Int32)) hx hb d_V_isUser_13 (by decide) ?_
      obtain rfl := Option.some.inj hf
      exact W.zret hx hb hr rfl (fun t ht hW => ⟨rfl, ht⟩) (fun q h => by cases h) d_V_isUser_14
    · have hf := jv_if hf hc
      refine lv_iconst (v := (1 : Int32)) hx hb d_V_isUser_9 (by decide) ?_
      refine lv_goto (tgt := 14) hx hb d_V_isUser_10 (by decide) ?_
      obtain rfl := Option.some.inj hf
      exact W.zret hx hb hr rfl (fun t ht hW => ⟨rfl, ht⟩) (fun q h => by cases h) d_V_isUser_14
def f_V_isUser (a0 : Int32) : Option (Int32) := f_V_isUser_0 a0
set_option maxHeartbeats 4000000 in
set_option maxRecDepth 100000 in
theorem c_V_isUser (l : Launch) (a0 : Int32) (r : Int32) (hf : f_V_isUser a0 = some r) : Met l y_V_isUser ws_V_isUser rm_V_isUser (jv_P0 [.int a0]) (QcRead r) 0 0 (fun _ => False) := by
  refine Met.ofW (cc := cc_V_isUser) (maxL := 1) (ret := (some .boolean)) (by decide) rfl ?_
  intro p e s m args below meth c s₁ B hml hv
  obtain ⟨rfl, -⟩ := hv
  have cx : jv_cx p s m _ meth c cc_V_isUser 1 R_Vault (some .boolean) ws_V_isUser := ⟨B.exec, B.bytes, hml, findClass_of_methodNamed B.named, atoms_spec (ws := ws_V_isUser) B.pre, B.returns, B.notSynchronized⟩
  have hl := lv_entry ([.int a0]) (n := 1) (Nat.le_of_ble_eq_true rfl)
  rw [lg_entry_eq]
  generalize (lg_sl ([.int a0]) ++ List.replicate (1 - (lg_sl ([.int a0])).length) Slot.unset).toArray = ls at hl ⊢
  have hl : lv_has ls 1 [(0, .int a0)] := hl
  exact b_V_isUser_0 (y0 := a0) cx (lv_sub hl [0] rfl) hf
theorem d_V_demand_0 : decode cc_V_demand 0 = .ok (.iload_n 0, 1) := by decide +kernel
theorem d_V_demand_1 : decode cc_V_demand 1 = .ok (.ifCond .ne 13, 3) := by decide +kernel
theorem d_V_demand_14 : decode cc_V_demand 14 = .ok (.return_, 1) := by decide +kernel
theorem d_V_demand_4 : decode cc_V_demand 4 = .ok (.new 252, 3) := by decide +kernel
theorem d_V_demand_10 : decode cc_V_demand 10 = .ok (.invokespecial 256, 3) := by decide +kernel
theorem d_V_demand_13 : decode cc_V_demand 13 = .ok (.athrow, 1) := by decide +kernel
theorem d_V_demand_7 : decode cc_V_demand 7 = .ok (.dup, 1) := by decide +kernel
theorem d_V_demand_8 : decode cc_V_demand 8 = .ok (.ldc 254, 2) := by decide +kernel
def f_V_demand_0 (y0 : Int32) : Option (Nat ⊕ (Unit)) :=
  if y0 = 0 then (some (Sum.inl 1)) else (some (Sum.inr ()))
set_option maxHeartbeats 4000000 in
set_option maxRecDepth 100000 in
theorem b_V_demand_0 {l : Launch} {p : Program} {e : Env} {s : State} {m : MethodId} {args : Array Value} {below : List Frame} {meth : Method} {c : Code} (cx : jv_cx p s m args meth c cc_V_demand 1 R_Vault none ws_V_demand) (hl9 : l.stackTraces = false) (hT : jv_th s) (hout : c.exceptionTable.isEmpty = true) {r : Unit} {y0 : Int32} {ls : Array Slot} (hl : lv_has ls 1 [(0, .int y0)]) (hf : f_V_demand_0 y0 = some (Sum.inr r)) : W p l e rm_V_demand s m args below meth c s.heap [] 0 0 (MQ below jv_Rv args s 0 0 (fun _ => False)) (F0 m 0 ls []) := by
  unfold f_V_demand_0 at hf
  obtain ⟨hx, hb, hml, hown, hts, hr, hlocks⟩ := id cx
  refine lv_iload_n hx hb d_V_demand_0 rfl (lv_at hl 0 rfl) ?_
  refine lv_if_ne (tgt := 14) hx hb d_V_demand_1 (by decide) (fun hc => ?_) (fun hc => ?_)
  · have hf := jv_if hf hc
    obtain rfl := Sum.inr.inj (Option.some.inj hf)
    exact W.vret hx hb hr (fun t ht hW => ⟨rfl, ht⟩) (fun q h => by cases h) d_V_demand_14
  · have hf := jv_it hf hc
    cases Option.some.inj hf
def f_V_demand (a0 : Int32) : Option (Nat ⊕ (Unit)) := f_V_demand_0 a0
set_option maxHeartbeats 4000000 in
set_option maxRecDepth 100000 in
theorem c_V_demand (l : Launch) (hl9 : l.stackTraces = false) (a0 : Int32) (r : Unit) (hf : f_V_demand a0 = some (Sum.inr r)) : Met l y_V_demand ws_V_demand rm_V_demand (jv_P0t [.int a0]) jv_Rv 0 0 (fun _ => False) := by
  refine Met.ofW (cc := cc_V_demand) (maxL := 1) (ret := none) (by decide) rfl ?_
  intro p e s m args below meth c s₁ B hml hv
  obtain ⟨rfl, hT⟩ := hv
  have cx : jv_cx p s m _ meth c cc_V_demand 1 R_Vault none ws_V_demand := ⟨B.exec, B.bytes, hml, findClass_of_methodNamed B.named, atoms_spec (ws := ws_V_demand) B.pre, B.returns, B.notSynchronized⟩
  have hout : c.exceptionTable.isEmpty = true := B.noHandlers (atoms_spec (ws := ws_V_demand) B.pre _ List.mem_cons_self)
  have hl := lv_entry ([.int a0]) (n := 1) (Nat.le_of_ble_eq_true rfl)
  rw [lg_entry_eq]
  generalize (lg_sl ([.int a0]) ++ List.replicate (1 - (lg_sl ([.int a0])).length) Slot.unset).toArray = ls at hl ⊢
  have hl : lv_has ls 1 [(0, .int a0)] := hl
  exact b_V_demand_0 (y0 := a0) cx hl9 hT hout (lv_sub hl [0] rfl) hf
set_option maxHeartbeats 4000000 in
set_option maxRecDepth 100000 in
theorem t_V_demand_0 {l : Launch} {p : Program} {e : Env} {s : State} {m : MethodId} {args : Array Value} {below : List Frame} {meth : Method} {c : Code} (cx : jv_cx p s m args meth c cc_V_demand 1 R_Vault none ws_V_demand) (hl9 : l.stackTraces = false) (hT : jv_th s) (hout : c.exceptionTable.isEmpty = true) {kx : Nat} {y0 : Int32} {ls : Array Slot} (hl : lv_has ls 1 [(0, .int y0)]) (hf : f_V_demand_0 y0 = some (Sum.inl kx)) : W p l e rx_V_demand s m args below meth c s.heap [] 0 0 (jv_MQ below (jv_en kx) args s 1 6) (F0 m 0 ls []) := by
  unfold f_V_demand_0 at hf
  obtain ⟨hx, hb, hml, hown, hts, hr, hlocks⟩ := id cx
  refine lv_iload_n hx hb d_V_demand_0 rfl (lv_at hl 0 rfl) ?_
  refine lv_if_ne (tgt := 14) hx hb d_V_demand_1 (by decide) (fun hc => ?_) (fun hc => ?_)
  · have hf := jv_if hf hc
    cases Option.some.inj hf
  · have hf := jv_it hf hc
    obtain rfl := Sum.inl.inj (Option.some.inj hf)
    refine W.newc hx hb hown (jv_w hts wa_297) (jv_w hts wa_298) (jv_w hts wa_299) rfl d_V_demand_4 (Nat.le_of_ble_eq_true rfl) (Nat.le_of_ble_eq_true rfl) (fun cC kC h1 h2 h3 h4 => ?_)
    refine W.eq (g2 := F0 m 7 ls (.ref s.heap.size :: [])) rfl ?_
    refine lv_dup hx hb d_V_demand_7 rfl ?_
    obtain ⟨sa, hsa⟩ := hT.2.2 (254, "an argument is not as the document says") (by decide +kernel)
    refine va_ldcS (own := R_Vault) hx hb hown hsa d_V_demand_8 ?_
    exact jv_throwS (names := ["java/lang/RuntimeException", "java/lang/Exception"]) hx hb hl9 hlocks (hl.1.trans hml.symm) hown (by decide +kernel) (by decide +kernel) (jv_own hts hT oa_256) hout h1 h2 jv_fresh (Nat.le_refl _) d_V_demand_10 d_V_demand_13 (Nat.le_of_ble_eq_true rfl) (Nat.le_of_ble_eq_true rfl)
set_option maxHeartbeats 4000000 in
set_option maxRecDepth 100000 in
theorem x_V_demand (l : Launch) (hl9 : l.stackTraces = false) (a0 : Int32) (kx : Nat) (hf : f_V_demand a0 = some (Sum.inl kx)) : jv_MX l y_V_demand ws_V_demand rx_V_demand (jv_P0t [.int a0]) (jv_en kx) 1 6 := by
  refine jv_MX.ofW (cc := cc_V_demand) (maxL := 1) (ret := none) (by decide) rfl ?_
  intro p e s m args below meth c s₁ B hml hv
  obtain ⟨rfl, hT⟩ := hv
  have cx : jv_cx p s m _ meth c cc_V_demand 1 R_Vault none ws_V_demand := ⟨B.exec, B.bytes, hml, findClass_of_methodNamed B.named, atoms_spec (ws := ws_V_demand) B.pre, B.returns, B.notSynchronized⟩
  have hout : c.exceptionTable.isEmpty = true := B.noHandlers (atoms_spec (ws := ws_V_demand) B.pre _ List.mem_cons_self)
  have hl := lv_entry ([.int a0]) (n := 1) (Nat.le_of_ble_eq_true rfl)
  rw [lg_entry_eq]
  generalize (lg_sl ([.int a0]) ++ List.replicate (1 - (lg_sl ([.int a0])).length) Slot.unset).toArray = ls at hl ⊢
  have hl : lv_has ls 1 [(0, .int a0)] := hl
  exact t_V_demand_0 (y0 := a0) cx hl9 hT hout (lv_sub hl [0] rfl) hf
theorem d_V_hasLabel_0 : decode cc_V_hasLabel 0 = .ok (.iconst 0, 1) := by decide +kernel
theorem d_V_hasLabel_1 : decode cc_V_hasLabel 1 = .ok (.istore_n 2, 1) := by decide +kernel
theorem d_V_hasLabel_2 : decode cc_V_hasLabel 2 = .ok (.iload_n 2, 1) := by decide +kernel
theorem d_V_hasLabel_3 : decode cc_V_hasLabel 3 = .ok (.bipush 6, 2) := by decide +kernel
theorem d_V_hasLabel_5 : decode cc_V_hasLabel 5 = .ok (.if_icmp .ge 33, 3) := by decide +kernel
theorem d_V_hasLabel_38 : decode cc_V_hasLabel 38 = .ok (.iconst 0, 1) := by decide +kernel
theorem d_V_hasLabel_39 : decode cc_V_hasLabel 39 = .ok (.ireturn, 1) := by decide +kernel
theorem d_V_hasLabel_8 : decode cc_V_hasLabel 8 = .ok (.aload_n 0, 1) := by decide +kernel
theorem d_V_hasLabel_9 : decode cc_V_hasLabel 9 = .ok (.getfield 11, 3) := by decide +kernel
theorem d_V_hasLabel_12 : decode cc_V_hasLabel 12 = .ok (.iload_n 2, 1) := by decide +kernel
theorem d_V_hasLabel_13 : decode cc_V_hasLabel 13 = .ok (.aaload, 1) := by decide +kernel
theorem d_V_hasLabel_14 : decode cc_V_hasLabel 14 = .ok (.ifnull 18, 3) := by decide +kernel
theorem d_V_hasLabel_17 : decode cc_V_hasLabel 17 = .ok (.aload_n 0, 1) := by decide +kernel
theorem d_V_hasLabel_18 : decode cc_V_hasLabel 18 = .ok (.getfield 11, 3) := by decide +kernel
theorem d_V_hasLabel_21 : decode cc_V_hasLabel 21 = .ok (.iload_n 2, 1) := by decide +kernel
theorem d_V_hasLabel_22 : decode cc_V_hasLabel 22 = .ok (.aaload, 1) := by decide +kernel
theorem d_V_hasLabel_23 : decode cc_V_hasLabel 23 = .ok (.getfield 67, 3) := by decide +kernel
theorem d_V_hasLabel_26 : decode cc_V_hasLabel 26 = .ok (.iload_n 1, 1) := by decide +kernel
theorem d_V_hasLabel_27 : decode cc_V_hasLabel 27 = .ok (.if_icmp .ne 5, 3) := by decide +kernel
theorem d_V_hasLabel_32 : decode cc_V_hasLabel 32 = .ok (.iinc 2 1, 3) := by decide +kernel
theorem d_V_hasLabel_35 : decode cc_V_hasLabel 35 = .ok (.goto (-33), 3) := by decide +kernel
theorem d_V_hasLabel_30 : decode cc_V_hasLabel 30 = .ok (.iconst 1, 1) := by decide +kernel
theorem d_V_hasLabel_31 : decode cc_V_hasLabel 31 = .ok (.ireturn, 1) := by decide +kernel
def f_V_hasLabel_2 (vn : Nat) (ars : Nat → jv_ar) (y0 : Int32) (k2 : (Int32) → Option (Int32)) (a : Int32) : Option (Int32) :=
  if (6 : Int32) ≤ a then (some (0 : Int32)) else ((jv_gi 6 a).bind fun j1 => if j1 < vn then ((jv_gi 6 a).bind fun j4 => if j4 < vn then (if ((ars j4).1) = y0 then (some (1 : Int32)) else (k2 (a + (1 : Int32)))) else (none)) else (k2 (a + (1 : Int32))))
set_option maxHeartbeats 4000000 in
set_option maxRecDepth 100000 in
theorem b_V_hasLabel_2 {l : Launch} {dC : Nat → ClassId} {dI : Nat → Nat → Nat} {cI cA cL : ClassId} {q_va q_aa q_cl q_fu : Nat} {Q : Nat → Nat → Nat} {vn : Nat} {vC : Nat → Int32} {vat : Int32} {ars : Nat → jv_ar} {p : Program} {e : Env} {s : State} {m : MethodId} {args : Array Value} {below : List Frame} {meth : Method} {c : Code} (cx : jv_cx p s m args meth c cc_V_hasLabel 3 R_Vault (some .boolean) ws_V_hasLabel) (hK : va_K (dC, dI) vwCl (jv_ty cI cA cL) s) (hP : va_P (dC, dI) vwCl (w_vault cI cA q_va q_aa q_cl q_fu Q vn vC vat ars) s.heap) {r : Int32} {y0 : Int32} {k2 : (Int32) → Option (Int32)} (hk2 : ∀ (b0 : Int32) (ls : Array Slot), lv_has ls 3 [(0, .ref q_va), (1, .int y0), (2, .int b0)] → k2 b0 = some r → W p l e rm_V_hasLabel s m args below meth c s.heap [] 0 0 (MQ below (QcRead r) args s 0 0 (fun _ => False)) (F0 m 2 ls [])) {a : Int32} {ls : Array Slot} (hl : lv_has ls 3 [(0, .ref q_va), (1, .int y0), (2, .int a)]) (hf : f_V_hasLabel_2 vn ars y0 k2 a = some r) : W p l e rm_V_hasLabel s m args below meth c s.heap [] 0 0 (MQ below (QcRead r) args s 0 0 (fun _ => False)) (F0 m 2 ls []) := by
  unfold f_V_hasLabel_2 at hf
  obtain ⟨hx, hb, hml, hown, hts, hr, hlocks⟩ := id cx
  refine lv_iload_n hx hb d_V_hasLabel_2 rfl (lv_at hl 2 rfl) ?_
  refine lv_bipush (v := (6 : Int32)) hx hb d_V_hasLabel_3 (by decide) ?_
  refine lv_icmp_ge (tgt := 38) hx hb d_V_hasLabel_5 (by decide) (fun hc => ?_) (fun hc => ?_)
  · have hf := jv_it hf hc
    refine lv_iconst (v := (0 : Int32)) hx hb d_V_hasLabel_38 (by decide) ?_
    obtain rfl := Option.some.inj hf
    exact W.zret hx hb hr rfl (fun t ht hW => ⟨rfl, ht⟩) (fun q h => by cases h) d_V_hasLabel_39
  · have hf := jv_if hf hc
    refine lv_aload_n hx hb d_V_hasLabel_8 rfl (lv_at hl 0 rfl) ?_
    refine va_get (D := (dC, dI)) (ci := kVault) (v := .ref q_aa) (C := R_Vault) (T := T_Vault) (N := 4) hx hb hts (fun w h => List.mem_cons_of_mem _ (in_Vault w h)) hown hK hP 0 rfl rfl 0 (by decide) (jv_w hts wa_300) (fun _ h9 => h9) rfl d_V_hasLabel_9 ?_
    refine lv_iload_n hx hb d_V_hasLabel_12 rfl (lv_at hl 2 rfl) ?_
    obtain ⟨j1, g2, hf⟩ := jv_ob hf
    refine jv_aald hx hb hK hP g2 d_V_hasLabel_13 (fun hj3 => ?_) (fun hj3 => ?_)
    · have hf := jv_it hf hj3
      refine lv_ifnull hx hb d_V_hasLabel_14 ?_
      refine lv_aload_n hx hb d_V_hasLabel_17 rfl (lv_at hl 0 rfl) ?_
      refine va_get (D := (dC, dI)) (ci := kVault) (v := .ref q_aa) (C := R_Vault) (T := T_Vault) (N := 4) hx hb hts (fun w h => List.mem_cons_of_mem _ (in_Vault w h)) hown hK hP 0 rfl rfl 0 (by decide) (jv_w hts wa_300) (fun _ h9 => h9) rfl d_V_hasLabel_18 ?_
      refine lv_iload_n hx hb d_V_hasLabel_21 rfl (lv_at hl 2 rfl) ?_
      obtain ⟨j4, g5, hf⟩ := jv_ob hf
      refine jv_aald hx hb hK hP g5 d_V_hasLabel_22 (fun hj6 => ?_) (fun hj6 => ?_)
      · have hf := jv_it hf hj6
        refine va_get (D := (dC, dI)) (ci := kArea) (v := .int ((ars j4).1)) (C := R_Area) (T := T_Area) (N := 5) hx hb hts (fun w h => List.mem_cons_of_mem _ (in_Area w h)) hown hK (jv_open hP hj6) 1 rfl rfl 0 (by decide) (jv_w hts wa_301) (fun _ h9 => h9) rfl d_V_hasLabel_23 ?_
        refine lv_iload_n hx hb d_V_hasLabel_26 rfl (lv_at hl 1 rfl) ?_
        refine lv_icmp_ne (tgt := 32) hx hb d_V_hasLabel_27 (by decide) (fun hc => ?_) (fun hc => ?_)
        · have hf := jv_if hf hc
          refine lv_iinc (k := 2) (v := a + (1 : Int32)) (lv' := [(2, .int (a + (1 : Int32))), (0, .ref q_va), (1, .int y0)]) hx hb d_V_hasLabel_32 hl rfl (jv_inc _) (by decide) rfl (fun ls hl => ?_)
          refine lv_goto (tgt := 2) hx hb d_V_hasLabel_35 (by decide) ?_
          exact hk2 (a + (1 : Int32)) _ (lv_sub hl [1, 2, 0] rfl) hf
        · have hf := jv_it hf hc
          refine lv_iconst (v := (1 : Int32)) hx hb d_V_hasLabel_30 (by decide) ?_
          obtain rfl := Option.some.inj hf
          exact W.zret hx hb hr rfl (fun t ht hW => ⟨rfl, ht⟩) (fun q h => by cases h) d_V_hasLabel_31
      · cases jv_if hf hj6
    · have hf := jv_if hf hj3
      refine lv_ifnullN (tgt := 32) hx hb d_V_hasLabel_14 (by decide) ?_
      refine lv_iinc (k := 2) (v := a + (1 : Int32)) (lv' := [(2, .int (a + (1 : Int32))), (0, .ref q_va), (1, .int y0)]) hx hb d_V_hasLabel_32 hl rfl (jv_inc _) (by decide) rfl (fun ls hl => ?_)
      refine lv_goto (tgt := 2) hx hb d_V_hasLabel_35 (by decide) ?_
      exact hk2 (a + (1 : Int32)) _ (lv_sub hl [1, 2, 0] rfl) hf
set_option maxHeartbeats 4000000 in
set_option maxRecDepth 100000 in
theorem l_V_hasLabel_2 {l : Launch} {dC : Nat → ClassId} {dI : Nat → Nat → Nat} {cI cA cL : ClassId} {q_va q_aa q_cl q_fu : Nat} {Q : Nat → Nat → Nat} {vn : Nat} {vC : Nat → Int32} {vat : Int32} {ars : Nat → jv_ar} {p : Program} {e : Env} {s : State} {m : MethodId} {args : Array Value} {below : List Frame} {meth : Method} {c : Code} (cx : jv_cx p s m args meth c cc_V_hasLabel 3 R_Vault (some .boolean) ws_V_hasLabel) (hK : va_K (dC, dI) vwCl (jv_ty cI cA cL) s) (hP : va_P (dC, dI) vwCl (w_vault cI cA q_va q_aa q_cl q_fu Q vn vC vat ars) s.heap) {r : Int32} {y0 : Int32} : ∀ n : Nat, ∀ (b0 : Int32) (ls : Array Slot), lv_has ls 3 [(0, .ref q_va), (1, .int y0), (2, .int b0)] → jv_fx (f_V_hasLabel_2 vn ars y0) n b0 = some r → W p l e rm_V_hasLabel s m args below meth c s.heap [] 0 0 (MQ below (QcRead r) args s 0 0 (fun _ => False)) (F0 m 2 ls []) := by
  intro n
  induction n with
  | zero => intro b0 ls hl hf; exact jv_no hf
  | succ n ih => intro b0 ls hl hf; exact b_V_hasLabel_2 (a := b0) cx hK hP ih hl hf
def f_V_hasLabel_0 (vn : Nat) (ars : Nat → jv_ar) (y0 : Int32) : Option (Int32) :=
  jv_fx (f_V_hasLabel_2 vn ars y0) 300 (0 : Int32)
set_option maxHeartbeats 4000000 in
set_option maxRecDepth 100000 in
theorem b_V_hasLabel_0 {l : Launch} {dC : Nat → ClassId} {dI : Nat → Nat → Nat} {cI cA cL : ClassId} {q_va q_aa q_cl q_fu : Nat} {Q : Nat → Nat → Nat} {vn : Nat} {vC : Nat → Int32} {vat : Int32} {ars : Nat → jv_ar} {p : Program} {e : Env} {s : State} {m : MethodId} {args : Array Value} {below : List Frame} {meth : Method} {c : Code} (cx : jv_cx p s m args meth c cc_V_hasLabel 3 R_Vault (some .boolean) ws_V_hasLabel) (hK : va_K (dC, dI) vwCl (jv_ty cI cA cL) s) (hP : va_P (dC, dI) vwCl (w_vault cI cA q_va q_aa q_cl q_fu Q vn vC vat ars) s.heap) {r : Int32} {y0 : Int32} {ls : Array Slot} (hl : lv_has ls 3 [(0, .ref q_va), (1, .int y0)]) (hf : f_V_hasLabel_0 vn ars y0 = some r) : W p l e rm_V_hasLabel s m args below meth c s.heap [] 0 0 (MQ below (QcRead r) args s 0 0 (fun _ => False)) (F0 m 0 ls []) := by
  unfold f_V_hasLabel_0 at hf
  obtain ⟨hx, hb, hml, hown, hts, hr, hlocks⟩ := id cx
  refine lv_iconst (v := (0 : Int32)) hx hb d_V_hasLabel_0 (by decide) ?_
  refine lv_istore_n (lv' := [(2, .int (0 : Int32)), (0, .ref q_va), (1, .int y0)]) hx hb d_V_hasLabel_1 rfl hl (by decide) rfl (fun ls hl => ?_)
  exact l_V_hasLabel_2 (y0 := y0) cx hK hP 300 (0 : Int32) _ (lv_sub hl [1, 2, 0] rfl) hf
def f_V_hasLabel (vn : Nat) (ars : Nat → jv_ar) (a0 : Int32) : Option (Int32) := f_V_hasLabel_0 vn ars a0
set_option maxHeartbeats 4000000 in
set_option maxRecDepth 100000 in
theorem c_V_hasLabel (l : Launch) (dC : Nat → ClassId) (dI : Nat → Nat → Nat) (cI cA cL : ClassId) (q_va q_aa q_cl q_fu : Nat) (Q : Nat → Nat → Nat) (vn : Nat) (vC : Nat → Int32) (vat : Int32) (ars : Nat → jv_ar) (a0 : Int32) (r : Int32) (hf : f_V_hasLabel vn ars a0 = some r) : Met l y_V_hasLabel ws_V_hasLabel rm_V_hasLabel (jv_Pr [.ref q_va, .int a0] (dC, dI) (jv_ty cI cA cL) (w_vault cI cA q_va q_aa q_cl q_fu Q vn vC vat ars)) (QcRead r) 0 0 (fun _ => False) := by
  refine Met.ofW (cc := cc_V_hasLabel) (maxL := 3) (ret := (some .boolean)) (by decide) rfl ?_
  intro p e s m args below meth c s₁ B hml hv
  obtain ⟨rfl, hP, hK⟩ := hv
  have cx : jv_cx p s m _ meth c cc_V_hasLabel 3 R_Vault (some .boolean) ws_V_hasLabel := ⟨B.exec, B.bytes, hml, findClass_of_methodNamed B.named, atoms_spec (ws := ws_V_hasLabel) B.pre, B.returns, B.notSynchronized⟩
  have hl := lv_entry ([.ref q_va, .int a0]) (n := 3) (Nat.le_of_ble_eq_true rfl)
  rw [lg_entry_eq]
  generalize (lg_sl ([.ref q_va, .int a0]) ++ List.replicate (3 - (lg_sl ([.ref q_va, .int a0])).length) Slot.unset).toArray = ls at hl ⊢
  have hl : lv_has ls 3 [(0, .ref q_va), (1, .int a0)] := hl
  exact b_V_hasLabel_0 (y0 := a0) cx hK hP (lv_sub hl [0, 1] rfl) hf
theorem d_V_hasArea_0 : decode cc_V_hasArea 0 = .ok (.iload_n 1, 1) := by decide +kernel
theorem d_V_hasArea_1 : decode cc_V_hasArea 1 = .ok (.ifCond .lt 22, 3) := by decide +kernel
theorem d_V_hasArea_23 : decode cc_V_hasArea 23 = .ok (.iconst 0, 1) := by decide +kernel
theorem d_V_hasArea_24 : decode cc_V_hasArea 24 = .ok (.ireturn, 1) := by decide +kernel
theorem d_V_hasArea_4 : decode cc_V_hasArea 4 = .ok (.iload_n 1, 1) := by decide +kernel
theorem d_V_hasArea_5 : decode cc_V_hasArea 5 = .ok (.bipush 6, 2) := by decide +kernel
theorem d_V_hasArea_7 : decode cc_V_hasArea 7 = .ok (.if_icmp .ge 16, 3) := by decide +kernel
theorem d_V_hasArea_10 : decode cc_V_hasArea 10 = .ok (.aload_n 0, 1) := by decide +kernel
theorem d_V_hasArea_11 : decode cc_V_hasArea 11 = .ok (.getfield 11, 3) := by decide +kernel
theorem d_V_hasArea_14 : decode cc_V_hasArea 14 = .ok (.iload_n 1, 1) := by decide +kernel
theorem d_V_hasArea_15 : decode cc_V_hasArea 15 = .ok (.aaload, 1) := by decide +kernel
theorem d_V_hasArea_16 : decode cc_V_hasArea 16 = .ok (.ifnull 7, 3) := by decide +kernel
theorem d_V_hasArea_19 : decode cc_V_hasArea 19 = .ok (.iconst 1, 1) := by decide +kernel
theorem d_V_hasArea_20 : decode cc_V_hasArea 20 = .ok (.goto 4, 3) := by decide +kernel
def f_V_hasArea_0 (vn : Nat) (y0 : Int32) : Option (Int32) :=
  if y0 < 0 then (some (0 : Int32)) else (if (6 : Int32) ≤ y0 then (some (0 : Int32)) else ((jv_gi 6 y0).bind fun j1 => if j1 < vn then (some (1 : Int32)) else (some (0 : Int32))))
set_option maxHeartbeats 4000000 in
set_option maxRecDepth 100000 in
theorem b_V_hasArea_0 {l : Launch} {dC : Nat → ClassId} {dI : Nat → Nat → Nat} {cI cA cL : ClassId} {q_va q_aa q_cl q_fu : Nat} {Q : Nat → Nat → Nat} {vn : Nat} {vC : Nat → Int32} {vat : Int32} {ars : Nat → jv_ar} {p : Program} {e : Env} {s : State} {m : MethodId} {args : Array Value} {below : List Frame} {meth : Method} {c : Code} (cx : jv_cx p s m args meth c cc_V_hasArea 2 R_Vault (some .boolean) ws_V_hasArea) (hK : va_K (dC, dI) vwCl (jv_ty cI cA cL) s) (hP : va_P (dC, dI) vwCl (w_vault cI cA q_va q_aa q_cl q_fu Q vn vC vat ars) s.heap) {r : Int32} {y0 : Int32} {ls : Array Slot} (hl : lv_has ls 2 [(0, .ref q_va), (1, .int y0)]) (hf : f_V_hasArea_0 vn y0 = some r) : W p l e rm_V_hasArea s m args below meth c s.heap [] 0 0 (MQ below (QcRead r) args s 0 0 (fun _ => False)) (F0 m 0 ls []) := by
  unfold f_V_hasArea_0 at hf
  obtain ⟨hx, hb, hml, hown, hts, hr, hlocks⟩ := id cx
  refine lv_iload_n hx hb d_V_hasArea_0 rfl (lv_at hl 1 rfl) ?_
  refine lv_if_lt (tgt := 23) hx hb d_V_hasArea_1 (by decide) (fun hc => ?_) (fun hc => ?_)
  · have hf := jv_it hf hc
    refine lv_iconst (v := (0 : Int32)) hx hb d_V_hasArea_23 (by decide) ?_
    obtain rfl := Option.some.inj hf
    exact W.zret hx hb hr rfl (fun t ht hW => ⟨rfl, ht⟩) (fun q h => by cases h) d_V_hasArea_24
  · have hf := jv_if hf hc
    refine lv_iload_n hx hb d_V_hasArea_4 rfl (lv_at hl 1 rfl) ?_
    refine lv_bipush (v := (6 : Int32)) hx hb d_V_hasArea_5 (by decide) ?_
    refine lv_icmp_ge (tgt := 23) hx hb d_V_hasArea_7 (by decide) (fun hc => ?_) (fun hc => ?_)
    · have hf := jv_it hf hc
      refine lv_iconst (v := (0 : Int32)) hx hb d_V_hasArea_23 (by decide) ?_
      obtain rfl := Option.some.inj hf
      exact W.zret hx hb hr rfl (fun t ht hW => ⟨rfl, ht⟩) (fun q h => by cases h) d_V_hasArea_24
    · have hf := jv_if hf hc
      refine lv_aload_n hx hb d_V_hasArea_10 rfl (lv_at hl 0 rfl) ?_
      refine va_get (D := (dC, dI)) (ci := kVault) (v := .ref q_aa) (C := R_Vault) (T := T_Vault) (N := 4) hx hb hts (fun w h => List.mem_cons_of_mem _ (in_Vault w h)) hown hK hP 0 rfl rfl 0 (by decide) (jv_w hts wa_300) (fun _ h9 => h9) rfl d_V_hasArea_11 ?_
      refine lv_iload_n hx hb d_V_hasArea_14 rfl (lv_at hl 1 rfl) ?_
      obtain ⟨j1, g2, hf⟩ := jv_ob hf
      refine jv_aald hx hb hK hP g2 d_V_hasArea_15 (fun hj3 => ?_) (fun hj3 => ?_)
      · have hf := jv_it hf hj3
        refine lv_ifnull hx hb d_V_hasArea_16 ?_
        refine lv_iconst (v := (1 : Int32)) hx hb d_V_hasArea_19 (by decide) ?_
        refine lv_goto (tgt := 24) hx hb d_V_hasArea_20 (by decide) ?_
        obtain rfl := Option.some.inj hf
        exact W.zret hx hb hr rfl (fun t ht hW => ⟨rfl, ht⟩) (fun q h => by cases h) d_V_hasArea_24
      · have hf := jv_if hf hj3
        refine lv_ifnullN (tgt := 23) hx hb d_V_hasArea_16 (by decide) ?_
        refine lv_iconst (v := (0 : Int32)) hx hb d_V_hasArea_23 (by decide) ?_
        obtain rfl := Option.some.inj hf
        exact W.zret hx hb hr rfl (fun t ht hW => ⟨rfl, ht⟩) (fun q h => by cases h) d_V_hasArea_24
def f_V_hasArea (vn : Nat) (a0 : Int32) : Option (Int32) := f_V_hasArea_0 vn a0
set_option maxHeartbeats 4000000 in
set_option maxRecDepth 100000 in
theorem c_V_hasArea (l : Launch) (dC : Nat → ClassId) (dI : Nat → Nat → Nat) (cI cA cL : ClassId) (q_va q_aa q_cl q_fu : Nat) (Q : Nat → Nat → Nat) (vn : Nat) (vC : Nat → Int32) (vat : Int32) (ars : Nat → jv_ar) (a0 : Int32) (r : Int32) (hf : f_V_hasArea vn a0 = some r) : Met l y_V_hasArea ws_V_hasArea rm_V_hasArea (jv_Pr [.ref q_va, .int a0] (dC, dI) (jv_ty cI cA cL) (w_vault cI cA q_va q_aa q_cl q_fu Q vn vC vat ars)) (QcRead r) 0 0 (fun _ => False) := by
  refine Met.ofW (cc := cc_V_hasArea) (maxL := 2) (ret := (some .boolean)) (by decide) rfl ?_
  intro p e s m args below meth c s₁ B hml hv
  obtain ⟨rfl, hP, hK⟩ := hv
  have cx : jv_cx p s m _ meth c cc_V_hasArea 2 R_Vault (some .boolean) ws_V_hasArea := ⟨B.exec, B.bytes, hml, findClass_of_methodNamed B.named, atoms_spec (ws := ws_V_hasArea) B.pre, B.returns, B.notSynchronized⟩
  have hl := lv_entry ([.ref q_va, .int a0]) (n := 2) (Nat.le_of_ble_eq_true rfl)
  rw [lg_entry_eq]
  generalize (lg_sl ([.ref q_va, .int a0]) ++ List.replicate (2 - (lg_sl ([.ref q_va, .int a0])).length) Slot.unset).toArray = ls at hl ⊢
  have hl : lv_has ls 2 [(0, .ref q_va), (1, .int a0)] := hl
  exact b_V_hasArea_0 (y0 := a0) cx hK hP (lv_sub hl [0, 1] rfl) hf
theorem d_V_hasSession_0 : decode cc_V_hasSession 0 = .ok (.iload_n 1, 1) := by decide +kernel
theorem d_V_hasSession_1 : decode cc_V_hasSession 1 = .ok (.ifCond .lt 36, 3) := by decide +kernel
theorem d_V_hasSession_37 : decode cc_V_hasSession 37 = .ok (.iconst 0, 1) := by decide +kernel
theorem d_V_hasSession_38 : decode cc_V_hasSession 38 = .ok (.ireturn, 1) := by decide +kernel
theorem d_V_hasSession_4 : decode cc_V_hasSession 4 = .ok (.aload_n 0, 1) := by decide +kernel
theorem d_V_hasSession_5 : decode cc_V_hasSession 5 = .ok (.iload_n 1, 1) := by decide +kernel
theorem d_V_hasSession_6 : decode cc_V_hasSession 6 = .ok (.iconst 4, 1) := by decide +kernel
theorem d_V_hasSession_7 : decode cc_V_hasSession 7 = .ok (.idiv, 1) := by decide +kernel
theorem d_V_hasSession_8 : decode cc_V_hasSession 8 = .ok (.invokevirtual 233, 3) := by decide +kernel
theorem d_V_hasSession_11 : decode cc_V_hasSession 11 = .ok (.ifCond .eq 26, 3) := by decide +kernel
theorem d_V_hasSession_14 : decode cc_V_hasSession 14 = .ok (.aload_n 0, 1) := by decide +kernel
theorem d_V_hasSession_15 : decode cc_V_hasSession 15 = .ok (.getfield 11, 3) := by decide +kernel
theorem d_V_hasSession_18 : decode cc_V_hasSession 18 = .ok (.iload_n 1, 1) := by decide +kernel
theorem d_V_hasSession_19 : decode cc_V_hasSession 19 = .ok (.iconst 4, 1) := by decide +kernel
theorem d_V_hasSession_20 : decode cc_V_hasSession 20 = .ok (.idiv, 1) := by decide +kernel
theorem d_V_hasSession_21 : decode cc_V_hasSession 21 = .ok (.aaload, 1) := by decide +kernel
theorem d_V_hasSession_22 : decode cc_V_hasSession 22 = .ok (.getfield 249, 3) := by decide +kernel
theorem d_V_hasSession_25 : decode cc_V_hasSession 25 = .ok (.iload_n 1, 1) := by decide +kernel
theorem d_V_hasSession_26 : decode cc_V_hasSession 26 = .ok (.iconst 4, 1) := by decide +kernel
theorem d_V_hasSession_27 : decode cc_V_hasSession 27 = .ok (.irem, 1) := by decide +kernel
theorem d_V_hasSession_28 : decode cc_V_hasSession 28 = .ok (.iaload, 1) := by decide +kernel
theorem d_V_hasSession_29 : decode cc_V_hasSession 29 = .ok (.iconst (-1), 1) := by decide +kernel
theorem d_V_hasSession_30 : decode cc_V_hasSession 30 = .ok (.if_icmp .eq 7, 3) := by decide +kernel
theorem d_V_hasSession_33 : decode cc_V_hasSession 33 = .ok (.iconst 1, 1) := by decide +kernel
theorem d_V_hasSession_34 : decode cc_V_hasSession 34 = .ok (.goto 4, 3) := by decide +kernel
def f_V_hasSession_0 (vn : Nat) (ars : Nat → jv_ar) (y0 : Int32) : Option (Int32) :=
  if y0 < 0 then (some (0 : Int32)) else ((f_V_hasArea vn (y0 / (4 : Int32))).bind fun x1 => if x1 = 0 then (some (0 : Int32)) else ((jv_gi 6 (y0 / (4 : Int32))).bind fun j3 => if j3 < vn then ((jv_ga (ars j3).2.1 4 (y0 - y0 / (4 : Int32) * (4 : Int32))).bind fun x6 => if x6 = (-1 : Int32) then (some (0 : Int32)) else (some (1 : Int32))) else (none)))
set_option maxHeartbeats 4000000 in
set_option maxRecDepth 100000 in
theorem b_V_hasSession_0 {l : Launch} {dC : Nat → ClassId} {dI : Nat → Nat → Nat} {cI cA cL : ClassId} {q_va q_aa q_cl q_fu : Nat} {Q : Nat → Nat → Nat} {vn : Nat} {vC : Nat → Int32} {vat : Int32} {ars : Nat → jv_ar} {p : Program} {e : Env} {s : State} {m : MethodId} {args : Array Value} {below : List Frame} {meth : Method} {c : Code} (cx : jv_cx p s m args meth c cc_V_hasSession 2 R_Vault (some .boolean) ws_V_hasSession) (hK : va_K (dC, dI) vwCl (jv_ty cI cA cL) s) (hP : va_P (dC, dI) vwCl (w_vault cI cA q_va q_aa q_cl q_fu Q vn vC vat ars) s.heap) {r : Int32} {y0 : Int32} {ls : Array Slot} (hl : lv_has ls 2 [(0, .ref q_va), (1, .int y0)]) (hf : f_V_hasSession_0 vn ars y0 = some r) : W p l e rm_V_hasSession s m args below meth c s.heap [] 0 0 (MQ below (QcRead r) args s 0 0 (fun _ => False)) (F0 m 0 ls []) := by
  unfold f_V_hasSession_0 at hf
  obtain ⟨hx, hb, hml, hown, hts, hr, hlocks⟩ := id cx
  refine lv_iload_n hx hb d_V_hasSession_0 rfl (lv_at hl 1 rfl) ?_
  refine lv_if_lt (tgt := 37) hx hb d_V_hasSession_1 (by decide) (fun hc => ?_) (fun hc => ?_)
  · have hf := jv_it hf hc
    refine lv_iconst (v := (0 : Int32)) hx hb d_V_hasSession_37 (by decide) ?_
    obtain rfl := Option.some.inj hf
    exact W.zret hx hb hr rfl (fun t ht hW => ⟨rfl, ht⟩) (fun q h => by cases h) d_V_hasSession_38
  · have hf := jv_if hf hc
    refine lv_aload_n hx hb d_V_hasSession_4 rfl (lv_at hl 0 rfl) ?_
    refine lv_iload_n hx hb d_V_hasSession_5 rfl (lv_at hl 1 rfl) ?_
    refine lv_iconst (v := (4 : Int32)) hx hb d_V_hasSession_6 (by decide) ?_
    refine lv_idiv hx hb d_V_hasSession_7 (by decide) ?_
    obtain ⟨x1, g2, hf⟩ := jv_ob hf
    refine jv_cs (W.runV (As := [.int (y0 / (4 : Int32))]) (rest := []) (b := q_va) ⟨hx, hb, hml, hown, hts⟩ (c_V_hasArea l dC dI cI cA cL q_va q_aa q_cl q_fu Q vn vC vat ars (y0 / (4 : Int32)) x1 g2) (jv_cwV hts wa_302 wa_303 wa_304 wa_305 wa_306 rfl rfl yd_V_hasArea ⟨Nat.le_of_ble_eq_true rfl, Nat.le_of_ble_eq_true rfl⟩) (jv_preV hK hP 0 rfl rfl) rfl rfl hl.1 rfl (lv_room (Nat.le_of_ble_eq_true rfl)) d_V_hasSession_8 ⟨Nat.zero_le _, Nat.zero_le _⟩) ?_
    refine lv_if_eq (tgt := 37) hx hb d_V_hasSession_11 (by decide) (fun hc => ?_) (fun hc => ?_)
    · have hf := jv_it hf hc
      refine lv_iconst (v := (0 : Int32)) hx hb d_V_hasSession_37 (by decide) ?_
      obtain rfl := Option.some.inj hf
      exact W.zret hx hb hr rfl (fun t ht hW => ⟨rfl, ht⟩) (fun q h => by cases h) d_V_hasSession_38
    · have hf := jv_if hf hc
      refine lv_aload_n hx hb d_V_hasSession_14 rfl (lv_at hl 0 rfl) ?_
      refine va_get (D := (dC, dI)) (ci := kVault) (v := .ref q_aa) (C := R_Vault) (T := T_Vault) (N := 4) hx hb hts (fun w h => List.mem_cons_of_mem _ (in_Vault w h)) hown hK hP 0 rfl rfl 0 (by decide) (jv_w hts wa_300) (fun _ h9 => h9) rfl d_V_hasSession_15 ?_
      refine lv_iload_n hx hb d_V_hasSession_18 rfl (lv_at hl 1 rfl) ?_
      refine lv_iconst (v := (4 : Int32)) hx hb d_V_hasSession_19 (by decide) ?_
      refine lv_idiv hx hb d_V_hasSession_20 (by decide) ?_
      obtain ⟨j3, g4, hf⟩ := jv_ob hf
      refine jv_aald hx hb hK hP g4 d_V_hasSession_21 (fun hj5 => ?_) (fun hj5 => ?_)
      · have hf := jv_it hf hj5
        refine va_get (D := (dC, dI)) (ci := kArea) (v := .ref (Q j3 1)) (C := R_Area) (T := T_Area) (N := 5) hx hb hts (fun w h => List.mem_cons_of_mem _ (in_Area w h)) hown hK (jv_open hP hj5) 1 rfl rfl 1 (by decide) (jv_w hts wa_307) (fun _ h9 => h9) rfl d_V_hasSession_22 ?_
        refine lv_iload_n hx hb d_V_hasSession_25 rfl (lv_at hl 1 rfl) ?_
        refine lv_iconst (v := (4 : Int32)) hx hb d_V_hasSession_26 (by decide) ?_
        refine lv_irem hx hb d_V_hasSession_27 (by decide) ?_
        obtain ⟨x6, g7, hf⟩ := jv_ob hf
        have hPj := jv_open hP hj5
        refine jv_iald hx hb hK hPj 2 0 rfl rfl g7 d_V_hasSession_28 ?_
        refine lv_iconst (v := (-1 : Int32)) hx hb d_V_hasSession_29 (by decide) ?_
        refine lv_icmp_eq (tgt := 37) hx hb d_V_hasSession_30 (by decide) (fun hc => ?_) (fun hc => ?_)
        · have hf := jv_it hf hc
          refine lv_iconst (v := (0 : Int32)) hx hb d_V_hasSession_37 (by decide) ?_
          obtain rfl := Option.some.inj hf
          exact W.zret hx hb hr rfl (fun t ht hW => ⟨rfl, ht⟩) (fun q h => by cases h) d_V_hasSession_38
        · have hf := jv_if hf hc
          refine lv_iconst (v := (1 : Int32)) hx hb d_V_hasSession_33 (by decide) ?_
          refine lv_goto (tgt := 38) hx hb d_V_hasSession_34 (by decide) ?_
          obtain rfl := Option.some.inj hf
          exact W.zret hx hb hr rfl (fun t ht hW => ⟨rfl, ht⟩) (fun q h => by cases h) d_V_hasSession_38
      · cases jv_if hf hj5
def f_V_hasSession (vn : Nat) (ars : Nat → jv_ar) (a0 : Int32) : Option (Int32) := f_V_hasSession_0 vn ars a0
set_option maxHeartbeats 4000000 in
set_option maxRecDepth 100000 in
theorem c_V_hasSession (l : Launch) (dC : Nat → ClassId) (dI : Nat → Nat → Nat) (cI cA cL : ClassId) (q_va q_aa q_cl q_fu : Nat) (Q : Nat → Nat → Nat) (vn : Nat) (vC : Nat → Int32) (vat : Int32) (ars : Nat → jv_ar) (a0 : Int32) (r : Int32) (hf : f_V_hasSession vn ars a0 = some r) : Met l y_V_hasSession ws_V_hasSession rm_V_hasSession (jv_Pr [.ref q_va, .int a0] (dC, dI) (jv_ty cI cA cL) (w_vault cI cA q_va q_aa q_cl q_fu Q vn vC vat ars)) (QcRead r) 0 0 (fun _ => False) := by
  refine Met.ofW (cc := cc_V_hasSession) (maxL := 2) (ret := (some .boolean)) (by decide) rfl ?_
  intro p e s m args below meth c s₁ B hml hv
  obtain ⟨rfl, hP, hK⟩ := hv
  have cx : jv_cx p s m _ meth c cc_V_hasSession 2 R_Vault (some .boolean) ws_V_hasSession := ⟨B.exec, B.bytes, hml, findClass_of_methodNamed B.named, atoms_spec (ws := ws_V_hasSession) B.pre, B.returns, B.notSynchronized⟩
  have hl := lv_entry ([.ref q_va, .int a0]) (n := 2) (Nat.le_of_ble_eq_true rfl)
  rw [lg_entry_eq]
  generalize (lg_sl ([.ref q_va, .int a0]) ++ List.replicate (2 - (lg_sl ([.ref q_va, .int a0])).length) Slot.unset).toArray = ls at hl ⊢
  have hl : lv_has ls 2 [(0, .ref q_va), (1, .int a0)] := hl
  exact b_V_hasSession_0 (y0 := a0) cx hK hP (lv_sub hl [0, 1] rfl) hf
theorem d_V_isOpenTo_0 : decode cc_V_isOpenTo 0 = .ok (.aload_n 0, 1) := by decide +kernel
theorem d_V_isOpenTo_1 : decode cc_V_isOpenTo 1 = .ok (.iload_n 2, 1) := by decide +kernel
theorem d_V_isOpenTo_2 : decode cc_V_isOpenTo 2 = .ok (.invokevirtual 233, 3) := by decide +kernel
theorem d_V_isOpenTo_5 : decode cc_V_isOpenTo 5 = .ok (.ifCond .eq 23, 3) := by decide +kernel
theorem d_V_isOpenTo_28 : decode cc_V_isOpenTo 28 = .ok (.iconst 0, 1) := by decide +kernel
theorem d_V_isOpenTo_29 : decode cc_V_isOpenTo 29 = .ok (.ireturn, 1) := by decide +kernel
theorem d_V_isOpenTo_8 : decode cc_V_isOpenTo 8 = .ok (.aload_n 0, 1) := by decide +kernel
theorem d_V_isOpenTo_9 : decode cc_V_isOpenTo 9 = .ok (.getfield 11, 3) := by decide +kernel
theorem d_V_isOpenTo_12 : decode cc_V_isOpenTo 12 = .ok (.iload_n 2, 1) := by decide +kernel
theorem d_V_isOpenTo_13 : decode cc_V_isOpenTo 13 = .ok (.aaload, 1) := by decide +kernel
theorem d_V_isOpenTo_14 : decode cc_V_isOpenTo 14 = .ok (.getfield 67, 3) := by decide +kernel
theorem d_V_isOpenTo_17 : decode cc_V_isOpenTo 17 = .ok (.iload_n 1, 1) := by decide +kernel
theorem d_V_isOpenTo_18 : decode cc_V_isOpenTo 18 = .ok (.invokestatic 56, 3) := by decide +kernel
theorem d_V_isOpenTo_21 : decode cc_V_isOpenTo 21 = .ok (.ifCond .eq 7, 3) := by decide +kernel
theorem d_V_isOpenTo_24 : decode cc_V_isOpenTo 24 = .ok (.iconst 1, 1) := by decide +kernel
theorem d_V_isOpenTo_25 : decode cc_V_isOpenTo 25 = .ok (.goto 4, 3) := by decide +kernel
def f_V_isOpenTo_0 (vn : Nat) (ars : Nat → jv_ar) (y0 : Int32) (y1 : Int32) : Option (Int32) :=
  (f_V_hasArea vn y1).bind fun x1 => if x1 = 0 then (some (0 : Int32)) else ((jv_gi 6 y1).bind fun j3 => if j3 < vn then ((f_L_mayFlow ((ars j3).1) y0).bind fun x6 => if x6 = 0 then (some (0 : Int32)) else (some (1 : Int32))) else (none))
set_option maxHeartbeats 4000000 in
set_option maxRecDepth 100000 in
theorem b_V_isOpenTo_0 {l : Launch} {dC : Nat → ClassId} {dI : Nat → Nat → Nat} {cI cA cL : ClassId} {q_va q_aa q_cl q_fu : Nat} {Q : Nat → Nat → Nat} {vn : Nat} {vC : Nat → Int32} {vat : Int32} {ars : Nat → jv_ar} {p : Program} {e : Env} {s : State} {m : MethodId} {args : Array Value} {below : List Frame} {meth : Method} {c : Code} (cx : jv_cx p s m args meth c cc_V_isOpenTo 3 R_Vault (some .boolean) ws_V_isOpenTo) (hK : va_K (dC, dI) vwCl (jv_ty cI cA cL) s) (hP : va_P (dC, dI) vwCl (w_vault cI cA q_va q_aa q_cl q_fu Q vn vC vat ars) s.heap) {r : Int32} {y0 : Int32} {y1 : Int32} {ls : Array Slot} (hl : lv_has ls 3 [(0, .ref q_va), (1, .int y0), (2, .int y1)]) (hf : f_V_isOpenTo_0 vn ars y0 y1 = some r) : W p l e rm_V_isOpenTo s m args below meth c s.heap [] 0 0 (MQ below (QcRead r) args s 0 0 (fun _ => False)) (F0 m 0 ls []) := by
  unfold f_V_isOpenTo_0 at hf
  obtain ⟨hx, hb, hml, hown, hts, hr, hlocks⟩ := id cx
  refine lv_aload_n hx hb d_V_isOpenTo_0 rfl (lv_at hl 0 rfl) ?_
  refine lv_iload_n hx hb d_V_isOpenTo_1 rfl (lv_at hl 2 rfl) ?_
  obtain ⟨x1, g2, hf⟩ := jv_ob hf
  refine jv_cs (W.runV (As := [.int y1]) (rest := []) (b := q_va) ⟨hx, hb, hml, hown, hts⟩ (c_V_hasArea l dC dI cI cA cL q_va q_aa q_cl q_fu Q vn vC vat ars y1 x1 g2) (jv_cwV hts wa_302 wa_303 wa_304 wa_305 wa_306 rfl rfl yd_V_hasArea ⟨Nat.le_of_ble_eq_true rfl, Nat.le_of_ble_eq_true rfl⟩) (jv_preV hK hP 0 rfl rfl) rfl rfl hl.1 rfl (lv_room (Nat.le_of_ble_eq_true rfl)) d_V_isOpenTo_2 ⟨Nat.zero_le _, Nat.zero_le _⟩) ?_
  refine lv_if_eq (tgt := 28) hx hb d_V_isOpenTo_5 (by decide) (fun hc => ?_) (fun hc => ?_)
  · have hf := jv_it hf hc
    refine lv_iconst (v := (0 : Int32)) hx hb d_V_isOpenTo_28 (by decide) ?_
    obtain rfl := Option.some.inj hf
    exact W.zret hx hb hr rfl (fun t ht hW => ⟨rfl, ht⟩) (fun q h => by cases h) d_V_isOpenTo_29
  · have hf := jv_if hf hc
    refine lv_aload_n hx hb d_V_isOpenTo_8 rfl (lv_at hl 0 rfl) ?_
    refine va_get (D := (dC, dI)) (ci := kVault) (v := .ref q_aa) (C := R_Vault) (T := T_Vault) (N := 4) hx hb hts (fun w h => List.mem_cons_of_mem _ (in_Vault w h)) hown hK hP 0 rfl rfl 0 (by decide) (jv_w hts wa_300) (fun _ h9 => h9) rfl d_V_isOpenTo_9 ?_
    refine lv_iload_n hx hb d_V_isOpenTo_12 rfl (lv_at hl 2 rfl) ?_
    obtain ⟨j3, g4, hf⟩ := jv_ob hf
    refine jv_aald hx hb hK hP g4 d_V_isOpenTo_13 (fun hj5 => ?_) (fun hj5 => ?_)
    · have hf := jv_it hf hj5
      refine va_get (D := (dC, dI)) (ci := kArea) (v := .int ((ars j3).1)) (C := R_Area) (T := T_Area) (N := 5) hx hb hts (fun w h => List.mem_cons_of_mem _ (in_Area w h)) hown hK (jv_open hP hj5) 1 rfl rfl 0 (by decide) (jv_w hts wa_301) (fun _ h9 => h9) rfl d_V_isOpenTo_14 ?_
      refine lv_iload_n hx hb d_V_isOpenTo_17 rfl (lv_at hl 1 rfl) ?_
      obtain ⟨x6, g7, hf⟩ := jv_ob hf
      refine jv_cs (W.runS (As := [.int ((ars j3).1), .int y0]) (rest := []) ⟨hx, hb, hml, hown, hts⟩ (c_L_mayFlow l ((ars j3).1) y0 x6 g7) (jv_cwS hts wa_308 wa_1 wa_309 wa_310 rfl rfl yd_L_mayFlow ⟨Nat.le_of_ble_eq_true rfl, Nat.le_of_ble_eq_true rfl⟩) jv_pre0 rfl rfl hl.1 rfl (lv_room (Nat.le_of_ble_eq_true rfl)) d_V_isOpenTo_18 ⟨Nat.zero_le _, Nat.zero_le _⟩) ?_
      refine lv_if_eq (tgt := 28) hx hb d_V_isOpenTo_21 (by decide) (fun hc => ?_) (fun hc => ?_)
      · have hf := jv_it hf hc
        refine lv_iconst (v := (0 : Int32)) hx hb d_V_isOpenTo_28 (by decide) ?_
        obtain rfl := Option.some.inj hf
        exact W.zret hx hb hr rfl (fun t ht hW => ⟨rfl, ht⟩) (fun q h => by cases h) d_V_isOpenTo_29
      · have hf := jv_if hf hc
        refine lv_iconst (v := (1 : Int32)) hx hb d_V_isOpenTo_24 (by decide) ?_
        refine lv_goto (tgt := 29) hx hb d_V_isOpenTo_25 (by decide) ?_
        obtain rfl := Option.some.inj hf
        exact W.zret hx hb hr rfl (fun t ht hW => ⟨rfl, ht⟩) (fun q h => by cases h) d_V_isOpenTo_29
    · cases jv_if hf hj5
def f_V_isOpenTo (vn : Nat) (ars : Nat → jv_ar) (a0 : Int32) (a1 : Int32) : Option (Int32) := f_V_isOpenTo_0 vn ars a0 a1
set_option maxHeartbeats 4000000 in
set_option maxRecDepth 100000 in
theorem c_V_isOpenTo (l : Launch) (dC : Nat → ClassId) (dI : Nat → Nat → Nat) (cI cA cL : ClassId) (q_va q_aa q_cl q_fu : Nat) (Q : Nat → Nat → Nat) (vn : Nat) (vC : Nat → Int32) (vat : Int32) (ars : Nat → jv_ar) (a0 : Int32) (a1 : Int32) (r : Int32) (hf : f_V_isOpenTo vn ars a0 a1 = some r) : Met l y_V_isOpenTo ws_V_isOpenTo rm_V_isOpenTo (jv_Pr [.ref q_va, .int a0, .int a1] (dC, dI) (jv_ty cI cA cL) (w_vault cI cA q_va q_aa q_cl q_fu Q vn vC vat ars)) (QcRead r) 0 0 (fun _ => False) := by
  refine Met.ofW (cc := cc_V_isOpenTo) (maxL := 3) (ret := (some .boolean)) (by decide) rfl ?_
  intro p e s m args below meth c s₁ B hml hv
  obtain ⟨rfl, hP, hK⟩ := hv
  have cx : jv_cx p s m _ meth c cc_V_isOpenTo 3 R_Vault (some .boolean) ws_V_isOpenTo := ⟨B.exec, B.bytes, hml, findClass_of_methodNamed B.named, atoms_spec (ws := ws_V_isOpenTo) B.pre, B.returns, B.notSynchronized⟩
  have hl := lv_entry ([.ref q_va, .int a0, .int a1]) (n := 3) (Nat.le_of_ble_eq_true rfl)
  rw [lg_entry_eq]
  generalize (lg_sl ([.ref q_va, .int a0, .int a1]) ++ List.replicate (3 - (lg_sl ([.ref q_va, .int a0, .int a1])).length) Slot.unset).toArray = ls at hl ⊢
  have hl : lv_has ls 3 [(0, .ref q_va), (1, .int a0), (2, .int a1)] := hl
  exact b_V_isOpenTo_0 (y0 := a0) (y1 := a1) cx hK hP (lv_sub hl [0, 1, 2] rfl) hf
theorem d_V_kindsSeen_0 : decode cc_V_kindsSeen 0 = .ok (.iconst 0, 1) := by decide +kernel
theorem d_V_kindsSeen_1 : decode cc_V_kindsSeen 1 = .ok (.istore_n 3, 1) := by decide +kernel
theorem d_V_kindsSeen_2 : decode cc_V_kindsSeen 2 = .ok (.iconst 0, 1) := by decide +kernel
theorem d_V_kindsSeen_3 : decode cc_V_kindsSeen 3 = .ok (.istore 4, 2) := by decide +kernel
theorem d_V_kindsSeen_5 : decode cc_V_kindsSeen 5 = .ok (.iload 4, 2) := by decide +kernel
theorem d_V_kindsSeen_7 : decode cc_V_kindsSeen 7 = .ok (.bipush 6, 2) := by decide +kernel
theorem d_V_kindsSeen_9 : decode cc_V_kindsSeen 9 = .ok (.if_icmp .ge 36, 3) := by decide +kernel
theorem d_V_kindsSeen_45 : decode cc_V_kindsSeen 45 = .ok (.iload_n 3, 1) := by decide +kernel
theorem d_V_kindsSeen_46 : decode cc_V_kindsSeen 46 = .ok (.ireturn, 1) := by decide +kernel
theorem d_V_kindsSeen_12 : decode cc_V_kindsSeen 12 = .ok (.aload_n 0, 1) := by decide +kernel
theorem d_V_kindsSeen_13 : decode cc_V_kindsSeen 13 = .ok (.iload_n 1, 1) := by decide +kernel
theorem d_V_kindsSeen_14 : decode cc_V_kindsSeen 14 = .ok (.iload 4, 2) := by decide +kernel
theorem d_V_kindsSeen_16 : decode cc_V_kindsSeen 16 = .ok (.invokevirtual 216, 3) := by decide +kernel
theorem d_V_kindsSeen_19 : decode cc_V_kindsSeen 19 = .ok (.ifCond .eq 20, 3) := by decide +kernel
theorem d_V_kindsSeen_39 : decode cc_V_kindsSeen 39 = .ok (.iinc 4 1, 3) := by decide +kernel
theorem d_V_kindsSeen_42 : decode cc_V_kindsSeen 42 = .ok (.goto (-37), 3) := by decide +kernel
theorem d_V_kindsSeen_22 : decode cc_V_kindsSeen 22 = .ok (.iload_n 3, 1) := by decide +kernel
theorem d_V_kindsSeen_23 : decode cc_V_kindsSeen 23 = .ok (.aload_n 0, 1) := by decide +kernel
theorem d_V_kindsSeen_24 : decode cc_V_kindsSeen 24 = .ok (.getfield 11, 3) := by decide +kernel
theorem d_V_kindsSeen_27 : decode cc_V_kindsSeen 27 = .ok (.iload 4, 2) := by decide +kernel
theorem d_V_kindsSeen_29 : decode cc_V_kindsSeen 29 = .ok (.aaload, 1) := by decide +kernel
theorem d_V_kindsSeen_30 : decode cc_V_kindsSeen 30 = .ok (.getfield 102, 3) := by decide +kernel
theorem d_V_kindsSeen_33 : decode cc_V_kindsSeen 33 = .ok (.iload_n 2, 1) := by decide +kernel
theorem d_V_kindsSeen_34 : decode cc_V_kindsSeen 34 = .ok (.invokevirtual 174, 3) := by decide +kernel
theorem d_V_kindsSeen_37 : decode cc_V_kindsSeen 37 = .ok (.ior, 1) := by decide +kernel
theorem d_V_kindsSeen_38 : decode cc_V_kindsSeen 38 = .ok (.istore_n 3, 1) := by decide +kernel
def f_V_kindsSeen_5 (vn : Nat) (ars : Nat → jv_ar) (y0 : Int32) (y1 : Int32) (k5 : (Int32 × Int32) → Option (Int32)) (a : Int32 × Int32) : Option (Int32) :=
  if (6 : Int32) ≤ a.2 then (some a.1) else ((f_V_isOpenTo vn ars y0 a.2).bind fun x1 => if x1 = 0 then (k5 (a.1, a.2 + (1 : Int32))) else ((jv_gi 6 a.2).bind fun j3 => if j3 < vn then ((f_T_kindAt ((ars j3).2.2.2.1) y1).bind fun x6 => k5 (a.1 ||| x6, a.2 + (1 : Int32))) else (none)))
set_option maxHeartbeats 4000000 in
set_option maxRecDepth 100000 in
theorem b_V_kindsSeen_5 {l : Launch} {dC : Nat → ClassId} {dI : Nat → Nat → Nat} {cI cA cL : ClassId} {q_va q_aa q_cl q_fu : Nat} {Q : Nat → Nat → Nat} {vn : Nat} {vC : Nat → Int32} {vat : Int32} {ars : Nat → jv_ar} {p : Program} {e : Env} {s : State} {m : MethodId} {args : Array Value} {below : List Frame} {meth : Method} {c : Code} (cx : jv_cx p s m args meth c cc_V_kindsSeen 5 R_Vault (some .int) ws_V_kindsSeen) (hK : va_K (dC, dI) vwCl (jv_ty cI cA cL) s) (hP : va_P (dC, dI) vwCl (w_vault cI cA q_va q_aa q_cl q_fu Q vn vC vat ars) s.heap) {r : Int32} {y0 : Int32} {y1 : Int32} {k5 : (Int32 × Int32) → Option (Int32)} (hk5 : ∀ (b0 : Int32) (b1 : Int32) (ls : Array Slot), lv_has ls 5 [(0, .ref q_va), (1, .int y0), (2, .int y1), (3, .int b0), (4, .int b1)] → k5 (b0, b1) = some r → W p l e rm_V_kindsSeen s m args below meth c s.heap [] 0 0 (MQ below (QcRead r) args s 0 0 (fun _ => False)) (F0 m 5 ls [])) {a : Int32 × Int32} {ls : Array Slot} (hl : lv_has ls 5 [(0, .ref q_va), (1, .int y0), (2, .int y1), (3, .int a.1), (4, .int a.2)]) (hf : f_V_kindsSeen_5 vn ars y0 y1 k5 a = some r) : W p l e rm_V_kindsSeen s m args below meth c s.heap [] 0 0 (MQ below (QcRead r) args s 0 0 (fun _ => False)) (F0 m 5 ls []) := by
  unfold f_V_kindsSeen_5 at hf
  obtain ⟨hx, hb, hml, hown, hts, hr, hlocks⟩ := id cx
  refine lv_iload hx hb d_V_kindsSeen_5 (lv_at hl 4 rfl) ?_
  refine lv_bipush (v := (6 : Int32)) hx hb d_V_kindsSeen_7 (by decide) ?_
  refine lv_icmp_ge (tgt := 45) hx hb d_V_kindsSeen_9 (by decide) (fun hc => ?_) (fun hc => ?_)
  · have hf := jv_it hf hc
    refine lv_iload_n hx hb d_V_kindsSeen_45 rfl (lv_at hl 3 rfl) ?_
    obtain rfl := Option.some.inj hf
    exact W.iret hx hb hr (fun t ht hW => ⟨rfl, ht⟩) (fun q h => by cases h) d_V_kindsSeen_46
  · have hf := jv_if hf hc
    refine lv_aload_n hx hb d_V_kindsSeen_12 rfl (lv_at hl 0 rfl) ?_
    refine lv_iload_n hx hb d_V_kindsSeen_13 rfl (lv_at hl 1 rfl) ?_
    refine lv_iload hx hb d_V_kindsSeen_14 (lv_at hl 4 rfl) ?_
    obtain ⟨x1, g2, hf⟩ := jv_ob hf
    refine jv_cs (W.runV (As := [.int y0, .int a.2]) (rest := []) (b := q_va) ⟨hx, hb, hml, hown, hts⟩ (c_V_isOpenTo l dC dI cI cA cL q_va q_aa q_cl q_fu Q vn vC vat ars y0 a.2 x1 g2) (jv_cwV hts wa_311 wa_303 wa_312 wa_313 wa_314 rfl rfl yd_V_isOpenTo ⟨Nat.le_of_ble_eq_true rfl, Nat.le_of_ble_eq_true rfl⟩) (jv_preV hK hP 0 rfl rfl) rfl rfl hl.1 rfl (lv_room (Nat.le_of_ble_eq_true rfl)) d_V_kindsSeen_16 ⟨Nat.zero_le _, Nat.zero_le _⟩) ?_
    refine lv_if_eq (tgt := 39) hx hb d_V_kindsSeen_19 (by decide) (fun hc => ?_) (fun hc => ?_)
    · have hf := jv_it hf hc
      refine lv_iinc (k := 4) (v := a.2 + (1 : Int32)) (lv' := [(4, .int (a.2 + (1 : Int32))), (0, .ref q_va), (1, .int y0), (2, .int y1), (3, .int a.1)]) hx hb d_V_kindsSeen_39 hl rfl (jv_inc _) (by decide) rfl (fun ls hl => ?_)
      refine lv_goto (tgt := 5) hx hb d_V_kindsSeen_42 (by decide) ?_
      exact hk5 a.1 (a.2 + (1 : Int32)) _ (lv_sub hl [1, 2, 3, 4, 0] rfl) hf
    · have hf := jv_if hf hc
      refine lv_iload_n hx hb d_V_kindsSeen_22 rfl (lv_at hl 3 rfl) ?_
      refine lv_aload_n hx hb d_V_kindsSeen_23 rfl (lv_at hl 0 rfl) ?_
      refine va_get (D := (dC, dI)) (ci := kVault) (v := .ref q_aa) (C := R_Vault) (T := T_Vault) (N := 4) hx hb hts (fun w h => List.mem_cons_of_mem _ (in_Vault w h)) hown hK hP 0 rfl rfl 0 (by decide) (jv_w hts wa_300) (fun _ h9 => h9) rfl d_V_kindsSeen_24 ?_
      refine lv_iload hx hb d_V_kindsSeen_27 (lv_at hl 4 rfl) ?_
      obtain ⟨j3, g4, hf⟩ := jv_ob hf
      refine jv_aald hx hb hK hP g4 d_V_kindsSeen_29 (fun hj5 => ?_) (fun hj5 => ?_)
      · have hf := jv_it hf hj5
        refine va_get (D := (dC, dI)) (ci := kArea) (v := .ref (Q j3 6)) (C := R_Area) (T := T_Area) (N := 5) hx hb hts (fun w h => List.mem_cons_of_mem _ (in_Area w h)) hown hK (jv_open hP hj5) 1 rfl rfl 3 (by decide) (jv_w hts wa_315) (fun _ h9 => h9) rfl d_V_kindsSeen_30 ?_
        refine lv_iload_n hx hb d_V_kindsSeen_33 rfl (lv_at hl 2 rfl) ?_
        obtain ⟨x6, g7, hf⟩ := jv_ob hf
        have hPc := (jv_open hP hj5).sub (ws' := (w_tree cI (Q j3 6) (Q j3 2) (Q j3 3) (Q j3 4) (Q j3 5) ((ars j3).2.2.2.2.2.1) ((ars j3).2.2.2.2.2.2.1) ((ars j3).2.2.2.2.2.2.2) ((ars j3).2.2.1) ((ars j3).2.2.2.1) ((ars j3).2.2.2.2.1))) [7, 3, 4, 5, 6] rfl
        refine jv_cs (W.runV (As := [.int y1]) (rest := [.int a.1]) (b := (Q j3 6)) ⟨hx, hb, hml, hown, hts⟩ (c_T_kindAt l dC dI cI cA cL (Q j3 6) (Q j3 2) (Q j3 3) (Q j3 4) (Q j3 5) ((ars j3).2.2.2.2.2.1) ((ars j3).2.2.2.2.2.2.1) ((ars j3).2.2.2.2.2.2.2) ((ars j3).2.2.1) ((ars j3).2.2.2.1) ((ars j3).2.2.2.2.1) y1 x6 g7) (jv_cwV hts wa_90 wa_78 wa_316 wa_92 wa_93 rfl rfl yd_T_kindAt ⟨Nat.le_of_ble_eq_true rfl, Nat.le_of_ble_eq_true rfl⟩) (jv_preV hK hPc 0 rfl rfl) rfl rfl hl.1 rfl (lv_room (Nat.le_of_ble_eq_true rfl)) d_V_kindsSeen_34 ⟨Nat.zero_le _, Nat.zero_le _⟩) ?_
        refine lv_ior hx hb d_V_kindsSeen_37 ?_
        refine lv_istore_n (lv' := [(3, .int (a.1 ||| x6)), (0, .ref q_va), (1, .int y0), (2, .int y1), (4, .int a.2)]) hx hb d_V_kindsSeen_38 rfl hl (by decide) rfl (fun ls hl => ?_)
        refine lv_iinc (k := 4) (v := a.2 + (1 : Int32)) (lv' := [(4, .int (a.2 + (1 : Int32))), (3, .int (a.1 ||| x6)), (0, .ref q_va), (1, .int y0), (2, .int y1)]) hx hb d_V_kindsSeen_39 hl rfl (jv_inc _) (by decide) rfl (fun ls hl => ?_)
        refine lv_goto (tgt := 5) hx hb d_V_kindsSeen_42 (by decide) ?_
        exact hk5 (a.1 ||| x6) (a.2 + (1 : Int32)) _ (lv_sub hl [2, 3, 4, 1, 0] rfl) hf
      · cases jv_if hf hj5
set_option maxHeartbeats 4000000 in
set_option maxRecDepth 100000 in
theorem l_V_kindsSeen_5 {l : Launch} {dC : Nat → ClassId} {dI : Nat → Nat → Nat} {cI cA cL : ClassId} {q_va q_aa q_cl q_fu : Nat} {Q : Nat → Nat → Nat} {vn : Nat} {vC : Nat → Int32} {vat : Int32} {ars : Nat → jv_ar} {p : Program} {e : Env} {s : State} {m : MethodId} {args : Array Value} {below : List Frame} {meth : Method} {c : Code} (cx : jv_cx p s m args meth c cc_V_kindsSeen 5 R_Vault (some .int) ws_V_kindsSeen) (hK : va_K (dC, dI) vwCl (jv_ty cI cA cL) s) (hP : va_P (dC, dI) vwCl (w_vault cI cA q_va q_aa q_cl q_fu Q vn vC vat ars) s.heap) {r : Int32} {y0 : Int32} {y1 : Int32} : ∀ n : Nat, ∀ (b0 : Int32) (b1 : Int32) (ls : Array Slot), lv_has ls 5 [(0, .ref q_va), (1, .int y0), (2, .int y1), (3, .int b0), (4, .int b1)] → jv_fx (f_V_kindsSeen_5 vn ars y0 y1) n (b0, b1) = some r → W p l e rm_V_kindsSeen s m args below meth c s.heap [] 0 0 (MQ below (QcRead r) args s 0 0 (fun _ => False)) (F0 m 5 ls []) := by
  intro n
  induction n with
  | zero => intro b0 b1 ls hl hf; exact jv_no hf
  | succ n ih => intro b0 b1 ls hl hf; exact b_V_kindsSeen_5 (a := (b0, b1)) cx hK hP ih hl hf
def f_V_kindsSeen_0 (vn : Nat) (ars : Nat → jv_ar) (y0 : Int32) (y1 : Int32) : Option (Int32) :=
  jv_fx (f_V_kindsSeen_5 vn ars y0 y1) 300 ((0 : Int32), (0 : Int32))
set_option maxHeartbeats 4000000 in
set_option maxRecDepth 100000 in
theorem b_V_kindsSeen_0 {l : Launch} {dC : Nat → ClassId} {dI : Nat → Nat → Nat} {cI cA cL : ClassId} {q_va q_aa q_cl q_fu : Nat} {Q : Nat → Nat → Nat} {vn : Nat} {vC : Nat → Int32} {vat : Int32} {ars : Nat → jv_ar} {p : Program} {e : Env} {s : State} {m : MethodId} {args : Array Value} {below : List Frame} {meth : Method} {c : Code} (cx : jv_cx p s m args meth c cc_V_kindsSeen 5 R_Vault (some .int) ws_V_kindsSeen) (hK : va_K (dC, dI) vwCl (jv_ty cI cA cL) s) (hP : va_P (dC, dI) vwCl (w_vault cI cA q_va q_aa q_cl q_fu Q vn vC vat ars) s.heap) {r : Int32} {y0 : Int32} {y1 : Int32} {ls : Array Slot} (hl : lv_has ls 5 [(0, .ref q_va), (1, .int y0), (2, .int y1)]) (hf : f_V_kindsSeen_0 vn ars y0 y1 = some r) : W p l e rm_V_kindsSeen s m args below meth c s.heap [] 0 0 (MQ below (QcRead r) args s 0 0 (fun _ => False)) (F0 m 0 ls []) := by
  unfold f_V_kindsSeen_0 at hf
  obtain ⟨hx, hb, hml, hown, hts, hr, hlocks⟩ := id cx
  refine lv_iconst (v := (0 : Int32)) hx hb d_V_kindsSeen_0 (by decide) ?_
  refine lv_istore_n (lv' := [(3, .int (0 : Int32)), (0, .ref q_va), (1, .int y0), (2, .int y1)]) hx hb d_V_kindsSeen_1 rfl hl (by decide) rfl (fun ls hl => ?_)
  refine lv_iconst (v := (0 : Int32)) hx hb d_V_kindsSeen_2 (by decide) ?_
  refine lv_istore (lv' := [(4, .int (0 : Int32)), (3, .int (0 : Int32)), (0, .ref q_va), (1, .int y0), (2, .int y1)]) hx hb d_V_kindsSeen_3 hl (by decide) rfl (fun ls hl => ?_)
  exact l_V_kindsSeen_5 (y0 := y0) (y1 := y1) cx hK hP 300 (0 : Int32) (0 : Int32) _ (lv_sub hl [2, 3, 4, 1, 0] rfl) hf
def f_V_kindsSeen (vn : Nat) (ars : Nat → jv_ar) (a0 : Int32) (a1 : Int32) : Option (Int32) := f_V_kindsSeen_0 vn ars a0 a1
set_option maxHeartbeats 4000000 in
set_option maxRecDepth 100000 in
theorem c_V_kindsSeen (l : Launch) (dC : Nat → ClassId) (dI : Nat → Nat → Nat) (cI cA cL : ClassId) (q_va q_aa q_cl q_fu : Nat) (Q : Nat → Nat → Nat) (vn : Nat) (vC : Nat → Int32) (vat : Int32) (ars : Nat → jv_ar) (a0 : Int32) (a1 : Int32) (r : Int32) (hf : f_V_kindsSeen vn ars a0 a1 = some r) : Met l y_V_kindsSeen ws_V_kindsSeen rm_V_kindsSeen (jv_Pr [.ref q_va, .int a0, .int a1] (dC, dI) (jv_ty cI cA cL) (w_vault cI cA q_va q_aa q_cl q_fu Q vn vC vat ars)) (QcRead r) 0 0 (fun _ => False) := by
  refine Met.ofW (cc := cc_V_kindsSeen) (maxL := 5) (ret := (some .int)) (by decide) rfl ?_
  intro p e s m args below meth c s₁ B hml hv
  obtain ⟨rfl, hP, hK⟩ := hv
  have cx : jv_cx p s m _ meth c cc_V_kindsSeen 5 R_Vault (some .int) ws_V_kindsSeen := ⟨B.exec, B.bytes, hml, findClass_of_methodNamed B.named, atoms_spec (ws := ws_V_kindsSeen) B.pre, B.returns, B.notSynchronized⟩
  have hl := lv_entry ([.ref q_va, .int a0, .int a1]) (n := 5) (Nat.le_of_ble_eq_true rfl)
  rw [lg_entry_eq]
  generalize (lg_sl ([.ref q_va, .int a0, .int a1]) ++ List.replicate (5 - (lg_sl ([.ref q_va, .int a0, .int a1])).length) Slot.unset).toArray = ls at hl ⊢
  have hl : lv_has ls 5 [(0, .ref q_va), (1, .int a0), (2, .int a1)] := hl
  exact b_V_kindsSeen_0 (y0 := a0) (y1 := a1) cx hK hP (lv_sub hl [0, 1, 2] rfl) hf
theorem d_V_namesSeen_0 : decode cc_V_namesSeen 0 = .ok (.iconst 0, 1) := by decide +kernel
theorem d_V_namesSeen_1 : decode cc_V_namesSeen 1 = .ok (.istore_n 3, 1) := by decide +kernel
theorem d_V_namesSeen_2 : decode cc_V_namesSeen 2 = .ok (.iconst 0, 1) := by decide +kernel
theorem d_V_namesSeen_3 : decode cc_V_namesSeen 3 = .ok (.istore 4, 2) := by decide +kernel
theorem d_V_namesSeen_5 : decode cc_V_namesSeen 5 = .ok (.iload 4, 2) := by decide +kernel
theorem d_V_namesSeen_7 : decode cc_V_namesSeen 7 = .ok (.bipush 6, 2) := by decide +kernel
theorem d_V_namesSeen_9 : decode cc_V_namesSeen 9 = .ok (.if_icmp .ge 36, 3) := by decide +kernel
theorem d_V_namesSeen_45 : decode cc_V_namesSeen 45 = .ok (.iload_n 3, 1) := by decide +kernel
theorem d_V_namesSeen_46 : decode cc_V_namesSeen 46 = .ok (.ireturn, 1) := by decide +kernel
theorem d_V_namesSeen_12 : decode cc_V_namesSeen 12 = .ok (.aload_n 0, 1) := by decide +kernel
theorem d_V_namesSeen_13 : decode cc_V_namesSeen 13 = .ok (.iload_n 1, 1) := by decide +kernel
theorem d_V_namesSeen_14 : decode cc_V_namesSeen 14 = .ok (.iload 4, 2) := by decide +kernel
theorem d_V_namesSeen_16 : decode cc_V_namesSeen 16 = .ok (.invokevirtual 216, 3) := by decide +kernel
theorem d_V_namesSeen_19 : decode cc_V_namesSeen 19 = .ok (.ifCond .eq 20, 3) := by decide +kernel
theorem d_V_namesSeen_39 : decode cc_V_namesSeen 39 = .ok (.iinc 4 1, 3) := by decide +kernel
theorem d_V_namesSeen_42 : decode cc_V_namesSeen 42 = .ok (.goto (-37), 3) := by decide +kernel
theorem d_V_namesSeen_22 : decode cc_V_namesSeen 22 = .ok (.iload_n 3, 1) := by decide +kernel
theorem d_V_namesSeen_23 : decode cc_V_namesSeen 23 = .ok (.aload_n 0, 1) := by decide +kernel
theorem d_V_namesSeen_24 : decode cc_V_namesSeen 24 = .ok (.getfield 11, 3) := by decide +kernel
theorem d_V_namesSeen_27 : decode cc_V_namesSeen 27 = .ok (.iload 4, 2) := by decide +kernel
theorem d_V_namesSeen_29 : decode cc_V_namesSeen 29 = .ok (.aaload, 1) := by decide +kernel
theorem d_V_namesSeen_30 : decode cc_V_namesSeen 30 = .ok (.getfield 102, 3) := by decide +kernel
theorem d_V_namesSeen_33 : decode cc_V_namesSeen 33 = .ok (.iload_n 2, 1) := by decide +kernel
theorem d_V_namesSeen_34 : decode cc_V_namesSeen 34 = .ok (.invokevirtual 257, 3) := by decide +kernel
theorem d_V_namesSeen_37 : decode cc_V_namesSeen 37 = .ok (.ior, 1) := by decide +kernel
theorem d_V_namesSeen_38 : decode cc_V_namesSeen 38 = .ok (.istore_n 3, 1) := by decide +kernel
def f_V_namesSeen_5 (vn : Nat) (ars : Nat → jv_ar) (y0 : Int32) (y1 : Int32) (k5 : (Int32 × Int32) → Option (Int32)) (a : Int32 × Int32) : Option (Int32) :=
  if (6 : Int32) ≤ a.2 then (some a.1) else ((f_V_isOpenTo vn ars y0 a.2).bind fun x1 => if x1 = 0 then (k5 (a.1, a.2 + (1 : Int32))) else ((jv_gi 6 a.2).bind fun j3 => if j3 < vn then ((f_T_namesAt ((ars j3).2.2.2.1) y1).bind fun x6 => k5 (a.1 ||| x6, a.2 + (1 : Int32))) else (none)))
set_option maxHeartbeats 4000000 in
set_option maxRecDepth 100000 in
theorem b_V_namesSeen_5 {l : Launch} {dC : Nat → ClassId} {dI : Nat → Nat → Nat} {cI cA cL : ClassId} {q_va q_aa q_cl q_fu : Nat} {Q : Nat → Nat → Nat} {vn : Nat} {vC : Nat → Int32} {vat : Int32} {ars : Nat → jv_ar} {p : Program} {e : Env} {s : State} {m : MethodId} {args : Array Value} {below : List Frame} {meth : Method} {c : Code} (cx : jv_cx p s m args meth c cc_V_namesSeen 5 R_Vault (some .int) ws_V_namesSeen) (hK : va_K (dC, dI) vwCl (jv_ty cI cA cL) s) (hP : va_P (dC, dI) vwCl (w_vault cI cA q_va q_aa q_cl q_fu Q vn vC vat ars) s.heap) {r : Int32} {y0 : Int32} {y1 : Int32} {k5 : (Int32 × Int32) → Option (Int32)} (hk5 : ∀ (b0 : Int32) (b1 : Int32) (ls : Array Slot), lv_has ls 5 [(0, .ref q_va), (1, .int y0), (2, .int y1), (3, .int b0), (4, .int b1)] → k5 (b0, b1) = some r → W p l e rm_V_namesSeen s m args below meth c s.heap [] 0 0 (MQ below (QcRead r) args s 0 0 (fun _ => False)) (F0 m 5 ls [])) {a : Int32 × Int32} {ls : Array Slot} (hl : lv_has ls 5 [(0, .ref q_va), (1, .int y0), (2, .int y1), (3, .int a.1), (4, .int a.2)]) (hf : f_V_namesSeen_5 vn ars y0 y1 k5 a = some r) : W p l e rm_V_namesSeen s m args below meth c s.heap [] 0 0 (MQ below (QcRead r) args s 0 0 (fun _ => False)) (F0 m 5 ls []) := by
  unfold f_V_namesSeen_5 at hf
  obtain ⟨hx, hb, hml, hown, hts, hr, hlocks⟩ := id cx
  refine lv_iload hx hb d_V_namesSeen_5 (lv_at hl 4 rfl) ?_
  refine lv_bipush (v := (6 : Int32)) hx hb d_V_namesSeen_7 (by decide) ?_
  refine lv_icmp_ge (tgt := 45) hx hb d_V_namesSeen_9 (by decide) (fun hc => ?_) (fun hc => ?_)
  · have hf := jv_it hf hc
    refine lv_iload_n hx hb d_V_namesSeen_45 rfl (lv_at hl 3 rfl) ?_
    obtain rfl := Option.some.inj hf
    exact W.iret hx hb hr (fun t ht hW => ⟨rfl, ht⟩) (fun q h => by cases h) d_V_namesSeen_46
  · have hf := jv_if hf hc
    refine lv_aload_n hx hb d_V_namesSeen_12 rfl (lv_at hl 0 rfl) ?_
    refine lv_iload_n hx hb d_V_namesSeen_13 rfl (lv_at hl 1 rfl) ?_
    refine lv_iload hx hb d_V_namesSeen_14 (lv_at hl 4 rfl) ?_
    obtain ⟨x1, g2, hf⟩ := jv_ob hf
    refine jv_cs (W.runV (As := [.int y0, .int a.2]) (rest := []) (b := q_va) ⟨hx, hb, hml, hown, hts⟩ (c_V_isOpenTo l dC dI cI cA cL q_va q_aa q_cl q_fu Q vn vC vat ars y0 a.2 x1 g2) (jv_cwV hts wa_311 wa_303 wa_312 wa_313 wa_314 rfl rfl yd_V_isOpenTo ⟨Nat.le_of_ble_eq_true rfl, Nat.le_of_ble_eq_true rfl⟩) (jv_preV hK hP 0 rfl rfl) rfl rfl hl.1 rfl (lv_room (Nat.le_of_ble_eq_true rfl)) d_V_namesSeen_16 ⟨Nat.zero_le _, Nat.zero_le _⟩) ?_
    refine lv_if_eq (tgt := 39) hx hb d_V_namesSeen_19 (by decide) (fun hc => ?_) (fun hc => ?_)
    · have hf := jv_it hf hc
      refine lv_iinc (k := 4) (v := a.2 + (1 : Int32)) (lv' := [(4, .int (a.2 + (1 : Int32))), (0, .ref q_va), (1, .int y0), (2, .int y1), (3, .int a.1)]) hx hb d_V_namesSeen_39 hl rfl (jv_inc _) (by decide) rfl (fun ls hl => ?_)
      refine lv_goto (tgt := 5) hx hb d_V_namesSeen_42 (by decide) ?_
      exact hk5 a.1 (a.2 + (1 : Int32)) _ (lv_sub hl [1, 2, 3, 4, 0] rfl) hf
    · have hf := jv_if hf hc
      refine lv_iload_n hx hb d_V_namesSeen_22 rfl (lv_at hl 3 rfl) ?_
      refine lv_aload_n hx hb d_V_namesSeen_23 rfl (lv_at hl 0 rfl) ?_
      refine va_get (D := (dC, dI)) (ci := kVault) (v := .ref q_aa) (C := R_Vault) (T := T_Vault) (N := 4) hx hb hts (fun w h => List.mem_cons_of_mem _ (in_Vault w h)) hown hK hP 0 rfl rfl 0 (by decide) (jv_w hts wa_300) (fun _ h9 => h9) rfl d_V_namesSeen_24 ?_
      refine lv_iload hx hb d_V_namesSeen_27 (lv_at hl 4 rfl) ?_
      obtain ⟨j3, g4, hf⟩ := jv_ob hf
      refine jv_aald hx hb hK hP g4 d_V_namesSeen_29 (fun hj5 => ?_) (fun hj5 => ?_)
      · have hf := jv_it hf hj5
        refine va_get (D := (dC, dI)) (ci := kArea) (v := .ref (Q j3 6)) (C := R_Area) (T := T_Area) (N := 5) hx hb hts (fun w h => List.mem_cons_of_mem _ (in_Area w h)) hown hK (jv_open hP hj5) 1 rfl rfl 3 (by decide) (jv_w hts wa_315) (fun _ h9 => h9) rfl d_V_namesSeen_30 ?_
        refine lv_iload_n hx hb d_V_namesSeen_33 rfl (lv_at hl 2 rfl) ?_
        obtain ⟨x6, g7, hf⟩ := jv_ob hf
        have hPc := (jv_open hP hj5).sub (ws' := (w_tree cI (Q j3 6) (Q j3 2) (Q j3 3) (Q j3 4) (Q j3 5) ((ars j3).2.2.2.2.2.1) ((ars j3).2.2.2.2.2.2.1) ((ars j3).2.2.2.2.2.2.2) ((ars j3).2.2.1) ((ars j3).2.2.2.1) ((ars j3).2.2.2.2.1))) [7, 3, 4, 5, 6] rfl
        refine jv_cs (W.runV (As := [.int y1]) (rest := [.int a.1]) (b := (Q j3 6)) ⟨hx, hb, hml, hown, hts⟩ (c_T_namesAt l dC dI cI cA cL (Q j3 6) (Q j3 2) (Q j3 3) (Q j3 4) (Q j3 5) ((ars j3).2.2.2.2.2.1) ((ars j3).2.2.2.2.2.2.1) ((ars j3).2.2.2.2.2.2.2) ((ars j3).2.2.1) ((ars j3).2.2.2.1) ((ars j3).2.2.2.2.1) y1 x6 g7) (jv_cwV hts wa_317 wa_78 wa_318 wa_319 wa_320 rfl rfl yd_T_namesAt ⟨Nat.le_of_ble_eq_true rfl, Nat.le_of_ble_eq_true rfl⟩) (jv_preV hK hPc 0 rfl rfl) rfl rfl hl.1 rfl (lv_room (Nat.le_of_ble_eq_true rfl)) d_V_namesSeen_34 ⟨Nat.zero_le _, Nat.zero_le _⟩) ?_
        refine lv_ior hx hb d_V_namesSeen_37 ?_
        refine lv_istore_n (lv' := [(3, .int (a.1 ||| x6)), (0, .ref q_va), (1, .int y0), (2, .int y1), (4, .int a.2)]) hx hb d_V_namesSeen_38 rfl hl (by decide) rfl (fun ls hl => ?_)
        refine lv_iinc (k := 4) (v := a.2 + (1 : Int32)) (lv' := [(4, .int (a.2 + (1 : Int32))), (3, .int (a.1 ||| x6)), (0, .ref q_va), (1, .int y0), (2, .int y1)]) hx hb d_V_namesSeen_39 hl rfl (jv_inc _) (by decide) rfl (fun ls hl => ?_)
        refine lv_goto (tgt := 5) hx hb d_V_namesSeen_42 (by decide) ?_
        exact hk5 (a.1 ||| x6) (a.2 + (1 : Int32)) _ (lv_sub hl [2, 3, 4, 1, 0] rfl) hf
      · cases jv_if hf hj5
set_option maxHeartbeats 4000000 in
set_option maxRecDepth 100000 in
theorem l_V_namesSeen_5 {l : Launch} {dC : Nat → ClassId} {dI : Nat → Nat → Nat} {cI cA cL : ClassId} {q_va q_aa q_cl q_fu : Nat} {Q : Nat → Nat → Nat} {vn : Nat} {vC : Nat → Int32} {vat : Int32} {ars : Nat → jv_ar} {p : Program} {e : Env} {s : State} {m : MethodId} {args : Array Value} {below : List Frame} {meth : Method} {c : Code} (cx : jv_cx p s m args meth c cc_V_namesSeen 5 R_Vault (some .int) ws_V_namesSeen) (hK : va_K (dC, dI) vwCl (jv_ty cI cA cL) s) (hP : va_P (dC, dI) vwCl (w_vault cI cA q_va q_aa q_cl q_fu Q vn vC vat ars) s.heap) {r : Int32} {y0 : Int32} {y1 : Int32} : ∀ n : Nat, ∀ (b0 : Int32) (b1 : Int32) (ls : Array Slot), lv_has ls 5 [(0, .ref q_va), (1, .int y0), (2, .int y1), (3, .int b0), (4, .int b1)] → jv_fx (f_V_namesSeen_5 vn ars y0 y1) n (b0, b1) = some r → W p l e rm_V_namesSeen s m args below meth c s.heap [] 0 0 (MQ below (QcRead r) args s 0 0 (fun _ => False)) (F0 m 5 ls []) := by
  intro n
  induction n with
  | zero => intro b0 b1 ls hl hf; exact jv_no hf
  | succ n ih => intro b0 b1 ls hl hf; exact b_V_namesSeen_5 (a := (b0, b1)) cx hK hP ih hl hf
def f_V_namesSeen_0 (vn : Nat) (ars : Nat → jv_ar) (y0 : Int32) (y1 : Int32) : Option (Int32) :=
  jv_fx (f_V_namesSeen_5 vn ars y0 y1) 300 ((0 : Int32), (0 : Int32))
set_option maxHeartbeats 4000000 in
set_option maxRecDepth 100000 in
theorem b_V_namesSeen_0 {l : Launch} {dC : Nat → ClassId} {dI : Nat → Nat → Nat} {cI cA cL : ClassId} {q_va q_aa q_cl q_fu : Nat} {Q : Nat → Nat → Nat} {vn : Nat} {vC : Nat → Int32} {vat : Int32} {ars : Nat → jv_ar} {p : Program} {e : Env} {s : State} {m : MethodId} {args : Array Value} {below : List Frame} {meth : Method} {c : Code} (cx : jv_cx p s m args meth c cc_V_namesSeen 5 R_Vault (some .int) ws_V_namesSeen) (hK : va_K (dC, dI) vwCl (jv_ty cI cA cL) s) (hP : va_P (dC, dI) vwCl (w_vault cI cA q_va q_aa q_cl q_fu Q vn vC vat ars) s.heap) {r : Int32} {y0 : Int32} {y1 : Int32} {ls : Array Slot} (hl : lv_has ls 5 [(0, .ref q_va), (1, .int y0), (2, .int y1)]) (hf : f_V_namesSeen_0 vn ars y0 y1 = some r) : W p l e rm_V_namesSeen s m args below meth c s.heap [] 0 0 (MQ below (QcRead r) args s 0 0 (fun _ => False)) (F0 m 0 ls []) := by
  unfold f_V_namesSeen_0 at hf
  obtain ⟨hx, hb, hml, hown, hts, hr, hlocks⟩ := id cx
  refine lv_iconst (v := (0 : Int32)) hx hb d_V_namesSeen_0 (by decide) ?_
  refine lv_istore_n (lv' := [(3, .int (0 : Int32)), (0, .ref q_va), (1, .int y0), (2, .int y1)]) hx hb d_V_namesSeen_1 rfl hl (by decide) rfl (fun ls hl => ?_)
  refine lv_iconst (v := (0 : Int32)) hx hb d_V_namesSeen_2 (by decide) ?_
  refine lv_istore (lv' := [(4, .int (0 : Int32)), (3, .int (0 : Int32)), (0, .ref q_va), (1, .int y0), (2, .int y1)]) hx hb d_V_namesSeen_3 hl (by decide) rfl (fun ls hl => ?_)
  exact l_V_namesSeen_5 (y0 := y0) (y1 := y1) cx hK hP 300 (0 : Int32) (0 : Int32) _ (lv_sub hl [2, 3, 4, 1, 0] rfl) hf
def f_V_namesSeen (vn : Nat) (ars : Nat → jv_ar) (a0 : Int32) (a1 : Int32) : Option (Int32) := f_V_namesSeen_0 vn ars a0 a1
set_option maxHeartbeats 4000000 in
set_option maxRecDepth 100000 in
theorem c_V_namesSeen (l : Launch) (dC : Nat → ClassId) (dI : Nat → Nat → Nat) (cI cA cL : ClassId) (q_va q_aa q_cl q_fu : Nat) (Q : Nat → Nat → Nat) (vn : Nat) (vC : Nat → Int32) (vat : Int32) (ars : Nat → jv_ar) (a0 : Int32) (a1 : Int32) (r : Int32) (hf : f_V_namesSeen vn ars a0 a1 = some r) : Met l y_V_namesSeen ws_V_namesSeen rm_V_namesSeen (jv_Pr [.ref q_va, .int a0, .int a1] (dC, dI) (jv_ty cI cA cL) (w_vault cI cA q_va q_aa q_cl q_fu Q vn vC vat ars)) (QcRead r) 0 0 (fun _ => False) := by
  refine Met.ofW (cc := cc_V_namesSeen) (maxL := 5) (ret := (some .int)) (by decide) rfl ?_
  intro p e s m args below meth c s₁ B hml hv
  obtain ⟨rfl, hP, hK⟩ := hv
  have cx : jv_cx p s m _ meth c cc_V_namesSeen 5 R_Vault (some .int) ws_V_namesSeen := ⟨B.exec, B.bytes, hml, findClass_of_methodNamed B.named, atoms_spec (ws := ws_V_namesSeen) B.pre, B.returns, B.notSynchronized⟩
  have hl := lv_entry ([.ref q_va, .int a0, .int a1]) (n := 5) (Nat.le_of_ble_eq_true rfl)
  rw [lg_entry_eq]
  generalize (lg_sl ([.ref q_va, .int a0, .int a1]) ++ List.replicate (5 - (lg_sl ([.ref q_va, .int a0, .int a1])).length) Slot.unset).toArray = ls at hl ⊢
  have hl : lv_has ls 5 [(0, .ref q_va), (1, .int a0), (2, .int a1)] := hl
  exact b_V_namesSeen_0 (y0 := a0) (y1 := a1) cx hK hP (lv_sub hl [0, 1, 2] rfl) hf
theorem d_V_areaNumbered_0 : decode cc_V_areaNumbered 0 = .ok (.aload_n 0, 1) := by decide +kernel
theorem d_V_areaNumbered_1 : decode cc_V_areaNumbered 1 = .ok (.iload_n 1, 1) := by decide +kernel
theorem d_V_areaNumbered_2 : decode cc_V_areaNumbered 2 = .ok (.invokevirtual 233, 3) := by decide +kernel
theorem d_V_areaNumbered_5 : decode cc_V_areaNumbered 5 = .ok (.invokestatic 36, 3) := by decide +kernel
theorem d_V_areaNumbered_8 : decode cc_V_areaNumbered 8 = .ok (.aload_n 0, 1) := by decide +kernel
theorem d_V_areaNumbered_9 : decode cc_V_areaNumbered 9 = .ok (.getfield 11, 3) := by decide +kernel
theorem d_V_areaNumbered_12 : decode cc_V_areaNumbered 12 = .ok (.iload_n 1, 1) := by decide +kernel
theorem d_V_areaNumbered_13 : decode cc_V_areaNumbered 13 = .ok (.aaload, 1) := by decide +kernel
theorem d_V_areaNumbered_14 : decode cc_V_areaNumbered 14 = .ok (.areturn, 1) := by decide +kernel
def f_V_areaNumbered_0 (vn : Nat) (y0 : Int32) : Option (Nat ⊕ (Nat)) :=
  (f_V_hasArea vn y0).bind fun x1 => (f_V_demand x1).bind fun x3 => jv_se x3 fun v5 => (jv_gi 6 y0).bind fun j7 => if j7 < vn then (some (Sum.inr j7)) else (none)
set_option maxHeartbeats 4000000 in
set_option maxRecDepth 100000 in
theorem b_V_areaNumbered_0 {l : Launch} {dC : Nat → ClassId} {dI : Nat → Nat → Nat} {cI cA cL : ClassId} {q_va q_aa q_cl q_fu : Nat} {Q : Nat → Nat → Nat} {vn : Nat} {vC : Nat → Int32} {vat : Int32} {ars : Nat → jv_ar} {p : Program} {e : Env} {s : State} {m : MethodId} {args : Array Value} {below : List Frame} {meth : Method} {c : Code} (cx : jv_cx p s m args meth c cc_V_areaNumbered 2 R_Vault (some (.object "LabelVault$Area")) ws_V_areaNumbered) (hK : va_K (dC, dI) vwCl (jv_ty cI cA cL) s) (hP : va_P (dC, dI) vwCl (w_vault cI cA q_va q_aa q_cl q_fu Q vn vC vat ars) s.heap) (hl9 : l.stackTraces = false) (hT : jv_th s) (hout : c.exceptionTable.isEmpty = true) {r : Nat} {y0 : Int32} {ls : Array Slot} (hl : lv_has ls 2 [(0, .ref q_va), (1, .int y0)]) (hf : f_V_areaNumbered_0 vn y0 = some (Sum.inr r)) : W p l e rm_V_areaNumbered s m args below meth c s.heap [] 0 0 (MQ below (k2_QcV (.ref (Q r 0))) args s 0 0 (fun _ => False)) (F0 m 0 ls []) := by
  unfold f_V_areaNumbered_0 at hf
  obtain ⟨hx, hb, hml, hown, hts, hr, hlocks⟩ := id cx
  refine lv_aload_n hx hb d_V_areaNumbered_0 rfl (lv_at hl 0 rfl) ?_
  refine lv_iload_n hx hb d_V_areaNumbered_1 rfl (lv_at hl 1 rfl) ?_
  obtain ⟨x1, g2, hf⟩ := jv_ob hf
  refine jv_cs (W.runV (As := [.int y0]) (rest := []) (b := q_va) ⟨hx, hb, hml, hown, hts⟩ (c_V_hasArea l dC dI cI cA cL q_va q_aa q_cl q_fu Q vn vC vat ars y0 x1 g2) (jv_cwV hts wa_302 wa_303 wa_304 wa_305 wa_306 rfl rfl yd_V_hasArea ⟨Nat.le_of_ble_eq_true rfl, Nat.le_of_ble_eq_true rfl⟩) (jv_preV hK hP 0 rfl rfl) rfl rfl hl.1 rfl (lv_room (Nat.le_of_ble_eq_true rfl)) d_V_areaNumbered_2 ⟨Nat.zero_le _, Nat.zero_le _⟩) ?_
  obtain ⟨x3, g4, hf⟩ := jv_ob hf
  rcases x3 with k6 | v5
  · exact jv_ci hf
  have hf := jv_sr hf
  refine jv_csv (W.runS (As := [.int x1]) (rest := []) ⟨hx, hb, hml, hown, hts⟩ (c_V_demand l hl9 x1 v5 g4) (jv_cwS hts wa_321 wa_303 wa_322 wa_323 rfl rfl yd_V_demand ⟨Nat.le_of_ble_eq_true rfl, Nat.le_of_ble_eq_true rfl⟩) (jv_pre0t hT) rfl rfl hl.1 rfl (lv_room (Nat.le_of_ble_eq_true rfl)) d_V_areaNumbered_5 ⟨Nat.zero_le _, Nat.zero_le _⟩) ?_
  refine lv_aload_n hx hb d_V_areaNumbered_8 rfl (lv_at hl 0 rfl) ?_
  refine va_get (D := (dC, dI)) (ci := kVault) (v := .ref q_aa) (C := R_Vault) (T := T_Vault) (N := 4) hx hb hts (fun w h => List.mem_cons_of_mem _ (in_Vault w h)) hown hK hP 0 rfl rfl 0 (by decide) (jv_w hts wa_300) (fun _ h9 => h9) rfl d_V_areaNumbered_9 ?_
  refine lv_iload_n hx hb d_V_areaNumbered_12 rfl (lv_at hl 1 rfl) ?_
  obtain ⟨j7, g8, hf⟩ := jv_ob hf
  refine jv_aald hx hb hK hP g8 d_V_areaNumbered_13 (fun hj9 => ?_) (fun hj9 => ?_)
  · have hf := jv_it hf hj9
    obtain rfl := Sum.inr.inj (Option.some.inj hf)
    exact W.aret hx hb hr (Or.inl ⟨_, rfl⟩) (Or.inr ⟨_, rfl⟩) (fun t ht hW => ⟨rfl, ht⟩) (fun q h => by cases h) d_V_areaNumbered_14
  · cases jv_if hf hj9
def f_V_areaNumbered (vn : Nat) (a0 : Int32) : Option (Nat ⊕ (Nat)) := f_V_areaNumbered_0 vn a0
set_option maxHeartbeats 4000000 in
set_option maxRecDepth 100000 in
theorem c_V_areaNumbered (l : Launch) (hl9 : l.stackTraces = false) (dC : Nat → ClassId) (dI : Nat → Nat → Nat) (cI cA cL : ClassId) (q_va q_aa q_cl q_fu : Nat) (Q : Nat → Nat → Nat) (vn : Nat) (vC : Nat → Int32) (vat : Int32) (ars : Nat → jv_ar) (a0 : Int32) (r : Nat) (hf : f_V_areaNumbered vn a0 = some (Sum.inr r)) : Met l y_V_areaNumbered ws_V_areaNumbered rm_V_areaNumbered (jv_Prt [.ref q_va, .int a0] (dC, dI) (jv_ty cI cA cL) (w_vault cI cA q_va q_aa q_cl q_fu Q vn vC vat ars)) (k2_QcV (.ref (Q r 0))) 0 0 (fun _ => False) := by
  refine Met.ofW (cc := cc_V_areaNumbered) (maxL := 2) (ret := (some (.object "LabelVault$Area"))) (by decide) rfl ?_
  intro p e s m args below meth c s₁ B hml hv
  obtain ⟨rfl, hP, hK, hT⟩ := hv
  have cx : jv_cx p s m _ meth c cc_V_areaNumbered 2 R_Vault (some (.object "LabelVault$Area")) ws_V_areaNumbered := ⟨B.exec, B.bytes, hml, findClass_of_methodNamed B.named, atoms_spec (ws := ws_V_areaNumbered) B.pre, B.returns, B.notSynchronized⟩
  have hout : c.exceptionTable.isEmpty = true := B.noHandlers (atoms_spec (ws := ws_V_areaNumbered) B.pre _ List.mem_cons_self)
  have hl := lv_entry ([.ref q_va, .int a0]) (n := 2) (Nat.le_of_ble_eq_true rfl)
  rw [lg_entry_eq]
  generalize (lg_sl ([.ref q_va, .int a0]) ++ List.replicate (2 - (lg_sl ([.ref q_va, .int a0])).length) Slot.unset).toArray = ls at hl ⊢
  have hl : lv_has ls 2 [(0, .ref q_va), (1, .int a0)] := hl
  exact b_V_areaNumbered_0 (y0 := a0) cx hK hP hl9 hT hout (lv_sub hl [0, 1] rfl) hf
set_option maxHeartbeats 4000000 in
set_option maxRecDepth 100000 in
theorem t_V_areaNumbered_0 {l : Launch} {dC : Nat → ClassId} {dI : Nat → Nat → Nat} {cI cA cL : ClassId} {q_va q_aa q_cl q_fu : Nat} {Q : Nat → Nat → Nat} {vn : Nat} {vC : Nat → Int32} {vat : Int32} {ars : Nat → jv_ar} {p : Program} {e : Env} {s : State} {m : MethodId} {args : Array Value} {below : List Frame} {meth : Method} {c : Code} (cx : jv_cx p s m args meth c cc_V_areaNumbered 2 R_Vault (some (.object "LabelVault$Area")) ws_V_areaNumbered) (hK : va_K (dC, dI) vwCl (jv_ty cI cA cL) s) (hP : va_P (dC, dI) vwCl (w_vault cI cA q_va q_aa q_cl q_fu Q vn vC vat ars) s.heap) (hl9 : l.stackTraces = false) (hT : jv_th s) (hout : c.exceptionTable.isEmpty = true) {kx : Nat} {y0 : Int32} {ls : Array Slot} (hl : lv_has ls 2 [(0, .ref q_va), (1, .int y0)]) (hf : f_V_areaNumbered_0 vn y0 = some (Sum.inl kx)) : W p l e rx_V_areaNumbered s m args below meth c s.heap [] 0 0 (jv_MQ below (jv_en kx) args s 1 6) (F0 m 0 ls []) := by
  unfold f_V_areaNumbered_0 at hf
  obtain ⟨hx, hb, hml, hown, hts, hr, hlocks⟩ := id cx
  refine lv_aload_n hx hb d_V_areaNumbered_0 rfl (lv_at hl 0 rfl) ?_
  refine lv_iload_n hx hb d_V_areaNumbered_1 rfl (lv_at hl 1 rfl) ?_
  obtain ⟨x1, g2, hf⟩ := jv_ob hf
  refine jv_cs (W.runV (As := [.int y0]) (rest := []) (b := q_va) ⟨hx, hb, hml, hown, hts⟩ (c_V_hasArea l dC dI cI cA cL q_va q_aa q_cl q_fu Q vn vC vat ars y0 x1 g2) (jv_cwV hts wa_302 wa_303 wa_304 wa_305 wa_306 rfl rfl yd_V_hasArea ⟨Nat.le_of_ble_eq_true rfl, Nat.le_of_ble_eq_true rfl⟩) (jv_preV hK hP 0 rfl rfl) rfl rfl hl.1 rfl (lv_room (Nat.le_of_ble_eq_true rfl)) d_V_areaNumbered_2 ⟨Nat.zero_le _, Nat.zero_le _⟩) ?_
  obtain ⟨x3, g4, hf⟩ := jv_ob hf
  rcases x3 with k6 | v5
  · rw [jv_sl hf] at g4
    exact jv_xS (cells := 0) (slots := 0) (As := [.int x1]) (rest := []) ⟨hx, hb, hml, hown, hts⟩ (x_V_demand l hl9 x1 kx g4) (jv_cwS hts wa_321 wa_303 wa_322 wa_323 rfl rfl yd_V_demand ⟨Nat.le_of_ble_eq_true rfl, Nat.le_of_ble_eq_true rfl⟩) (jv_pre0t hT) rfl rfl hl.1 rfl (lv_room (Nat.le_of_ble_eq_true rfl)) d_V_areaNumbered_5 ⟨Nat.le_of_ble_eq_true rfl, Nat.le_of_ble_eq_true rfl⟩ (fun x H1 hob => jv_leave hout hlocks hob)
  have hf := jv_sr hf
  refine jv_csv (W.runS (As := [.int x1]) (rest := []) ⟨hx, hb, hml, hown, hts⟩ (c_V_demand l hl9 x1 v5 g4) (jv_cwS hts wa_321 wa_303 wa_322 wa_323 rfl rfl yd_V_demand ⟨Nat.le_of_ble_eq_true rfl, Nat.le_of_ble_eq_true rfl⟩) (jv_pre0t hT) rfl rfl hl.1 rfl (lv_room (Nat.le_of_ble_eq_true rfl)) d_V_areaNumbered_5 ⟨Nat.zero_le _, Nat.zero_le _⟩) ?_
  refine lv_aload_n hx hb d_V_areaNumbered_8 rfl (lv_at hl 0 rfl) ?_
  refine va_get (D := (dC, dI)) (ci := kVault) (v := .ref q_aa) (C := R_Vault) (T := T_Vault) (N := 4) hx hb hts (fun w h => List.mem_cons_of_mem _ (in_Vault w h)) hown hK hP 0 rfl rfl 0 (by decide) (jv_w hts wa_300) (fun _ h9 => h9) rfl d_V_areaNumbered_9 ?_
  refine lv_iload_n hx hb d_V_areaNumbered_12 rfl (lv_at hl 1 rfl) ?_
  obtain ⟨j7, g8, hf⟩ := jv_ob hf
  refine jv_aald hx hb hK hP g8 d_V_areaNumbered_13 (fun hj9 => ?_) (fun hj9 => ?_)
  · have hf := jv_it hf hj9
    cases Option.some.inj hf
  · cases jv_if hf hj9
set_option maxHeartbeats 4000000 in
set_option maxRecDepth 100000 in
theorem x_V_areaNumbered (l : Launch) (hl9 : l.stackTraces = false) (dC : Nat → ClassId) (dI : Nat → Nat → Nat) (cI cA cL : ClassId) (q_va q_aa q_cl q_fu : Nat) (Q : Nat → Nat → Nat) (vn : Nat) (vC : Nat → Int32) (vat : Int32) (ars : Nat → jv_ar) (a0 : Int32) (kx : Nat) (hf : f_V_areaNumbered vn a0 = some (Sum.inl kx)) : jv_MX l y_V_areaNumbered ws_V_areaNumbered rx_V_areaNumbered (jv_Prt [.ref q_va, .int a0] (dC, dI) (jv_ty cI cA cL) (w_vault cI cA q_va q_aa q_cl q_fu Q vn vC vat ars)) (jv_en kx) 1 6 := by
  refine jv_MX.ofW (cc := cc_V_areaNumbered) (maxL := 2) (ret := (some (.object "LabelVault$Area"))) (by decide) rfl ?_
  intro p e s m args below meth c s₁ B hml hv
  obtain ⟨rfl, hP, hK, hT⟩ := hv
  have cx : jv_cx p s m _ meth c cc_V_areaNumbered 2 R_Vault (some (.object "LabelVault$Area")) ws_V_areaNumbered := ⟨B.exec, B.bytes, hml, findClass_of_methodNamed B.named, atoms_spec (ws := ws_V_areaNumbered) B.pre, B.returns, B.notSynchronized⟩
  have hout : c.exceptionTable.isEmpty = true := B.noHandlers (atoms_spec (ws := ws_V_areaNumbered) B.pre _ List.mem_cons_self)
  have hl := lv_entry ([.ref q_va, .int a0]) (n := 2) (Nat.le_of_ble_eq_true rfl)
  rw [lg_entry_eq]
  generalize (lg_sl ([.ref q_va, .int a0]) ++ List.replicate (2 - (lg_sl ([.ref q_va, .int a0])).length) Slot.unset).toArray = ls at hl ⊢
  have hl : lv_has ls 2 [(0, .ref q_va), (1, .int a0)] := hl
  exact t_V_areaNumbered_0 (y0 := a0) cx hK hP hl9 hT hout (lv_sub hl [0, 1] rfl) hf
theorem d_V_areaOf_0 : decode cc_V_areaOf 0 = .ok (.aload_n 0, 1) := by decide +kernel
theorem d_V_areaOf_1 : decode cc_V_areaOf 1 = .ok (.iload_n 1, 1) := by decide +kernel
theorem d_V_areaOf_2 : decode cc_V_areaOf 2 = .ok (.invokevirtual 246, 3) := by decide +kernel
theorem d_V_areaOf_5 : decode cc_V_areaOf 5 = .ok (.invokestatic 36, 3) := by decide +kernel
theorem d_V_areaOf_8 : decode cc_V_areaOf 8 = .ok (.aload_n 0, 1) := by decide +kernel
theorem d_V_areaOf_9 : decode cc_V_areaOf 9 = .ok (.getfield 11, 3) := by decide +kernel
theorem d_V_areaOf_12 : decode cc_V_areaOf 12 = .ok (.iload_n 1, 1) := by decide +kernel
theorem d_V_areaOf_13 : decode cc_V_areaOf 13 = .ok (.iconst 4, 1) := by decide +kernel
theorem d_V_areaOf_14 : decode cc_V_areaOf 14 = .ok (.idiv, 1) := by decide +kernel
theorem d_V_areaOf_15 : decode cc_V_areaOf 15 = .ok (.aaload, 1) := by decide +kernel
theorem d_V_areaOf_16 : decode cc_V_areaOf 16 = .ok (.areturn, 1) := by decide +kernel
def f_V_areaOf_0 (vn : Nat) (ars : Nat → jv_ar) (y0 : Int32) : Option (Nat ⊕ (Nat)) :=
  (f_V_hasSession vn ars y0).bind fun x1 => (f_V_demand x1).bind fun x3 => jv_se x3 fun v5 => (jv_gi 6 (y0 / (4 : Int32))).bind fun j7 => if j7 < vn then (some (Sum.inr j7)) else (none)
set_option maxHeartbeats 4000000 in
set_option maxRecDepth 100000 in
theorem b_V_areaOf_0 {l : Launch} {dC : Nat → ClassId} {dI : Nat → Nat → Nat} {cI cA cL : ClassId} {q_va q_aa q_cl q_fu : Nat} {Q : Nat → Nat → Nat} {vn : Nat} {vC : Nat → Int32} {vat : Int32} {ars : Nat → jv_ar} {p : Program} {e : Env} {s : State} {m : MethodId} {args : Array Value} {below : List Frame} {meth : Method} {c : Code} (cx : jv_cx p s m args meth c cc_V_areaOf 2 R_Vault (some (.object "LabelVault$Area")) ws_V_areaOf) (hK : va_K (dC, dI) vwCl (jv_ty cI cA cL) s) (hP : va_P (dC, dI) vwCl (w_vault cI cA q_va q_aa q_cl q_fu Q vn vC vat ars) s.heap) (hl9 : l.stackTraces = false) (hT : jv_th s) (hout : c.exceptionTable.isEmpty = true) {r : Nat} {y0 : Int32} {ls : Array Slot} (hl : lv_has ls 2 [(0, .ref q_va), (1, .int y0)]) (hf : f_V_areaOf_0 vn ars y0 = some (Sum.inr r)) : W p l e rm_V_areaOf s m args below meth c s.heap [] 0 0 (MQ below (k2_QcV (.ref (Q r 0))) args s 0 0 (fun _ => False)) (F0 m 0 ls []) := by
  unfold f_V_areaOf_0 at hf
  obtain ⟨hx, hb, hml, hown, hts, hr, hlocks⟩ := id cx
  refine lv_aload_n hx hb d_V_areaOf_0 rfl (lv_at hl 0 rfl) ?_
  refine lv_iload_n hx hb d_V_areaOf_1 rfl (lv_at hl 1 rfl) ?_
  obtain ⟨x1, g2, hf⟩ := jv_ob hf
  refine jv_cs (W.runV (As := [.int y0]) (rest := []) (b := q_va) ⟨hx, hb, hml, hown, hts⟩ (c_V_hasSession l dC dI cI cA cL q_va q_aa q_cl q_fu Q vn vC vat ars y0 x1 g2) (jv_cwV hts wa_324 wa_303 wa_325 wa_326 wa_327 rfl rfl yd_V_hasSession ⟨Nat.le_of_ble_eq_true rfl, Nat.le_of_ble_eq_true rfl⟩) (jv_preV hK hP 0 rfl rfl) rfl rfl hl.1 rfl (lv_room (Nat.le_of_ble_eq_true rfl)) d_V_areaOf_2 ⟨Nat.zero_le _, Nat.zero_le _⟩) ?_
  obtain ⟨x3, g4, hf⟩ := jv_ob hf
  rcases x3 with k6 | v5
  · exact jv_ci hf
  have hf := jv_sr hf
  refine jv_csv (W.runS (As := [.int x1]) (rest := []) ⟨hx, hb, hml, hown, hts⟩ (c_V_demand l hl9 x1 v5 g4) (jv_cwS hts wa_321 wa_303 wa_322 wa_323 rfl rfl yd_V_demand ⟨Nat.le_of_ble_eq_true rfl, Nat.le_of_ble_eq_true rfl⟩) (jv_pre0t hT) rfl rfl hl.1 rfl (lv_room (Nat.le_of_ble_eq_true rfl)) d_V_areaOf_5 ⟨Nat.zero_le _, Nat.zero_le _⟩) ?_
  refine lv_aload_n hx hb d_V_areaOf_8 rfl (lv_at hl 0 rfl) ?_
  refine va_get (D := (dC, dI)) (ci := kVault) (v := .ref q_aa) (C := R_Vault) (T := T_Vault) (N := 4) hx hb hts (fun w h => List.mem_cons_of_mem _ (in_Vault w h)) hown hK hP 0 rfl rfl 0 (by decide) (jv_w hts wa_300) (fun _ h9 => h9) rfl d_V_areaOf_9 ?_
  refine lv_iload_n hx hb d_V_areaOf_12 rfl (lv_at hl 1 rfl) ?_
  refine lv_iconst (v := (4 : Int32)) hx hb d_V_areaOf_13 (by decide) ?_
  refine lv_idiv hx hb d_V_areaOf_14 (by decide) ?_
  obtain ⟨j7, g8, hf⟩ := jv_ob hf
  refine jv_aald hx hb hK hP g8 d_V_areaOf_15 (fun hj9 => ?_) (fun hj9 => ?_)
  · have hf := jv_it hf hj9
    obtain rfl := Sum.inr.inj (Option.some.inj hf)
    exact W.aret hx hb hr (Or.inl ⟨_, rfl⟩) (Or.inr ⟨_, rfl⟩) (fun t ht hW => ⟨rfl, ht⟩) (fun q h => by cases h) d_V_areaOf_16
  · cases jv_if hf hj9
def f_V_areaOf (vn : Nat) (ars : Nat → jv_ar) (a0 : Int32) : Option (Nat ⊕ (Nat)) := f_V_areaOf_0 vn ars a0
set_option maxHeartbeats 4000000 in
set_option maxRecDepth 100000 in
theorem c_V_areaOf (l : Launch) (hl9 : l.stackTraces = false) (dC : Nat → ClassId) (dI : Nat → Nat → Nat) (cI cA cL : ClassId) (q_va q_aa q_cl q_fu : Nat) (Q : Nat → Nat → Nat) (vn : Nat) (vC : Nat → Int32) (vat : Int32) (ars : Nat → jv_ar) (a0 : Int32) (r : Nat) (hf : f_V_areaOf vn ars a0 = some (Sum.inr r)) : Met l y_V_areaOf ws_V_areaOf rm_V_areaOf (jv_Prt [.ref q_va, .int a0] (dC, dI) (jv_ty cI cA cL) (w_vault cI cA q_va q_aa q_cl q_fu Q vn vC vat ars)) (k2_QcV (.ref (Q r 0))) 0 0 (fun _ => False) := by
  refine Met.ofW (cc := cc_V_areaOf) (maxL := 2) (ret := (some (.object "LabelVault$Area"))) (by decide) rfl ?_
  intro p e s m args below meth c s₁ B hml hv
  obtain ⟨rfl, hP, hK, hT⟩ := hv
  have cx : jv_cx p s m _ meth c cc_V_areaOf 2 R_Vault (some (.object "LabelVault$Area")) ws_V_areaOf := ⟨B.exec, B.bytes, hml, findClass_of_methodNamed B.named, atoms_spec (ws := ws_V_areaOf) B.pre, B.returns, B.notSynchronized⟩
  have hout : c.exceptionTable.isEmpty = true := B.noHandlers (atoms_spec (ws := ws_V_areaOf) B.pre _ List.mem_cons_self)
  have hl := lv_entry ([.ref q_va, .int a0]) (n := 2) (Nat.le_of_ble_eq_true rfl)
  rw [lg_entry_eq]
  generalize (lg_sl ([.ref q_va, .int a0]) ++ List.replicate (2 - (lg_sl ([.ref q_va, .int a0])).length) Slot.unset).toArray = ls at hl ⊢
  have hl : lv_has ls 2 [(0, .ref q_va), (1, .int a0)] := hl
  exact b_V_areaOf_0 (y0 := a0) cx hK hP hl9 hT hout (lv_sub hl [0, 1] rfl) hf
set_option maxHeartbeats 4000000 in
set_option maxRecDepth 100000 in
theorem t_V_areaOf_0 {l : Launch} {dC : Nat → ClassId} {dI : Nat → Nat → Nat} {cI cA cL : ClassId} {q_va q_aa q_cl q_fu : Nat} {Q : Nat → Nat → Nat} {vn : Nat} {vC : Nat → Int32} {vat : Int32} {ars : Nat → jv_ar} {p : Program} {e : Env} {s : State} {m : MethodId} {args : Array Value} {below : List Frame} {meth : Method} {c : Code} (cx : jv_cx p s m args meth c cc_V_areaOf 2 R_Vault (some (.object "LabelVault$Area")) ws_V_areaOf) (hK : va_K (dC, dI) vwCl (jv_ty cI cA cL) s) (hP : va_P (dC, dI) vwCl (w_vault cI cA q_va q_aa q_cl q_fu Q vn vC vat ars) s.heap) (hl9 : l.stackTraces = false) (hT : jv_th s) (hout : c.exceptionTable.isEmpty = true) {kx : Nat} {y0 : Int32} {ls : Array Slot} (hl : lv_has ls 2 [(0, .ref q_va), (1, .int y0)]) (hf : f_V_areaOf_0 vn ars y0 = some (Sum.inl kx)) : W p l e rx_V_areaOf s m args below meth c s.heap [] 0 0 (jv_MQ below (jv_en kx) args s 1 6) (F0 m 0 ls []) := by
  unfold f_V_areaOf_0 at hf
  obtain ⟨hx, hb, hml, hown, hts, hr, hlocks⟩ := id cx
  refine lv_aload_n hx hb d_V_areaOf_0 rfl (lv_at hl 0 rfl) ?_
  refine lv_iload_n hx hb d_V_areaOf_1 rfl (lv_at hl 1 rfl) ?_
  obtain ⟨x1, g2, hf⟩ := jv_ob hf
  refine jv_cs (W.runV (As := [.int y0]) (rest := []) (b := q_va) ⟨hx, hb, hml, hown, hts⟩ (c_V_hasSession l dC dI cI cA cL q_va q_aa q_cl q_fu Q vn vC vat ars y0 x1 g2) (jv_cwV hts wa_324 wa_303 wa_325 wa_326 wa_327 rfl rfl yd_V_hasSession ⟨Nat.le_of_ble_eq_true rfl, Nat.le_of_ble_eq_true rfl⟩) (jv_preV hK hP 0 rfl rfl) rfl rfl hl.1 rfl (lv_room (Nat.le_of_ble_eq_true rfl)) d_V_areaOf_2 ⟨Nat.zero_le _, Nat.zero_le _⟩) ?_
  obtain ⟨x3, g4, hf⟩ := jv_ob hf
  rcases x3 with k6 | v5
  · rw [jv_sl hf] at g4
    exact jv_xS (cells := 0) (slots := 0) (As := [.int x1]) (rest := []) ⟨hx, hb, hml, hown, hts⟩ (x_V_demand l hl9 x1 kx g4) (jv_cwS hts wa_321 wa_303 wa_322 wa_323 rfl rfl yd_V_demand ⟨Nat.le_of_ble_eq_true rfl, Nat.le_of_ble_eq_true rfl⟩) (jv_pre0t hT) rfl rfl hl.1 rfl (lv_room (Nat.le_of_ble_eq_true rfl)) d_V_areaOf_5 ⟨Nat.le_of_ble_eq_true rfl, Nat.le_of_ble_eq_true rfl⟩ (fun x H1 hob => jv_leave hout hlocks hob)
  have hf := jv_sr hf
  refine jv_csv (W.runS (As := [.int x1]) (rest := []) ⟨hx, hb, hml, hown, hts⟩ (c_V_demand l hl9 x1 v5 g4) (jv_cwS hts wa_321 wa_303 wa_322 wa_323 rfl rfl yd_V_demand ⟨Nat.le_of_ble_eq_true rfl, Nat.le_of_ble_eq_true rfl⟩) (jv_pre0t hT) rfl rfl hl.1 rfl (lv_room (Nat.le_of_ble_eq_true rfl)) d_V_areaOf_5 ⟨Nat.zero_le _, Nat.zero_le _⟩) ?_
  refine lv_aload_n hx hb d_V_areaOf_8 rfl (lv_at hl 0 rfl) ?_
  refine va_get (D := (dC, dI)) (ci := kVault) (v := .ref q_aa) (C := R_Vault) (T := T_Vault) (N := 4) hx hb hts (fun w h => List.mem_cons_of_mem _ (in_Vault w h)) hown hK hP 0 rfl rfl 0 (by decide) (jv_w hts wa_300) (fun _ h9 => h9) rfl d_V_areaOf_9 ?_
  refine lv_iload_n hx hb d_V_areaOf_12 rfl (lv_at hl 1 rfl) ?_
  refine lv_iconst (v := (4 : Int32)) hx hb d_V_areaOf_13 (by decide) ?_
  refine lv_idiv hx hb d_V_areaOf_14 (by decide) ?_
  obtain ⟨j7, g8, hf⟩ := jv_ob hf
  refine jv_aald hx hb hK hP g8 d_V_areaOf_15 (fun hj9 => ?_) (fun hj9 => ?_)
  · have hf := jv_it hf hj9
    cases Option.some.inj hf
  · cases jv_if hf hj9
set_option maxHeartbeats 4000000 in
set_option maxRecDepth 100000 in
theorem x_V_areaOf (l : Launch) (hl9 : l.stackTraces = false) (dC : Nat → ClassId) (dI : Nat → Nat → Nat) (cI cA cL : ClassId) (q_va q_aa q_cl q_fu : Nat) (Q : Nat → Nat → Nat) (vn : Nat) (vC : Nat → Int32) (vat : Int32) (ars : Nat → jv_ar) (a0 : Int32) (kx : Nat) (hf : f_V_areaOf vn ars a0 = some (Sum.inl kx)) : jv_MX l y_V_areaOf ws_V_areaOf rx_V_areaOf (jv_Prt [.ref q_va, .int a0] (dC, dI) (jv_ty cI cA cL) (w_vault cI cA q_va q_aa q_cl q_fu Q vn vC vat ars)) (jv_en kx) 1 6 := by
  refine jv_MX.ofW (cc := cc_V_areaOf) (maxL := 2) (ret := (some (.object "LabelVault$Area"))) (by decide) rfl ?_
  intro p e s m args below meth c s₁ B hml hv
  obtain ⟨rfl, hP, hK, hT⟩ := hv
  have cx : jv_cx p s m _ meth c cc_V_areaOf 2 R_Vault (some (.object "LabelVault$Area")) ws_V_areaOf := ⟨B.exec, B.bytes, hml, findClass_of_methodNamed B.named, atoms_spec (ws := ws_V_areaOf) B.pre, B.returns, B.notSynchronized⟩
  have hout : c.exceptionTable.isEmpty = true := B.noHandlers (atoms_spec (ws := ws_V_areaOf) B.pre _ List.mem_cons_self)
  have hl := lv_entry ([.ref q_va, .int a0]) (n := 2) (Nat.le_of_ble_eq_true rfl)
  rw [lg_entry_eq]
  generalize (lg_sl ([.ref q_va, .int a0]) ++ List.replicate (2 - (lg_sl ([.ref q_va, .int a0])).length) Slot.unset).toArray = ls at hl ⊢
  have hl : lv_has ls 2 [(0, .ref q_va), (1, .int a0)] := hl
  exact t_V_areaOf_0 (y0 := a0) cx hK hP hl9 hT hout (lv_sub hl [0, 1] rfl) hf
theorem d_V_ownInode_0 : decode cc_V_ownInode 0 = .ok (.aload_n 0, 1) := by decide +kernel
theorem d_V_ownInode_1 : decode cc_V_ownInode 1 = .ok (.aload_n 1, 1) := by decide +kernel
theorem d_V_ownInode_2 : decode cc_V_ownInode 2 = .ok (.getfield 67, 3) := by decide +kernel
theorem d_V_ownInode_5 : decode cc_V_ownInode 5 = .ok (.iload_n 2, 1) := by decide +kernel
theorem d_V_ownInode_6 : decode cc_V_ownInode 6 = .ok (.invokevirtual 93, 3) := by decide +kernel
theorem d_V_ownInode_9 : decode cc_V_ownInode 9 = .ok (.ifCond .ne 13, 3) := by decide +kernel
theorem d_V_ownInode_22 : decode cc_V_ownInode 22 = .ok (.aload_n 1, 1) := by decide +kernel
theorem d_V_ownInode_23 : decode cc_V_ownInode 23 = .ok (.getfield 102, 3) := by decide +kernel
theorem d_V_ownInode_26 : decode cc_V_ownInode 26 = .ok (.iload_n 2, 1) := by decide +kernel
theorem d_V_ownInode_27 : decode cc_V_ownInode 27 = .ok (.invokevirtual 116, 3) := by decide +kernel
theorem d_V_ownInode_30 : decode cc_V_ownInode 30 = .ok (.istore_n 3, 1) := by decide +kernel
theorem d_V_ownInode_31 : decode cc_V_ownInode 31 = .ok (.iload_n 3, 1) := by decide +kernel
theorem d_V_ownInode_32 : decode cc_V_ownInode 32 = .ok (.iconst (-1), 1) := by decide +kernel
theorem d_V_ownInode_33 : decode cc_V_ownInode 33 = .ok (.if_icmp .ne 14, 3) := by decide +kernel
theorem d_V_ownInode_47 : decode cc_V_ownInode 47 = .ok (.iload_n 3, 1) := by decide +kernel
theorem d_V_ownInode_48 : decode cc_V_ownInode 48 = .ok (.ireturn, 1) := by decide +kernel
theorem d_V_ownInode_36 : decode cc_V_ownInode 36 = .ok (.new 43, 3) := by decide +kernel
theorem d_V_ownInode_12 : decode cc_V_ownInode 12 = .ok (.new 97, 3) := by decide +kernel
theorem d_V_ownInode_43 : decode cc_V_ownInode 43 = .ok (.invokespecial 47, 3) := by decide +kernel
theorem d_V_ownInode_46 : decode cc_V_ownInode 46 = .ok (.athrow, 1) := by decide +kernel
theorem d_V_ownInode_39 : decode cc_V_ownInode 39 = .ok (.dup, 1) := by decide +kernel
theorem d_V_ownInode_40 : decode cc_V_ownInode 40 = .ok (.ldc_w 260, 3) := by decide +kernel
theorem d_V_ownInode_18 : decode cc_V_ownInode 18 = .ok (.invokespecial 101, 3) := by decide +kernel
theorem d_V_ownInode_21 : decode cc_V_ownInode 21 = .ok (.athrow, 1) := by decide +kernel
theorem d_V_ownInode_15 : decode cc_V_ownInode 15 = .ok (.dup, 1) := by decide +kernel
theorem d_V_ownInode_16 : decode cc_V_ownInode 16 = .ok (.ldc 209, 2) := by decide +kernel
def f_V_ownInode_0 (vn : Nat) (ars : Nat → jv_ar) (y0 : Int32) (y1 : Nat) : Option (Nat ⊕ (Int32)) :=
  (f_V_kindsSeen vn ars ((ars y1).1) y0).bind fun x1 => if x1 = 0 then (some (Sum.inl 3)) else ((f_T_find ((ars y1).2.2.2.1) y0).bind fun x3 => if x3 = (-1 : Int32) then (some (Sum.inl 2)) else (some (Sum.inr x3)))
set_option maxHeartbeats 4000000 in
set_option maxRecDepth 100000 in
theorem b_V_ownInode_0 {l : Launch} {dC : Nat → ClassId} {dI : Nat → Nat → Nat} {cI cA cL : ClassId} {q_va q_aa q_cl q_fu : Nat} {Q : Nat → Nat → Nat} {vn : Nat} {vC : Nat → Int32} {vat : Int32} {ars : Nat → jv_ar} {p : Program} {e : Env} {s : State} {m : MethodId} {args : Array Value} {below : List Frame} {meth : Method} {c : Code} (cx : jv_cx p s m args meth c cc_V_ownInode 4 R_Vault (some .int) ws_V_ownInode) (hK : va_K (dC, dI) vwCl (jv_ty cI cA cL) s) (hP : va_P (dC, dI) vwCl (w_vault cI cA q_va q_aa q_cl q_fu Q vn vC vat ars) s.heap) (hl9 : l.stackTraces = false) (hT : jv_th s) (hout : c.exceptionTable.isEmpty = true) {r : Int32} {y0 : Int32} {y1 : Nat} (hy1 : y1 < vn) {ls : Array Slot} (hl : lv_has ls 4 [(0, .ref q_va), (1, .ref (Q y1 0)), (2, .int y0)]) (hf : f_V_ownInode_0 vn ars y0 y1 = some (Sum.inr r)) : W p l e rm_V_ownInode s m args below meth c s.heap [] 0 0 (MQ below (QcRead r) args s 0 0 (fun _ => False)) (F0 m 0 ls []) := by
  unfold f_V_ownInode_0 at hf
  obtain ⟨hx, hb, hml, hown, hts, hr, hlocks⟩ := id cx
  refine lv_aload_n hx hb d_V_ownInode_0 rfl (lv_at hl 0 rfl) ?_
  refine lv_aload_n hx hb d_V_ownInode_1 rfl (lv_at hl 1 rfl) ?_
  refine va_get (D := (dC, dI)) (ci := kArea) (v := .int ((ars y1).1)) (C := R_Area) (T := T_Area) (N := 5) hx hb hts (fun w h => List.mem_cons_of_mem _ (in_Area w h)) hown hK (jv_open hP hy1) 1 rfl rfl 0 (by decide) (jv_w hts wa_301) (fun _ h9 => h9) rfl d_V_ownInode_2 ?_
  refine lv_iload_n hx hb d_V_ownInode_5 rfl (lv_at hl 2 rfl) ?_
  obtain ⟨x1, g2, hf⟩ := jv_ob hf
  refine jv_cs (W.runV (As := [.int ((ars y1).1), .int y0]) (rest := []) (b := q_va) ⟨hx, hb, hml, hown, hts⟩ (c_V_kindsSeen l dC dI cI cA cL q_va q_aa q_cl q_fu Q vn vC vat ars ((ars y1).1) y0 x1 g2) (jv_cwV hts wa_328 wa_303 wa_329 wa_330 wa_331 rfl rfl yd_V_kindsSeen ⟨Nat.le_of_ble_eq_true rfl, Nat.le_of_ble_eq_true rfl⟩) (jv_preV hK hP 0 rfl rfl) rfl rfl hl.1 rfl (lv_room (Nat.le_of_ble_eq_true rfl)) d_V_ownInode_6 ⟨Nat.zero_le _, Nat.zero_le _⟩) ?_
  refine lv_if_ne (tgt := 22) hx hb d_V_ownInode_9 (by decide) (fun hc => ?_) (fun hc => ?_)
  · have hf := jv_if hf hc
    refine lv_aload_n hx hb d_V_ownInode_22 rfl (lv_at hl 1 rfl) ?_
    refine va_get (D := (dC, dI)) (ci := kArea) (v := .ref (Q y1 6)) (C := R_Area) (T := T_Area) (N := 5) hx hb hts (fun w h => List.mem_cons_of_mem _ (in_Area w h)) hown hK (jv_open hP hy1) 1 rfl rfl 3 (by decide) (jv_w hts wa_315) (fun _ h9 => h9) rfl d_V_ownInode_23 ?_
    refine lv_iload_n hx hb d_V_ownInode_26 rfl (lv_at hl 2 rfl) ?_
    obtain ⟨x3, g4, hf⟩ := jv_ob hf
    have hPc := (jv_open hP hy1).sub (ws' := (w_tree cI (Q y1 6) (Q y1 2) (Q y1 3) (Q y1 4) (Q y1 5) ((ars y1).2.2.2.2.2.1) ((ars y1).2.2.2.2.2.2.1) ((ars y1).2.2.2.2.2.2.2) ((ars y1).2.2.1) ((ars y1).2.2.2.1) ((ars y1).2.2.2.2.1))) [7, 3, 4, 5, 6] rfl
    refine jv_cs (W.runV (As := [.int y0]) (rest := []) (b := (Q y1 6)) ⟨hx, hb, hml, hown, hts⟩ (c_T_find l dC dI cI cA cL (Q y1 6) (Q y1 2) (Q y1 3) (Q y1 4) (Q y1 5) ((ars y1).2.2.2.2.2.1) ((ars y1).2.2.2.2.2.2.1) ((ars y1).2.2.2.2.2.2.2) ((ars y1).2.2.1) ((ars y1).2.2.2.1) ((ars y1).2.2.2.2.1) y0 x3 g4) (jv_cwV hts wa_82 wa_78 wa_332 wa_84 wa_85 rfl rfl yd_T_find ⟨Nat.le_of_ble_eq_true rfl, Nat.le_of_ble_eq_true rfl⟩) (jv_preV hK hPc 0 rfl rfl) rfl rfl hl.1 rfl (lv_room (Nat.le_of_ble_eq_true rfl)) d_V_ownInode_27 ⟨Nat.zero_le _, Nat.zero_le _⟩) ?_
    refine lv_istore_n (lv' := [(3, .int x3), (0, .ref q_va), (1, .ref (Q y1 0)), (2, .int y0)]) hx hb d_V_ownInode_30 rfl hl (by decide) rfl (fun ls hl => ?_)
    refine lv_iload_n hx hb d_V_ownInode_31 rfl (lv_at hl 0 rfl) ?_
    refine lv_iconst (v := (-1 : Int32)) hx hb d_V_ownInode_32 (by decide) ?_
    refine lv_icmp_ne (tgt := 47) hx hb d_V_ownInode_33 (by decide) (fun hc => ?_) (fun hc => ?_)
    · have hf := jv_if hf hc
      refine lv_iload_n hx hb d_V_ownInode_47 rfl (lv_at hl 0 rfl) ?_
      obtain rfl := Sum.inr.inj (Option.some.inj hf)
      exact W.iret hx hb hr (fun t ht hW => ⟨rfl, ht⟩) (fun q h => by cases h) d_V_ownInode_48
    · have hf := jv_it hf hc
      cases Option.some.inj hf
  · have hf := jv_it hf hc
    cases Option.some.inj hf
def f_V_ownInode (vn : Nat) (ars : Nat → jv_ar) (a0 : Nat) (a1 : Int32) : Option (Nat ⊕ (Int32)) := f_V_ownInode_0 vn ars a1 a0
set_option maxHeartbeats 4000000 in
set_option maxRecDepth 100000 in
theorem c_V_ownInode (l : Launch) (hl9 : l.stackTraces = false) (dC : Nat → ClassId) (dI : Nat → Nat → Nat) (cI cA cL : ClassId) (q_va q_aa q_cl q_fu : Nat) (Q : Nat → Nat → Nat) (vn : Nat) (vC : Nat → Int32) (vat : Int32) (ars : Nat → jv_ar) (a0 : Nat) (a1 : Int32) (ha0 : a0 < vn) (r : Int32) (hf : f_V_ownInode vn ars a0 a1 = some (Sum.inr r)) : Met l y_V_ownInode ws_V_ownInode rm_V_ownInode (jv_Prt [.ref q_va, .ref (Q a0 0), .int a1] (dC, dI) (jv_ty cI cA cL) (w_vault cI cA q_va q_aa q_cl q_fu Q vn vC vat ars)) (QcRead r) 0 0 (fun _ => False) := by
  refine Met.ofW (cc := cc_V_ownInode) (maxL := 4) (ret := (some .int)) (by decide) rfl ?_
  intro p e s m args below meth c s₁ B hml hv
  obtain ⟨rfl, hP, hK, hT⟩ := hv
  have cx : jv_cx p s m _ meth c cc_V_ownInode 4 R_Vault (some .int) ws_V_ownInode := ⟨B.exec, B.bytes, hml, findClass_of_methodNamed B.named, atoms_spec (ws := ws_V_ownInode) B.pre, B.returns, B.notSynchronized⟩
  have hout : c.exceptionTable.isEmpty = true := B.noHandlers (atoms_spec (ws := ws_V_ownInode) B.pre _ List.mem_cons_self)
  have hl := lv_entry ([.ref q_va, .ref (Q a0 0), .int a1]) (n := 4) (Nat.le_of_ble_eq_true rfl)
  rw [lg_entry_eq]
  generalize (lg_sl ([.ref q_va, .ref (Q a0 0), .int a1]) ++ List.replicate (4 - (lg_sl ([.ref q_va, .ref (Q a0 0), .int a1])).length) Slot.unset).toArray = ls at hl ⊢
  have hl : lv_has ls 4 [(0, .ref q_va), (1, .ref (Q a0 0)), (2, .int a1)] := hl
  exact b_V_ownInode_0 (y0 := a1) (y1 := a0) (hy1 := ha0) cx hK hP hl9 hT hout (lv_sub hl [0, 1, 2] rfl) hf
set_option maxHeartbeats 4000000 in
set_option maxRecDepth 100000 in
theorem t_V_ownInode_0 {l : Launch} {dC : Nat → ClassId} {dI : Nat → Nat → Nat} {cI cA cL : ClassId} {q_va q_aa q_cl q_fu : Nat} {Q : Nat → Nat → Nat} {vn : Nat} {vC : Nat → Int32} {vat : Int32} {ars : Nat → jv_ar} {p : Program} {e : Env} {s : State} {m : MethodId} {args : Array Value} {below : List Frame} {meth : Method} {c : Code} (cx : jv_cx p s m args meth c cc_V_ownInode 4 R_Vault (some .int) ws_V_ownInode) (hK : va_K (dC, dI) vwCl (jv_ty cI cA cL) s) (hP : va_P (dC, dI) vwCl (w_vault cI cA q_va q_aa q_cl q_fu Q vn vC vat ars) s.heap) (hl9 : l.stackTraces = false) (hT : jv_th s) (hout : c.exceptionTable.isEmpty = true) {kx : Nat} {y0 : Int32} {y1 : Nat} (hy1 : y1 < vn) {ls : Array Slot} (hl : lv_has ls 4 [(0, .ref q_va), (1, .ref (Q y1 0)), (2, .int y0)]) (hf : f_V_ownInode_0 vn ars y0 y1 = some (Sum.inl kx)) : W p l e rx_V_ownInode s m args below meth c s.heap [] 0 0 (jv_MQ below (jv_en kx) args s 1 6) (F0 m 0 ls []) := by
  unfold f_V_ownInode_0 at hf
  obtain ⟨hx, hb, hml, hown, hts, hr, hlocks⟩ := id cx
  refine lv_aload_n hx hb d_V_ownInode_0 rfl (lv_at hl 0 rfl) ?_
  refine lv_aload_n hx hb d_V_ownInode_1 rfl (lv_at hl 1 rfl) ?_
  refine va_get (D := (dC, dI)) (ci := kArea) (v := .int ((ars y1).1)) (C := R_Area) (T := T_Area) (N := 5) hx hb hts (fun w h => List.mem_cons_of_mem _ (in_Area w h)) hown hK (jv_open hP hy1) 1 rfl rfl 0 (by decide) (jv_w hts wa_301) (fun _ h9 => h9) rfl d_V_ownInode_2 ?_
  refine lv_iload_n hx hb d_V_ownInode_5 rfl (lv_at hl 2 rfl) ?_
  obtain ⟨x1, g2, hf⟩ := jv_ob hf
  refine jv_cs (W.runV (As := [.int ((ars y1).1), .int y0]) (rest := []) (b := q_va) ⟨hx, hb, hml, hown, hts⟩ (c_V_kindsSeen l dC dI cI cA cL q_va q_aa q_cl q_fu Q vn vC vat ars ((ars y1).1) y0 x1 g2) (jv_cwV hts wa_328 wa_303 wa_329 wa_330 wa_331 rfl rfl yd_V_kindsSeen ⟨Nat.le_of_ble_eq_true rfl, Nat.le_of_ble_eq_true rfl⟩) (jv_preV hK hP 0 rfl rfl) rfl rfl hl.1 rfl (lv_room (Nat.le_of_ble_eq_true rfl)) d_V_ownInode_6 ⟨Nat.zero_le _, Nat.zero_le _⟩) ?_
  refine lv_if_ne (tgt := 22) hx hb d_V_ownInode_9 (by decide) (fun hc => ?_) (fun hc => ?_)
  · have hf := jv_if hf hc
    refine lv_aload_n hx hb d_V_ownInode_22 rfl (lv_at hl 1 rfl) ?_
    refine va_get (D := (dC, dI)) (ci := kArea) (v := .ref (Q y1 6)) (C := R_Area) (T := T_Area) (N := 5) hx hb hts (fun w h => List.mem_cons_of_mem _ (in_Area w h)) hown hK (jv_open hP hy1) 1 rfl rfl 3 (by decide) (jv_w hts wa_315) (fun _ h9 => h9) rfl d_V_ownInode_23 ?_
    refine lv_iload_n hx hb d_V_ownInode_26 rfl (lv_at hl 2 rfl) ?_
    obtain ⟨x3, g4, hf⟩ := jv_ob hf
    have hPc := (jv_open hP hy1).sub (ws' := (w_tree cI (Q y1 6) (Q y1 2) (Q y1 3) (Q y1 4) (Q y1 5) ((ars y1).2.2.2.2.2.1) ((ars y1).2.2.2.2.2.2.1) ((ars y1).2.2.2.2.2.2.2) ((ars y1).2.2.1) ((ars y1).2.2.2.1) ((ars y1).2.2.2.2.1))) [7, 3, 4, 5, 6] rfl
    refine jv_cs (W.runV (As := [.int y0]) (rest := []) (b := (Q y1 6)) ⟨hx, hb, hml, hown, hts⟩ (c_T_find l dC dI cI cA cL (Q y1 6) (Q y1 2) (Q y1 3) (Q y1 4) (Q y1 5) ((ars y1).2.2.2.2.2.1) ((ars y1).2.2.2.2.2.2.1) ((ars y1).2.2.2.2.2.2.2) ((ars y1).2.2.1) ((ars y1).2.2.2.1) ((ars y1).2.2.2.2.1) y0 x3 g4) (jv_cwV hts wa_82 wa_78 wa_332 wa_84 wa_85 rfl rfl yd_T_find ⟨Nat.le_of_ble_eq_true rfl, Nat.le_of_ble_eq_true rfl⟩) (jv_preV hK hPc 0 rfl rfl) rfl rfl hl.1 rfl (lv_room (Nat.le_of_ble_eq_true rfl)) d_V_ownInode_27 ⟨Nat.zero_le _, Nat.zero_le _⟩) ?_
    refine lv_istore_n (lv' := [(3, .int x3), (0, .ref q_va), (1, .ref (Q y1 0)), (2, .int y0)]) hx hb d_V_ownInode_30 rfl hl (by decide) rfl (fun ls hl => ?_)
    refine lv_iload_n hx hb d_V_ownInode_31 rfl (lv_at hl 0 rfl) ?_
    refine lv_iconst (v := (-1 : Int32)) hx hb d_V_ownInode_32 (by decide) ?_
    refine lv_icmp_ne (tgt := 47) hx hb d_V_ownInode_33 (by decide) (fun hc => ?_) (fun hc => ?_)
    · have hf := jv_if hf hc
      refine lv_iload_n hx hb d_V_ownInode_47 rfl (lv_at hl 0 rfl) ?_
      cases Option.some.inj hf
    · have hf := jv_it hf hc
      obtain rfl := Sum.inl.inj (Option.some.inj hf)
      refine W.newc hx hb hown (jv_w hts wa_333) (jv_w hts wa_334) (jv_w hts wa_335) rfl d_V_ownInode_36 (Nat.le_of_ble_eq_true rfl) (Nat.le_of_ble_eq_true rfl) (fun cC kC h1 h2 h3 h4 => ?_)
      refine W.eq (g2 := F0 m 39 ls (.ref s.heap.size :: [])) rfl ?_
      refine lv_dup hx hb d_V_ownInode_39 rfl ?_
      obtain ⟨sa, hsa⟩ := hT.2.2 (260, "the path is not in the session's area") (by decide +kernel)
      refine jv_ldcw (own := R_Vault) hx hb hown hsa d_V_ownInode_40 ?_
      exact jv_throwS (names := ["java/lang/RuntimeException", "java/lang/Exception"]) hx hb hl9 hlocks (hl.1.trans hml.symm) hown (by decide +kernel) (by decide +kernel) (jv_own hts hT oa_47) hout h1 h2 jv_fresh (Nat.le_refl _) d_V_ownInode_43 d_V_ownInode_46 (Nat.le_of_ble_eq_true rfl) (Nat.le_of_ble_eq_true rfl)
  · have hf := jv_it hf hc
    obtain rfl := Sum.inl.inj (Option.some.inj hf)
    refine W.newc hx hb hown (jv_w hts wa_336) (jv_w hts wa_337) (jv_w hts wa_338) rfl d_V_ownInode_12 (Nat.le_of_ble_eq_true rfl) (Nat.le_of_ble_eq_true rfl) (fun cC kC h1 h2 h3 h4 => ?_)
    refine W.eq (g2 := F0 m 15 ls (.ref s.heap.size :: [])) rfl ?_
    refine lv_dup hx hb d_V_ownInode_15 rfl ?_
    obtain ⟨sa, hsa⟩ := hT.2.2 (209, "the path is not visible") (by decide +kernel)
    refine va_ldcS (own := R_Vault) hx hb hown hsa d_V_ownInode_16 ?_
    exact jv_throwN (Y := "java/lang/RuntimeException") (names := ["java/lang/Exception"]) (idx := 13) hx hb hl9 hlocks (hl.1.trans hml.symm) hown (by decide +kernel) (by decide +kernel) (by decide +kernel) (by decide +kernel) (jv_ownN hts hT oa_101) hout h1 h2 jv_fresh (Nat.le_refl _) d_V_ownInode_18 d_V_ownInode_21 (Nat.le_of_ble_eq_true rfl) (Nat.le_of_ble_eq_true rfl)
set_option maxHeartbeats 4000000 in
set_option maxRecDepth 100000 in
theorem x_V_ownInode (l : Launch) (hl9 : l.stackTraces = false) (dC : Nat → ClassId) (dI : Nat → Nat → Nat) (cI cA cL : ClassId) (q_va q_aa q_cl q_fu : Nat) (Q : Nat → Nat → Nat) (vn : Nat) (vC : Nat → Int32) (vat : Int32) (ars : Nat → jv_ar) (a0 : Nat) (a1 : Int32) (ha0 : a0 < vn) (kx : Nat) (hf : f_V_ownInode vn ars a0 a1 = some (Sum.inl kx)) : jv_MX l y_V_ownInode ws_V_ownInode rx_V_ownInode (jv_Prt [.ref q_va, .ref (Q a0 0), .int a1] (dC, dI) (jv_ty cI cA cL) (w_vault cI cA q_va q_aa q_cl q_fu Q vn vC vat ars)) (jv_en kx) 1 6 := by
  refine jv_MX.ofW (cc := cc_V_ownInode) (maxL := 4) (ret := (some .int)) (by decide) rfl ?_
  intro p e s m args below meth c s₁ B hml hv
  obtain ⟨rfl, hP, hK, hT⟩ := hv
  have cx : jv_cx p s m _ meth c cc_V_ownInode 4 R_Vault (some .int) ws_V_ownInode := ⟨B.exec, B.bytes, hml, findClass_of_methodNamed B.named, atoms_spec (ws := ws_V_ownInode) B.pre, B.returns, B.notSynchronized⟩
  have hout : c.exceptionTable.isEmpty = true := B.noHandlers (atoms_spec (ws := ws_V_ownInode) B.pre _ List.mem_cons_self)
  have hl := lv_entry ([.ref q_va, .ref (Q a0 0), .int a1]) (n := 4) (Nat.le_of_ble_eq_true rfl)
  rw [lg_entry_eq]
  generalize (lg_sl ([.ref q_va, .ref (Q a0 0), .int a1]) ++ List.replicate (4 - (lg_sl ([.ref q_va, .ref (Q a0 0), .int a1])).length) Slot.unset).toArray = ls at hl ⊢
  have hl : lv_has ls 4 [(0, .ref q_va), (1, .ref (Q a0 0)), (2, .int a1)] := hl
  exact t_V_ownInode_0 (y0 := a1) (y1 := a0) (hy1 := ha0) cx hK hP hl9 hT hout (lv_sub hl [0, 1, 2] rfl) hf
theorem d_V_demandFile_0 : decode cc_V_demandFile 0 = .ok (.aload_n 0, 1) := by decide +kernel
theorem d_V_demandFile_1 : decode cc_V_demandFile 1 = .ok (.getfield 102, 3) := by decide +kernel
theorem d_V_demandFile_4 : decode cc_V_demandFile 4 = .ok (.iload_n 1, 1) := by decide +kernel
theorem d_V_demandFile_5 : decode cc_V_demandFile 5 = .ok (.invokevirtual 262, 3) := by decide +kernel
theorem d_V_demandFile_8 : decode cc_V_demandFile 8 = .ok (.iconst 2, 1) := by decide +kernel
theorem d_V_demandFile_9 : decode cc_V_demandFile 9 = .ok (.if_icmp .eq 14, 3) := by decide +kernel
theorem d_V_demandFile_23 : decode cc_V_demandFile 23 = .ok (.return_, 1) := by decide +kernel
theorem d_V_demandFile_12 : decode cc_V_demandFile 12 = .ok (.new 111, 3) := by decide +kernel
theorem d_V_demandFile_19 : decode cc_V_demandFile 19 = .ok (.invokespecial 115, 3) := by decide +kernel
theorem d_V_demandFile_22 : decode cc_V_demandFile 22 = .ok (.athrow, 1) := by decide +kernel
theorem d_V_demandFile_15 : decode cc_V_demandFile 15 = .ok (.dup, 1) := by decide +kernel
theorem d_V_demandFile_16 : decode cc_V_demandFile 16 = .ok (.ldc_w 265, 3) := by decide +kernel
def f_V_demandFile_0 (ars : Nat → jv_ar) (y0 : Int32) (y1 : Nat) : Option (Nat ⊕ (Unit)) :=
  (f_T_kindOf ((ars y1).2.2.2.1) y0).bind fun x1 => if x1 = (2 : Int32) then (some (Sum.inr ())) else (some (Sum.inl 4))
set_option maxHeartbeats 4000000 in
set_option maxRecDepth 100000 in
theorem b_V_demandFile_0 {l : Launch} {dC : Nat → ClassId} {dI : Nat → Nat → Nat} {cI cA cL : ClassId} {q_va q_aa q_cl q_fu : Nat} {Q : Nat → Nat → Nat} {vn : Nat} {vC : Nat → Int32} {vat : Int32} {ars : Nat → jv_ar} {p : Program} {e : Env} {s : State} {m : MethodId} {args : Array Value} {below : List Frame} {meth : Method} {c : Code} (cx : jv_cx p s m args meth c cc_V_demandFile 2 R_Vault none ws_V_demandFile) (hK : va_K (dC, dI) vwCl (jv_ty cI cA cL) s) (hP : va_P (dC, dI) vwCl (w_vault cI cA q_va q_aa q_cl q_fu Q vn vC vat ars) s.heap) (hl9 : l.stackTraces = false) (hT : jv_th s) (hout : c.exceptionTable.isEmpty = true) {r : Unit} {y0 : Int32} {y1 : Nat} (hy1 : y1 < vn) {ls : Array Slot} (hl : lv_has ls 2 [(0, .ref (Q y1 0)), (1, .int y0)]) (hf : f_V_demandFile_0 ars y0 y1 = some (Sum.inr r)) : W p l e rm_V_demandFile s m args below meth c s.heap [] 0 0 (MQ below jv_Rv args s 0 0 (fun _ => False)) (F0 m 0 ls []) := by
  unfold f_V_demandFile_0 at hf
  obtain ⟨hx, hb, hml, hown, hts, hr, hlocks⟩ := id cx
  refine lv_aload_n hx hb d_V_demandFile_0 rfl (lv_at hl 0 rfl) ?_
  refine va_get (D := (dC, dI)) (ci := kArea) (v := .ref (Q y1 6)) (C := R_Area) (T := T_Area) (N := 5) hx hb hts (fun w h => List.mem_cons_of_mem _ (in_Area w h)) hown hK (jv_open hP hy1) 1 rfl rfl 3 (by decide) (jv_w hts wa_315) (fun _ h9 => h9) rfl d_V_demandFile_1 ?_
  refine lv_iload_n hx hb d_V_demandFile_4 rfl (lv_at hl 1 rfl) ?_
  obtain ⟨x1, g2, hf⟩ := jv_ob hf
  have hPc := (jv_open hP hy1).sub (ws' := (w_tree cI (Q y1 6) (Q y1 2) (Q y1 3) (Q y1 4) (Q y1 5) ((ars y1).2.2.2.2.2.1) ((ars y1).2.2.2.2.2.2.1) ((ars y1).2.2.2.2.2.2.2) ((ars y1).2.2.1) ((ars y1).2.2.2.1) ((ars y1).2.2.2.2.1))) [7, 3, 4, 5, 6] rfl
  refine jv_cs (W.runV (As := [.int y0]) (rest := []) (b := (Q y1 6)) ⟨hx, hb, hml, hown, hts⟩ (c_T_kindOf l dC dI cI cA cL (Q y1 6) (Q y1 2) (Q y1 3) (Q y1 4) (Q y1 5) ((ars y1).2.2.2.2.2.1) ((ars y1).2.2.2.2.2.2.1) ((ars y1).2.2.2.2.2.2.2) ((ars y1).2.2.1) ((ars y1).2.2.2.1) ((ars y1).2.2.2.2.1) y0 x1 g2) (jv_cwV hts wa_86 wa_78 wa_339 wa_88 wa_89 rfl rfl yd_T_kindOf ⟨Nat.le_of_ble_eq_true rfl, Nat.le_of_ble_eq_true rfl⟩) (jv_preV hK hPc 0 rfl rfl) rfl rfl hl.1 rfl (lv_room (Nat.le_of_ble_eq_true rfl)) d_V_demandFile_5 ⟨Nat.zero_le _, Nat.zero_le _⟩) ?_
  refine lv_iconst (v := (2 : Int32)) hx hb d_V_demandFile_8 (by decide) ?_
  refine lv_icmp_eq (tgt := 23) hx hb d_V_demandFile_9 (by decide) (fun hc => ?_) (fun hc => ?_)
  · have hf := jv_it hf hc
    obtain rfl := Sum.inr.inj (Option.some.inj hf)
    exact W.vret hx hb hr (fun t ht hW => ⟨rfl, ht⟩) (fun q h => by cases h) d_V_demandFile_23
  · have hf := jv_if hf hc
    cases Option.some.inj hf
def f_V_demandFile (ars : Nat → jv_ar) (a0 : Nat) (a1 : Int32) : Option (Nat ⊕ (Unit)) := f_V_demandFile_0 ars a1 a0
set_option maxHeartbeats 4000000 in
set_option maxRecDepth 100000 in
theorem c_V_demandFile (l : Launch) (hl9 : l.stackTraces = false) (dC : Nat → ClassId) (dI : Nat → Nat → Nat) (cI cA cL : ClassId) (q_va q_aa q_cl q_fu : Nat) (Q : Nat → Nat → Nat) (vn : Nat) (vC : Nat → Int32) (vat : Int32) (ars : Nat → jv_ar) (a0 : Nat) (a1 : Int32) (ha0 : a0 < vn) (r : Unit) (hf : f_V_demandFile ars a0 a1 = some (Sum.inr r)) : Met l y_V_demandFile ws_V_demandFile rm_V_demandFile (jv_Prt [.ref (Q a0 0), .int a1] (dC, dI) (jv_ty cI cA cL) (w_vault cI cA q_va q_aa q_cl q_fu Q vn vC vat ars)) jv_Rv 0 0 (fun _ => False) := by
  refine Met.ofW (cc := cc_V_demandFile) (maxL := 2) (ret := none) (by decide) rfl ?_
  intro p e s m args below meth c s₁ B hml hv
  obtain ⟨rfl, hP, hK, hT⟩ := hv
  have cx : jv_cx p s m _ meth c cc_V_demandFile 2 R_Vault none ws_V_demandFile := ⟨B.exec, B.bytes, hml, findClass_of_methodNamed B.named, atoms_spec (ws := ws_V_demandFile) B.pre, B.returns, B.notSynchronized⟩
  have hout : c.exceptionTable.isEmpty = true := B.noHandlers (atoms_spec (ws := ws_V_demandFile) B.pre _ List.mem_cons_self)
  have hl := lv_entry ([.ref (Q a0 0), .int a1]) (n := 2) (Nat.le_of_ble_eq_true rfl)
  rw [lg_entry_eq]
  generalize (lg_sl ([.ref (Q a0 0), .int a1]) ++ List.replicate (2 - (lg_sl ([.ref (Q a0 0), .int a1])).length) Slot.unset).toArray = ls at hl ⊢
  have hl : lv_has ls 2 [(0, .ref (Q a0 0)), (1, .int a1)] := hl
  exact b_V_demandFile_0 (y0 := a1) (y1 := a0) (hy1 := ha0) cx hK hP hl9 hT hout (lv_sub hl [0, 1] rfl) hf
set_option maxHeartbeats 4000000 in
set_option maxRecDepth 100000 in
theorem t_V_demandFile_0 {l : Launch} {dC : Nat → ClassId} {dI : Nat → Nat → Nat} {cI cA cL : ClassId} {q_va q_aa q_cl q_fu : Nat} {Q : Nat → Nat → Nat} {vn : Nat} {vC : Nat → Int32} {vat : Int32} {ars : Nat → jv_ar} {p : Program} {e : Env} {s : State} {m : MethodId} {args : Array Value} {below : List Frame} {meth : Method} {c : Code} (cx : jv_cx p s m args meth c cc_V_demandFile 2 R_Vault none ws_V_demandFile) (hK : va_K (dC, dI) vwCl (jv_ty cI cA cL) s) (hP : va_P (dC, dI) vwCl (w_vault cI cA q_va q_aa q_cl q_fu Q vn vC vat ars) s.heap) (hl9 : l.stackTraces = false) (hT : jv_th s) (hout : c.exceptionTable.isEmpty = true) {kx : Nat} {y0 : Int32} {y1 : Nat} (hy1 : y1 < vn) {ls : Array Slot} (hl : lv_has ls 2 [(0, .ref (Q y1 0)), (1, .int y0)]) (hf : f_V_demandFile_0 ars y0 y1 = some (Sum.inl kx)) : W p l e rx_V_demandFile s m args below meth c s.heap [] 0 0 (jv_MQ below (jv_en kx) args s 1 6) (F0 m 0 ls []) := by
  unfold f_V_demandFile_0 at hf
  obtain ⟨hx, hb, hml, hown, hts, hr, hlocks⟩ := id cx
  refine lv_aload_n hx hb d_V_demandFile_0 rfl (lv_at hl 0 rfl) ?_
  refine va_get (D := (dC, dI)) (ci := kArea) (v := .ref (Q y1 6)) (C := R_Area) (T := T_Area) (N := 5) hx hb hts (fun w h => List.mem_cons_of_mem _ (in_Area w h)) hown hK (jv_open hP hy1) 1 rfl rfl 3 (by decide) (jv_w hts wa_315) (fun _ h9 => h9) rfl d_V_demandFile_1 ?_
  refine lv_iload_n hx hb d_V_demandFile_4 rfl (lv_at hl 1 rfl) ?_
  obtain ⟨x1, g2, hf⟩ := jv_ob hf
  have hPc := (jv_open hP hy1).sub (ws' := (w_tree cI (Q y1 6) (Q y1 2) (Q y1 3) (Q y1 4) (Q y1 5) ((ars y1).2.2.2.2.2.1) ((ars y1).2.2.2.2.2.2.1) ((ars y1).2.2.2.2.2.2.2) ((ars y1).2.2.1) ((ars y1).2.2.2.1) ((ars y1).2.2.2.2.1))) [7, 3, 4, 5, 6] rfl
  refine jv_cs (W.runV (As := [.int y0]) (rest := []) (b := (Q y1 6)) ⟨hx, hb, hml, hown, hts⟩ (c_T_kindOf l dC dI cI cA cL (Q y1 6) (Q y1 2) (Q y1 3) (Q y1 4) (Q y1 5) ((ars y1).2.2.2.2.2.1) ((ars y1).2.2.2.2.2.2.1) ((ars y1).2.2.2.2.2.2.2) ((ars y1).2.2.1) ((ars y1).2.2.2.1) ((ars y1).2.2.2.2.1) y0 x1 g2) (jv_cwV hts wa_86 wa_78 wa_339 wa_88 wa_89 rfl rfl yd_T_kindOf ⟨Nat.le_of_ble_eq_true rfl, Nat.le_of_ble_eq_true rfl⟩) (jv_preV hK hPc 0 rfl rfl) rfl rfl hl.1 rfl (lv_room (Nat.le_of_ble_eq_true rfl)) d_V_demandFile_5 ⟨Nat.zero_le _, Nat.zero_le _⟩) ?_
  refine lv_iconst (v := (2 : Int32)) hx hb d_V_demandFile_8 (by decide) ?_
  refine lv_icmp_eq (tgt := 23) hx hb d_V_demandFile_9 (by decide) (fun hc => ?_) (fun hc => ?_)
  · have hf := jv_it hf hc
    cases Option.some.inj hf
  · have hf := jv_if hf hc
    obtain rfl := Sum.inl.inj (Option.some.inj hf)
    refine W.newc hx hb hown (jv_w hts wa_340) (jv_w hts wa_341) (jv_w hts wa_342) rfl d_V_demandFile_12 (Nat.le_of_ble_eq_true rfl) (Nat.le_of_ble_eq_true rfl) (fun cC kC h1 h2 h3 h4 => ?_)
    refine W.eq (g2 := F0 m 15 ls (.ref s.heap.size :: [])) rfl ?_
    refine lv_dup hx hb d_V_demandFile_15 rfl ?_
    obtain ⟨sa, hsa⟩ := hT.2.2 (265, "it is a directory") (by decide +kernel)
    refine jv_ldcw (own := R_Vault) hx hb hown hsa d_V_demandFile_16 ?_
    exact jv_throwS (names := ["java/lang/RuntimeException", "java/lang/Exception"]) hx hb hl9 hlocks (hl.1.trans hml.symm) hown (by decide +kernel) (by decide +kernel) (jv_own hts hT oa_115) hout h1 h2 jv_fresh (Nat.le_refl _) d_V_demandFile_19 d_V_demandFile_22 (Nat.le_of_ble_eq_true rfl) (Nat.le_of_ble_eq_true rfl)
set_option maxHeartbeats 4000000 in
set_option maxRecDepth 100000 in
theorem x_V_demandFile (l : Launch) (hl9 : l.stackTraces = false) (dC : Nat → ClassId) (dI : Nat → Nat → Nat) (cI cA cL : ClassId) (q_va q_aa q_cl q_fu : Nat) (Q : Nat → Nat → Nat) (vn : Nat) (vC : Nat → Int32) (vat : Int32) (ars : Nat → jv_ar) (a0 : Nat) (a1 : Int32) (ha0 : a0 < vn) (kx : Nat) (hf : f_V_demandFile ars a0 a1 = some (Sum.inl kx)) : jv_MX l y_V_demandFile ws_V_demandFile rx_V_demandFile (jv_Prt [.ref (Q a0 0), .int a1] (dC, dI) (jv_ty cI cA cL) (w_vault cI cA q_va q_aa q_cl q_fu Q vn vC vat ars)) (jv_en kx) 1 6 := by
  refine jv_MX.ofW (cc := cc_V_demandFile) (maxL := 2) (ret := none) (by decide) rfl ?_
  intro p e s m args below meth c s₁ B hml hv
  obtain ⟨rfl, hP, hK, hT⟩ := hv
  have cx : jv_cx p s m _ meth c cc_V_demandFile 2 R_Vault none ws_V_demandFile := ⟨B.exec, B.bytes, hml, findClass_of_methodNamed B.named, atoms_spec (ws := ws_V_demandFile) B.pre, B.returns, B.notSynchronized⟩
  have hout : c.exceptionTable.isEmpty = true := B.noHandlers (atoms_spec (ws := ws_V_demandFile) B.pre _ List.mem_cons_self)
  have hl := lv_entry ([.ref (Q a0 0), .int a1]) (n := 2) (Nat.le_of_ble_eq_true rfl)
  rw [lg_entry_eq]
  generalize (lg_sl ([.ref (Q a0 0), .int a1]) ++ List.replicate (2 - (lg_sl ([.ref (Q a0 0), .int a1])).length) Slot.unset).toArray = ls at hl ⊢
  have hl : lv_has ls 2 [(0, .ref (Q a0 0)), (1, .int a1)] := hl
  exact t_V_demandFile_0 (y0 := a1) (y1 := a0) (hy1 := ha0) cx hK hP hl9 hT hout (lv_sub hl [0, 1] rfl) hf
theorem d_V_readableFile_0 : decode cc_V_readableFile 0 = .ok (.aload_n 1, 1) := by decide +kernel
theorem d_V_readableFile_1 : decode cc_V_readableFile 1 = .ok (.getfield 67, 3) := by decide +kernel
theorem d_V_readableFile_4 : decode cc_V_readableFile 4 = .ok (.aload_n 0, 1) := by decide +kernel
theorem d_V_readableFile_5 : decode cc_V_readableFile 5 = .ok (.getfield 67, 3) := by decide +kernel
theorem d_V_readableFile_8 : decode cc_V_readableFile 8 = .ok (.invokestatic 56, 3) := by decide +kernel
theorem d_V_readableFile_11 : decode cc_V_readableFile 11 = .ok (.ifCond .ne 14, 3) := by decide +kernel
theorem d_V_readableFile_25 : decode cc_V_readableFile 25 = .ok (.aload_n 1, 1) := by decide +kernel
theorem d_V_readableFile_26 : decode cc_V_readableFile 26 = .ok (.getfield 102, 3) := by decide +kernel
theorem d_V_readableFile_29 : decode cc_V_readableFile 29 = .ok (.iload_n 2, 1) := by decide +kernel
theorem d_V_readableFile_30 : decode cc_V_readableFile 30 = .ok (.invokevirtual 116, 3) := by decide +kernel
theorem d_V_readableFile_33 : decode cc_V_readableFile 33 = .ok (.istore_n 3, 1) := by decide +kernel
theorem d_V_readableFile_34 : decode cc_V_readableFile 34 = .ok (.iload_n 3, 1) := by decide +kernel
theorem d_V_readableFile_35 : decode cc_V_readableFile 35 = .ok (.iconst (-1), 1) := by decide +kernel
theorem d_V_readableFile_36 : decode cc_V_readableFile 36 = .ok (.if_icmp .ne 14, 3) := by decide +kernel
theorem d_V_readableFile_50 : decode cc_V_readableFile 50 = .ok (.aload_n 1, 1) := by decide +kernel
theorem d_V_readableFile_51 : decode cc_V_readableFile 51 = .ok (.iload_n 3, 1) := by decide +kernel
theorem d_V_readableFile_52 : decode cc_V_readableFile 52 = .ok (.invokestatic 140, 3) := by decide +kernel
theorem d_V_readableFile_55 : decode cc_V_readableFile 55 = .ok (.iload_n 3, 1) := by decide +kernel
theorem d_V_readableFile_56 : decode cc_V_readableFile 56 = .ok (.ireturn, 1) := by decide +kernel
theorem d_V_readableFile_39 : decode cc_V_readableFile 39 = .ok (.new 97, 3) := by decide +kernel
theorem d_V_readableFile_14 : decode cc_V_readableFile 14 = .ok (.new 43, 3) := by decide +kernel
theorem d_V_readableFile_46 : decode cc_V_readableFile 46 = .ok (.invokespecial 101, 3) := by decide +kernel
theorem d_V_readableFile_49 : decode cc_V_readableFile 49 = .ok (.athrow, 1) := by decide +kernel
theorem d_V_readableFile_42 : decode cc_V_readableFile 42 = .ok (.dup, 1) := by decide +kernel
theorem d_V_readableFile_43 : decode cc_V_readableFile 43 = .ok (.ldc_w 269, 3) := by decide +kernel
theorem d_V_readableFile_21 : decode cc_V_readableFile 21 = .ok (.invokespecial 47, 3) := by decide +kernel
theorem d_V_readableFile_24 : decode cc_V_readableFile 24 = .ok (.athrow, 1) := by decide +kernel
theorem d_V_readableFile_17 : decode cc_V_readableFile 17 = .ok (.dup, 1) := by decide +kernel
theorem d_V_readableFile_18 : decode cc_V_readableFile 18 = .ok (.ldc_w 267, 3) := by decide +kernel
def f_V_readableFile_0 (ars : Nat → jv_ar) (y0 : Int32) (y1 : Nat) (y2 : Nat) : Option (Nat ⊕ (Int32)) :=
  (f_L_mayFlow ((ars y2).1) ((ars y1).1)).bind fun x1 => if x1 = 0 then (some (Sum.inl 2)) else ((f_T_find ((ars y2).2.2.2.1) y0).bind fun x3 => if x3 = (-1 : Int32) then (some (Sum.inl 3)) else ((f_V_demandFile ars y2 x3).bind fun x5 => jv_se x5 fun v7 => some (Sum.inr x3)))
set_option maxHeartbeats 4000000 in
set_option maxRecDepth 100000 in
theorem b_V_readableFile_0 {l : Launch} {dC : Nat → ClassId} {dI : Nat → Nat → Nat} {cI cA cL : ClassId} {q_va q_aa q_cl q_fu : Nat} {Q : Nat → Nat → Nat} {vn : Nat} {vC : Nat → Int32} {vat : Int32} {ars : Nat → jv_ar} {p : Program} {e : Env} {s : State} {m : MethodId} {args : Array Value} {below : List Frame} {meth : Method} {c : Code} (cx : jv_cx p s m args meth c cc_V_readableFile 4 R_Vault (some .int) ws_V_readableFile) (hK : va_K (dC, dI) vwCl (jv_ty cI cA cL) s) (hP : va_P (dC, dI) vwCl (w_vault cI cA q_va q_aa q_cl q_fu Q vn vC vat ars) s.heap) (hl9 : l.stackTraces = false) (hT : jv_th s) (hout : c.exceptionTable.isEmpty = true) {r : Int32} {y0 : Int32} {y1 : Nat} {y2 : Nat} (hy1 : y1 < vn) (hy2 : y2 < vn) {ls : Array Slot} (hl : lv_has ls 4 [(0, .ref (Q y1 0)), (1, .ref (Q y2 0)), (2, .int y0)]) (hf : f_V_readableFile_0 ars y0 y1 y2 = some (Sum.inr r)) : W p l e rm_V_readableFile s m args below meth c s.heap [] 0 0 (MQ below (QcRead r) args s 0 0 (fun _ => False)) (F0 m 0 ls []) := by
  unfold f_V_readableFile_0 at hf
  obtain ⟨hx, hb, hml, hown, hts, hr, hlocks⟩ := id cx
  refine lv_aload_n hx hb d_V_readableFile_0 rfl (lv_at hl 1 rfl) ?_
  refine va_get (D := (dC, dI)) (ci := kArea) (v := .int ((ars y2).1)) (C := R_Area) (T := T_Area) (N := 5) hx hb hts (fun w h => List.mem_cons_of_mem _ (in_Area w h)) hown hK (jv_open hP hy2) 1 rfl rfl 0 (by decide) (jv_w hts wa_301) (fun _ h9 => h9) rfl d_V_readableFile_1 ?_
  refine lv_aload_n hx hb d_V_readableFile_4 rfl (lv_at hl 0 rfl) ?_
  refine va_get (D := (dC, dI)) (ci := kArea) (v := .int ((ars y1).1)) (C := R_Area) (T := T_Area) (N := 5) hx hb hts (fun w h => List.mem_cons_of_mem _ (in_Area w h)) hown hK (jv_open hP hy1) 1 rfl rfl 0 (by decide) (jv_w hts wa_301) (fun _ h9 => h9) rfl d_V_readableFile_5 ?_
  obtain ⟨x1, g2, hf⟩ := jv_ob hf
  refine jv_cs (W.runS (As := [.int ((ars y2).1), .int ((ars y1).1)]) (rest := []) ⟨hx, hb, hml, hown, hts⟩ (c_L_mayFlow l ((ars y2).1) ((ars y1).1) x1 g2) (jv_cwS hts wa_308 wa_1 wa_309 wa_310 rfl rfl yd_L_mayFlow ⟨Nat.le_of_ble_eq_true rfl, Nat.le_of_ble_eq_true rfl⟩) jv_pre0 rfl rfl hl.1 rfl (lv_room (Nat.le_of_ble_eq_true rfl)) d_V_readableFile_8 ⟨Nat.zero_le _, Nat.zero_le _⟩) ?_
  refine lv_if_ne (tgt := 25) hx hb d_V_readableFile_11 (by decide) (fun hc => ?_) (fun hc => ?_)
  · have hf := jv_if hf hc
    refine lv_aload_n hx hb d_V_readableFile_25 rfl (lv_at hl 1 rfl) ?_
    refine va_get (D := (dC, dI)) (ci := kArea) (v := .ref (Q y2 6)) (C := R_Area) (T := T_Area) (N := 5) hx hb hts (fun w h => List.mem_cons_of_mem _ (in_Area w h)) hown hK (jv_open hP hy2) 1 rfl rfl 3 (by decide) (jv_w hts wa_315) (fun _ h9 => h9) rfl d_V_readableFile_26 ?_
    refine lv_iload_n hx hb d_V_readableFile_29 rfl (lv_at hl 2 rfl) ?_
    obtain ⟨x3, g4, hf⟩ := jv_ob hf
    have hPc := (jv_open hP hy2).sub (ws' := (w_tree cI (Q y2 6) (Q y2 2) (Q y2 3) (Q y2 4) (Q y2 5) ((ars y2).2.2.2.2.2.1) ((ars y2).2.2.2.2.2.2.1) ((ars y2).2.2.2.2.2.2.2) ((ars y2).2.2.1) ((ars y2).2.2.2.1) ((ars y2).2.2.2.2.1))) [7, 3, 4, 5, 6] rfl
    refine jv_cs (W.runV (As := [.int y0]) (rest := []) (b := (Q y2 6)) ⟨hx, hb, hml, hown, hts⟩ (c_T_find l dC dI cI cA cL (Q y2 6) (Q y2 2) (Q y2 3) (Q y2 4) (Q y2 5) ((ars y2).2.2.2.2.2.1) ((ars y2).2.2.2.2.2.2.1) ((ars y2).2.2.2.2.2.2.2) ((ars y2).2.2.1) ((ars y2).2.2.2.1) ((ars y2).2.2.2.2.1) y0 x3 g4) (jv_cwV hts wa_82 wa_78 wa_332 wa_84 wa_85 rfl rfl yd_T_find ⟨Nat.le_of_ble_eq_true rfl, Nat.le_of_ble_eq_true rfl⟩) (jv_preV hK hPc 0 rfl rfl) rfl rfl hl.1 rfl (lv_room (Nat.le_of_ble_eq_true rfl)) d_V_readableFile_30 ⟨Nat.zero_le _, Nat.zero_le _⟩) ?_
    refine lv_istore_n (lv' := [(3, .int x3), (0, .ref (Q y1 0)), (1, .ref (Q y2 0)), (2, .int y0)]) hx hb d_V_readableFile_33 rfl hl (by decide) rfl (fun ls hl => ?_)
    refine lv_iload_n hx hb d_V_readableFile_34 rfl (lv_at hl 0 rfl) ?_
    refine lv_iconst (v := (-1 : Int32)) hx hb d_V_readableFile_35 (by decide) ?_
    refine lv_icmp_ne (tgt := 50) hx hb d_V_readableFile_36 (by decide) (fun hc => ?_) (fun hc => ?_)
    · have hf := jv_if hf hc
      refine lv_aload_n hx hb d_V_readableFile_50 rfl (lv_at hl 2 rfl) ?_
      refine lv_iload_n hx hb d_V_readableFile_51 rfl (lv_at hl 0 rfl) ?_
      obtain ⟨x5, g6, hf⟩ := jv_ob hf
      rcases x5 with k8 | v7
      · exact jv_ci hf
      have hf := jv_sr hf
      refine jv_csv (W.runS (As := [.ref (Q y2 0), .int x3]) (rest := []) ⟨hx, hb, hml, hown, hts⟩ (c_V_demandFile l hl9 dC dI cI cA cL q_va q_aa q_cl q_fu Q vn vC vat ars y2 x3 hy2 v7 g6) (jv_cwS hts wa_343 wa_303 wa_344 wa_345 rfl rfl yd_V_demandFile ⟨Nat.le_of_ble_eq_true rfl, Nat.le_of_ble_eq_true rfl⟩) (jv_preSt hT hK hP) rfl rfl hl.1 rfl (lv_room (Nat.le_of_ble_eq_true rfl)) d_V_readableFile_52 ⟨Nat.zero_le _, Nat.zero_le _⟩) ?_
      refine lv_iload_n hx hb d_V_readableFile_55 rfl (lv_at hl 0 rfl) ?_
      obtain rfl := Sum.inr.inj (Option.some.inj hf)
      exact W.iret hx hb hr (fun t ht hW => ⟨rfl, ht⟩) (fun q h => by cases h) d_V_readableFile_56
    · have hf := jv_it hf hc
      cases Option.some.inj hf
  · have hf := jv_it hf hc
    cases Option.some.inj hf
def f_V_readableFile (ars : Nat → jv_ar) (a0 : Nat) (a1 : Nat) (a2 : Int32) : Option (Nat ⊕ (Int32)) := f_V_readableFile_0 ars a2 a0 a1
set_option maxHeartbeats 4000000 in
set_option maxRecDepth 100000 in
theorem c_V_readableFile (l : Launch) (hl9 : l.stackTraces = false) (dC : Nat → ClassId) (dI : Nat → Nat → Nat) (cI cA cL : ClassId) (q_va q_aa q_cl q_fu : Nat) (Q : Nat → Nat → Nat) (vn : Nat) (vC : Nat → Int32) (vat : Int32) (ars : Nat → jv_ar) (a0 : Nat) (a1 : Nat) (a2 : Int32) (ha0 : a0 < vn) (ha1 : a1 < vn) (r : Int32) (hf : f_V_readableFile ars a0 a1 a2 = some (Sum.inr r)) : Met l y_V_readableFile ws_V_readableFile rm_V_readableFile (jv_Prt [.ref (Q a0 0), .ref (Q a1 0), .int a2] (dC, dI) (jv_ty cI cA cL) (w_vault cI cA q_va q_aa q_cl q_fu Q vn vC vat ars)) (QcRead r) 0 0 (fun _ => False) := by
  refine Met.ofW (cc := cc_V_readableFile) (maxL := 4) (ret := (some .int)) (by decide) rfl ?_
  intro p e s m args below meth c s₁ B hml hv
  obtain ⟨rfl, hP, hK, hT⟩ := hv
  have cx : jv_cx p s m _ meth c cc_V_readableFile 4 R_Vault (some .int) ws_V_readableFile := ⟨B.exec, B.bytes, hml, findClass_of_methodNamed B.named, atoms_spec (ws := ws_V_readableFile) B.pre, B.returns, B.notSynchronized⟩
  have hout : c.exceptionTable.isEmpty = true := B.noHandlers (atoms_spec (ws := ws_V_readableFile) B.pre _ List.mem_cons_self)
  have hl := lv_entry ([.ref (Q a0 0), .ref (Q a1 0), .int a2]) (n := 4) (Nat.le_of_ble_eq_true rfl)
  rw [lg_entry_eq]
  generalize (lg_sl ([.ref (Q a0 0), .ref (Q a1 0), .int a2]) ++ List.replicate (4 - (lg_sl ([.ref (Q a0 0), .ref (Q a1 0), .int a2])).length) Slot.unset).toArray = ls at hl ⊢
  have hl : lv_has ls 4 [(0, .ref (Q a0 0)), (1, .ref (Q a1 0)), (2, .int a2)] := hl
  exact b_V_readableFile_0 (y0 := a2) (y1 := a0) (y2 := a1) (hy1 := ha0) (hy2 := ha1) cx hK hP hl9 hT hout (lv_sub hl [0, 1, 2] rfl) hf
set_option maxHeartbeats 4000000 in
set_option maxRecDepth 100000 in
theorem t_V_readableFile_0 {l : Launch} {dC : Nat → ClassId} {dI : Nat → Nat → Nat} {cI cA cL : ClassId} {q_va q_aa q_cl q_fu : Nat} {Q : Nat → Nat → Nat} {vn : Nat} {vC : Nat → Int32} {vat : Int32} {ars : Nat → jv_ar} {p : Program} {e : Env} {s : State} {m : MethodId} {args : Array Value} {below : List Frame} {meth : Method} {c : Code} (cx : jv_cx p s m args meth c cc_V_readableFile 4 R_Vault (some .int) ws_V_readableFile) (hK : va_K (dC, dI) vwCl (jv_ty cI cA cL) s) (hP : va_P (dC, dI) vwCl (w_vault cI cA q_va q_aa q_cl q_fu Q vn vC vat ars) s.heap) (hl9 : l.stackTraces = false) (hT : jv_th s) (hout : c.exceptionTable.isEmpty = true) {kx : Nat} {y0 : Int32} {y1 : Nat} {y2 : Nat} (hy1 : y1 < vn) (hy2 : y2 < vn) {ls : Array Slot} (hl : lv_has ls 4 [(0, .ref (Q y1 0)), (1, .ref (Q y2 0)), (2, .int y0)]) (hf : f_V_readableFile_0 ars y0 y1 y2 = some (Sum.inl kx)) : W p l e rx_V_readableFile s m args below meth c s.heap [] 0 0 (jv_MQ below (jv_en kx) args s 1 6) (F0 m 0 ls []) := by
  unfold f_V_readableFile_0 at hf
  obtain ⟨hx, hb, hml, hown, hts, hr, hlocks⟩ := id cx
  refine lv_aload_n hx hb d_V_readableFile_0 rfl (lv_at hl 1 rfl) ?_
  refine va_get (D := (dC, dI)) (ci := kArea) (v := .int ((ars y2).1)) (C := R_Area) (T := T_Area) (N := 5) hx hb hts (fun w h => List.mem_cons_of_mem _ (in_Area w h)) hown hK (jv_open hP hy2) 1 rfl rfl 0 (by decide) (jv_w hts wa_301) (fun _ h9 => h9) rfl d_V_readableFile_1 ?_
  refine lv_aload_n hx hb d_V_readableFile_4 rfl (lv_at hl 0 rfl) ?_
  refine va_get (D := (dC, dI)) (ci := kArea) (v := .int ((ars y1).1)) (C := R_Area) (T := T_Area) (N := 5) hx hb hts (fun w h => List.mem_cons_of_mem _ (in_Area w h)) hown hK (jv_open hP hy1) 1 rfl rfl 0 (by decide) (jv_w hts wa_301) (fun _ h9 => h9) rfl d_V_readableFile_5 ?_
  obtain ⟨x1, g2, hf⟩ := jv_ob hf
  refine jv_cs (W.runS (As := [.int ((ars y2).1), .int ((ars y1).1)]) (rest := []) ⟨hx, hb, hml, hown, hts⟩ (c_L_mayFlow l ((ars y2).1) ((ars y1).1) x1 g2) (jv_cwS hts wa_308 wa_1 wa_309 wa_310 rfl rfl yd_L_mayFlow ⟨Nat.le_of_ble_eq_true rfl, Nat.le_of_ble_eq_true rfl⟩) jv_pre0 rfl rfl hl.1 rfl (lv_room (Nat.le_of_ble_eq_true rfl)) d_V_readableFile_8 ⟨Nat.zero_le _, Nat.zero_le _⟩) ?_
  refine lv_if_ne (tgt := 25) hx hb d_V_readableFile_11 (by decide) (fun hc => ?_) (fun hc => ?_)
  · have hf := jv_if hf hc
    refine lv_aload_n hx hb d_V_readableFile_25 rfl (lv_at hl 1 rfl) ?_
    refine va_get (D := (dC, dI)) (ci := kArea) (v := .ref (Q y2 6)) (C := R_Area) (T := T_Area) (N := 5) hx hb hts (fun w h => List.mem_cons_of_mem _ (in_Area w h)) hown hK (jv_open hP hy2) 1 rfl rfl 3 (by decide) (jv_w hts wa_315) (fun _ h9 => h9) rfl d_V_readableFile_26 ?_
    refine lv_iload_n hx hb d_V_readableFile_29 rfl (lv_at hl 2 rfl) ?_
    obtain ⟨x3, g4, hf⟩ := jv_ob hf
    have hPc := (jv_open hP hy2).sub (ws' := (w_tree cI (Q y2 6) (Q y2 2) (Q y2 3) (Q y2 4) (Q y2 5) ((ars y2).2.2.2.2.2.1) ((ars y2).2.2.2.2.2.2.1) ((ars y2).2.2.2.2.2.2.2) ((ars y2).2.2.1) ((ars y2).2.2.2.1) ((ars y2).2.2.2.2.1))) [7, 3, 4, 5, 6] rfl
    refine jv_cs (W.runV (As := [.int y0]) (rest := []) (b := (Q y2 6)) ⟨hx, hb, hml, hown, hts⟩ (c_T_find l dC dI cI cA cL (Q y2 6) (Q y2 2) (Q y2 3) (Q y2 4) (Q y2 5) ((ars y2).2.2.2.2.2.1) ((ars y2).2.2.2.2.2.2.1) ((ars y2).2.2.2.2.2.2.2) ((ars y2).2.2.1) ((ars y2).2.2.2.1) ((ars y2).2.2.2.2.1) y0 x3 g4) (jv_cwV hts wa_82 wa_78 wa_332 wa_84 wa_85 rfl rfl yd_T_find ⟨Nat.le_of_ble_eq_true rfl, Nat.le_of_ble_eq_true rfl⟩) (jv_preV hK hPc 0 rfl rfl) rfl rfl hl.1 rfl (lv_room (Nat.le_of_ble_eq_true rfl)) d_V_readableFile_30 ⟨Nat.zero_le _, Nat.zero_le _⟩) ?_
    refine lv_istore_n (lv' := [(3, .int x3), (0, .ref (Q y1 0)), (1, .ref (Q y2 0)), (2, .int y0)]) hx hb d_V_readableFile_33 rfl hl (by decide) rfl (fun ls hl => ?_)
    refine lv_iload_n hx hb d_V_readableFile_34 rfl (lv_at hl 0 rfl) ?_
    refine lv_iconst (v := (-1 : Int32)) hx hb d_V_readableFile_35 (by decide) ?_
    refine lv_icmp_ne (tgt := 50) hx hb d_V_readableFile_36 (by decide) (fun hc => ?_) (fun hc => ?_)
    · have hf := jv_if hf hc
      refine lv_aload_n hx hb d_V_readableFile_50 rfl (lv_at hl 2 rfl) ?_
      refine lv_iload_n hx hb d_V_readableFile_51 rfl (lv_at hl 0 rfl) ?_
      obtain ⟨x5, g6, hf⟩ := jv_ob hf
      rcases x5 with k8 | v7
      · rw [jv_sl hf] at g6
        exact jv_xS (cells := 0) (slots := 0) (As := [.ref (Q y2 0), .int x3]) (rest := []) ⟨hx, hb, hml, hown, hts⟩ (x_V_demandFile l hl9 dC dI cI cA cL q_va q_aa q_cl q_fu Q vn vC vat ars y2 x3 hy2 kx g6) (jv_cwS hts wa_343 wa_303 wa_344 wa_345 rfl rfl yd_V_demandFile ⟨Nat.le_of_ble_eq_true rfl, Nat.le_of_ble_eq_true rfl⟩) (jv_preSt hT hK hP) rfl rfl hl.1 rfl (lv_room (Nat.le_of_ble_eq_true rfl)) d_V_readableFile_52 ⟨Nat.le_of_ble_eq_true rfl, Nat.le_of_ble_eq_true rfl⟩ (fun x H1 hob => jv_leave hout hlocks hob)
      have hf := jv_sr hf
      refine jv_csv (W.runS (As := [.ref (Q y2 0), .int x3]) (rest := []) ⟨hx, hb, hml, hown, hts⟩ (c_V_demandFile l hl9 dC dI cI cA cL q_va q_aa q_cl q_fu Q vn vC vat ars y2 x3 hy2 v7 g6) (jv_cwS hts wa_343 wa_303 wa_344 wa_345 rfl rfl yd_V_demandFile ⟨Nat.le_of_ble_eq_true rfl, Nat.le_of_ble_eq_true rfl⟩) (jv_preSt hT hK hP) rfl rfl hl.1 rfl (lv_room (Nat.le_of_ble_eq_true rfl)) d_V_readableFile_52 ⟨Nat.zero_le _, Nat.zero_le _⟩) ?_
      refine lv_iload_n hx hb d_V_readableFile_55 rfl (lv_at hl 0 rfl) ?_
      cases Option.some.inj hf
    · have hf := jv_it hf hc
      obtain rfl := Sum.inl.inj (Option.some.inj hf)
      refine W.newc hx hb hown (jv_w hts wa_336) (jv_w hts wa_337) (jv_w hts wa_338) rfl d_V_readableFile_39 (Nat.le_of_ble_eq_true rfl) (Nat.le_of_ble_eq_true rfl) (fun cC kC h1 h2 h3 h4 => ?_)
      refine W.eq (g2 := F0 m 42 ls (.ref s.heap.size :: [])) rfl ?_
      refine lv_dup hx hb d_V_readableFile_42 rfl ?_
      obtain ⟨sa, hsa⟩ := hT.2.2 (269, "nothing is there") (by decide +kernel)
      refine jv_ldcw (own := R_Vault) hx hb hown hsa d_V_readableFile_43 ?_
      exact jv_throwN (Y := "java/lang/RuntimeException") (names := ["java/lang/Exception"]) (idx := 13) hx hb hl9 hlocks (hl.1.trans hml.symm) hown (by decide +kernel) (by decide +kernel) (by decide +kernel) (by decide +kernel) (jv_ownN hts hT oa_101) hout h1 h2 jv_fresh (Nat.le_refl _) d_V_readableFile_46 d_V_readableFile_49 (Nat.le_of_ble_eq_true rfl) (Nat.le_of_ble_eq_true rfl)
  · have hf := jv_it hf hc
    obtain rfl := Sum.inl.inj (Option.some.inj hf)
    refine W.newc hx hb hown (jv_w hts wa_333) (jv_w hts wa_334) (jv_w hts wa_335) rfl d_V_readableFile_14 (Nat.le_of_ble_eq_true rfl) (Nat.le_of_ble_eq_true rfl) (fun cC kC h1 h2 h3 h4 => ?_)
    refine W.eq (g2 := F0 m 17 ls (.ref s.heap.size :: [])) rfl ?_
    refine lv_dup hx hb d_V_readableFile_17 rfl ?_
    obtain ⟨sa, hsa⟩ := hT.2.2 (267, "the area may not flow to the session") (by decide +kernel)
    refine jv_ldcw (own := R_Vault) hx hb hown hsa d_V_readableFile_18 ?_
    exact jv_throwS (names := ["java/lang/RuntimeException", "java/lang/Exception"]) hx hb hl9 hlocks (hl.1.trans hml.symm) hown (by decide +kernel) (by decide +kernel) (jv_own hts hT oa_47) hout h1 h2 jv_fresh (Nat.le_refl _) d_V_readableFile_21 d_V_readableFile_24 (Nat.le_of_ble_eq_true rfl) (Nat.le_of_ble_eq_true rfl)
set_option maxHeartbeats 4000000 in
set_option maxRecDepth 100000 in
theorem x_V_readableFile (l : Launch) (hl9 : l.stackTraces = false) (dC : Nat → ClassId) (dI : Nat → Nat → Nat) (cI cA cL : ClassId) (q_va q_aa q_cl q_fu : Nat) (Q : Nat → Nat → Nat) (vn : Nat) (vC : Nat → Int32) (vat : Int32) (ars : Nat → jv_ar) (a0 : Nat) (a1 : Nat) (a2 : Int32) (ha0 : a0 < vn) (ha1 : a1 < vn) (kx : Nat) (hf : f_V_readableFile ars a0 a1 a2 = some (Sum.inl kx)) : jv_MX l y_V_readableFile ws_V_readableFile rx_V_readableFile (jv_Prt [.ref (Q a0 0), .ref (Q a1 0), .int a2] (dC, dI) (jv_ty cI cA cL) (w_vault cI cA q_va q_aa q_cl q_fu Q vn vC vat ars)) (jv_en kx) 1 6 := by
  refine jv_MX.ofW (cc := cc_V_readableFile) (maxL := 4) (ret := (some .int)) (by decide) rfl ?_
  intro p e s m args below meth c s₁ B hml hv
  obtain ⟨rfl, hP, hK, hT⟩ := hv
  have cx : jv_cx p s m _ meth c cc_V_readableFile 4 R_Vault (some .int) ws_V_readableFile := ⟨B.exec, B.bytes, hml, findClass_of_methodNamed B.named, atoms_spec (ws := ws_V_readableFile) B.pre, B.returns, B.notSynchronized⟩
  have hout : c.exceptionTable.isEmpty = true := B.noHandlers (atoms_spec (ws := ws_V_readableFile) B.pre _ List.mem_cons_self)
  have hl := lv_entry ([.ref (Q a0 0), .ref (Q a1 0), .int a2]) (n := 4) (Nat.le_of_ble_eq_true rfl)
  rw [lg_entry_eq]
  generalize (lg_sl ([.ref (Q a0 0), .ref (Q a1 0), .int a2]) ++ List.replicate (4 - (lg_sl ([.ref (Q a0 0), .ref (Q a1 0), .int a2])).length) Slot.unset).toArray = ls at hl ⊢
  have hl : lv_has ls 4 [(0, .ref (Q a0 0)), (1, .ref (Q a1 0)), (2, .int a2)] := hl
  exact t_V_readableFile_0 (y0 := a2) (y1 := a0) (y2 := a1) (hy1 := ha0) (hy2 := ha1) cx hK hP hl9 hT hout (lv_sub hl [0, 1, 2] rfl) hf
