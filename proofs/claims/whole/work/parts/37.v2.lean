theorem d_V_giveUp_0 : decode cc_V_giveUp 0 = .ok (.aload_n 0, 1) := by decide +kernel
theorem d_V_giveUp_1 : decode cc_V_giveUp 1 = .ok (.getfield 226, 3) := by decide +kernel
theorem d_V_giveUp_4 : decode cc_V_giveUp 4 = .ok (.invokevirtual 271, 3) := by decide +kernel
theorem d_V_giveUp_7 : decode cc_V_giveUp 7 = .ok (.bipush (-2), 2) := by decide +kernel
theorem d_V_giveUp_9 : decode cc_V_giveUp 9 = .ok (.ireturn, 1) := by decide +kernel
def f_V_giveUp_0 (y0 : Nat) (y1 : Nat → jv_ar) : Option (Int32 × (Nat → jv_ar)) :=
  (f_D_dropDraft ((y1 y0).2.2.1) ((y1 y0).2.2.2.1)).bind fun x1 => jv_lt (va_up y1 y0 ((y1 y0).1, (y1 y0).2.1, (y1 y0).2.2.1, x1, (y1 y0).2.2.2.2.1, (y1 y0).2.2.2.2.2.1, (y1 y0).2.2.2.2.2.2.1, (y1 y0).2.2.2.2.2.2.2)) fun A3 => some ((-2 : Int32), A3)
set_option maxHeartbeats 4000000 in
set_option maxRecDepth 100000 in
theorem b_V_giveUp_0 {l : Launch} {dC : Nat → ClassId} {dI : Nat → Nat → Nat} {cI cA cL : ClassId} {q_va q_aa q_cl q_fu : Nat} {Q : Nat → Nat → Nat} {vn : Nat} {vC : Nat → Int32} {vat : Int32} {p : Program} {e : Env} {s : State} {m : MethodId} {args : Array Value} {below : List Frame} {meth : Method} {c : Code} (cx : jv_cx p s m args meth c cc_V_giveUp 1 R_Vault (some .int) ws_V_giveUp) (hK : va_K (dC, dI) vwCl (jv_ty cI cA cL) s) {A : Nat → Prop} (hA : ∀ q : Nat, s.heap.size ≤ q → A q) {r : Int32 × (Nat → jv_ar)} {y0 : Nat} {y1 : Nat → jv_ar} (hy0 : y0 < vn) {ls : Array Slot} (hl : lv_has ls 1 [(0, .ref (Q y0 0))]) {H : Heap} {locs : List Loc} (hP : va_P (dC, dI) vwCl (w_vault cI cA q_va q_aa q_cl q_fu Q vn vC vat y1) H) (hD : va_D A (w_vault cI cA q_va q_aa q_cl q_fu Q vn vC vat y1)) (hS : va_S A s.heap H locs) (hf : f_V_giveUp_0 y0 y1 = some r) : W p l e rm_V_giveUp s m args below meth c H locs 0 0 (MQ below (jv_Qi r.1 (dC, dI) (w_vault cI cA q_va q_aa q_cl q_fu Q vn vC vat r.2) A) args s 0 0 A) (F0 m 0 ls []) := by
  unfold f_V_giveUp_0 at hf
  obtain ⟨hx, hb, hml, hown, hts, hr, hlocks⟩ := id cx
  refine lv_aload_n hx hb d_V_giveUp_0 rfl (lv_at hl 0 rfl) ?_
  refine va_get (D := (dC, dI)) (ci := kArea) (v := .ref (Q y0 2)) (C := R_Area) (T := T_Area) (N := 5) hx hb hts (fun w h => List.mem_cons_of_mem _ (in_Area w h)) hown hK (jv_open hP hy0) 1 rfl rfl 2 (by decide) (jv_w hts wa_346) (fun _ h9 => h9) rfl d_V_giveUp_1 ?_
  obtain ⟨x1, g2, hf⟩ := jv_ob hf
  have hPj := jv_open hP hy0
  have hDj := jv_openD hD hy0
  have hPc := hPj.sub (ws' := (w_disk cI (Q y0 2) (Q y0 3) (Q y0 4) (Q y0 5) ((y1 y0).2.2.2.2.2.1) ((y1 y0).2.2.2.2.2.2.1) ((y1 y0).2.2.2.2.2.2.2) ((y1 y0).2.2.1) ((y1 y0).2.2.2.1) ((y1 y0).2.2.2.2.1))) [3, 4, 5, 6] rfl
  have hDc := hDj.sub (ws' := (w_disk cI (Q y0 2) (Q y0 3) (Q y0 4) (Q y0 5) ((y1 y0).2.2.2.2.2.1) ((y1 y0).2.2.2.2.2.2.1) ((y1 y0).2.2.2.2.2.2.2) ((y1 y0).2.2.1) ((y1 y0).2.2.2.1) ((y1 y0).2.2.2.2.1))) [3, 4, 5, 6] (by decide) rfl
  have hFc := va_free (wc := (w_disk cI (Q y0 2) (Q y0 3) (Q y0 4) (Q y0 5) ((y1 y0).2.2.2.2.2.1) ((y1 y0).2.2.2.2.2.2.1) ((y1 y0).2.2.2.2.2.2.2) ((y1 y0).2.2.1) ((y1 y0).2.2.2.1) ((y1 y0).2.2.2.2.1))) hDj hS hA [3, 4, 5, 6] rfl
  refine jv_cwv (va_runV (As := []) (rest := []) (b := (Q y0 2)) ⟨hx, hb, hml, hown, hts⟩ (c_D_dropDraft l dC dI cI cA cL (Q y0 2) (Q y0 3) (Q y0 4) (Q y0 5) ((y1 y0).2.2.2.2.2.1) ((y1 y0).2.2.2.2.2.2.1) ((y1 y0).2.2.2.2.2.2.2) ((y1 y0).2.2.1) ((y1 y0).2.2.2.1) ((y1 y0).2.2.2.2.1) H.size x1 g2) (jv_cwV hts wa_28 wa_29 wa_347 wa_31 wa_32 rfl rfl yd_D_dropDraft ⟨Nat.le_of_ble_eq_true rfl, Nat.le_of_ble_eq_true rfl⟩) (jv_preVW hK hPc hDc 0 rfl rfl) rfl rfl hl.1 rfl (lv_room (Nat.le_of_ble_eq_true rfl)) d_V_giveUp_4 ⟨Nat.zero_le _, Nat.zero_le _⟩) hS hFc (fun H1 locs hP1 hD1 hk1 hS => ?_)
  obtain ⟨hPk, hDk⟩ := va_join (wc := (w_disk cI (Q y0 2) (Q y0 3) (Q y0 4) (Q y0 5) ((y1 y0).2.2.2.2.2.1) ((y1 y0).2.2.2.2.2.2.1) ((y1 y0).2.2.2.2.2.2.2) ((y1 y0).2.2.1) ((y1 y0).2.2.2.1) ((y1 y0).2.2.2.2.1))) (wr := [(q_fu, .inr (kFuse, [.int vat])), (Q y0 0, .inr (kArea, [.int (y1 y0).1, .ref (Q y0 1), .ref (Q y0 2), .ref (Q y0 6), .ref (Q y0 7)])), (Q y0 1, .inl (cI, 4, .inl (y1 y0).2.1)), (Q y0 6, .inr (kTree, [.ref (Q y0 2)])), (Q y0 7, .inr (kCont, [.ref (Q y0 2)]))]) (w1 := (w_disk cI (Q y0 2) (Q y0 3) (Q y0 4) (Q y0 5) ((y1 y0).2.2.2.2.2.1) ((y1 y0).2.2.2.2.2.2.1) ((y1 y0).2.2.2.2.2.2.2) ((y1 y0).2.2.1) x1 ((y1 y0).2.2.2.2.1))) hPj hDj [3, 4, 5, 6] [0, 1, 2, 7, 8] rfl rfl (by decide) (by decide) hk1 hFc hP1 hD1
  have hPk : va_P (dC, dI) vwCl (w_focus cI q_fu Q y0 vat ((y1 y0).1, (y1 y0).2.1, (y1 y0).2.2.1, x1, (y1 y0).2.2.2.2.1, (y1 y0).2.2.2.2.2.1, (y1 y0).2.2.2.2.2.2.1, (y1 y0).2.2.2.2.2.2.2)) H1 := hPk.sub [0, 1, 2, 5, 6, 7, 8, 3, 4] rfl
  have hkk := jv_out (ws := (w_focus cI q_fu Q y0 vat (y1 y0))) (wc := (w_disk cI (Q y0 2) (Q y0 3) (Q y0 4) (Q y0 5) ((y1 y0).2.2.2.2.2.1) ((y1 y0).2.2.2.2.2.2.1) ((y1 y0).2.2.2.2.2.2.2) ((y1 y0).2.2.1) ((y1 y0).2.2.2.1) ((y1 y0).2.2.2.2.1))) [3, 4, 5, 6] rfl hk1
  obtain ⟨hP, hD⟩ := jv_close hP hD hy0 hkk hPk
  obtain ⟨A3, e4, hf⟩ := jv_le hf
  rw [← e4] at hP hD
  have hP : va_P (dC, dI) vwCl (w_vault cI cA q_va q_aa q_cl q_fu Q vn vC vat A3) H1 := hP
  have hD : va_D A (w_vault cI cA q_va q_aa q_cl q_fu Q vn vC vat A3) := hD
  generalize H1 = H at hP hS ⊢
  refine lv_bipush (v := (-2 : Int32)) hx hb d_V_giveUp_7 (by decide) ?_
  obtain rfl := Option.some.inj hf
  exact W.iret hx hb hr (fun t ht hW => ⟨rfl, by rw [ht]; exact hP, hD, hS.F ht⟩) hS.2.2 d_V_giveUp_9
def f_V_giveUp (a0 : Nat) (ars : Nat → jv_ar) : Option (Int32 × (Nat → jv_ar)) := f_V_giveUp_0 a0 ars
set_option maxHeartbeats 4000000 in
set_option maxRecDepth 100000 in
theorem c_V_giveUp (l : Launch) (dC : Nat → ClassId) (dI : Nat → Nat → Nat) (cI cA cL : ClassId) (q_va q_aa q_cl q_fu : Nat) (Q : Nat → Nat → Nat) (vn : Nat) (vC : Nat → Int32) (vat : Int32) (ars : Nat → jv_ar) (a0 : Nat) (ha0 : a0 < vn) (sz : Nat) (r : Int32 × (Nat → jv_ar)) (hf : f_V_giveUp a0 ars = some r) : Met l y_V_giveUp ws_V_giveUp rm_V_giveUp (jv_Pw [.ref (Q a0 0)] (dC, dI) (jv_ty cI cA cL) (w_vault cI cA q_va q_aa q_cl q_fu Q vn vC vat ars) sz) (jv_Qi r.1 (dC, dI) (w_vault cI cA q_va q_aa q_cl q_fu Q vn vC vat r.2) (va_A (w_vault cI cA q_va q_aa q_cl q_fu Q vn vC vat ars) sz)) 0 0 (va_A (w_vault cI cA q_va q_aa q_cl q_fu Q vn vC vat ars) sz) := by
  refine Met.ofW (cc := cc_V_giveUp) (maxL := 1) (ret := (some .int)) (by decide) rfl ?_
  intro p e s m args below meth c s₁ B hml hv
  obtain ⟨rfl, hsz, hP, hK, hD0⟩ := hv
  have cx : jv_cx p s m _ meth c cc_V_giveUp 1 R_Vault (some .int) ws_V_giveUp := ⟨B.exec, B.bytes, hml, findClass_of_methodNamed B.named, atoms_spec (ws := ws_V_giveUp) B.pre, B.returns, B.notSynchronized⟩
  subst hsz
  have hD := hD0.self (sz := s.heap.size)
  generalize hAe : va_A (w_vault cI cA q_va q_aa q_cl q_fu Q vn vC vat ars) s.heap.size = A at hD ⊢
  have hA : ∀ q : Nat, s.heap.size ≤ q → A q := fun q h => by rw [← hAe]; exact Or.inr h
  have hS : va_S A s.heap s.heap [] := va_S.rf
  have hl := lv_entry ([.ref (Q a0 0)]) (n := 1) (Nat.le_of_ble_eq_true rfl)
  rw [lg_entry_eq]
  generalize (lg_sl ([.ref (Q a0 0)]) ++ List.replicate (1 - (lg_sl ([.ref (Q a0 0)])).length) Slot.unset).toArray = ls at hl ⊢
  have hl : lv_has ls 1 [(0, .ref (Q a0 0))] := hl
  exact b_V_giveUp_0 (y0 := a0) (y1 := ars) (hy0 := ha0) cx hK hA (lv_sub hl [0] rfl) hP hD hS hf
theorem d_V_breakDown_0 : decode cc_V_breakDown 0 = .ok (.iconst 0, 1) := by decide +kernel
theorem d_V_breakDown_1 : decode cc_V_breakDown 1 = .ok (.istore_n 1, 1) := by decide +kernel
theorem d_V_breakDown_2 : decode cc_V_breakDown 2 = .ok (.iconst 0, 1) := by decide +kernel
theorem d_V_breakDown_3 : decode cc_V_breakDown 3 = .ok (.istore_n 2, 1) := by decide +kernel
theorem d_V_breakDown_4 : decode cc_V_breakDown 4 = .ok (.iload_n 2, 1) := by decide +kernel
theorem d_V_breakDown_5 : decode cc_V_breakDown 5 = .ok (.bipush 6, 2) := by decide +kernel
theorem d_V_breakDown_7 : decode cc_V_breakDown 7 = .ok (.if_icmp .ge 51, 3) := by decide +kernel
theorem d_V_breakDown_58 : decode cc_V_breakDown 58 = .ok (.aload_n 0, 1) := by decide +kernel
theorem d_V_breakDown_59 : decode cc_V_breakDown 59 = .ok (.getfield 26, 3) := by decide +kernel
theorem d_V_breakDown_62 : decode cc_V_breakDown 62 = .ok (.iconst (-1), 1) := by decide +kernel
theorem d_V_breakDown_63 : decode cc_V_breakDown 63 = .ok (.putfield 223, 3) := by decide +kernel
theorem d_V_breakDown_66 : decode cc_V_breakDown 66 = .ok (.iload_n 1, 1) := by decide +kernel
theorem d_V_breakDown_67 : decode cc_V_breakDown 67 = .ok (.ireturn, 1) := by decide +kernel
theorem d_V_breakDown_10 : decode cc_V_breakDown 10 = .ok (.aload_n 0, 1) := by decide +kernel
theorem d_V_breakDown_11 : decode cc_V_breakDown 11 = .ok (.getfield 11, 3) := by decide +kernel
theorem d_V_breakDown_14 : decode cc_V_breakDown 14 = .ok (.iload_n 2, 1) := by decide +kernel
theorem d_V_breakDown_15 : decode cc_V_breakDown 15 = .ok (.aaload, 1) := by decide +kernel
theorem d_V_breakDown_16 : decode cc_V_breakDown 16 = .ok (.ifnull 36, 3) := by decide +kernel
theorem d_V_breakDown_19 : decode cc_V_breakDown 19 = .ok (.iload_n 1, 1) := by decide +kernel
theorem d_V_breakDown_20 : decode cc_V_breakDown 20 = .ok (.aload_n 0, 1) := by decide +kernel
theorem d_V_breakDown_21 : decode cc_V_breakDown 21 = .ok (.getfield 11, 3) := by decide +kernel
theorem d_V_breakDown_24 : decode cc_V_breakDown 24 = .ok (.iload_n 2, 1) := by decide +kernel
theorem d_V_breakDown_25 : decode cc_V_breakDown 25 = .ok (.aaload, 1) := by decide +kernel
theorem d_V_breakDown_26 : decode cc_V_breakDown 26 = .ok (.invokevirtual 243, 3) := by decide +kernel
theorem d_V_breakDown_29 : decode cc_V_breakDown 29 = .ok (.iadd, 1) := by decide +kernel
theorem d_V_breakDown_30 : decode cc_V_breakDown 30 = .ok (.istore_n 1, 1) := by decide +kernel
theorem d_V_breakDown_31 : decode cc_V_breakDown 31 = .ok (.aload_n 0, 1) := by decide +kernel
theorem d_V_breakDown_32 : decode cc_V_breakDown 32 = .ok (.getfield 11, 3) := by decide +kernel
theorem d_V_breakDown_35 : decode cc_V_breakDown 35 = .ok (.iload_n 2, 1) := by decide +kernel
theorem d_V_breakDown_36 : decode cc_V_breakDown 36 = .ok (.aaload, 1) := by decide +kernel
theorem d_V_breakDown_37 : decode cc_V_breakDown 37 = .ok (.invokevirtual 278, 3) := by decide +kernel
theorem d_V_breakDown_40 : decode cc_V_breakDown 40 = .ok (.aload_n 0, 1) := by decide +kernel
theorem d_V_breakDown_41 : decode cc_V_breakDown 41 = .ok (.getfield 11, 3) := by decide +kernel
theorem d_V_breakDown_44 : decode cc_V_breakDown 44 = .ok (.iload_n 2, 1) := by decide +kernel
theorem d_V_breakDown_45 : decode cc_V_breakDown 45 = .ok (.aaload, 1) := by decide +kernel
theorem d_V_breakDown_46 : decode cc_V_breakDown 46 = .ok (.getfield 226, 3) := by decide +kernel
theorem d_V_breakDown_49 : decode cc_V_breakDown 49 = .ok (.invokevirtual 281, 3) := by decide +kernel
theorem d_V_breakDown_52 : decode cc_V_breakDown 52 = .ok (.iinc 2 1, 3) := by decide +kernel
theorem d_V_breakDown_55 : decode cc_V_breakDown 55 = .ok (.goto (-51), 3) := by decide +kernel
def f_V_breakDown_4 (vn : Nat) (y0 : Int32) (k4 : (Int32 × Int32 × (Nat → jv_ar)) → Option (Int32 × Int32 × (Nat → jv_ar))) (a : Int32 × Int32 × (Nat → jv_ar)) : Option (Int32 × Int32 × (Nat → jv_ar)) :=
  if (6 : Int32) ≤ a.2.1 then (some (a.1, (-1 : Int32), a.2.2)) else ((jv_gi 6 a.2.1).bind fun j1 => if j1 < vn then ((jv_gi 6 a.2.1).bind fun j4 => if j4 < vn then ((f_A_countSessions ((a.2.2 j4).2.1)).bind fun x7 => (jv_gi 6 a.2.1).bind fun j9 => if j9 < vn then ((f_A_dismissAll ((a.2.2 j9).2.1)).bind fun x12 => jv_lt (va_up a.2.2 j9 ((a.2.2 j9).1, x12, (a.2.2 j9).2.2.1, (a.2.2 j9).2.2.2.1, (a.2.2 j9).2.2.2.2.1, (a.2.2 j9).2.2.2.2.2.1, (a.2.2 j9).2.2.2.2.2.2.1, (a.2.2 j9).2.2.2.2.2.2.2)) fun A14 => (jv_gi 6 a.2.1).bind fun j16 => if j16 < vn then ((f_D_recover ((A14 j16).2.2.2.2.2.1) ((A14 j16).2.2.2.2.1) ((A14 j16).2.2.2.2.2.2.1) ((A14 j16).2.2.1) ((A14 j16).2.2.2.1)).bind fun x19 => jv_lt (va_up A14 j16 ((A14 j16).1, (A14 j16).2.1, x19.2.1, x19.2.2, (A14 j16).2.2.2.2.1, (A14 j16).2.2.2.2.2.1, x19.1, (A14 j16).2.2.2.2.2.2.2)) fun A21 => k4 (a.1 + x7, a.2.1 + (1 : Int32), A21)) else (none)) else (none)) else (none)) else (k4 (a.1, a.2.1 + (1 : Int32), a.2.2)))
set_option maxHeartbeats 4000000 in
set_option maxRecDepth 100000 in
theorem b_V_breakDown_4 {l : Launch} {dC : Nat → ClassId} {dI : Nat → Nat → Nat} {cI cA cL : ClassId} {q_va q_aa q_cl q_fu : Nat} {Q : Nat → Nat → Nat} {vn : Nat} {vC : Nat → Int32} {p : Program} {e : Env} {s : State} {m : MethodId} {args : Array Value} {below : List Frame} {meth : Method} {c : Code} (cx : jv_cx p s m args meth c cc_V_breakDown 3 R_Vault (some .int) ws_V_breakDown) (hK : va_K (dC, dI) vwCl (jv_ty cI cA cL) s) {A : Nat → Prop} (hA : ∀ q : Nat, s.heap.size ≤ q → A q) {r : Int32 × Int32 × (Nat → jv_ar)} {y0 : Int32} {k4 : (Int32 × Int32 × (Nat → jv_ar)) → Option (Int32 × Int32 × (Nat → jv_ar))} (hk4 : ∀ (b0 : Int32) (b1 : Int32) (b2 : Nat → jv_ar) (ls : Array Slot) (H : Heap) (locs : List Loc), lv_has ls 3 [(0, .ref q_va), (1, .int b0), (2, .int b1)] → va_P (dC, dI) vwCl (w_vault cI cA q_va q_aa q_cl q_fu Q vn vC y0 b2) H → va_D A (w_vault cI cA q_va q_aa q_cl q_fu Q vn vC y0 b2) → va_S A s.heap H locs → k4 (b0, b1, b2) = some r → W p l e rm_V_breakDown s m args below meth c H locs 0 0 (MQ below (jv_Qi r.1 (dC, dI) (w_vault cI cA q_va q_aa q_cl q_fu Q vn vC r.2.1 r.2.2) A) args s 0 0 A) (F0 m 4 ls [])) {a : Int32 × Int32 × (Nat → jv_ar)} {ls : Array Slot} (hl : lv_has ls 3 [(0, .ref q_va), (1, .int a.1), (2, .int a.2.1)]) {H : Heap} {locs : List Loc} (hP : va_P (dC, dI) vwCl (w_vault cI cA q_va q_aa q_cl q_fu Q vn vC y0 a.2.2) H) (hD : va_D A (w_vault cI cA q_va q_aa q_cl q_fu Q vn vC y0 a.2.2)) (hS : va_S A s.heap H locs) (hf : f_V_breakDown_4 vn y0 k4 a = some r) : W p l e rm_V_breakDown s m args below meth c H locs 0 0 (MQ below (jv_Qi r.1 (dC, dI) (w_vault cI cA q_va q_aa q_cl q_fu Q vn vC r.2.1 r.2.2) A) args s 0 0 A) (F0 m 4 ls []) := by
  unfold f_V_breakDown_4 at hf
  obtain ⟨hx, hb, hml, hown, hts, hr, hlocks⟩ := id cx
  refine lv_iload_n hx hb d_V_breakDown_4 rfl (lv_at hl 2 rfl) ?_
  refine lv_bipush (v := (6 : Int32)) hx hb d_V_breakDown_5 (by decide) ?_
  refine lv_icmp_ge (tgt := 58) hx hb d_V_breakDown_7 (by decide) (fun hc => ?_) (fun hc => ?_)
  · have hf := jv_it hf hc
    refine lv_aload_n hx hb d_V_breakDown_58 rfl (lv_at hl 0 rfl) ?_
    refine va_get (D := (dC, dI)) (ci := kVault) (v := .ref q_fu) (C := R_Vault) (T := T_Vault) (N := 4) hx hb hts (fun w h => List.mem_cons_of_mem _ (in_Vault w h)) hown hK hP 0 rfl rfl 3 (by decide) (jv_w hts wa_348) (fun _ h9 => h9) rfl d_V_breakDown_59 ?_
    refine lv_iconst (v := (-1 : Int32)) hx hb d_V_breakDown_62 (by decide) ?_
    refine va_put (D := (dC, dI)) (ci := kFuse) (v := .int (-1 : Int32)) (ty := .int) (C := R_Fuse) (T := T_Fuse) (N := 1) hx hb hts (fun w h => List.mem_cons_of_mem _ (in_Fuse w h)) ty_Fuse tyok_Fuse nm_Fuse hown hK hP hD hS 3 rfl rfl 0 (by decide) (jv_w hts wa_349) (fun _ h9 => h9) rfl (by decide +kernel) rfl rfl (Nat.le_of_ble_eq_true rfl) d_V_breakDown_63 (fun H locs hP hD hS => ?_)
    have hP : va_P (dC, dI) vwCl (w_vault cI cA q_va q_aa q_cl q_fu Q vn vC (-1 : Int32) a.2.2) H := hP
    have hD : va_D A (w_vault cI cA q_va q_aa q_cl q_fu Q vn vC (-1 : Int32) a.2.2) := hD
    refine lv_iload_n hx hb d_V_breakDown_66 rfl (lv_at hl 1 rfl) ?_
    obtain rfl := Option.some.inj hf
    exact W.iret hx hb hr (fun t ht hW => ⟨rfl, by rw [ht]; exact hP, hD, hS.F ht⟩) hS.2.2 d_V_breakDown_67
  · have hf := jv_if hf hc
    refine lv_aload_n hx hb d_V_breakDown_10 rfl (lv_at hl 0 rfl) ?_
    refine va_get (D := (dC, dI)) (ci := kVault) (v := .ref q_aa) (C := R_Vault) (T := T_Vault) (N := 4) hx hb hts (fun w h => List.mem_cons_of_mem _ (in_Vault w h)) hown hK hP 0 rfl rfl 0 (by decide) (jv_w hts wa_300) (fun _ h9 => h9) rfl d_V_breakDown_11 ?_
    refine lv_iload_n hx hb d_V_breakDown_14 rfl (lv_at hl 2 rfl) ?_
    obtain ⟨j1, g2, hf⟩ := jv_ob hf
    refine jv_aald hx hb hK hP g2 d_V_breakDown_15 (fun hj3 => ?_) (fun hj3 => ?_)
    · have hf := jv_it hf hj3
      refine lv_ifnull hx hb d_V_breakDown_16 ?_
      refine lv_iload_n hx hb d_V_breakDown_19 rfl (lv_at hl 1 rfl) ?_
      refine lv_aload_n hx hb d_V_breakDown_20 rfl (lv_at hl 0 rfl) ?_
      refine va_get (D := (dC, dI)) (ci := kVault) (v := .ref q_aa) (C := R_Vault) (T := T_Vault) (N := 4) hx hb hts (fun w h => List.mem_cons_of_mem _ (in_Vault w h)) hown hK hP 0 rfl rfl 0 (by decide) (jv_w hts wa_300) (fun _ h9 => h9) rfl d_V_breakDown_21 ?_
      refine lv_iload_n hx hb d_V_breakDown_24 rfl (lv_at hl 2 rfl) ?_
      obtain ⟨j4, g5, hf⟩ := jv_ob hf
      refine jv_aald hx hb hK hP g5 d_V_breakDown_25 (fun hj6 => ?_) (fun hj6 => ?_)
      · have hf := jv_it hf hj6
        obtain ⟨x7, g8, hf⟩ := jv_ob hf
        have hPc := (jv_open hP hj6).sub (ws' := (w_area cI (Q j4 0) (Q j4 1) (Q j4 2) (Q j4 6) (Q j4 7) ((a.2.2 j4).1) ((a.2.2 j4).2.1))) [1, 2] rfl
        refine jv_cs (W.runV (As := []) (rest := [.int a.1]) (b := (Q j4 0)) ⟨hx, hb, hml, hown, hts⟩ (c_A_countSessions l dC dI cI cA cL (Q j4 0) (Q j4 1) (Q j4 2) (Q j4 6) (Q j4 7) ((a.2.2 j4).1) ((a.2.2 j4).2.1) x7 g8) (jv_cwV hts wa_350 wa_351 wa_352 wa_353 wa_354 rfl rfl yd_A_countSessions ⟨Nat.le_of_ble_eq_true rfl, Nat.le_of_ble_eq_true rfl⟩) (jv_preV hK hPc 0 rfl rfl) rfl rfl hl.1 rfl (lv_room (Nat.le_of_ble_eq_true rfl)) d_V_breakDown_26 ⟨Nat.zero_le _, Nat.zero_le _⟩) ?_
        refine lv_iadd hx hb d_V_breakDown_29 ?_
        refine lv_istore_n (lv' := [(1, .int (a.1 + x7)), (0, .ref q_va), (2, .int a.2.1)]) hx hb d_V_breakDown_30 rfl hl (by decide) rfl (fun ls hl => ?_)
        refine lv_aload_n hx hb d_V_breakDown_31 rfl (lv_at hl 1 rfl) ?_
        refine va_get (D := (dC, dI)) (ci := kVault) (v := .ref q_aa) (C := R_Vault) (T := T_Vault) (N := 4) hx hb hts (fun w h => List.mem_cons_of_mem _ (in_Vault w h)) hown hK hP 0 rfl rfl 0 (by decide) (jv_w hts wa_300) (fun _ h9 => h9) rfl d_V_breakDown_32 ?_
        refine lv_iload_n hx hb d_V_breakDown_35 rfl (lv_at hl 2 rfl) ?_
        obtain ⟨j9, g10, hf⟩ := jv_ob hf
        refine jv_aald hx hb hK hP g10 d_V_breakDown_36 (fun hj11 => ?_) (fun hj11 => ?_)
        · have hf := jv_it hf hj11
          obtain ⟨x12, g13, hf⟩ := jv_ob hf
          have hPj := jv_open hP hj11
          have hDj := jv_openD hD hj11
          have hPc := hPj.sub (ws' := (w_area cI (Q j9 0) (Q j9 1) (Q j9 2) (Q j9 6) (Q j9 7) ((a.2.2 j9).1) ((a.2.2 j9).2.1))) [1, 2] rfl
          have hDc := hDj.sub (ws' := (w_area cI (Q j9 0) (Q j9 1) (Q j9 2) (Q j9 6) (Q j9 7) ((a.2.2 j9).1) ((a.2.2 j9).2.1))) [1, 2] (by decide) rfl
          have hFc := va_free (wc := (w_area cI (Q j9 0) (Q j9 1) (Q j9 2) (Q j9 6) (Q j9 7) ((a.2.2 j9).1) ((a.2.2 j9).2.1))) hDj hS hA [1, 2] rfl
          refine jv_cwv (va_runV (As := []) (rest := []) (b := (Q j9 0)) ⟨hx, hb, hml, hown, hts⟩ (c_A_dismissAll l dC dI cI cA cL (Q j9 0) (Q j9 1) (Q j9 2) (Q j9 6) (Q j9 7) ((a.2.2 j9).1) ((a.2.2 j9).2.1) H.size x12 g13) (jv_cwV hts wa_355 wa_351 wa_356 wa_357 wa_358 rfl rfl yd_A_dismissAll ⟨Nat.le_of_ble_eq_true rfl, Nat.le_of_ble_eq_true rfl⟩) (jv_preVW hK hPc hDc 0 rfl rfl) rfl rfl hl.1 rfl (lv_room (Nat.le_of_ble_eq_true rfl)) d_V_breakDown_37 ⟨Nat.zero_le _, Nat.zero_le _⟩) hS hFc (fun H1 locs hP1 hD1 hk1 hS => ?_)
          obtain ⟨hPk, hDk⟩ := va_join (wc := (w_area cI (Q j9 0) (Q j9 1) (Q j9 2) (Q j9 6) (Q j9 7) ((a.2.2 j9).1) ((a.2.2 j9).2.1))) (wr := [(q_fu, .inr (kFuse, [.int y0])), (Q j9 2, .inr (kDisk, [.ref (Q j9 3), .ref (Q j9 4), .ref (Q j9 5), .int (a.2.2 j9).2.2.2.2.2.1, .int (a.2.2 j9).2.2.2.2.2.2.1, .int (a.2.2 j9).2.2.2.2.2.2.2])), (Q j9 3, .inl (cI, 232, .inl (a.2.2 j9).2.2.1)), (Q j9 4, .inl (cI, 232, .inl (a.2.2 j9).2.2.2.1)), (Q j9 5, .inl (cI, 232, .inl (a.2.2 j9).2.2.2.2.1)), (Q j9 6, .inr (kTree, [.ref (Q j9 2)])), (Q j9 7, .inr (kCont, [.ref (Q j9 2)]))]) (w1 := (w_area cI (Q j9 0) (Q j9 1) (Q j9 2) (Q j9 6) (Q j9 7) ((a.2.2 j9).1) x12)) hPj hDj [1, 2] [0, 3, 4, 5, 6, 7, 8] rfl rfl (by decide) (by decide) hk1 hFc hP1 hD1
          have hPk : va_P (dC, dI) vwCl (w_focus cI q_fu Q j9 y0 ((a.2.2 j9).1, x12, (a.2.2 j9).2.2.1, (a.2.2 j9).2.2.2.1, (a.2.2 j9).2.2.2.2.1, (a.2.2 j9).2.2.2.2.2.1, (a.2.2 j9).2.2.2.2.2.2.1, (a.2.2 j9).2.2.2.2.2.2.2)) H1 := hPk.sub [0, 7, 8, 1, 2, 3, 4, 5, 6] rfl
          have hkk := jv_out (ws := (w_focus cI q_fu Q j9 y0 (a.2.2 j9))) (wc := (w_area cI (Q j9 0) (Q j9 1) (Q j9 2) (Q j9 6) (Q j9 7) ((a.2.2 j9).1) ((a.2.2 j9).2.1))) [1, 2] rfl hk1
          obtain ⟨hP, hD⟩ := jv_close hP hD hj11 hkk hPk
          obtain ⟨A14, e15, hf⟩ := jv_le hf
          rw [← e15] at hP hD
          have hP : va_P (dC, dI) vwCl (w_vault cI cA q_va q_aa q_cl q_fu Q vn vC y0 A14) H1 := hP
          have hD : va_D A (w_vault cI cA q_va q_aa q_cl q_fu Q vn vC y0 A14) := hD
          generalize H1 = H at hP hS ⊢
          refine lv_aload_n hx hb d_V_breakDown_40 rfl (lv_at hl 1 rfl) ?_
          refine va_get (D := (dC, dI)) (ci := kVault) (v := .ref q_aa) (C := R_Vault) (T := T_Vault) (N := 4) hx hb hts (fun w h => List.mem_cons_of_mem _ (in_Vault w h)) hown hK hP 0 rfl rfl 0 (by decide) (jv_w hts wa_300) (fun _ h9 => h9) rfl d_V_breakDown_41 ?_
          refine lv_iload_n hx hb d_V_breakDown_44 rfl (lv_at hl 2 rfl) ?_
          obtain ⟨j16, g17, hf⟩ := jv_ob hf
          refine jv_aald hx hb hK hP g17 d_V_breakDown_45 (fun hj18 => ?_) (fun hj18 => ?_)
          · have hf := jv_it hf hj18
            refine va_get (D := (dC, dI)) (ci := kArea) (v := .ref (Q j16 2)) (C := R_Area) (T := T_Area) (N := 5) hx hb hts (fun w h => List.mem_cons_of_mem _ (in_Area w h)) hown hK (jv_open hP hj18) 1 rfl rfl 2 (by decide) (jv_w hts wa_346) (fun _ h9 => h9) rfl d_V_breakDown_46 ?_
            obtain ⟨x19, g20, hf⟩ := jv_ob hf
            have hPj := jv_open hP hj18
            have hDj := jv_openD hD hj18
            have hPc := hPj.sub (ws' := (w_disk cI (Q j16 2) (Q j16 3) (Q j16 4) (Q j16 5) ((A14 j16).2.2.2.2.2.1) ((A14 j16).2.2.2.2.2.2.1) ((A14 j16).2.2.2.2.2.2.2) ((A14 j16).2.2.1) ((A14 j16).2.2.2.1) ((A14 j16).2.2.2.2.1))) [3, 4, 5, 6] rfl
            have hDc := hDj.sub (ws' := (w_disk cI (Q j16 2) (Q j16 3) (Q j16 4) (Q j16 5) ((A14 j16).2.2.2.2.2.1) ((A14 j16).2.2.2.2.2.2.1) ((A14 j16).2.2.2.2.2.2.2) ((A14 j16).2.2.1) ((A14 j16).2.2.2.1) ((A14 j16).2.2.2.2.1))) [3, 4, 5, 6] (by decide) rfl
            have hFc := va_free (wc := (w_disk cI (Q j16 2) (Q j16 3) (Q j16 4) (Q j16 5) ((A14 j16).2.2.2.2.2.1) ((A14 j16).2.2.2.2.2.2.1) ((A14 j16).2.2.2.2.2.2.2) ((A14 j16).2.2.1) ((A14 j16).2.2.2.1) ((A14 j16).2.2.2.2.1))) hDj hS hA [3, 4, 5, 6] rfl
            refine jv_cwv (va_runV (As := []) (rest := []) (b := (Q j16 2)) ⟨hx, hb, hml, hown, hts⟩ (c_D_recover l dC dI cI cA cL (Q j16 2) (Q j16 3) (Q j16 4) (Q j16 5) ((A14 j16).2.2.2.2.2.1) ((A14 j16).2.2.2.2.2.2.1) ((A14 j16).2.2.2.2.2.2.2) ((A14 j16).2.2.1) ((A14 j16).2.2.2.1) ((A14 j16).2.2.2.2.1) H.size x19 g20) (jv_cwV hts wa_359 wa_29 wa_360 wa_361 wa_362 rfl rfl yd_D_recover ⟨Nat.le_of_ble_eq_true rfl, Nat.le_of_ble_eq_true rfl⟩) (jv_preVW hK hPc hDc 0 rfl rfl) rfl rfl hl.1 rfl (lv_room (Nat.le_of_ble_eq_true rfl)) d_V_breakDown_49 ⟨Nat.zero_le _, Nat.zero_le _⟩) hS hFc (fun H1 locs hP1 hD1 hk1 hS => ?_)
            obtain ⟨hPk, hDk⟩ := va_join (wc := (w_disk cI (Q j16 2) (Q j16 3) (Q j16 4) (Q j16 5) ((A14 j16).2.2.2.2.2.1) ((A14 j16).2.2.2.2.2.2.1) ((A14 j16).2.2.2.2.2.2.2) ((A14 j16).2.2.1) ((A14 j16).2.2.2.1) ((A14 j16).2.2.2.2.1))) (wr := [(q_fu, .inr (kFuse, [.int y0])), (Q j16 0, .inr (kArea, [.int (A14 j16).1, .ref (Q j16 1), .ref (Q j16 2), .ref (Q j16 6), .ref (Q j16 7)])), (Q j16 1, .inl (cI, 4, .inl (A14 j16).2.1)), (Q j16 6, .inr (kTree, [.ref (Q j16 2)])), (Q j16 7, .inr (kCont, [.ref (Q j16 2)]))]) (w1 := (w_disk cI (Q j16 2) (Q j16 3) (Q j16 4) (Q j16 5) ((A14 j16).2.2.2.2.2.1) x19.1 ((A14 j16).2.2.2.2.2.2.2) x19.2.1 x19.2.2 ((A14 j16).2.2.2.2.1))) hPj hDj [3, 4, 5, 6] [0, 1, 2, 7, 8] rfl rfl (by decide) (by decide) hk1 hFc hP1 hD1
            have hPk : va_P (dC, dI) vwCl (w_focus cI q_fu Q j16 y0 ((A14 j16).1, (A14 j16).2.1, x19.2.1, x19.2.2, (A14 j16).2.2.2.2.1, (A14 j16).2.2.2.2.2.1, x19.1, (A14 j16).2.2.2.2.2.2.2)) H1 := hPk.sub [0, 1, 2, 5, 6, 7, 8, 3, 4] rfl
            have hkk := jv_out (ws := (w_focus cI q_fu Q j16 y0 (A14 j16))) (wc := (w_disk cI (Q j16 2) (Q j16 3) (Q j16 4) (Q j16 5) ((A14 j16).2.2.2.2.2.1) ((A14 j16).2.2.2.2.2.2.1) ((A14 j16).2.2.2.2.2.2.2) ((A14 j16).2.2.1) ((A14 j16).2.2.2.1) ((A14 j16).2.2.2.2.1))) [3, 4, 5, 6] rfl hk1
            obtain ⟨hP, hD⟩ := jv_close hP hD hj18 hkk hPk
            obtain ⟨A21, e22, hf⟩ := jv_le hf
            rw [← e22] at hP hD
            have hP : va_P (dC, dI) vwCl (w_vault cI cA q_va q_aa q_cl q_fu Q vn vC y0 A21) H1 := hP
            have hD : va_D A (w_vault cI cA q_va q_aa q_cl q_fu Q vn vC y0 A21) := hD
            generalize H1 = H at hP hS ⊢
            refine lv_iinc (k := 2) (v := a.2.1 + (1 : Int32)) (lv' := [(2, .int (a.2.1 + (1 : Int32))), (1, .int (a.1 + x7)), (0, .ref q_va)]) hx hb d_V_breakDown_52 hl rfl (jv_inc _) (by decide) rfl (fun ls hl => ?_)
            refine lv_goto (tgt := 4) hx hb d_V_breakDown_55 (by decide) ?_
            exact hk4 (a.1 + x7) (a.2.1 + (1 : Int32)) A21 _ _ _ (lv_sub hl [2, 1, 0] rfl) hP hD hS hf
          · cases jv_if hf hj18
        · cases jv_if hf hj11
      · cases jv_if hf hj6
    · have hf := jv_if hf hj3
      refine lv_ifnullN (tgt := 52) hx hb d_V_breakDown_16 (by decide) ?_
      refine lv_iinc (k := 2) (v := a.2.1 + (1 : Int32)) (lv' := [(2, .int (a.2.1 + (1 : Int32))), (0, .ref q_va), (1, .int a.1)]) hx hb d_V_breakDown_52 hl rfl (jv_inc _) (by decide) rfl (fun ls hl => ?_)
      refine lv_goto (tgt := 4) hx hb d_V_breakDown_55 (by decide) ?_
      exact hk4 a.1 (a.2.1 + (1 : Int32)) a.2.2 _ _ _ (lv_sub hl [1, 2, 0] rfl) hP hD hS hf
set_option maxHeartbeats 4000000 in
set_option maxRecDepth 100000 in
theorem l_V_breakDown_4 {l : Launch} {dC : Nat → ClassId} {dI : Nat → Nat → Nat} {cI cA cL : ClassId} {q_va q_aa q_cl q_fu : Nat} {Q : Nat → Nat → Nat} {vn : Nat} {vC : Nat → Int32} {p : Program} {e : Env} {s : State} {m : MethodId} {args : Array Value} {below : List Frame} {meth : Method} {c : Code} (cx : jv_cx p s m args meth c cc_V_breakDown 3 R_Vault (some .int) ws_V_breakDown) (hK : va_K (dC, dI) vwCl (jv_ty cI cA cL) s) {A : Nat → Prop} (hA : ∀ q : Nat, s.heap.size ≤ q → A q) {r : Int32 × Int32 × (Nat → jv_ar)} {y0 : Int32} : ∀ n : Nat, ∀ (b0 : Int32) (b1 : Int32) (b2 : Nat → jv_ar) (ls : Array Slot) (H : Heap) (locs : List Loc), lv_has ls 3 [(0, .ref q_va), (1, .int b0), (2, .int b1)] → va_P (dC, dI) vwCl (w_vault cI cA q_va q_aa q_cl q_fu Q vn vC y0 b2) H → va_D A (w_vault cI cA q_va q_aa q_cl q_fu Q vn vC y0 b2) → va_S A s.heap H locs → jv_fx (f_V_breakDown_4 vn y0) n (b0, b1, b2) = some r → W p l e rm_V_breakDown s m args below meth c H locs 0 0 (MQ below (jv_Qi r.1 (dC, dI) (w_vault cI cA q_va q_aa q_cl q_fu Q vn vC r.2.1 r.2.2) A) args s 0 0 A) (F0 m 4 ls []) := by
  intro n
  induction n with
  | zero => intro b0 b1 b2 ls H locs hl hP hD hS hf; exact jv_no hf
  | succ n ih => intro b0 b1 b2 ls H locs hl hP hD hS hf; exact b_V_breakDown_4 (a := (b0, b1, b2)) cx hK hA ih hl hP hD hS hf
def f_V_breakDown_0 (vn : Nat) (y0 : Int32) (y1 : Nat → jv_ar) : Option (Int32 × Int32 × (Nat → jv_ar)) :=
  jv_fx (f_V_breakDown_4 vn y0) 300 ((0 : Int32), (0 : Int32), y1)
set_option maxHeartbeats 4000000 in
set_option maxRecDepth 100000 in
theorem b_V_breakDown_0 {l : Launch} {dC : Nat → ClassId} {dI : Nat → Nat → Nat} {cI cA cL : ClassId} {q_va q_aa q_cl q_fu : Nat} {Q : Nat → Nat → Nat} {vn : Nat} {vC : Nat → Int32} {p : Program} {e : Env} {s : State} {m : MethodId} {args : Array Value} {below : List Frame} {meth : Method} {c : Code} (cx : jv_cx p s m args meth c cc_V_breakDown 3 R_Vault (some .int) ws_V_breakDown) (hK : va_K (dC, dI) vwCl (jv_ty cI cA cL) s) {A : Nat → Prop} (hA : ∀ q : Nat, s.heap.size ≤ q → A q) {r : Int32 × Int32 × (Nat → jv_ar)} {y0 : Int32} {y1 : Nat → jv_ar} {ls : Array Slot} (hl : lv_has ls 3 [(0, .ref q_va)]) {H : Heap} {locs : List Loc} (hP : va_P (dC, dI) vwCl (w_vault cI cA q_va q_aa q_cl q_fu Q vn vC y0 y1) H) (hD : va_D A (w_vault cI cA q_va q_aa q_cl q_fu Q vn vC y0 y1)) (hS : va_S A s.heap H locs) (hf : f_V_breakDown_0 vn y0 y1 = some r) : W p l e rm_V_breakDown s m args below meth c H locs 0 0 (MQ below (jv_Qi r.1 (dC, dI) (w_vault cI cA q_va q_aa q_cl q_fu Q vn vC r.2.1 r.2.2) A) args s 0 0 A) (F0 m 0 ls []) := by
  unfold f_V_breakDown_0 at hf
  obtain ⟨hx, hb, hml, hown, hts, hr, hlocks⟩ := id cx
  refine lv_iconst (v := (0 : Int32)) hx hb d_V_breakDown_0 (by decide) ?_
  refine lv_istore_n (lv' := [(1, .int (0 : Int32)), (0, .ref q_va)]) hx hb d_V_breakDown_1 rfl hl (by decide) rfl (fun ls hl => ?_)
  refine lv_iconst (v := (0 : Int32)) hx hb d_V_breakDown_2 (by decide) ?_
  refine lv_istore_n (lv' := [(2, .int (0 : Int32)), (1, .int (0 : Int32)), (0, .ref q_va)]) hx hb d_V_breakDown_3 rfl hl (by decide) rfl (fun ls hl => ?_)
  exact l_V_breakDown_4 (y0 := y0) cx hK hA 300 (0 : Int32) (0 : Int32) y1 _ _ _ (lv_sub hl [2, 1, 0] rfl) hP hD hS hf
def f_V_breakDown (vn : Nat) (vat : Int32) (ars : Nat → jv_ar) : Option (Int32 × Int32 × (Nat → jv_ar)) := f_V_breakDown_0 vn vat ars
set_option maxHeartbeats 4000000 in
set_option maxRecDepth 100000 in
theorem c_V_breakDown (l : Launch) (dC : Nat → ClassId) (dI : Nat → Nat → Nat) (cI cA cL : ClassId) (q_va q_aa q_cl q_fu : Nat) (Q : Nat → Nat → Nat) (vn : Nat) (vC : Nat → Int32) (vat : Int32) (ars : Nat → jv_ar) (sz : Nat) (r : Int32 × Int32 × (Nat → jv_ar)) (hf : f_V_breakDown vn vat ars = some r) : Met l y_V_breakDown ws_V_breakDown rm_V_breakDown (jv_Pw [.ref q_va] (dC, dI) (jv_ty cI cA cL) (w_vault cI cA q_va q_aa q_cl q_fu Q vn vC vat ars) sz) (jv_Qi r.1 (dC, dI) (w_vault cI cA q_va q_aa q_cl q_fu Q vn vC r.2.1 r.2.2) (va_A (w_vault cI cA q_va q_aa q_cl q_fu Q vn vC vat ars) sz)) 0 0 (va_A (w_vault cI cA q_va q_aa q_cl q_fu Q vn vC vat ars) sz) := by
  refine Met.ofW (cc := cc_V_breakDown) (maxL := 3) (ret := (some .int)) (by decide) rfl ?_
  intro p e s m args below meth c s₁ B hml hv
  obtain ⟨rfl, hsz, hP, hK, hD0⟩ := hv
  have cx : jv_cx p s m _ meth c cc_V_breakDown 3 R_Vault (some .int) ws_V_breakDown := ⟨B.exec, B.bytes, hml, findClass_of_methodNamed B.named, atoms_spec (ws := ws_V_breakDown) B.pre, B.returns, B.notSynchronized⟩
  subst hsz
  have hD := hD0.self (sz := s.heap.size)
  generalize hAe : va_A (w_vault cI cA q_va q_aa q_cl q_fu Q vn vC vat ars) s.heap.size = A at hD ⊢
  have hA : ∀ q : Nat, s.heap.size ≤ q → A q := fun q h => by rw [← hAe]; exact Or.inr h
  have hS : va_S A s.heap s.heap [] := va_S.rf
  have hl := lv_entry ([.ref q_va]) (n := 3) (Nat.le_of_ble_eq_true rfl)
  rw [lg_entry_eq]
  generalize (lg_sl ([.ref q_va]) ++ List.replicate (3 - (lg_sl ([.ref q_va])).length) Slot.unset).toArray = ls at hl ⊢
  have hl : lv_has ls 3 [(0, .ref q_va)] := hl
  exact b_V_breakDown_0 (y0 := vat) (y1 := ars) cx hK hA (lv_sub hl [0] rfl) hP hD hS hf
theorem d_V_finish_0 : decode cc_V_finish 0 = .ok (.aload_n 1, 1) := by decide +kernel
theorem d_V_finish_1 : decode cc_V_finish 1 = .ok (.getfield 226, 3) := by decide +kernel
theorem d_V_finish_4 : decode cc_V_finish 4 = .ok (.aload_n 0, 1) := by decide +kernel
theorem d_V_finish_5 : decode cc_V_finish 5 = .ok (.getfield 26, 3) := by decide +kernel
theorem d_V_finish_8 : decode cc_V_finish 8 = .ok (.invokevirtual 274, 3) := by decide +kernel
theorem d_V_finish_11 : decode cc_V_finish 11 = .ok (.ifCond .eq 5, 3) := by decide +kernel
theorem d_V_finish_16 : decode cc_V_finish 16 = .ok (.aload_n 0, 1) := by decide +kernel
theorem d_V_finish_17 : decode cc_V_finish 17 = .ok (.invokevirtual 219, 3) := by decide +kernel
theorem d_V_finish_20 : decode cc_V_finish 20 = .ok (.pop, 1) := by decide +kernel
theorem d_V_finish_21 : decode cc_V_finish 21 = .ok (.bipush (-3), 2) := by decide +kernel
theorem d_V_finish_23 : decode cc_V_finish 23 = .ok (.ireturn, 1) := by decide +kernel
theorem d_V_finish_14 : decode cc_V_finish 14 = .ok (.iload_n 2, 1) := by decide +kernel
theorem d_V_finish_15 : decode cc_V_finish 15 = .ok (.ireturn, 1) := by decide +kernel
def f_V_finish_0 (vn : Nat) (y0 : Int32) (y1 : Nat) (y2 : Int32) (y3 : Nat → jv_ar) : Option (Int32 × Int32 × (Nat → jv_ar)) :=
  (f_D_commit ((y3 y1).2.2.2.1) ((y3 y1).2.2.2.2.2.1) ((y3 y1).2.2.2.2.2.2.1) ((y3 y1).2.2.2.2.2.2.2) ((y3 y1).2.2.1) ((y3 y1).2.2.2.2.1) y2).bind fun x1 => jv_lt (va_up y3 y1 ((y3 y1).1, (y3 y1).2.1, x1.2.2.2.2.1, (y3 y1).2.2.2.1, x1.2.2.2.2.2.1, x1.2.1, x1.2.2.1, x1.2.2.2.1)) fun A3 => if x1.1 = 0 then ((f_V_breakDown vn x1.2.2.2.2.2.2 A3).bind fun x5 => some ((-3 : Int32), x5.2.1, x5.2.2)) else (some (y0, x1.2.2.2.2.2.2, A3))
set_option maxHeartbeats 4000000 in
set_option maxRecDepth 100000 in
theorem b_V_finish_0 {l : Launch} {dC : Nat → ClassId} {dI : Nat → Nat → Nat} {cI cA cL : ClassId} {q_va q_aa q_cl q_fu : Nat} {Q : Nat → Nat → Nat} {vn : Nat} {vC : Nat → Int32} {p : Program} {e : Env} {s : State} {m : MethodId} {args : Array Value} {below : List Frame} {meth : Method} {c : Code} (cx : jv_cx p s m args meth c cc_V_finish 3 R_Vault (some .int) ws_V_finish) (hK : va_K (dC, dI) vwCl (jv_ty cI cA cL) s) {A : Nat → Prop} (hA : ∀ q : Nat, s.heap.size ≤ q → A q) {r : Int32 × Int32 × (Nat → jv_ar)} {y0 : Int32} {y1 : Nat} {y2 : Int32} {y3 : Nat → jv_ar} (hy1 : y1 < vn) {ls : Array Slot} (hl : lv_has ls 3 [(0, .ref q_va), (1, .ref (Q y1 0)), (2, .int y0)]) {H : Heap} {locs : List Loc} (hP : va_P (dC, dI) vwCl (w_vault cI cA q_va q_aa q_cl q_fu Q vn vC y2 y3) H) (hD : va_D A (w_vault cI cA q_va q_aa q_cl q_fu Q vn vC y2 y3)) (hS : va_S A s.heap H locs) (hf : f_V_finish_0 vn y0 y1 y2 y3 = some r) : W p l e rm_V_finish s m args below meth c H locs 0 0 (MQ below (jv_Qi r.1 (dC, dI) (w_vault cI cA q_va q_aa q_cl q_fu Q vn vC r.2.1 r.2.2) A) args s 0 0 A) (F0 m 0 ls []) := by
  unfold f_V_finish_0 at hf
  obtain ⟨hx, hb, hml, hown, hts, hr, hlocks⟩ := id cx
  refine lv_aload_n hx hb d_V_finish_0 rfl (lv_at hl 1 rfl) ?_
  refine va_get (D := (dC, dI)) (ci := kArea) (v := .ref (Q y1 2)) (C := R_Area) (T := T_Area) (N := 5) hx hb hts (fun w h => List.mem_cons_of_mem _ (in_Area w h)) hown hK (jv_open hP hy1) 1 rfl rfl 2 (by decide) (jv_w hts wa_346) (fun _ h9 => h9) rfl d_V_finish_1 ?_
  refine lv_aload_n hx hb d_V_finish_4 rfl (lv_at hl 0 rfl) ?_
  refine va_get (D := (dC, dI)) (ci := kVault) (v := .ref q_fu) (C := R_Vault) (T := T_Vault) (N := 4) hx hb hts (fun w h => List.mem_cons_of_mem _ (in_Vault w h)) hown hK hP 0 rfl rfl 3 (by decide) (jv_w hts wa_348) (fun _ h9 => h9) rfl d_V_finish_5 ?_
  obtain ⟨x1, g2, hf⟩ := jv_ob hf
  have hPj := jv_open hP hy1
  have hDj := jv_openD hD hy1
  have hPc := hPj.sub (ws' := (w_dfu cI (Q y1 2) (Q y1 3) (Q y1 4) (Q y1 5) q_fu ((y3 y1).2.2.2.2.2.1) ((y3 y1).2.2.2.2.2.2.1) ((y3 y1).2.2.2.2.2.2.2) ((y3 y1).2.2.1) ((y3 y1).2.2.2.1) ((y3 y1).2.2.2.2.1) y2)) [3, 4, 5, 6, 0] rfl
  have hDc := hDj.sub (ws' := (w_dfu cI (Q y1 2) (Q y1 3) (Q y1 4) (Q y1 5) q_fu ((y3 y1).2.2.2.2.2.1) ((y3 y1).2.2.2.2.2.2.1) ((y3 y1).2.2.2.2.2.2.2) ((y3 y1).2.2.1) ((y3 y1).2.2.2.1) ((y3 y1).2.2.2.2.1) y2)) [3, 4, 5, 6, 0] (by decide) rfl
  have hFc := va_free (wc := (w_dfu cI (Q y1 2) (Q y1 3) (Q y1 4) (Q y1 5) q_fu ((y3 y1).2.2.2.2.2.1) ((y3 y1).2.2.2.2.2.2.1) ((y3 y1).2.2.2.2.2.2.2) ((y3 y1).2.2.1) ((y3 y1).2.2.2.1) ((y3 y1).2.2.2.2.1) y2)) hDj hS hA [3, 4, 5, 6, 0] rfl
  refine jv_cwi (va_runV (As := [.ref q_fu]) (rest := []) (b := (Q y1 2)) ⟨hx, hb, hml, hown, hts⟩ (c_D_commit l dC dI cI cA cL (Q y1 2) (Q y1 3) (Q y1 4) (Q y1 5) q_fu ((y3 y1).2.2.2.2.2.1) ((y3 y1).2.2.2.2.2.2.1) ((y3 y1).2.2.2.2.2.2.2) ((y3 y1).2.2.1) ((y3 y1).2.2.2.1) ((y3 y1).2.2.2.2.1) y2 H.size x1 g2) (jv_cwV hts wa_363 wa_29 wa_364 wa_365 wa_366 rfl rfl yd_D_commit ⟨Nat.le_of_ble_eq_true rfl, Nat.le_of_ble_eq_true rfl⟩) (jv_preVW hK hPc hDc 0 rfl rfl) rfl rfl hl.1 rfl (lv_room (Nat.le_of_ble_eq_true rfl)) d_V_finish_8 ⟨Nat.zero_le _, Nat.zero_le _⟩) hS hFc (fun H1 locs hP1 hD1 hk1 hS => ?_)
  obtain ⟨hPk, hDk⟩ := va_join (wc := (w_dfu cI (Q y1 2) (Q y1 3) (Q y1 4) (Q y1 5) q_fu ((y3 y1).2.2.2.2.2.1) ((y3 y1).2.2.2.2.2.2.1) ((y3 y1).2.2.2.2.2.2.2) ((y3 y1).2.2.1) ((y3 y1).2.2.2.1) ((y3 y1).2.2.2.2.1) y2)) (wr := [(Q y1 0, .inr (kArea, [.int (y3 y1).1, .ref (Q y1 1), .ref (Q y1 2), .ref (Q y1 6), .ref (Q y1 7)])), (Q y1 1, .inl (cI, 4, .inl (y3 y1).2.1)), (Q y1 6, .inr (kTree, [.ref (Q y1 2)])), (Q y1 7, .inr (kCont, [.ref (Q y1 2)]))]) (w1 := (w_dfu cI (Q y1 2) (Q y1 3) (Q y1 4) (Q y1 5) q_fu x1.2.1 x1.2.2.1 x1.2.2.2.1 x1.2.2.2.2.1 ((y3 y1).2.2.2.1) x1.2.2.2.2.2.1 x1.2.2.2.2.2.2)) hPj hDj [3, 4, 5, 6, 0] [1, 2, 7, 8] rfl rfl (by decide) (by decide) hk1 hFc hP1 hD1
  have hPk : va_P (dC, dI) vwCl (w_focus cI q_fu Q y1 x1.2.2.2.2.2.2 ((y3 y1).1, (y3 y1).2.1, x1.2.2.2.2.1, (y3 y1).2.2.2.1, x1.2.2.2.2.2.1, x1.2.1, x1.2.2.1, x1.2.2.2.1)) H1 := hPk.sub [8, 0, 1, 4, 5, 6, 7, 2, 3] rfl
  have hkk := jv_out (ws := (w_focus cI q_fu Q y1 y2 (y3 y1))) (wc := (w_dfu cI (Q y1 2) (Q y1 3) (Q y1 4) (Q y1 5) q_fu ((y3 y1).2.2.2.2.2.1) ((y3 y1).2.2.2.2.2.2.1) ((y3 y1).2.2.2.2.2.2.2) ((y3 y1).2.2.1) ((y3 y1).2.2.2.1) ((y3 y1).2.2.2.2.1) y2)) [3, 4, 5, 6, 0] rfl hk1
  obtain ⟨hP, hD⟩ := jv_close hP hD hy1 hkk hPk
  obtain ⟨A3, e4, hf⟩ := jv_le hf
  rw [← e4] at hP hD
  have hP : va_P (dC, dI) vwCl (w_vault cI cA q_va q_aa q_cl q_fu Q vn vC x1.2.2.2.2.2.2 A3) H1 := hP
  have hD : va_D A (w_vault cI cA q_va q_aa q_cl q_fu Q vn vC x1.2.2.2.2.2.2 A3) := hD
  generalize H1 = H at hP hS ⊢
  refine lv_if_eq (tgt := 16) hx hb d_V_finish_11 (by decide) (fun hc => ?_) (fun hc => ?_)
  · have hf := jv_it hf hc
    refine lv_aload_n hx hb d_V_finish_16 rfl (lv_at hl 0 rfl) ?_
    obtain ⟨x5, g6, hf⟩ := jv_ob hf
    have hFc := jv_fr hD hS hA
    refine jv_cwi (va_runV (As := []) (rest := []) (b := q_va) ⟨hx, hb, hml, hown, hts⟩ (c_V_breakDown l dC dI cI cA cL q_va q_aa q_cl q_fu Q vn vC x1.2.2.2.2.2.2 A3 H.size x5 g6) (jv_cwV hts wa_367 wa_303 wa_368 wa_369 wa_370 rfl rfl yd_V_breakDown ⟨Nat.le_of_ble_eq_true rfl, Nat.le_of_ble_eq_true rfl⟩) (jv_preVW hK hP hD 0 rfl rfl) rfl rfl hl.1 rfl (lv_room (Nat.le_of_ble_eq_true rfl)) d_V_finish_17 ⟨Nat.zero_le _, Nat.zero_le _⟩) hS hFc (fun H1 locs hP hD1 hk1 hS => ?_)
    have hP : va_P (dC, dI) vwCl (w_vault cI cA q_va q_aa q_cl q_fu Q vn vC x5.2.1 x5.2.2) H1 := hP
    have hD : va_D A (w_vault cI cA q_va q_aa q_cl q_fu Q vn vC x5.2.1 x5.2.2) := hD1.weaken (fun _ q _ h => hFc q.1 h)
    generalize H1 = H at hP hS ⊢
    refine lv_pop hx hb d_V_finish_20 rfl ?_
    refine lv_bipush (v := (-3 : Int32)) hx hb d_V_finish_21 (by decide) ?_
    obtain rfl := Option.some.inj hf
    exact W.iret hx hb hr (fun t ht hW => ⟨rfl, by rw [ht]; exact hP, hD, hS.F ht⟩) hS.2.2 d_V_finish_23
  · have hf := jv_if hf hc
    refine lv_iload_n hx hb d_V_finish_14 rfl (lv_at hl 2 rfl) ?_
    obtain rfl := Option.some.inj hf
    exact W.iret hx hb hr (fun t ht hW => ⟨rfl, by rw [ht]; exact hP, hD, hS.F ht⟩) hS.2.2 d_V_finish_15
def f_V_finish (vn : Nat) (a0 : Nat) (a1 : Int32) (vat : Int32) (ars : Nat → jv_ar) : Option (Int32 × Int32 × (Nat → jv_ar)) := f_V_finish_0 vn a1 a0 vat ars
set_option maxHeartbeats 4000000 in
set_option maxRecDepth 100000 in
theorem c_V_finish (l : Launch) (dC : Nat → ClassId) (dI : Nat → Nat → Nat) (cI cA cL : ClassId) (q_va q_aa q_cl q_fu : Nat) (Q : Nat → Nat → Nat) (vn : Nat) (vC : Nat → Int32) (vat : Int32) (ars : Nat → jv_ar) (a0 : Nat) (a1 : Int32) (ha0 : a0 < vn) (sz : Nat) (r : Int32 × Int32 × (Nat → jv_ar)) (hf : f_V_finish vn a0 a1 vat ars = some r) : Met l y_V_finish ws_V_finish rm_V_finish (jv_Pw [.ref q_va, .ref (Q a0 0), .int a1] (dC, dI) (jv_ty cI cA cL) (w_vault cI cA q_va q_aa q_cl q_fu Q vn vC vat ars) sz) (jv_Qi r.1 (dC, dI) (w_vault cI cA q_va q_aa q_cl q_fu Q vn vC r.2.1 r.2.2) (va_A (w_vault cI cA q_va q_aa q_cl q_fu Q vn vC vat ars) sz)) 0 0 (va_A (w_vault cI cA q_va q_aa q_cl q_fu Q vn vC vat ars) sz) := by
  refine Met.ofW (cc := cc_V_finish) (maxL := 3) (ret := (some .int)) (by decide) rfl ?_
  intro p e s m args below meth c s₁ B hml hv
  obtain ⟨rfl, hsz, hP, hK, hD0⟩ := hv
  have cx : jv_cx p s m _ meth c cc_V_finish 3 R_Vault (some .int) ws_V_finish := ⟨B.exec, B.bytes, hml, findClass_of_methodNamed B.named, atoms_spec (ws := ws_V_finish) B.pre, B.returns, B.notSynchronized⟩
  subst hsz
  have hD := hD0.self (sz := s.heap.size)
  generalize hAe : va_A (w_vault cI cA q_va q_aa q_cl q_fu Q vn vC vat ars) s.heap.size = A at hD ⊢
  have hA : ∀ q : Nat, s.heap.size ≤ q → A q := fun q h => by rw [← hAe]; exact Or.inr h
  have hS : va_S A s.heap s.heap [] := va_S.rf
  have hl := lv_entry ([.ref q_va, .ref (Q a0 0), .int a1]) (n := 3) (Nat.le_of_ble_eq_true rfl)
  rw [lg_entry_eq]
  generalize (lg_sl ([.ref q_va, .ref (Q a0 0), .int a1]) ++ List.replicate (3 - (lg_sl ([.ref q_va, .ref (Q a0 0), .int a1])).length) Slot.unset).toArray = ls at hl ⊢
  have hl : lv_has ls 3 [(0, .ref q_va), (1, .ref (Q a0 0)), (2, .int a1)] := hl
  exact b_V_finish_0 (y0 := a1) (y1 := a0) (y2 := vat) (y3 := ars) (hy1 := ha0) cx hK hA (lv_sub hl [0, 1, 2] rfl) hP hD hS hf
theorem d_V_flows_0 : decode cc_V_flows 0 = .ok (.iload_n 1, 1) := by decide +kernel
theorem d_V_flows_1 : decode cc_V_flows 1 = .ok (.invokestatic 30, 3) := by decide +kernel
theorem d_V_flows_4 : decode cc_V_flows 4 = .ok (.ifCond .eq 14, 3) := by decide +kernel
theorem d_V_flows_18 : decode cc_V_flows 18 = .ok (.iconst 0, 1) := by decide +kernel
theorem d_V_flows_19 : decode cc_V_flows 19 = .ok (.invokestatic 36, 3) := by decide +kernel
theorem d_V_flows_22 : decode cc_V_flows 22 = .ok (.iload_n 1, 1) := by decide +kernel
theorem d_V_flows_23 : decode cc_V_flows 23 = .ok (.iload_n 2, 1) := by decide +kernel
theorem d_V_flows_24 : decode cc_V_flows 24 = .ok (.invokestatic 56, 3) := by decide +kernel
theorem d_V_flows_27 : decode cc_V_flows 27 = .ok (.ireturn, 1) := by decide +kernel
theorem d_V_flows_7 : decode cc_V_flows 7 = .ok (.iload_n 2, 1) := by decide +kernel
theorem d_V_flows_8 : decode cc_V_flows 8 = .ok (.invokestatic 30, 3) := by decide +kernel
theorem d_V_flows_11 : decode cc_V_flows 11 = .ok (.ifCond .eq 7, 3) := by decide +kernel
theorem d_V_flows_14 : decode cc_V_flows 14 = .ok (.iconst 1, 1) := by decide +kernel
theorem d_V_flows_15 : decode cc_V_flows 15 = .ok (.goto 4, 3) := by decide +kernel
def f_V_flows_0 (y0 : Int32) (y1 : Int32) : Option (Nat ⊕ (Int32)) :=
  (f_L_isLabel y0).bind fun x1 => if x1 = 0 then ((f_V_demand (0 : Int32)).bind fun x3 => jv_se x3 fun v5 => (f_L_mayFlow y0 y1).bind fun x7 => if x7 = 0 ∨ x7 = 1 then (some (Sum.inr x7)) else none) else ((f_L_isLabel y1).bind fun x10 => if x10 = 0 then ((f_V_demand (0 : Int32)).bind fun x12 => jv_se x12 fun v14 => (f_L_mayFlow y0 y1).bind fun x16 => if x16 = 0 ∨ x16 = 1 then (some (Sum.inr x16)) else none) else ((f_V_demand (1 : Int32)).bind fun x19 => jv_se x19 fun v21 => (f_L_mayFlow y0 y1).bind fun x23 => if x23 = 0 ∨ x23 = 1 then (some (Sum.inr x23)) else none))
set_option maxHeartbeats 4000000 in
set_option maxRecDepth 100000 in
theorem b_V_flows_0 {l : Launch} {dC : Nat → ClassId} {dI : Nat → Nat → Nat} {cI cA cL : ClassId} {q_va q_aa q_cl q_fu : Nat} {Q : Nat → Nat → Nat} {vn : Nat} {vC : Nat → Int32} {vat : Int32} {ars : Nat → jv_ar} {p : Program} {e : Env} {s : State} {m : MethodId} {args : Array Value} {below : List Frame} {meth : Method} {c : Code} (cx : jv_cx p s m args meth c cc_V_flows 3 R_Vault (some .boolean) ws_V_flows) (hK : va_K (dC, dI) vwCl (jv_ty cI cA cL) s) (hP : va_P (dC, dI) vwCl (w_vault cI cA q_va q_aa q_cl q_fu Q vn vC vat ars) s.heap) (hl9 : l.stackTraces = false) (hT : jv_th s) (hout : c.exceptionTable.isEmpty = true) {r : Int32} {y0 : Int32} {y1 : Int32} {ls : Array Slot} (hl : lv_has ls 3 [(1, .int y0), (2, .int y1)]) (hf : f_V_flows_0 y0 y1 = some (Sum.inr r)) : W p l e rm_V_flows s m args below meth c s.heap [] 0 0 (MQ below (QcRead r) args s 0 0 (fun _ => False)) (F0 m 0 ls []) := by
  unfold f_V_flows_0 at hf
  obtain ⟨hx, hb, hml, hown, hts, hr, hlocks⟩ := id cx
  refine lv_iload_n hx hb d_V_flows_0 rfl (lv_at hl 0 rfl) ?_
  obtain ⟨x1, g2, hf⟩ := jv_ob hf
  refine jv_cs (W.runS (As := [.int y0]) (rest := []) ⟨hx, hb, hml, hown, hts⟩ (c_L_isLabel l y0 x1 g2) (jv_cwS hts wa_371 wa_1 wa_372 wa_373 rfl rfl yd_L_isLabel ⟨Nat.le_of_ble_eq_true rfl, Nat.le_of_ble_eq_true rfl⟩) jv_pre0 rfl rfl hl.1 rfl (lv_room (Nat.le_of_ble_eq_true rfl)) d_V_flows_1 ⟨Nat.zero_le _, Nat.zero_le _⟩) ?_
  refine lv_if_eq (tgt := 18) hx hb d_V_flows_4 (by decide) (fun hc => ?_) (fun hc => ?_)
  · have hf := jv_it hf hc
    refine lv_iconst (v := (0 : Int32)) hx hb d_V_flows_18 (by decide) ?_
    obtain ⟨x3, g4, hf⟩ := jv_ob hf
    rcases x3 with k6 | v5
    · exact jv_ci hf
    have hf := jv_sr hf
    refine jv_csv (W.runS (As := [.int (0 : Int32)]) (rest := []) ⟨hx, hb, hml, hown, hts⟩ (c_V_demand l hl9 (0 : Int32) v5 g4) (jv_cwS hts wa_321 wa_303 wa_322 wa_323 rfl rfl yd_V_demand ⟨Nat.le_of_ble_eq_true rfl, Nat.le_of_ble_eq_true rfl⟩) (jv_pre0t hT) rfl rfl hl.1 rfl (lv_room (Nat.le_of_ble_eq_true rfl)) d_V_flows_19 ⟨Nat.zero_le _, Nat.zero_le _⟩) ?_
    refine lv_iload_n hx hb d_V_flows_22 rfl (lv_at hl 0 rfl) ?_
    refine lv_iload_n hx hb d_V_flows_23 rfl (lv_at hl 1 rfl) ?_
    obtain ⟨x7, g8, hf⟩ := jv_ob hf
    refine jv_cs (W.runS (As := [.int y0, .int y1]) (rest := []) ⟨hx, hb, hml, hown, hts⟩ (c_L_mayFlow l y0 y1 x7 g8) (jv_cwS hts wa_308 wa_1 wa_309 wa_310 rfl rfl yd_L_mayFlow ⟨Nat.le_of_ble_eq_true rfl, Nat.le_of_ble_eq_true rfl⟩) jv_pre0 rfl rfl hl.1 rfl (lv_room (Nat.le_of_ble_eq_true rfl)) d_V_flows_24 ⟨Nat.zero_le _, Nat.zero_le _⟩) ?_
    obtain ⟨hb9, hf⟩ := jv_gd hf
    obtain rfl := Sum.inr.inj (Option.some.inj hf)
    exact W.zret hx hb hr (jv_nb hb9) (fun t ht hW => ⟨rfl, ht⟩) (fun q h => by cases h) d_V_flows_27
  · have hf := jv_if hf hc
    refine lv_iload_n hx hb d_V_flows_7 rfl (lv_at hl 1 rfl) ?_
    obtain ⟨x10, g11, hf⟩ := jv_ob hf
    refine jv_cs (W.runS (As := [.int y1]) (rest := []) ⟨hx, hb, hml, hown, hts⟩ (c_L_isLabel l y1 x10 g11) (jv_cwS hts wa_371 wa_1 wa_372 wa_373 rfl rfl yd_L_isLabel ⟨Nat.le_of_ble_eq_true rfl, Nat.le_of_ble_eq_true rfl⟩) jv_pre0 rfl rfl hl.1 rfl (lv_room (Nat.le_of_ble_eq_true rfl)) d_V_flows_8 ⟨Nat.zero_le _, Nat.zero_le _⟩) ?_
    refine lv_if_eq (tgt := 18) hx hb d_V_flows_11 (by decide) (fun hc => ?_) (fun hc => ?_)
    · have hf := jv_it hf hc
      refine lv_iconst (v := (0 : Int32)) hx hb d_V_flows_18 (by decide) ?_
      obtain ⟨x12, g13, hf⟩ := jv_ob hf
      rcases x12 with k15 | v14
      · exact jv_ci hf
      have hf := jv_sr hf
      refine jv_csv (W.runS (As := [.int (0 : Int32)]) (rest := []) ⟨hx, hb, hml, hown, hts⟩ (c_V_demand l hl9 (0 : Int32) v14 g13) (jv_cwS hts wa_321 wa_303 wa_322 wa_323 rfl rfl yd_V_demand ⟨Nat.le_of_ble_eq_true rfl, Nat.le_of_ble_eq_true rfl⟩) (jv_pre0t hT) rfl rfl hl.1 rfl (lv_room (Nat.le_of_ble_eq_true rfl)) d_V_flows_19 ⟨Nat.zero_le _, Nat.zero_le _⟩) ?_
      refine lv_iload_n hx hb d_V_flows_22 rfl (lv_at hl 0 rfl) ?_
      refine lv_iload_n hx hb d_V_flows_23 rfl (lv_at hl 1 rfl) ?_
      obtain ⟨x16, g17, hf⟩ := jv_ob hf
      refine jv_cs (W.runS (As := [.int y0, .int y1]) (rest := []) ⟨hx, hb, hml, hown, hts⟩ (c_L_mayFlow l y0 y1 x16 g17) (jv_cwS hts wa_308 wa_1 wa_309 wa_310 rfl rfl yd_L_mayFlow ⟨Nat.le_of_ble_eq_true rfl, Nat.le_of_ble_eq_true rfl⟩) jv_pre0 rfl rfl hl.1 rfl (lv_room (Nat.le_of_ble_eq_true rfl)) d_V_flows_24 ⟨Nat.zero_le _, Nat.zero_le _⟩) ?_
      obtain ⟨hb18, hf⟩ := jv_gd hf
      obtain rfl := Sum.inr.inj (Option.some.inj hf)
      exact W.zret hx hb hr (jv_nb hb18) (fun t ht hW => ⟨rfl, ht⟩) (fun q h => by cases h) d_V_flows_27
    · have hf := jv_if hf hc
      refine lv_iconst (v := (1 : Int32)) hx hb d_V_flows_14 (by decide) ?_
      refine lv_goto (tgt := 19) hx hb d_V_flows_15 (by decide) ?_
      obtain ⟨x19, g20, hf⟩ := jv_ob hf
      rcases x19 with k22 | v21
      · exact jv_ci hf
      have hf := jv_sr hf
      refine jv_csv (W.runS (As := [.int (1 : Int32)]) (rest := []) ⟨hx, hb, hml, hown, hts⟩ (c_V_demand l hl9 (1 : Int32) v21 g20) (jv_cwS hts wa_321 wa_303 wa_322 wa_323 rfl rfl yd_V_demand ⟨Nat.le_of_ble_eq_true rfl, Nat.le_of_ble_eq_true rfl⟩) (jv_pre0t hT) rfl rfl hl.1 rfl (lv_room (Nat.le_of_ble_eq_true rfl)) d_V_flows_19 ⟨Nat.zero_le _, Nat.zero_le _⟩) ?_
      refine lv_iload_n hx hb d_V_flows_22 rfl (lv_at hl 0 rfl) ?_
      refine lv_iload_n hx hb d_V_flows_23 rfl (lv_at hl 1 rfl) ?_
      obtain ⟨x23, g24, hf⟩ := jv_ob hf
      refine jv_cs (W.runS (As := [.int y0, .int y1]) (rest := []) ⟨hx, hb, hml, hown, hts⟩ (c_L_mayFlow l y0 y1 x23 g24) (jv_cwS hts wa_308 wa_1 wa_309 wa_310 rfl rfl yd_L_mayFlow ⟨Nat.le_of_ble_eq_true rfl, Nat.le_of_ble_eq_true rfl⟩) jv_pre0 rfl rfl hl.1 rfl (lv_room (Nat.le_of_ble_eq_true rfl)) d_V_flows_24 ⟨Nat.zero_le _, Nat.zero_le _⟩) ?_
      obtain ⟨hb25, hf⟩ := jv_gd hf
      obtain rfl := Sum.inr.inj (Option.some.inj hf)
      exact W.zret hx hb hr (jv_nb hb25) (fun t ht hW => ⟨rfl, ht⟩) (fun q h => by cases h) d_V_flows_27
def f_V_flows (a0 : Int32) (a1 : Int32) : Option (Nat ⊕ (Int32)) := f_V_flows_0 a0 a1
set_option maxHeartbeats 4000000 in
set_option maxRecDepth 100000 in
theorem c_V_flows (l : Launch) (hl9 : l.stackTraces = false) (dC : Nat → ClassId) (dI : Nat → Nat → Nat) (cI cA cL : ClassId) (q_va q_aa q_cl q_fu : Nat) (Q : Nat → Nat → Nat) (vn : Nat) (vC : Nat → Int32) (vat : Int32) (ars : Nat → jv_ar) (a0 : Int32) (a1 : Int32) (r : Int32) (hf : f_V_flows a0 a1 = some (Sum.inr r)) : Met l y_V_flows ws_V_flows rm_V_flows (jv_Prt [.ref q_va, .int a0, .int a1] (dC, dI) (jv_ty cI cA cL) (w_vault cI cA q_va q_aa q_cl q_fu Q vn vC vat ars)) (QcRead r) 0 0 (fun _ => False) := by
  refine Met.ofW (cc := cc_V_flows) (maxL := 3) (ret := (some .boolean)) (by decide) rfl ?_
  intro p e s m args below meth c s₁ B hml hv
  obtain ⟨rfl, hP, hK, hT⟩ := hv
  have cx : jv_cx p s m _ meth c cc_V_flows 3 R_Vault (some .boolean) ws_V_flows := ⟨B.exec, B.bytes, hml, findClass_of_methodNamed B.named, atoms_spec (ws := ws_V_flows) B.pre, B.returns, B.notSynchronized⟩
  have hout : c.exceptionTable.isEmpty = true := B.noHandlers (atoms_spec (ws := ws_V_flows) B.pre _ List.mem_cons_self)
  have hl := lv_entry ([.ref q_va, .int a0, .int a1]) (n := 3) (Nat.le_of_ble_eq_true rfl)
  rw [lg_entry_eq]
  generalize (lg_sl ([.ref q_va, .int a0, .int a1]) ++ List.replicate (3 - (lg_sl ([.ref q_va, .int a0, .int a1])).length) Slot.unset).toArray = ls at hl ⊢
  have hl : lv_has ls 3 [(0, .ref q_va), (1, .int a0), (2, .int a1)] := hl
  exact b_V_flows_0 (y0 := a0) (y1 := a1) cx hK hP hl9 hT hout (lv_sub hl [1, 2] rfl) hf
set_option maxHeartbeats 4000000 in
set_option maxRecDepth 100000 in
theorem t_V_flows_0 {l : Launch} {dC : Nat → ClassId} {dI : Nat → Nat → Nat} {cI cA cL : ClassId} {q_va q_aa q_cl q_fu : Nat} {Q : Nat → Nat → Nat} {vn : Nat} {vC : Nat → Int32} {vat : Int32} {ars : Nat → jv_ar} {p : Program} {e : Env} {s : State} {m : MethodId} {args : Array Value} {below : List Frame} {meth : Method} {c : Code} (cx : jv_cx p s m args meth c cc_V_flows 3 R_Vault (some .boolean) ws_V_flows) (hK : va_K (dC, dI) vwCl (jv_ty cI cA cL) s) (hP : va_P (dC, dI) vwCl (w_vault cI cA q_va q_aa q_cl q_fu Q vn vC vat ars) s.heap) (hl9 : l.stackTraces = false) (hT : jv_th s) (hout : c.exceptionTable.isEmpty = true) {kx : Nat} {y0 : Int32} {y1 : Int32} {ls : Array Slot} (hl : lv_has ls 3 [(1, .int y0), (2, .int y1)]) (hf : f_V_flows_0 y0 y1 = some (Sum.inl kx)) : W p l e rx_V_flows s m args below meth c s.heap [] 0 0 (jv_MQ below (jv_en kx) args s 1 6) (F0 m 0 ls []) := by
  unfold f_V_flows_0 at hf
  obtain ⟨hx, hb, hml, hown, hts, hr, hlocks⟩ := id cx
  refine lv_iload_n hx hb d_V_flows_0 rfl (lv_at hl 0 rfl) ?_
  obtain ⟨x1, g2, hf⟩ := jv_ob hf
  refine jv_cs (W.runS (As := [.int y0]) (rest := []) ⟨hx, hb, hml, hown, hts⟩ (c_L_isLabel l y0 x1 g2) (jv_cwS hts wa_371 wa_1 wa_372 wa_373 rfl rfl yd_L_isLabel ⟨Nat.le_of_ble_eq_true rfl, Nat.le_of_ble_eq_true rfl⟩) jv_pre0 rfl rfl hl.1 rfl (lv_room (Nat.le_of_ble_eq_true rfl)) d_V_flows_1 ⟨Nat.zero_le _, Nat.zero_le _⟩) ?_
  refine lv_if_eq (tgt := 18) hx hb d_V_flows_4 (by decide) (fun hc => ?_) (fun hc => ?_)
  · have hf := jv_it hf hc
    refine lv_iconst (v := (0 : Int32)) hx hb d_V_flows_18 (by decide) ?_
    obtain ⟨x3, g4, hf⟩ := jv_ob hf
    rcases x3 with k6 | v5
    · rw [jv_sl hf] at g4
      exact jv_xS (cells := 0) (slots := 0) (As := [.int (0 : Int32)]) (rest := []) ⟨hx, hb, hml, hown, hts⟩ (x_V_demand l hl9 (0 : Int32) kx g4) (jv_cwS hts wa_321 wa_303 wa_322 wa_323 rfl rfl yd_V_demand ⟨Nat.le_of_ble_eq_true rfl, Nat.le_of_ble_eq_true rfl⟩) (jv_pre0t hT) rfl rfl hl.1 rfl (lv_room (Nat.le_of_ble_eq_true rfl)) d_V_flows_19 ⟨Nat.le_of_ble_eq_true rfl, Nat.le_of_ble_eq_true rfl⟩ (fun x H1 hob => jv_leave hout hlocks hob)
    have hf := jv_sr hf
    refine jv_csv (W.runS (As := [.int (0 : Int32)]) (rest := []) ⟨hx, hb, hml, hown, hts⟩ (c_V_demand l hl9 (0 : Int32) v5 g4) (jv_cwS hts wa_321 wa_303 wa_322 wa_323 rfl rfl yd_V_demand ⟨Nat.le_of_ble_eq_true rfl, Nat.le_of_ble_eq_true rfl⟩) (jv_pre0t hT) rfl rfl hl.1 rfl (lv_room (Nat.le_of_ble_eq_true rfl)) d_V_flows_19 ⟨Nat.zero_le _, Nat.zero_le _⟩) ?_
    refine lv_iload_n hx hb d_V_flows_22 rfl (lv_at hl 0 rfl) ?_
    refine lv_iload_n hx hb d_V_flows_23 rfl (lv_at hl 1 rfl) ?_
    obtain ⟨x7, g8, hf⟩ := jv_ob hf
    refine jv_cs (W.runS (As := [.int y0, .int y1]) (rest := []) ⟨hx, hb, hml, hown, hts⟩ (c_L_mayFlow l y0 y1 x7 g8) (jv_cwS hts wa_308 wa_1 wa_309 wa_310 rfl rfl yd_L_mayFlow ⟨Nat.le_of_ble_eq_true rfl, Nat.le_of_ble_eq_true rfl⟩) jv_pre0 rfl rfl hl.1 rfl (lv_room (Nat.le_of_ble_eq_true rfl)) d_V_flows_24 ⟨Nat.zero_le _, Nat.zero_le _⟩) ?_
    obtain ⟨hb9, hf⟩ := jv_gd hf
    cases Option.some.inj hf
  · have hf := jv_if hf hc
    refine lv_iload_n hx hb d_V_flows_7 rfl (lv_at hl 1 rfl) ?_
    obtain ⟨x10, g11, hf⟩ := jv_ob hf
    refine jv_cs (W.runS (As := [.int y1]) (rest := []) ⟨hx, hb, hml, hown, hts⟩ (c_L_isLabel l y1 x10 g11) (jv_cwS hts wa_371 wa_1 wa_372 wa_373 rfl rfl yd_L_isLabel ⟨Nat.le_of_ble_eq_true rfl, Nat.le_of_ble_eq_true rfl⟩) jv_pre0 rfl rfl hl.1 rfl (lv_room (Nat.le_of_ble_eq_true rfl)) d_V_flows_8 ⟨Nat.zero_le _, Nat.zero_le _⟩) ?_
    refine lv_if_eq (tgt := 18) hx hb d_V_flows_11 (by decide) (fun hc => ?_) (fun hc => ?_)
    · have hf := jv_it hf hc
      refine lv_iconst (v := (0 : Int32)) hx hb d_V_flows_18 (by decide) ?_
      obtain ⟨x12, g13, hf⟩ := jv_ob hf
      rcases x12 with k15 | v14
      · rw [jv_sl hf] at g13
        exact jv_xS (cells := 0) (slots := 0) (As := [.int (0 : Int32)]) (rest := []) ⟨hx, hb, hml, hown, hts⟩ (x_V_demand l hl9 (0 : Int32) kx g13) (jv_cwS hts wa_321 wa_303 wa_322 wa_323 rfl rfl yd_V_demand ⟨Nat.le_of_ble_eq_true rfl, Nat.le_of_ble_eq_true rfl⟩) (jv_pre0t hT) rfl rfl hl.1 rfl (lv_room (Nat.le_of_ble_eq_true rfl)) d_V_flows_19 ⟨Nat.le_of_ble_eq_true rfl, Nat.le_of_ble_eq_true rfl⟩ (fun x H1 hob => jv_leave hout hlocks hob)
      have hf := jv_sr hf
      refine jv_csv (W.runS (As := [.int (0 : Int32)]) (rest := []) ⟨hx, hb, hml, hown, hts⟩ (c_V_demand l hl9 (0 : Int32) v14 g13) (jv_cwS hts wa_321 wa_303 wa_322 wa_323 rfl rfl yd_V_demand ⟨Nat.le_of_ble_eq_true rfl, Nat.le_of_ble_eq_true rfl⟩) (jv_pre0t hT) rfl rfl hl.1 rfl (lv_room (Nat.le_of_ble_eq_true rfl)) d_V_flows_19 ⟨Nat.zero_le _, Nat.zero_le _⟩) ?_
      refine lv_iload_n hx hb d_V_flows_22 rfl (lv_at hl 0 rfl) ?_
      refine lv_iload_n hx hb d_V_flows_23 rfl (lv_at hl 1 rfl) ?_
      obtain ⟨x16, g17, hf⟩ := jv_ob hf
      refine jv_cs (W.runS (As := [.int y0, .int y1]) (rest := []) ⟨hx, hb, hml, hown, hts⟩ (c_L_mayFlow l y0 y1 x16 g17) (jv_cwS hts wa_308 wa_1 wa_309 wa_310 rfl rfl yd_L_mayFlow ⟨Nat.le_of_ble_eq_true rfl, Nat.le_of_ble_eq_true rfl⟩) jv_pre0 rfl rfl hl.1 rfl (lv_room (Nat.le_of_ble_eq_true rfl)) d_V_flows_24 ⟨Nat.zero_le _, Nat.zero_le _⟩) ?_
      obtain ⟨hb18, hf⟩ := jv_gd hf
      cases Option.some.inj hf
    · have hf := jv_if hf hc
      refine lv_iconst (v := (1 : Int32)) hx hb d_V_flows_14 (by decide) ?_
      refine lv_goto (tgt := 19) hx hb d_V_flows_15 (by decide) ?_
      obtain ⟨x19, g20, hf⟩ := jv_ob hf
      rcases x19 with k22 | v21
      · rw [jv_sl hf] at g20
        exact jv_xS (cells := 0) (slots := 0) (As := [.int (1 : Int32)]) (rest := []) ⟨hx, hb, hml, hown, hts⟩ (x_V_demand l hl9 (1 : Int32) kx g20) (jv_cwS hts wa_321 wa_303 wa_322 wa_323 rfl rfl yd_V_demand ⟨Nat.le_of_ble_eq_true rfl, Nat.le_of_ble_eq_true rfl⟩) (jv_pre0t hT) rfl rfl hl.1 rfl (lv_room (Nat.le_of_ble_eq_true rfl)) d_V_flows_19 ⟨Nat.le_of_ble_eq_true rfl, Nat.le_of_ble_eq_true rfl⟩ (fun x H1 hob => jv_leave hout hlocks hob)
      have hf := jv_sr hf
      refine jv_csv (W.runS (As := [.int (1 : Int32)]) (rest := []) ⟨hx, hb, hml, hown, hts⟩ (c_V_demand l hl9 (1 : Int32) v21 g20) (jv_cwS hts wa_321 wa_303 wa_322 wa_323 rfl rfl yd_V_demand ⟨Nat.le_of_ble_eq_true rfl, Nat.le_of_ble_eq_true rfl⟩) (jv_pre0t hT) rfl rfl hl.1 rfl (lv_room (Nat.le_of_ble_eq_true rfl)) d_V_flows_19 ⟨Nat.zero_le _, Nat.zero_le _⟩) ?_
      refine lv_iload_n hx hb d_V_flows_22 rfl (lv_at hl 0 rfl) ?_
      refine lv_iload_n hx hb d_V_flows_23 rfl (lv_at hl 1 rfl) ?_
      obtain ⟨x23, g24, hf⟩ := jv_ob hf
      refine jv_cs (W.runS (As := [.int y0, .int y1]) (rest := []) ⟨hx, hb, hml, hown, hts⟩ (c_L_mayFlow l y0 y1 x23 g24) (jv_cwS hts wa_308 wa_1 wa_309 wa_310 rfl rfl yd_L_mayFlow ⟨Nat.le_of_ble_eq_true rfl, Nat.le_of_ble_eq_true rfl⟩) jv_pre0 rfl rfl hl.1 rfl (lv_room (Nat.le_of_ble_eq_true rfl)) d_V_flows_24 ⟨Nat.zero_le _, Nat.zero_le _⟩) ?_
      obtain ⟨hb25, hf⟩ := jv_gd hf
      cases Option.some.inj hf
set_option maxHeartbeats 4000000 in
set_option maxRecDepth 100000 in
theorem x_V_flows (l : Launch) (hl9 : l.stackTraces = false) (dC : Nat → ClassId) (dI : Nat → Nat → Nat) (cI cA cL : ClassId) (q_va q_aa q_cl q_fu : Nat) (Q : Nat → Nat → Nat) (vn : Nat) (vC : Nat → Int32) (vat : Int32) (ars : Nat → jv_ar) (a0 : Int32) (a1 : Int32) (kx : Nat) (hf : f_V_flows a0 a1 = some (Sum.inl kx)) : jv_MX l y_V_flows ws_V_flows rx_V_flows (jv_Prt [.ref q_va, .int a0, .int a1] (dC, dI) (jv_ty cI cA cL) (w_vault cI cA q_va q_aa q_cl q_fu Q vn vC vat ars)) (jv_en kx) 1 6 := by
  refine jv_MX.ofW (cc := cc_V_flows) (maxL := 3) (ret := (some .boolean)) (by decide) rfl ?_
  intro p e s m args below meth c s₁ B hml hv
  obtain ⟨rfl, hP, hK, hT⟩ := hv
  have cx : jv_cx p s m _ meth c cc_V_flows 3 R_Vault (some .boolean) ws_V_flows := ⟨B.exec, B.bytes, hml, findClass_of_methodNamed B.named, atoms_spec (ws := ws_V_flows) B.pre, B.returns, B.notSynchronized⟩
  have hout : c.exceptionTable.isEmpty = true := B.noHandlers (atoms_spec (ws := ws_V_flows) B.pre _ List.mem_cons_self)
  have hl := lv_entry ([.ref q_va, .int a0, .int a1]) (n := 3) (Nat.le_of_ble_eq_true rfl)
  rw [lg_entry_eq]
  generalize (lg_sl ([.ref q_va, .int a0, .int a1]) ++ List.replicate (3 - (lg_sl ([.ref q_va, .int a0, .int a1])).length) Slot.unset).toArray = ls at hl ⊢
  have hl : lv_has ls 3 [(0, .ref q_va), (1, .int a0), (2, .int a1)] := hl
  exact t_V_flows_0 (y0 := a0) (y1 := a1) cx hK hP hl9 hT hout (lv_sub hl [1, 2] rfl) hf
theorem d_V_clear_0 : decode cc_V_clear 0 = .ok (.iload_n 1, 1) := by decide +kernel
theorem d_V_clear_1 : decode cc_V_clear 1 = .ok (.invokestatic 60, 3) := by decide +kernel
theorem d_V_clear_4 : decode cc_V_clear 4 = .ok (.ifCond .eq 14, 3) := by decide +kernel
theorem d_V_clear_18 : decode cc_V_clear 18 = .ok (.iconst 0, 1) := by decide +kernel
theorem d_V_clear_19 : decode cc_V_clear 19 = .ok (.invokestatic 36, 3) := by decide +kernel
theorem d_V_clear_22 : decode cc_V_clear 22 = .ok (.aload_n 0, 1) := by decide +kernel
theorem d_V_clear_23 : decode cc_V_clear 23 = .ok (.getfield 19, 3) := by decide +kernel
theorem d_V_clear_26 : decode cc_V_clear 26 = .ok (.iload_n 1, 1) := by decide +kernel
theorem d_V_clear_27 : decode cc_V_clear 27 = .ok (.iload_n 2, 1) := by decide +kernel
theorem d_V_clear_28 : decode cc_V_clear 28 = .ok (.iastore, 1) := by decide +kernel
theorem d_V_clear_29 : decode cc_V_clear 29 = .ok (.iconst 1, 1) := by decide +kernel
theorem d_V_clear_30 : decode cc_V_clear 30 = .ok (.ireturn, 1) := by decide +kernel
theorem d_V_clear_7 : decode cc_V_clear 7 = .ok (.iload_n 2, 1) := by decide +kernel
theorem d_V_clear_8 : decode cc_V_clear 8 = .ok (.invokestatic 30, 3) := by decide +kernel
theorem d_V_clear_11 : decode cc_V_clear 11 = .ok (.ifCond .eq 7, 3) := by decide +kernel
theorem d_V_clear_14 : decode cc_V_clear 14 = .ok (.iconst 1, 1) := by decide +kernel
theorem d_V_clear_15 : decode cc_V_clear 15 = .ok (.goto 4, 3) := by decide +kernel
def f_V_clear_0 (y0 : Int32) (y1 : Int32) (y2 : Nat → Int32) : Option (Nat ⊕ (Int32 × (Nat → Int32))) :=
  (f_V_isUser y0).bind fun x1 => if x1 = 0 then ((f_V_demand (0 : Int32)).bind fun x3 => jv_se x3 fun v5 => (jv_sa y2 4 y0 y1).bind fun F7 => some (Sum.inr ((1 : Int32), F7))) else ((f_L_isLabel y1).bind fun x9 => if x9 = 0 then ((f_V_demand (0 : Int32)).bind fun x11 => jv_se x11 fun v13 => (jv_sa y2 4 y0 y1).bind fun F15 => some (Sum.inr ((1 : Int32), F15))) else ((f_V_demand (1 : Int32)).bind fun x17 => jv_se x17 fun v19 => (jv_sa y2 4 y0 y1).bind fun F21 => some (Sum.inr ((1 : Int32), F21))))
set_option maxHeartbeats 4000000 in
set_option maxRecDepth 100000 in
theorem b_V_clear_0 {l : Launch} {dC : Nat → ClassId} {dI : Nat → Nat → Nat} {cI cA cL : ClassId} {q_va q_aa q_cl q_fu : Nat} {Q : Nat → Nat → Nat} {vn : Nat} {vat : Int32} {ars : Nat → jv_ar} {p : Program} {e : Env} {s : State} {m : MethodId} {args : Array Value} {below : List Frame} {meth : Method} {c : Code} (cx : jv_cx p s m args meth c cc_V_clear 3 R_Vault (some .boolean) ws_V_clear) (hK : va_K (dC, dI) vwCl (jv_ty cI cA cL) s) {A : Nat → Prop} (hA : ∀ q : Nat, s.heap.size ≤ q → A q) (hl9 : l.stackTraces = false) (hT : jv_th s) (hout : c.exceptionTable.isEmpty = true) {r : Int32 × (Nat → Int32)} {y0 : Int32} {y1 : Int32} {y2 : Nat → Int32} {ls : Array Slot} (hl : lv_has ls 3 [(0, .ref q_va), (1, .int y0), (2, .int y1)]) (hP : va_P (dC, dI) vwCl (w_vault cI cA q_va q_aa q_cl q_fu Q vn y2 vat ars) s.heap) (hD : va_D A (w_vault cI cA q_va q_aa q_cl q_fu Q vn y2 vat ars)) (hf : f_V_clear_0 y0 y1 y2 = some (Sum.inr r)) : W p l e rm_V_clear s m args below meth c s.heap [] 0 0 (MQ below (jv_Qi r.1 (dC, dI) (w_vault cI cA q_va q_aa q_cl q_fu Q vn r.2 vat ars) A) args s 0 0 A) (F0 m 0 ls []) := by
  unfold f_V_clear_0 at hf
  obtain ⟨hx, hb, hml, hown, hts, hr, hlocks⟩ := id cx
  have hS : va_S A s.heap s.heap [] := va_S.rf
  refine lv_iload_n hx hb d_V_clear_0 rfl (lv_at hl 1 rfl) ?_
  obtain ⟨x1, g2, hf⟩ := jv_ob hf
  refine jv_cs (W.runS (As := [.int y0]) (rest := []) ⟨hx, hb, hml, hown, hts⟩ (c_V_isUser l y0 x1 g2) (jv_cwS hts wa_374 wa_303 wa_375 wa_376 rfl rfl yd_V_isUser ⟨Nat.le_of_ble_eq_true rfl, Nat.le_of_ble_eq_true rfl⟩) jv_pre0 rfl rfl hl.1 rfl (lv_room (Nat.le_of_ble_eq_true rfl)) d_V_clear_1 ⟨Nat.zero_le _, Nat.zero_le _⟩) ?_
  refine lv_if_eq (tgt := 18) hx hb d_V_clear_4 (by decide) (fun hc => ?_) (fun hc => ?_)
  · have hf := jv_it hf hc
    refine lv_iconst (v := (0 : Int32)) hx hb d_V_clear_18 (by decide) ?_
    obtain ⟨x3, g4, hf⟩ := jv_ob hf
    rcases x3 with k6 | v5
    · exact jv_ci hf
    have hf := jv_sr hf
    refine jv_csv (W.runS (As := [.int (0 : Int32)]) (rest := []) ⟨hx, hb, hml, hown, hts⟩ (c_V_demand l hl9 (0 : Int32) v5 g4) (jv_cwS hts wa_321 wa_303 wa_322 wa_323 rfl rfl yd_V_demand ⟨Nat.le_of_ble_eq_true rfl, Nat.le_of_ble_eq_true rfl⟩) (jv_pre0t hT) rfl rfl hl.1 rfl (lv_room (Nat.le_of_ble_eq_true rfl)) d_V_clear_19 ⟨Nat.zero_le _, Nat.zero_le _⟩) ?_
    refine lv_aload_n hx hb d_V_clear_22 rfl (lv_at hl 0 rfl) ?_
    refine va_get (D := (dC, dI)) (ci := kVault) (v := .ref q_cl) (C := R_Vault) (T := T_Vault) (N := 4) hx hb hts (fun w h => List.mem_cons_of_mem _ (in_Vault w h)) hown hK hP 0 rfl rfl 2 (by decide) (jv_w hts wa_377) (fun _ h9 => h9) rfl d_V_clear_23 ?_
    refine lv_iload_n hx hb d_V_clear_26 rfl (lv_at hl 1 rfl) ?_
    refine lv_iload_n hx hb d_V_clear_27 rfl (lv_at hl 2 rfl) ?_
    obtain ⟨F7, g8, hf⟩ := jv_ob hf
    refine jv_iast hx hb hK hP hD hS 2 0 rfl rfl g8 d_V_clear_28 (fun H locs hP hD hS => ?_)
    have hP : va_P (dC, dI) vwCl (w_vault cI cA q_va q_aa q_cl q_fu Q vn F7 vat ars) H := hP
    have hD : va_D A (w_vault cI cA q_va q_aa q_cl q_fu Q vn F7 vat ars) := hD
    refine lv_iconst (v := (1 : Int32)) hx hb d_V_clear_29 (by decide) ?_
    obtain rfl := Sum.inr.inj (Option.some.inj hf)
    exact W.zret hx hb hr rfl (fun t ht hW => ⟨rfl, by rw [ht]; exact hP, hD, hS.F ht⟩) hS.2.2 d_V_clear_30
  · have hf := jv_if hf hc
    refine lv_iload_n hx hb d_V_clear_7 rfl (lv_at hl 2 rfl) ?_
    obtain ⟨x9, g10, hf⟩ := jv_ob hf
    refine jv_cs (W.runS (As := [.int y1]) (rest := []) ⟨hx, hb, hml, hown, hts⟩ (c_L_isLabel l y1 x9 g10) (jv_cwS hts wa_371 wa_1 wa_372 wa_373 rfl rfl yd_L_isLabel ⟨Nat.le_of_ble_eq_true rfl, Nat.le_of_ble_eq_true rfl⟩) jv_pre0 rfl rfl hl.1 rfl (lv_room (Nat.le_of_ble_eq_true rfl)) d_V_clear_8 ⟨Nat.zero_le _, Nat.zero_le _⟩) ?_
    refine lv_if_eq (tgt := 18) hx hb d_V_clear_11 (by decide) (fun hc => ?_) (fun hc => ?_)
    · have hf := jv_it hf hc
      refine lv_iconst (v := (0 : Int32)) hx hb d_V_clear_18 (by decide) ?_
      obtain ⟨x11, g12, hf⟩ := jv_ob hf
      rcases x11 with k14 | v13
      · exact jv_ci hf
      have hf := jv_sr hf
      refine jv_csv (W.runS (As := [.int (0 : Int32)]) (rest := []) ⟨hx, hb, hml, hown, hts⟩ (c_V_demand l hl9 (0 : Int32) v13 g12) (jv_cwS hts wa_321 wa_303 wa_322 wa_323 rfl rfl yd_V_demand ⟨Nat.le_of_ble_eq_true rfl, Nat.le_of_ble_eq_true rfl⟩) (jv_pre0t hT) rfl rfl hl.1 rfl (lv_room (Nat.le_of_ble_eq_true rfl)) d_V_clear_19 ⟨Nat.zero_le _, Nat.zero_le _⟩) ?_
      refine lv_aload_n hx hb d_V_clear_22 rfl (lv_at hl 0 rfl) ?_
      refine va_get (D := (dC, dI)) (ci := kVault) (v := .ref q_cl) (C := R_Vault) (T := T_Vault) (N := 4) hx hb hts (fun w h => List.mem_cons_of_mem _ (in_Vault w h)) hown hK hP 0 rfl rfl 2 (by decide) (jv_w hts wa_377) (fun _ h9 => h9) rfl d_V_clear_23 ?_
      refine lv_iload_n hx hb d_V_clear_26 rfl (lv_at hl 1 rfl) ?_
      refine lv_iload_n hx hb d_V_clear_27 rfl (lv_at hl 2 rfl) ?_
      obtain ⟨F15, g16, hf⟩ := jv_ob hf
      refine jv_iast hx hb hK hP hD hS 2 0 rfl rfl g16 d_V_clear_28 (fun H locs hP hD hS => ?_)
      have hP : va_P (dC, dI) vwCl (w_vault cI cA q_va q_aa q_cl q_fu Q vn F15 vat ars) H := hP
      have hD : va_D A (w_vault cI cA q_va q_aa q_cl q_fu Q vn F15 vat ars) := hD
      refine lv_iconst (v := (1 : Int32)) hx hb d_V_clear_29 (by decide) ?_
      obtain rfl := Sum.inr.inj (Option.some.inj hf)
      exact W.zret hx hb hr rfl (fun t ht hW => ⟨rfl, by rw [ht]; exact hP, hD, hS.F ht⟩) hS.2.2 d_V_clear_30
    · have hf := jv_if hf hc
      refine lv_iconst (v := (1 : Int32)) hx hb d_V_clear_14 (by decide) ?_
      refine lv_goto (tgt := 19) hx hb d_V_clear_15 (by decide) ?_
      obtain ⟨x17, g18, hf⟩ := jv_ob hf
      rcases x17 with k20 | v19
      · exact jv_ci hf
      have hf := jv_sr hf
      refine jv_csv (W.runS (As := [.int (1 : Int32)]) (rest := []) ⟨hx, hb, hml, hown, hts⟩ (c_V_demand l hl9 (1 : Int32) v19 g18) (jv_cwS hts wa_321 wa_303 wa_322 wa_323 rfl rfl yd_V_demand ⟨Nat.le_of_ble_eq_true rfl, Nat.le_of_ble_eq_true rfl⟩) (jv_pre0t hT) rfl rfl hl.1 rfl (lv_room (Nat.le_of_ble_eq_true rfl)) d_V_clear_19 ⟨Nat.zero_le _, Nat.zero_le _⟩) ?_
      refine lv_aload_n hx hb d_V_clear_22 rfl (lv_at hl 0 rfl) ?_
      refine va_get (D := (dC, dI)) (ci := kVault) (v := .ref q_cl) (C := R_Vault) (T := T_Vault) (N := 4) hx hb hts (fun w h => List.mem_cons_of_mem _ (in_Vault w h)) hown hK hP 0 rfl rfl 2 (by decide) (jv_w hts wa_377) (fun _ h9 => h9) rfl d_V_clear_23 ?_
      refine lv_iload_n hx hb d_V_clear_26 rfl (lv_at hl 1 rfl) ?_
      refine lv_iload_n hx hb d_V_clear_27 rfl (lv_at hl 2 rfl) ?_
      obtain ⟨F21, g22, hf⟩ := jv_ob hf
      refine jv_iast hx hb hK hP hD hS 2 0 rfl rfl g22 d_V_clear_28 (fun H locs hP hD hS => ?_)
      have hP : va_P (dC, dI) vwCl (w_vault cI cA q_va q_aa q_cl q_fu Q vn F21 vat ars) H := hP
      have hD : va_D A (w_vault cI cA q_va q_aa q_cl q_fu Q vn F21 vat ars) := hD
      refine lv_iconst (v := (1 : Int32)) hx hb d_V_clear_29 (by decide) ?_
      obtain rfl := Sum.inr.inj (Option.some.inj hf)
      exact W.zret hx hb hr rfl (fun t ht hW => ⟨rfl, by rw [ht]; exact hP, hD, hS.F ht⟩) hS.2.2 d_V_clear_30
def f_V_clear (a0 : Int32) (a1 : Int32) (vC : Nat → Int32) : Option (Nat ⊕ (Int32 × (Nat → Int32))) := f_V_clear_0 a0 a1 vC
set_option maxHeartbeats 4000000 in
set_option maxRecDepth 100000 in
theorem c_V_clear (l : Launch) (hl9 : l.stackTraces = false) (dC : Nat → ClassId) (dI : Nat → Nat → Nat) (cI cA cL : ClassId) (q_va q_aa q_cl q_fu : Nat) (Q : Nat → Nat → Nat) (vn : Nat) (vC : Nat → Int32) (vat : Int32) (ars : Nat → jv_ar) (a0 : Int32) (a1 : Int32) (sz : Nat) (r : Int32 × (Nat → Int32)) (hf : f_V_clear a0 a1 vC = some (Sum.inr r)) : Met l y_V_clear ws_V_clear rm_V_clear (jv_Pwt [.ref q_va, .int a0, .int a1] (dC, dI) (jv_ty cI cA cL) (w_vault cI cA q_va q_aa q_cl q_fu Q vn vC vat ars) sz) (jv_Qi r.1 (dC, dI) (w_vault cI cA q_va q_aa q_cl q_fu Q vn r.2 vat ars) (va_A (w_vault cI cA q_va q_aa q_cl q_fu Q vn vC vat ars) sz)) 0 0 (va_A (w_vault cI cA q_va q_aa q_cl q_fu Q vn vC vat ars) sz) := by
  refine Met.ofW (cc := cc_V_clear) (maxL := 3) (ret := (some .boolean)) (by decide) rfl ?_
  intro p e s m args below meth c s₁ B hml hv
  obtain ⟨rfl, hsz, hP, hK, hD0, hT⟩ := hv
  have cx : jv_cx p s m _ meth c cc_V_clear 3 R_Vault (some .boolean) ws_V_clear := ⟨B.exec, B.bytes, hml, findClass_of_methodNamed B.named, atoms_spec (ws := ws_V_clear) B.pre, B.returns, B.notSynchronized⟩
  have hout : c.exceptionTable.isEmpty = true := B.noHandlers (atoms_spec (ws := ws_V_clear) B.pre _ List.mem_cons_self)
  subst hsz
  have hD := hD0.self (sz := s.heap.size)
  generalize hAe : va_A (w_vault cI cA q_va q_aa q_cl q_fu Q vn vC vat ars) s.heap.size = A at hD ⊢
  have hA : ∀ q : Nat, s.heap.size ≤ q → A q := fun q h => by rw [← hAe]; exact Or.inr h
  have hS : va_S A s.heap s.heap [] := va_S.rf
  have hl := lv_entry ([.ref q_va, .int a0, .int a1]) (n := 3) (Nat.le_of_ble_eq_true rfl)
  rw [lg_entry_eq]
  generalize (lg_sl ([.ref q_va, .int a0, .int a1]) ++ List.replicate (3 - (lg_sl ([.ref q_va, .int a0, .int a1])).length) Slot.unset).toArray = ls at hl ⊢
  have hl : lv_has ls 3 [(0, .ref q_va), (1, .int a0), (2, .int a1)] := hl
  exact b_V_clear_0 (y0 := a0) (y1 := a1) (y2 := vC) cx hK hA hl9 hT hout (lv_sub hl [0, 1, 2] rfl) hP hD hf
set_option maxHeartbeats 4000000 in
set_option maxRecDepth 100000 in
theorem t_V_clear_0 {l : Launch} {dC : Nat → ClassId} {dI : Nat → Nat → Nat} {cI cA cL : ClassId} {q_va q_aa q_cl q_fu : Nat} {Q : Nat → Nat → Nat} {vn : Nat} {vat : Int32} {ars : Nat → jv_ar} {p : Program} {e : Env} {s : State} {m : MethodId} {args : Array Value} {below : List Frame} {meth : Method} {c : Code} (cx : jv_cx p s m args meth c cc_V_clear 3 R_Vault (some .boolean) ws_V_clear) (hK : va_K (dC, dI) vwCl (jv_ty cI cA cL) s) (hl9 : l.stackTraces = false) (hT : jv_th s) (hout : c.exceptionTable.isEmpty = true) {kx : Nat} {y0 : Int32} {y1 : Int32} {y2 : Nat → Int32} {ls : Array Slot} (hl : lv_has ls 3 [(0, .ref q_va), (1, .int y0), (2, .int y1)]) (hP : va_P (dC, dI) vwCl (w_vault cI cA q_va q_aa q_cl q_fu Q vn y2 vat ars) s.heap) (hf : f_V_clear_0 y0 y1 y2 = some (Sum.inl kx)) : W p l e rx_V_clear s m args below meth c s.heap [] 0 0 (jv_MQ below (jv_en kx) args s 1 6) (F0 m 0 ls []) := by
  unfold f_V_clear_0 at hf
  obtain ⟨hx, hb, hml, hown, hts, hr, hlocks⟩ := id cx
  refine lv_iload_n hx hb d_V_clear_0 rfl (lv_at hl 1 rfl) ?_
  obtain ⟨x1, g2, hf⟩ := jv_ob hf
  refine jv_cs (W.runS (As := [.int y0]) (rest := []) ⟨hx, hb, hml, hown, hts⟩ (c_V_isUser l y0 x1 g2) (jv_cwS hts wa_374 wa_303 wa_375 wa_376 rfl rfl yd_V_isUser ⟨Nat.le_of_ble_eq_true rfl, Nat.le_of_ble_eq_true rfl⟩) jv_pre0 rfl rfl hl.1 rfl (lv_room (Nat.le_of_ble_eq_true rfl)) d_V_clear_1 ⟨Nat.zero_le _, Nat.zero_le _⟩) ?_
  refine lv_if_eq (tgt := 18) hx hb d_V_clear_4 (by decide) (fun hc => ?_) (fun hc => ?_)
  · have hf := jv_it hf hc
    refine lv_iconst (v := (0 : Int32)) hx hb d_V_clear_18 (by decide) ?_
    obtain ⟨x3, g4, hf⟩ := jv_ob hf
    rcases x3 with k6 | v5
    · rw [jv_sl hf] at g4
      exact jv_xS (cells := 0) (slots := 0) (As := [.int (0 : Int32)]) (rest := []) ⟨hx, hb, hml, hown, hts⟩ (x_V_demand l hl9 (0 : Int32) kx g4) (jv_cwS hts wa_321 wa_303 wa_322 wa_323 rfl rfl yd_V_demand ⟨Nat.le_of_ble_eq_true rfl, Nat.le_of_ble_eq_true rfl⟩) (jv_pre0t hT) rfl rfl hl.1 rfl (lv_room (Nat.le_of_ble_eq_true rfl)) d_V_clear_19 ⟨Nat.le_of_ble_eq_true rfl, Nat.le_of_ble_eq_true rfl⟩ (fun x H1 hob => jv_leave hout hlocks hob)
    have hf := jv_sr hf
    refine jv_csv (W.runS (As := [.int (0 : Int32)]) (rest := []) ⟨hx, hb, hml, hown, hts⟩ (c_V_demand l hl9 (0 : Int32) v5 g4) (jv_cwS hts wa_321 wa_303 wa_322 wa_323 rfl rfl yd_V_demand ⟨Nat.le_of_ble_eq_true rfl, Nat.le_of_ble_eq_true rfl⟩) (jv_pre0t hT) rfl rfl hl.1 rfl (lv_room (Nat.le_of_ble_eq_true rfl)) d_V_clear_19 ⟨Nat.zero_le _, Nat.zero_le _⟩) ?_
    refine lv_aload_n hx hb d_V_clear_22 rfl (lv_at hl 0 rfl) ?_
    refine va_get (D := (dC, dI)) (ci := kVault) (v := .ref q_cl) (C := R_Vault) (T := T_Vault) (N := 4) hx hb hts (fun w h => List.mem_cons_of_mem _ (in_Vault w h)) hown hK hP 0 rfl rfl 2 (by decide) (jv_w hts wa_377) (fun _ h9 => h9) rfl d_V_clear_23 ?_
    refine lv_iload_n hx hb d_V_clear_26 rfl (lv_at hl 1 rfl) ?_
    refine lv_iload_n hx hb d_V_clear_27 rfl (lv_at hl 2 rfl) ?_
    obtain ⟨F7, g8, hf⟩ := jv_ob hf
    cases Option.some.inj hf
  · have hf := jv_if hf hc
    refine lv_iload_n hx hb d_V_clear_7 rfl (lv_at hl 2 rfl) ?_
    obtain ⟨x9, g10, hf⟩ := jv_ob hf
    refine jv_cs (W.runS (As := [.int y1]) (rest := []) ⟨hx, hb, hml, hown, hts⟩ (c_L_isLabel l y1 x9 g10) (jv_cwS hts wa_371 wa_1 wa_372 wa_373 rfl rfl yd_L_isLabel ⟨Nat.le_of_ble_eq_true rfl, Nat.le_of_ble_eq_true rfl⟩) jv_pre0 rfl rfl hl.1 rfl (lv_room (Nat.le_of_ble_eq_true rfl)) d_V_clear_8 ⟨Nat.zero_le _, Nat.zero_le _⟩) ?_
    refine lv_if_eq (tgt := 18) hx hb d_V_clear_11 (by decide) (fun hc => ?_) (fun hc => ?_)
    · have hf := jv_it hf hc
      refine lv_iconst (v := (0 : Int32)) hx hb d_V_clear_18 (by decide) ?_
      obtain ⟨x11, g12, hf⟩ := jv_ob hf
      rcases x11 with k14 | v13
      · rw [jv_sl hf] at g12
        exact jv_xS (cells := 0) (slots := 0) (As := [.int (0 : Int32)]) (rest := []) ⟨hx, hb, hml, hown, hts⟩ (x_V_demand l hl9 (0 : Int32) kx g12) (jv_cwS hts wa_321 wa_303 wa_322 wa_323 rfl rfl yd_V_demand ⟨Nat.le_of_ble_eq_true rfl, Nat.le_of_ble_eq_true rfl⟩) (jv_pre0t hT) rfl rfl hl.1 rfl (lv_room (Nat.le_of_ble_eq_true rfl)) d_V_clear_19 ⟨Nat.le_of_ble_eq_true rfl, Nat.le_of_ble_eq_true rfl⟩ (fun x H1 hob => jv_leave hout hlocks hob)
      have hf := jv_sr hf
      refine jv_csv (W.runS (As := [.int (0 : Int32)]) (rest := []) ⟨hx, hb, hml, hown, hts⟩ (c_V_demand l hl9 (0 : Int32) v13 g12) (jv_cwS hts wa_321 wa_303 wa_322 wa_323 rfl rfl yd_V_demand ⟨Nat.le_of_ble_eq_true rfl, Nat.le_of_ble_eq_true rfl⟩) (jv_pre0t hT) rfl rfl hl.1 rfl (lv_room (Nat.le_of_ble_eq_true rfl)) d_V_clear_19 ⟨Nat.zero_le _, Nat.zero_le _⟩) ?_
      refine lv_aload_n hx hb d_V_clear_22 rfl (lv_at hl 0 rfl) ?_
      refine va_get (D := (dC, dI)) (ci := kVault) (v := .ref q_cl) (C := R_Vault) (T := T_Vault) (N := 4) hx hb hts (fun w h => List.mem_cons_of_mem _ (in_Vault w h)) hown hK hP 0 rfl rfl 2 (by decide) (jv_w hts wa_377) (fun _ h9 => h9) rfl d_V_clear_23 ?_
      refine lv_iload_n hx hb d_V_clear_26 rfl (lv_at hl 1 rfl) ?_
      refine lv_iload_n hx hb d_V_clear_27 rfl (lv_at hl 2 rfl) ?_
      obtain ⟨F15, g16, hf⟩ := jv_ob hf
      cases Option.some.inj hf
    · have hf := jv_if hf hc
      refine lv_iconst (v := (1 : Int32)) hx hb d_V_clear_14 (by decide) ?_
      refine lv_goto (tgt := 19) hx hb d_V_clear_15 (by decide) ?_
      obtain ⟨x17, g18, hf⟩ := jv_ob hf
      rcases x17 with k20 | v19
      · rw [jv_sl hf] at g18
        exact jv_xS (cells := 0) (slots := 0) (As := [.int (1 : Int32)]) (rest := []) ⟨hx, hb, hml, hown, hts⟩ (x_V_demand l hl9 (1 : Int32) kx g18) (jv_cwS hts wa_321 wa_303 wa_322 wa_323 rfl rfl yd_V_demand ⟨Nat.le_of_ble_eq_true rfl, Nat.le_of_ble_eq_true rfl⟩) (jv_pre0t hT) rfl rfl hl.1 rfl (lv_room (Nat.le_of_ble_eq_true rfl)) d_V_clear_19 ⟨Nat.le_of_ble_eq_true rfl, Nat.le_of_ble_eq_true rfl⟩ (fun x H1 hob => jv_leave hout hlocks hob)
      have hf := jv_sr hf
      refine jv_csv (W.runS (As := [.int (1 : Int32)]) (rest := []) ⟨hx, hb, hml, hown, hts⟩ (c_V_demand l hl9 (1 : Int32) v19 g18) (jv_cwS hts wa_321 wa_303 wa_322 wa_323 rfl rfl yd_V_demand ⟨Nat.le_of_ble_eq_true rfl, Nat.le_of_ble_eq_true rfl⟩) (jv_pre0t hT) rfl rfl hl.1 rfl (lv_room (Nat.le_of_ble_eq_true rfl)) d_V_clear_19 ⟨Nat.zero_le _, Nat.zero_le _⟩) ?_
      refine lv_aload_n hx hb d_V_clear_22 rfl (lv_at hl 0 rfl) ?_
      refine va_get (D := (dC, dI)) (ci := kVault) (v := .ref q_cl) (C := R_Vault) (T := T_Vault) (N := 4) hx hb hts (fun w h => List.mem_cons_of_mem _ (in_Vault w h)) hown hK hP 0 rfl rfl 2 (by decide) (jv_w hts wa_377) (fun _ h9 => h9) rfl d_V_clear_23 ?_
      refine lv_iload_n hx hb d_V_clear_26 rfl (lv_at hl 1 rfl) ?_
      refine lv_iload_n hx hb d_V_clear_27 rfl (lv_at hl 2 rfl) ?_
      obtain ⟨F21, g22, hf⟩ := jv_ob hf
      cases Option.some.inj hf
set_option maxHeartbeats 4000000 in
set_option maxRecDepth 100000 in
theorem x_V_clear (l : Launch) (hl9 : l.stackTraces = false) (dC : Nat → ClassId) (dI : Nat → Nat → Nat) (cI cA cL : ClassId) (q_va q_aa q_cl q_fu : Nat) (Q : Nat → Nat → Nat) (vn : Nat) (vC : Nat → Int32) (vat : Int32) (ars : Nat → jv_ar) (a0 : Int32) (a1 : Int32) (kx : Nat) (hf : f_V_clear a0 a1 vC = some (Sum.inl kx)) : jv_MX l y_V_clear ws_V_clear rx_V_clear (jv_Prt [.ref q_va, .int a0, .int a1] (dC, dI) (jv_ty cI cA cL) (w_vault cI cA q_va q_aa q_cl q_fu Q vn vC vat ars)) (jv_en kx) 1 6 := by
  refine jv_MX.ofW (cc := cc_V_clear) (maxL := 3) (ret := (some .boolean)) (by decide) rfl ?_
  intro p e s m args below meth c s₁ B hml hv
  obtain ⟨rfl, hP, hK, hT⟩ := hv
  have cx : jv_cx p s m _ meth c cc_V_clear 3 R_Vault (some .boolean) ws_V_clear := ⟨B.exec, B.bytes, hml, findClass_of_methodNamed B.named, atoms_spec (ws := ws_V_clear) B.pre, B.returns, B.notSynchronized⟩
  have hout : c.exceptionTable.isEmpty = true := B.noHandlers (atoms_spec (ws := ws_V_clear) B.pre _ List.mem_cons_self)
  have hl := lv_entry ([.ref q_va, .int a0, .int a1]) (n := 3) (Nat.le_of_ble_eq_true rfl)
  rw [lg_entry_eq]
  generalize (lg_sl ([.ref q_va, .int a0, .int a1]) ++ List.replicate (3 - (lg_sl ([.ref q_va, .int a0, .int a1])).length) Slot.unset).toArray = ls at hl ⊢
  have hl : lv_has ls 3 [(0, .ref q_va), (1, .int a0), (2, .int a1)] := hl
  exact t_V_clear_0 (y0 := a0) (y1 := a1) (y2 := vC) cx hK hl9 hT hout (lv_sub hl [0, 1, 2] rfl) hP hf
theorem d_V_login_0 : decode cc_V_login 0 = .ok (.iload_n 1, 1) := by decide +kernel
theorem d_V_login_1 : decode cc_V_login 1 = .ok (.invokestatic 60, 3) := by decide +kernel
theorem d_V_login_4 : decode cc_V_login 4 = .ok (.invokestatic 36, 3) := by decide +kernel
theorem d_V_login_7 : decode cc_V_login 7 = .ok (.aload_n 0, 1) := by decide +kernel
theorem d_V_login_8 : decode cc_V_login 8 = .ok (.iload_n 2, 1) := by decide +kernel
theorem d_V_login_9 : decode cc_V_login 9 = .ok (.invokevirtual 63, 3) := by decide +kernel
theorem d_V_login_12 : decode cc_V_login 12 = .ok (.astore_n 3, 1) := by decide +kernel
theorem d_V_login_13 : decode cc_V_login 13 = .ok (.aload_n 3, 1) := by decide +kernel
theorem d_V_login_14 : decode cc_V_login 14 = .ok (.getfield 67, 3) := by decide +kernel
theorem d_V_login_17 : decode cc_V_login 17 = .ok (.aload_n 0, 1) := by decide +kernel
theorem d_V_login_18 : decode cc_V_login 18 = .ok (.getfield 19, 3) := by decide +kernel
theorem d_V_login_21 : decode cc_V_login 21 = .ok (.iload_n 1, 1) := by decide +kernel
theorem d_V_login_22 : decode cc_V_login 22 = .ok (.iaload, 1) := by decide +kernel
theorem d_V_login_23 : decode cc_V_login 23 = .ok (.invokestatic 70, 3) := by decide +kernel
theorem d_V_login_26 : decode cc_V_login 26 = .ok (.ifCond .ne 13, 3) := by decide +kernel
theorem d_V_login_39 : decode cc_V_login 39 = .ok (.aload_n 3, 1) := by decide +kernel
theorem d_V_login_40 : decode cc_V_login 40 = .ok (.iload_n 1, 1) := by decide +kernel
theorem d_V_login_41 : decode cc_V_login 41 = .ok (.invokevirtual 75, 3) := by decide +kernel
theorem d_V_login_44 : decode cc_V_login 44 = .ok (.istore 4, 2) := by decide +kernel
theorem d_V_login_46 : decode cc_V_login 46 = .ok (.iload 4, 2) := by decide +kernel
theorem d_V_login_48 : decode cc_V_login 48 = .ok (.iconst (-1), 1) := by decide +kernel
theorem d_V_login_49 : decode cc_V_login 49 = .ok (.if_icmp .ne 8, 3) := by decide +kernel
theorem d_V_login_57 : decode cc_V_login 57 = .ok (.iconst 4, 1) := by decide +kernel
theorem d_V_login_58 : decode cc_V_login 58 = .ok (.iload_n 2, 1) := by decide +kernel
theorem d_V_login_59 : decode cc_V_login 59 = .ok (.imul, 1) := by decide +kernel
theorem d_V_login_60 : decode cc_V_login 60 = .ok (.iload 4, 2) := by decide +kernel
theorem d_V_login_62 : decode cc_V_login 62 = .ok (.iadd, 1) := by decide +kernel
theorem d_V_login_63 : decode cc_V_login 63 = .ok (.ireturn, 1) := by decide +kernel
theorem d_V_login_52 : decode cc_V_login 52 = .ok (.bipush (-2), 2) := by decide +kernel
theorem d_V_login_54 : decode cc_V_login 54 = .ok (.goto 9, 3) := by decide +kernel
theorem d_V_login_29 : decode cc_V_login 29 = .ok (.new 43, 3) := by decide +kernel
theorem d_V_login_35 : decode cc_V_login 35 = .ok (.invokespecial 47, 3) := by decide +kernel
theorem d_V_login_38 : decode cc_V_login 38 = .ok (.athrow, 1) := by decide +kernel
theorem d_V_login_32 : decode cc_V_login 32 = .ok (.dup, 1) := by decide +kernel
theorem d_V_login_33 : decode cc_V_login 33 = .ok (.ldc 73, 2) := by decide +kernel
def f_V_login_0 (vn : Nat) (vC : Nat → Int32) (y0 : Int32) (y1 : Int32) (y2 : Nat → jv_ar) : Option (Nat ⊕ (Int32 × (Nat → jv_ar))) :=
  (f_V_isUser y0).bind fun x1 => (f_V_demand x1).bind fun x3 => jv_se x3 fun v5 => (f_V_areaNumbered vn y1).bind fun x7 => jv_se x7 fun v9 => if v9 < vn then ((jv_ga vC 4 y0).bind fun x12 => (f_L_isWithin ((y2 v9).1) x12).bind fun x14 => if x14 = 0 then (some (Sum.inl 2)) else ((f_A_admit y0 ((y2 v9).2.1)).bind fun x16 => jv_lt (va_up y2 v9 ((y2 v9).1, x16.2, (y2 v9).2.2.1, (y2 v9).2.2.2.1, (y2 v9).2.2.2.2.1, (y2 v9).2.2.2.2.2.1, (y2 v9).2.2.2.2.2.2.1, (y2 v9).2.2.2.2.2.2.2)) fun A18 => if x16.1 = (-1 : Int32) then (some (Sum.inr ((-2 : Int32), A18))) else (some (Sum.inr (((4 : Int32) * y1) + x16.1, A18))))) else none
set_option maxHeartbeats 4000000 in
set_option maxRecDepth 100000 in
theorem b_V_login_0 {l : Launch} {dC : Nat → ClassId} {dI : Nat → Nat → Nat} {cI cA cL : ClassId} {q_va q_aa q_cl q_fu : Nat} {Q : Nat → Nat → Nat} {vn : Nat} {vC : Nat → Int32} {vat : Int32} {p : Program} {e : Env} {s : State} {m : MethodId} {args : Array Value} {below : List Frame} {meth : Method} {c : Code} (cx : jv_cx p s m args meth c cc_V_login 5 R_Vault (some .int) ws_V_login) (hK : va_K (dC, dI) vwCl (jv_ty cI cA cL) s) {A : Nat → Prop} (hA : ∀ q : Nat, s.heap.size ≤ q → A q) (hl9 : l.stackTraces = false) (hT : jv_th s) (hout : c.exceptionTable.isEmpty = true) {r : Int32 × (Nat → jv_ar)} {y0 : Int32} {y1 : Int32} {y2 : Nat → jv_ar} {ls : Array Slot} (hl : lv_has ls 5 [(0, .ref q_va), (1, .int y0), (2, .int y1)]) (hP : va_P (dC, dI) vwCl (w_vault cI cA q_va q_aa q_cl q_fu Q vn vC vat y2) s.heap) (hD : va_D A (w_vault cI cA q_va q_aa q_cl q_fu Q vn vC vat y2)) (hf : f_V_login_0 vn vC y0 y1 y2 = some (Sum.inr r)) : W p l e rm_V_login s m args below meth c s.heap [] 0 0 (MQ below (jv_Qi r.1 (dC, dI) (w_vault cI cA q_va q_aa q_cl q_fu Q vn vC vat r.2) A) args s 0 0 A) (F0 m 0 ls []) := by
  unfold f_V_login_0 at hf
  obtain ⟨hx, hb, hml, hown, hts, hr, hlocks⟩ := id cx
  have hS : va_S A s.heap s.heap [] := va_S.rf
  refine lv_iload_n hx hb d_V_login_0 rfl (lv_at hl 1 rfl) ?_
  obtain ⟨x1, g2, hf⟩ := jv_ob hf
  refine jv_cs (W.runS (As := [.int y0]) (rest := []) ⟨hx, hb, hml, hown, hts⟩ (c_V_isUser l y0 x1 g2) (jv_cwS hts wa_374 wa_303 wa_375 wa_376 rfl rfl yd_V_isUser ⟨Nat.le_of_ble_eq_true rfl, Nat.le_of_ble_eq_true rfl⟩) jv_pre0 rfl rfl hl.1 rfl (lv_room (Nat.le_of_ble_eq_true rfl)) d_V_login_1 ⟨Nat.zero_le _, Nat.zero_le _⟩) ?_
  obtain ⟨x3, g4, hf⟩ := jv_ob hf
  rcases x3 with k6 | v5
  · exact jv_ci hf
  have hf := jv_sr hf
  refine jv_csv (W.runS (As := [.int x1]) (rest := []) ⟨hx, hb, hml, hown, hts⟩ (c_V_demand l hl9 x1 v5 g4) (jv_cwS hts wa_321 wa_303 wa_322 wa_323 rfl rfl yd_V_demand ⟨Nat.le_of_ble_eq_true rfl, Nat.le_of_ble_eq_true rfl⟩) (jv_pre0t hT) rfl rfl hl.1 rfl (lv_room (Nat.le_of_ble_eq_true rfl)) d_V_login_4 ⟨Nat.zero_le _, Nat.zero_le _⟩) ?_
  refine lv_aload_n hx hb d_V_login_7 rfl (lv_at hl 0 rfl) ?_
  refine lv_iload_n hx hb d_V_login_8 rfl (lv_at hl 2 rfl) ?_
  obtain ⟨x7, g8, hf⟩ := jv_ob hf
  rcases x7 with k10 | v9
  · exact jv_ci hf
  have hf := jv_sr hf
  obtain ⟨hj11, hf⟩ := jv_gd hf
  refine jv_csr (W.runV (As := [.int y1]) (rest := []) (b := q_va) ⟨hx, hb, hml, hown, hts⟩ (c_V_areaNumbered l hl9 dC dI cI cA cL q_va q_aa q_cl q_fu Q vn vC vat y2 y1 v9 g8) (jv_cwV hts wa_378 wa_303 wa_379 wa_380 wa_381 rfl rfl yd_V_areaNumbered ⟨Nat.le_of_ble_eq_true rfl, Nat.le_of_ble_eq_true rfl⟩) (jv_preVt hT hK hP 0 rfl rfl) rfl rfl hl.1 rfl (lv_room (Nat.le_of_ble_eq_true rfl)) d_V_login_9 ⟨Nat.zero_le _, Nat.zero_le _⟩) ?_
  refine lv_astore_n (lv' := [(3, .ref (Q v9 0)), (0, .ref q_va), (1, .int y0), (2, .int y1)]) hx hb d_V_login_12 rfl hl (by decide) rfl (fun ls hl => ?_)
  refine lv_aload_n hx hb d_V_login_13 rfl (lv_at hl 0 rfl) ?_
  refine va_get (D := (dC, dI)) (ci := kArea) (v := .int ((y2 v9).1)) (C := R_Area) (T := T_Area) (N := 5) hx hb hts (fun w h => List.mem_cons_of_mem _ (in_Area w h)) hown hK (jv_open hP hj11) 1 rfl rfl 0 (by decide) (jv_w hts wa_301) (fun _ h9 => h9) rfl d_V_login_14 ?_
  refine lv_aload_n hx hb d_V_login_17 rfl (lv_at hl 1 rfl) ?_
  refine va_get (D := (dC, dI)) (ci := kVault) (v := .ref q_cl) (C := R_Vault) (T := T_Vault) (N := 4) hx hb hts (fun w h => List.mem_cons_of_mem _ (in_Vault w h)) hown hK hP 0 rfl rfl 2 (by decide) (jv_w hts wa_377) (fun _ h9 => h9) rfl d_V_login_18 ?_
  refine lv_iload_n hx hb d_V_login_21 rfl (lv_at hl 2 rfl) ?_
  obtain ⟨x12, g13, hf⟩ := jv_ob hf
  refine jv_iald hx hb hK hP 2 0 rfl rfl g13 d_V_login_22 ?_
  obtain ⟨x14, g15, hf⟩ := jv_ob hf
  refine jv_cs (W.runS (As := [.int ((y2 v9).1), .int x12]) (rest := []) ⟨hx, hb, hml, hown, hts⟩ (c_L_isWithin l ((y2 v9).1) x12 x14 g15) (jv_cwS hts wa_382 wa_1 wa_383 wa_384 rfl rfl yd_L_isWithin ⟨Nat.le_of_ble_eq_true rfl, Nat.le_of_ble_eq_true rfl⟩) jv_pre0 rfl rfl hl.1 rfl (lv_room (Nat.le_of_ble_eq_true rfl)) d_V_login_23 ⟨Nat.zero_le _, Nat.zero_le _⟩) ?_
  refine lv_if_ne (tgt := 39) hx hb d_V_login_26 (by decide) (fun hc => ?_) (fun hc => ?_)
  · have hf := jv_if hf hc
    refine lv_aload_n hx hb d_V_login_39 rfl (lv_at hl 0 rfl) ?_
    refine lv_iload_n hx hb d_V_login_40 rfl (lv_at hl 2 rfl) ?_
    obtain ⟨x16, g17, hf⟩ := jv_ob hf
    have hPj := jv_open hP hj11
    have hDj := jv_openD hD hj11
    have hPc := hPj.sub (ws' := (w_area cI (Q v9 0) (Q v9 1) (Q v9 2) (Q v9 6) (Q v9 7) ((y2 v9).1) ((y2 v9).2.1))) [1, 2] rfl
    have hDc := hDj.sub (ws' := (w_area cI (Q v9 0) (Q v9 1) (Q v9 2) (Q v9 6) (Q v9 7) ((y2 v9).1) ((y2 v9).2.1))) [1, 2] (by decide) rfl
    have hFc := va_free (wc := (w_area cI (Q v9 0) (Q v9 1) (Q v9 2) (Q v9 6) (Q v9 7) ((y2 v9).1) ((y2 v9).2.1))) hDj hS hA [1, 2] rfl
    refine jv_cwi (va_runV (As := [.int y0]) (rest := []) (b := (Q v9 0)) ⟨hx, hb, hml, hown, hts⟩ (c_A_admit l dC dI cI cA cL (Q v9 0) (Q v9 1) (Q v9 2) (Q v9 6) (Q v9 7) ((y2 v9).1) ((y2 v9).2.1) y0 s.heap.size x16 g17) (jv_cwV hts wa_385 wa_351 wa_386 wa_387 wa_388 rfl rfl yd_A_admit ⟨Nat.le_of_ble_eq_true rfl, Nat.le_of_ble_eq_true rfl⟩) (jv_preVW hK hPc hDc 0 rfl rfl) rfl rfl hl.1 rfl (lv_room (Nat.le_of_ble_eq_true rfl)) d_V_login_41 ⟨Nat.zero_le _, Nat.zero_le _⟩) hS hFc (fun H1 locs hP1 hD1 hk1 hS => ?_)
    obtain ⟨hPk, hDk⟩ := va_join (wc := (w_area cI (Q v9 0) (Q v9 1) (Q v9 2) (Q v9 6) (Q v9 7) ((y2 v9).1) ((y2 v9).2.1))) (wr := [(q_fu, .inr (kFuse, [.int vat])), (Q v9 2, .inr (kDisk, [.ref (Q v9 3), .ref (Q v9 4), .ref (Q v9 5), .int (y2 v9).2.2.2.2.2.1, .int (y2 v9).2.2.2.2.2.2.1, .int (y2 v9).2.2.2.2.2.2.2])), (Q v9 3, .inl (cI, 232, .inl (y2 v9).2.2.1)), (Q v9 4, .inl (cI, 232, .inl (y2 v9).2.2.2.1)), (Q v9 5, .inl (cI, 232, .inl (y2 v9).2.2.2.2.1)), (Q v9 6, .inr (kTree, [.ref (Q v9 2)])), (Q v9 7, .inr (kCont, [.ref (Q v9 2)]))]) (w1 := (w_area cI (Q v9 0) (Q v9 1) (Q v9 2) (Q v9 6) (Q v9 7) ((y2 v9).1) x16.2)) hPj hDj [1, 2] [0, 3, 4, 5, 6, 7, 8] rfl rfl (by decide) (by decide) hk1 hFc hP1 hD1
    have hPk : va_P (dC, dI) vwCl (w_focus cI q_fu Q v9 vat ((y2 v9).1, x16.2, (y2 v9).2.2.1, (y2 v9).2.2.2.1, (y2 v9).2.2.2.2.1, (y2 v9).2.2.2.2.2.1, (y2 v9).2.2.2.2.2.2.1, (y2 v9).2.2.2.2.2.2.2)) H1 := hPk.sub [0, 7, 8, 1, 2, 3, 4, 5, 6] rfl
    have hkk := jv_out (ws := (w_focus cI q_fu Q v9 vat (y2 v9))) (wc := (w_area cI (Q v9 0) (Q v9 1) (Q v9 2) (Q v9 6) (Q v9 7) ((y2 v9).1) ((y2 v9).2.1))) [1, 2] rfl hk1
    obtain ⟨hP, hD⟩ := jv_close hP hD hj11 hkk hPk
    obtain ⟨A18, e19, hf⟩ := jv_le hf
    rw [← e19] at hP hD
    have hP : va_P (dC, dI) vwCl (w_vault cI cA q_va q_aa q_cl q_fu Q vn vC vat A18) H1 := hP
    have hD : va_D A (w_vault cI cA q_va q_aa q_cl q_fu Q vn vC vat A18) := hD
    generalize H1 = H at hP hS ⊢
    refine lv_istore (lv' := [(4, .int x16.1), (3, .ref (Q v9 0)), (0, .ref q_va), (1, .int y0), (2, .int y1)]) hx hb d_V_login_44 hl (by decide) rfl (fun ls hl => ?_)
    refine lv_iload hx hb d_V_login_46 (lv_at hl 0 rfl) ?_
    refine lv_iconst (v := (-1 : Int32)) hx hb d_V_login_48 (by decide) ?_
    refine lv_icmp_ne (tgt := 57) hx hb d_V_login_49 (by decide) (fun hc => ?_) (fun hc => ?_)
    · have hf := jv_if hf hc
      refine lv_iconst (v := (4 : Int32)) hx hb d_V_login_57 (by decide) ?_
      refine lv_iload_n hx hb d_V_login_58 rfl (lv_at hl 4 rfl) ?_
      refine lv_imul hx hb d_V_login_59 ?_
      refine lv_iload hx hb d_V_login_60 (lv_at hl 0 rfl) ?_
      refine lv_iadd hx hb d_V_login_62 ?_
      obtain rfl := Sum.inr.inj (Option.some.inj hf)
      exact W.iret hx hb hr (fun t ht hW => ⟨rfl, by rw [ht]; exact hP, hD, hS.F ht⟩) hS.2.2 d_V_login_63
    · have hf := jv_it hf hc
      refine lv_bipush (v := (-2 : Int32)) hx hb d_V_login_52 (by decide) ?_
      refine lv_goto (tgt := 63) hx hb d_V_login_54 (by decide) ?_
      obtain rfl := Sum.inr.inj (Option.some.inj hf)
      exact W.iret hx hb hr (fun t ht hW => ⟨rfl, by rw [ht]; exact hP, hD, hS.F ht⟩) hS.2.2 d_V_login_63
  · have hf := jv_it hf hc
    cases Option.some.inj hf
def f_V_login (vn : Nat) (vC : Nat → Int32) (a0 : Int32) (a1 : Int32) (ars : Nat → jv_ar) : Option (Nat ⊕ (Int32 × (Nat → jv_ar))) := f_V_login_0 vn vC a0 a1 ars
set_option maxHeartbeats 4000000 in
set_option maxRecDepth 100000 in
theorem c_V_login (l : Launch) (hl9 : l.stackTraces = false) (dC : Nat → ClassId) (dI : Nat → Nat → Nat) (cI cA cL : ClassId) (q_va q_aa q_cl q_fu : Nat) (Q : Nat → Nat → Nat) (vn : Nat) (vC : Nat → Int32) (vat : Int32) (ars : Nat → jv_ar) (a0 : Int32) (a1 : Int32) (sz : Nat) (r : Int32 × (Nat → jv_ar)) (hf : f_V_login vn vC a0 a1 ars = some (Sum.inr r)) : Met l y_V_login ws_V_login rm_V_login (jv_Pwt [.ref q_va, .int a0, .int a1] (dC, dI) (jv_ty cI cA cL) (w_vault cI cA q_va q_aa q_cl q_fu Q vn vC vat ars) sz) (jv_Qi r.1 (dC, dI) (w_vault cI cA q_va q_aa q_cl q_fu Q vn vC vat r.2) (va_A (w_vault cI cA q_va q_aa q_cl q_fu Q vn vC vat ars) sz)) 0 0 (va_A (w_vault cI cA q_va q_aa q_cl q_fu Q vn vC vat ars) sz) := by
  refine Met.ofW (cc := cc_V_login) (maxL := 5) (ret := (some .int)) (by decide) rfl ?_
  intro p e s m args below meth c s₁ B hml hv
  obtain ⟨rfl, hsz, hP, hK, hD0, hT⟩ := hv
  have cx : jv_cx p s m _ meth c cc_V_login 5 R_Vault (some .int) ws_V_login := ⟨B.exec, B.bytes, hml, findClass_of_methodNamed B.named, atoms_spec (ws := ws_V_login) B.pre, B.returns, B.notSynchronized⟩
  have hout : c.exceptionTable.isEmpty = true := B.noHandlers (atoms_spec (ws := ws_V_login) B.pre _ List.mem_cons_self)
  subst hsz
  have hD := hD0.self (sz := s.heap.size)
  generalize hAe : va_A (w_vault cI cA q_va q_aa q_cl q_fu Q vn vC vat ars) s.heap.size = A at hD ⊢
  have hA : ∀ q : Nat, s.heap.size ≤ q → A q := fun q h => by rw [← hAe]; exact Or.inr h
  have hS : va_S A s.heap s.heap [] := va_S.rf
  have hl := lv_entry ([.ref q_va, .int a0, .int a1]) (n := 5) (Nat.le_of_ble_eq_true rfl)
  rw [lg_entry_eq]
  generalize (lg_sl ([.ref q_va, .int a0, .int a1]) ++ List.replicate (5 - (lg_sl ([.ref q_va, .int a0, .int a1])).length) Slot.unset).toArray = ls at hl ⊢
  have hl : lv_has ls 5 [(0, .ref q_va), (1, .int a0), (2, .int a1)] := hl
  exact b_V_login_0 (y0 := a0) (y1 := a1) (y2 := ars) cx hK hA hl9 hT hout (lv_sub hl [0, 1, 2] rfl) hP hD hf
set_option maxHeartbeats 4000000 in
set_option maxRecDepth 100000 in
theorem t_V_login_0 {l : Launch} {dC : Nat → ClassId} {dI : Nat → Nat → Nat} {cI cA cL : ClassId} {q_va q_aa q_cl q_fu : Nat} {Q : Nat → Nat → Nat} {vn : Nat} {vC : Nat → Int32} {vat : Int32} {p : Program} {e : Env} {s : State} {m : MethodId} {args : Array Value} {below : List Frame} {meth : Method} {c : Code} (cx : jv_cx p s m args meth c cc_V_login 5 R_Vault (some .int) ws_V_login) (hK : va_K (dC, dI) vwCl (jv_ty cI cA cL) s) (hl9 : l.stackTraces = false) (hT : jv_th s) (hout : c.exceptionTable.isEmpty = true) {kx : Nat} {y0 : Int32} {y1 : Int32} {y2 : Nat → jv_ar} {ls : Array Slot} (hl : lv_has ls 5 [(0, .ref q_va), (1, .int y0), (2, .int y1)]) (hP : va_P (dC, dI) vwCl (w_vault cI cA q_va q_aa q_cl q_fu Q vn vC vat y2) s.heap) (hf : f_V_login_0 vn vC y0 y1 y2 = some (Sum.inl kx)) : W p l e rx_V_login s m args below meth c s.heap [] 0 0 (jv_MQ below (jv_en kx) args s 1 6) (F0 m 0 ls []) := by
  unfold f_V_login_0 at hf
  obtain ⟨hx, hb, hml, hown, hts, hr, hlocks⟩ := id cx
  refine lv_iload_n hx hb d_V_login_0 rfl (lv_at hl 1 rfl) ?_
  obtain ⟨x1, g2, hf⟩ := jv_ob hf
  refine jv_cs (W.runS (As := [.int y0]) (rest := []) ⟨hx, hb, hml, hown, hts⟩ (c_V_isUser l y0 x1 g2) (jv_cwS hts wa_374 wa_303 wa_375 wa_376 rfl rfl yd_V_isUser ⟨Nat.le_of_ble_eq_true rfl, Nat.le_of_ble_eq_true rfl⟩) jv_pre0 rfl rfl hl.1 rfl (lv_room (Nat.le_of_ble_eq_true rfl)) d_V_login_1 ⟨Nat.zero_le _, Nat.zero_le _⟩) ?_
  obtain ⟨x3, g4, hf⟩ := jv_ob hf
  rcases x3 with k6 | v5
  · rw [jv_sl hf] at g4
    exact jv_xS (cells := 0) (slots := 0) (As := [.int x1]) (rest := []) ⟨hx, hb, hml, hown, hts⟩ (x_V_demand l hl9 x1 kx g4) (jv_cwS hts wa_321 wa_303 wa_322 wa_323 rfl rfl yd_V_demand ⟨Nat.le_of_ble_eq_true rfl, Nat.le_of_ble_eq_true rfl⟩) (jv_pre0t hT) rfl rfl hl.1 rfl (lv_room (Nat.le_of_ble_eq_true rfl)) d_V_login_4 ⟨Nat.le_of_ble_eq_true rfl, Nat.le_of_ble_eq_true rfl⟩ (fun x H1 hob => jv_leave hout hlocks hob)
  have hf := jv_sr hf
  refine jv_csv (W.runS (As := [.int x1]) (rest := []) ⟨hx, hb, hml, hown, hts⟩ (c_V_demand l hl9 x1 v5 g4) (jv_cwS hts wa_321 wa_303 wa_322 wa_323 rfl rfl yd_V_demand ⟨Nat.le_of_ble_eq_true rfl, Nat.le_of_ble_eq_true rfl⟩) (jv_pre0t hT) rfl rfl hl.1 rfl (lv_room (Nat.le_of_ble_eq_true rfl)) d_V_login_4 ⟨Nat.zero_le _, Nat.zero_le _⟩) ?_
  refine lv_aload_n hx hb d_V_login_7 rfl (lv_at hl 0 rfl) ?_
  refine lv_iload_n hx hb d_V_login_8 rfl (lv_at hl 2 rfl) ?_
  obtain ⟨x7, g8, hf⟩ := jv_ob hf
  rcases x7 with k10 | v9
  · rw [jv_sl hf] at g8
    exact jv_xV (cells := 0) (slots := 0) (As := [.int y1]) (rest := []) (b := q_va) ⟨hx, hb, hml, hown, hts⟩ (x_V_areaNumbered l hl9 dC dI cI cA cL q_va q_aa q_cl q_fu Q vn vC vat y2 y1 kx g8) (jv_cwV hts wa_378 wa_303 wa_379 wa_380 wa_381 rfl rfl yd_V_areaNumbered ⟨Nat.le_of_ble_eq_true rfl, Nat.le_of_ble_eq_true rfl⟩) (jv_preVt hT hK hP 0 rfl rfl) rfl rfl hl.1 rfl (lv_room (Nat.le_of_ble_eq_true rfl)) d_V_login_9 ⟨Nat.le_of_ble_eq_true rfl, Nat.le_of_ble_eq_true rfl⟩ (fun x H1 hob => jv_leave hout hlocks hob)
  have hf := jv_sr hf
  obtain ⟨hj11, hf⟩ := jv_gd hf
  refine jv_csr (W.runV (As := [.int y1]) (rest := []) (b := q_va) ⟨hx, hb, hml, hown, hts⟩ (c_V_areaNumbered l hl9 dC dI cI cA cL q_va q_aa q_cl q_fu Q vn vC vat y2 y1 v9 g8) (jv_cwV hts wa_378 wa_303 wa_379 wa_380 wa_381 rfl rfl yd_V_areaNumbered ⟨Nat.le_of_ble_eq_true rfl, Nat.le_of_ble_eq_true rfl⟩) (jv_preVt hT hK hP 0 rfl rfl) rfl rfl hl.1 rfl (lv_room (Nat.le_of_ble_eq_true rfl)) d_V_login_9 ⟨Nat.zero_le _, Nat.zero_le _⟩) ?_
  refine lv_astore_n (lv' := [(3, .ref (Q v9 0)), (0, .ref q_va), (1, .int y0), (2, .int y1)]) hx hb d_V_login_12 rfl hl (by decide) rfl (fun ls hl => ?_)
  refine lv_aload_n hx hb d_V_login_13 rfl (lv_at hl 0 rfl) ?_
  refine va_get (D := (dC, dI)) (ci := kArea) (v := .int ((y2 v9).1)) (C := R_Area) (T := T_Area) (N := 5) hx hb hts (fun w h => List.mem_cons_of_mem _ (in_Area w h)) hown hK (jv_open hP hj11) 1 rfl rfl 0 (by decide) (jv_w hts wa_301) (fun _ h9 => h9) rfl d_V_login_14 ?_
  refine lv_aload_n hx hb d_V_login_17 rfl (lv_at hl 1 rfl) ?_
  refine va_get (D := (dC, dI)) (ci := kVault) (v := .ref q_cl) (C := R_Vault) (T := T_Vault) (N := 4) hx hb hts (fun w h => List.mem_cons_of_mem _ (in_Vault w h)) hown hK hP 0 rfl rfl 2 (by decide) (jv_w hts wa_377) (fun _ h9 => h9) rfl d_V_login_18 ?_
  refine lv_iload_n hx hb d_V_login_21 rfl (lv_at hl 2 rfl) ?_
  obtain ⟨x12, g13, hf⟩ := jv_ob hf
  refine jv_iald hx hb hK hP 2 0 rfl rfl g13 d_V_login_22 ?_
  obtain ⟨x14, g15, hf⟩ := jv_ob hf
  refine jv_cs (W.runS (As := [.int ((y2 v9).1), .int x12]) (rest := []) ⟨hx, hb, hml, hown, hts⟩ (c_L_isWithin l ((y2 v9).1) x12 x14 g15) (jv_cwS hts wa_382 wa_1 wa_383 wa_384 rfl rfl yd_L_isWithin ⟨Nat.le_of_ble_eq_true rfl, Nat.le_of_ble_eq_true rfl⟩) jv_pre0 rfl rfl hl.1 rfl (lv_room (Nat.le_of_ble_eq_true rfl)) d_V_login_23 ⟨Nat.zero_le _, Nat.zero_le _⟩) ?_
  refine lv_if_ne (tgt := 39) hx hb d_V_login_26 (by decide) (fun hc => ?_) (fun hc => ?_)
  · have hf := jv_if hf hc
    refine lv_aload_n hx hb d_V_login_39 rfl (lv_at hl 0 rfl) ?_
    refine lv_iload_n hx hb d_V_login_40 rfl (lv_at hl 2 rfl) ?_
    obtain ⟨x16, g17, hf⟩ := jv_ob hf
    obtain ⟨A18, e19, hf⟩ := jv_le hf
    by_cases hc : x16.1 = (-1 : Int32)
    · have hf := jv_it hf hc
      cases Option.some.inj hf
    · have hf := jv_if hf hc
      cases Option.some.inj hf
  · have hf := jv_it hf hc
    obtain rfl := Sum.inl.inj (Option.some.inj hf)
    refine W.newc hx hb hown (jv_w hts wa_333) (jv_w hts wa_334) (jv_w hts wa_335) rfl d_V_login_29 (Nat.le_of_ble_eq_true rfl) (Nat.le_of_ble_eq_true rfl) (fun cC kC h1 h2 h3 h4 => ?_)
    refine W.eq (g2 := F0 m 32 ls (.ref s.heap.size :: [])) rfl ?_
    refine lv_dup hx hb d_V_login_32 rfl ?_
    obtain ⟨sa, hsa⟩ := hT.2.2 (73, "the clearance is not enough for this area") (by decide +kernel)
    refine va_ldcS (own := R_Vault) hx hb hown hsa d_V_login_33 ?_
    exact jv_throwS (names := ["java/lang/RuntimeException", "java/lang/Exception"]) hx hb hl9 hlocks (hl.1.trans hml.symm) hown (by decide +kernel) (by decide +kernel) (jv_own hts hT oa_47) hout h1 h2 jv_fresh (Nat.le_refl _) d_V_login_35 d_V_login_38 (Nat.le_of_ble_eq_true rfl) (Nat.le_of_ble_eq_true rfl)
set_option maxHeartbeats 4000000 in
set_option maxRecDepth 100000 in
theorem x_V_login (l : Launch) (hl9 : l.stackTraces = false) (dC : Nat → ClassId) (dI : Nat → Nat → Nat) (cI cA cL : ClassId) (q_va q_aa q_cl q_fu : Nat) (Q : Nat → Nat → Nat) (vn : Nat) (vC : Nat → Int32) (vat : Int32) (ars : Nat → jv_ar) (a0 : Int32) (a1 : Int32) (kx : Nat) (hf : f_V_login vn vC a0 a1 ars = some (Sum.inl kx)) : jv_MX l y_V_login ws_V_login rx_V_login (jv_Prt [.ref q_va, .int a0, .int a1] (dC, dI) (jv_ty cI cA cL) (w_vault cI cA q_va q_aa q_cl q_fu Q vn vC vat ars)) (jv_en kx) 1 6 := by
  refine jv_MX.ofW (cc := cc_V_login) (maxL := 5) (ret := (some .int)) (by decide) rfl ?_
  intro p e s m args below meth c s₁ B hml hv
  obtain ⟨rfl, hP, hK, hT⟩ := hv
  have cx : jv_cx p s m _ meth c cc_V_login 5 R_Vault (some .int) ws_V_login := ⟨B.exec, B.bytes, hml, findClass_of_methodNamed B.named, atoms_spec (ws := ws_V_login) B.pre, B.returns, B.notSynchronized⟩
  have hout : c.exceptionTable.isEmpty = true := B.noHandlers (atoms_spec (ws := ws_V_login) B.pre _ List.mem_cons_self)
  have hl := lv_entry ([.ref q_va, .int a0, .int a1]) (n := 5) (Nat.le_of_ble_eq_true rfl)
  rw [lg_entry_eq]
  generalize (lg_sl ([.ref q_va, .int a0, .int a1]) ++ List.replicate (5 - (lg_sl ([.ref q_va, .int a0, .int a1])).length) Slot.unset).toArray = ls at hl ⊢
  have hl : lv_has ls 5 [(0, .ref q_va), (1, .int a0), (2, .int a1)] := hl
  exact t_V_login_0 (y0 := a0) (y1 := a1) (y2 := ars) cx hK hl9 hT hout (lv_sub hl [0, 1, 2] rfl) hP hf
theorem d_V_logout_0 : decode cc_V_logout 0 = .ok (.aload_n 0, 1) := by decide +kernel
theorem d_V_logout_1 : decode cc_V_logout 1 = .ok (.iload_n 1, 1) := by decide +kernel
theorem d_V_logout_2 : decode cc_V_logout 2 = .ok (.invokevirtual 79, 3) := by decide +kernel
theorem d_V_logout_5 : decode cc_V_logout 5 = .ok (.astore_n 2, 1) := by decide +kernel
theorem d_V_logout_6 : decode cc_V_logout 6 = .ok (.aload_n 2, 1) := by decide +kernel
theorem d_V_logout_7 : decode cc_V_logout 7 = .ok (.iload_n 1, 1) := by decide +kernel
theorem d_V_logout_8 : decode cc_V_logout 8 = .ok (.iconst 4, 1) := by decide +kernel
theorem d_V_logout_9 : decode cc_V_logout 9 = .ok (.irem, 1) := by decide +kernel
theorem d_V_logout_10 : decode cc_V_logout 10 = .ok (.invokevirtual 82, 3) := by decide +kernel
theorem d_V_logout_13 : decode cc_V_logout 13 = .ok (.ireturn, 1) := by decide +kernel
def f_V_logout_0 (vn : Nat) (y0 : Int32) (y1 : Nat → jv_ar) : Option (Nat ⊕ (Int32 × (Nat → jv_ar))) :=
  (f_V_areaOf vn y1 y0).bind fun x1 => jv_se x1 fun v3 => if v3 < vn then ((f_A_dismiss (y0 - y0 / (4 : Int32) * (4 : Int32)) ((y1 v3).2.1)).bind fun x6 => jv_lt (va_up y1 v3 ((y1 v3).1, x6.2, (y1 v3).2.2.1, (y1 v3).2.2.2.1, (y1 v3).2.2.2.2.1, (y1 v3).2.2.2.2.2.1, (y1 v3).2.2.2.2.2.2.1, (y1 v3).2.2.2.2.2.2.2)) fun A8 => some (Sum.inr (x6.1, A8))) else none
set_option maxHeartbeats 4000000 in
set_option maxRecDepth 100000 in
theorem b_V_logout_0 {l : Launch} {dC : Nat → ClassId} {dI : Nat → Nat → Nat} {cI cA cL : ClassId} {q_va q_aa q_cl q_fu : Nat} {Q : Nat → Nat → Nat} {vn : Nat} {vC : Nat → Int32} {vat : Int32} {p : Program} {e : Env} {s : State} {m : MethodId} {args : Array Value} {below : List Frame} {meth : Method} {c : Code} (cx : jv_cx p s m args meth c cc_V_logout 3 R_Vault (some .int) ws_V_logout) (hK : va_K (dC, dI) vwCl (jv_ty cI cA cL) s) {A : Nat → Prop} (hA : ∀ q : Nat, s.heap.size ≤ q → A q) (hl9 : l.stackTraces = false) (hT : jv_th s) (hout : c.exceptionTable.isEmpty = true) {r : Int32 × (Nat → jv_ar)} {y0 : Int32} {y1 : Nat → jv_ar} {ls : Array Slot} (hl : lv_has ls 3 [(0, .ref q_va), (1, .int y0)]) (hP : va_P (dC, dI) vwCl (w_vault cI cA q_va q_aa q_cl q_fu Q vn vC vat y1) s.heap) (hD : va_D A (w_vault cI cA q_va q_aa q_cl q_fu Q vn vC vat y1)) (hf : f_V_logout_0 vn y0 y1 = some (Sum.inr r)) : W p l e rm_V_logout s m args below meth c s.heap [] 0 0 (MQ below (jv_Qi r.1 (dC, dI) (w_vault cI cA q_va q_aa q_cl q_fu Q vn vC vat r.2) A) args s 0 0 A) (F0 m 0 ls []) := by
  unfold f_V_logout_0 at hf
  obtain ⟨hx, hb, hml, hown, hts, hr, hlocks⟩ := id cx
  have hS : va_S A s.heap s.heap [] := va_S.rf
  refine lv_aload_n hx hb d_V_logout_0 rfl (lv_at hl 0 rfl) ?_
  refine lv_iload_n hx hb d_V_logout_1 rfl (lv_at hl 1 rfl) ?_
  obtain ⟨x1, g2, hf⟩ := jv_ob hf
  rcases x1 with k4 | v3
  · exact jv_ci hf
  have hf := jv_sr hf
  obtain ⟨hj5, hf⟩ := jv_gd hf
  refine jv_csr (W.runV (As := [.int y0]) (rest := []) (b := q_va) ⟨hx, hb, hml, hown, hts⟩ (c_V_areaOf l hl9 dC dI cI cA cL q_va q_aa q_cl q_fu Q vn vC vat y1 y0 v3 g2) (jv_cwV hts wa_389 wa_303 wa_390 wa_391 wa_392 rfl rfl yd_V_areaOf ⟨Nat.le_of_ble_eq_true rfl, Nat.le_of_ble_eq_true rfl⟩) (jv_preVt hT hK hP 0 rfl rfl) rfl rfl hl.1 rfl (lv_room (Nat.le_of_ble_eq_true rfl)) d_V_logout_2 ⟨Nat.zero_le _, Nat.zero_le _⟩) ?_
  refine lv_astore_n (lv' := [(2, .ref (Q v3 0)), (0, .ref q_va), (1, .int y0)]) hx hb d_V_logout_5 rfl hl (by decide) rfl (fun ls hl => ?_)
  refine lv_aload_n hx hb d_V_logout_6 rfl (lv_at hl 0 rfl) ?_
  refine lv_iload_n hx hb d_V_logout_7 rfl (lv_at hl 2 rfl) ?_
  refine lv_iconst (v := (4 : Int32)) hx hb d_V_logout_8 (by decide) ?_
  refine lv_irem hx hb d_V_logout_9 (by decide) ?_
  obtain ⟨x6, g7, hf⟩ := jv_ob hf
  have hPj := jv_open hP hj5
  have hDj := jv_openD hD hj5
  have hPc := hPj.sub (ws' := (w_area cI (Q v3 0) (Q v3 1) (Q v3 2) (Q v3 6) (Q v3 7) ((y1 v3).1) ((y1 v3).2.1))) [1, 2] rfl
  have hDc := hDj.sub (ws' := (w_area cI (Q v3 0) (Q v3 1) (Q v3 2) (Q v3 6) (Q v3 7) ((y1 v3).1) ((y1 v3).2.1))) [1, 2] (by decide) rfl
  have hFc := va_free (wc := (w_area cI (Q v3 0) (Q v3 1) (Q v3 2) (Q v3 6) (Q v3 7) ((y1 v3).1) ((y1 v3).2.1))) hDj hS hA [1, 2] rfl
  refine jv_cwi (va_runV (As := [.int (y0 - y0 / (4 : Int32) * (4 : Int32))]) (rest := []) (b := (Q v3 0)) ⟨hx, hb, hml, hown, hts⟩ (c_A_dismiss l dC dI cI cA cL (Q v3 0) (Q v3 1) (Q v3 2) (Q v3 6) (Q v3 7) ((y1 v3).1) ((y1 v3).2.1) (y0 - y0 / (4 : Int32) * (4 : Int32)) s.heap.size x6 g7) (jv_cwV hts wa_393 wa_351 wa_394 wa_395 wa_396 rfl rfl yd_A_dismiss ⟨Nat.le_of_ble_eq_true rfl, Nat.le_of_ble_eq_true rfl⟩) (jv_preVW hK hPc hDc 0 rfl rfl) rfl rfl hl.1 rfl (lv_room (Nat.le_of_ble_eq_true rfl)) d_V_logout_10 ⟨Nat.zero_le _, Nat.zero_le _⟩) hS hFc (fun H1 locs hP1 hD1 hk1 hS => ?_)
  obtain ⟨hPk, hDk⟩ := va_join (wc := (w_area cI (Q v3 0) (Q v3 1) (Q v3 2) (Q v3 6) (Q v3 7) ((y1 v3).1) ((y1 v3).2.1))) (wr := [(q_fu, .inr (kFuse, [.int vat])), (Q v3 2, .inr (kDisk, [.ref (Q v3 3), .ref (Q v3 4), .ref (Q v3 5), .int (y1 v3).2.2.2.2.2.1, .int (y1 v3).2.2.2.2.2.2.1, .int (y1 v3).2.2.2.2.2.2.2])), (Q v3 3, .inl (cI, 232, .inl (y1 v3).2.2.1)), (Q v3 4, .inl (cI, 232, .inl (y1 v3).2.2.2.1)), (Q v3 5, .inl (cI, 232, .inl (y1 v3).2.2.2.2.1)), (Q v3 6, .inr (kTree, [.ref (Q v3 2)])), (Q v3 7, .inr (kCont, [.ref (Q v3 2)]))]) (w1 := (w_area cI (Q v3 0) (Q v3 1) (Q v3 2) (Q v3 6) (Q v3 7) ((y1 v3).1) x6.2)) hPj hDj [1, 2] [0, 3, 4, 5, 6, 7, 8] rfl rfl (by decide) (by decide) hk1 hFc hP1 hD1
  have hPk : va_P (dC, dI) vwCl (w_focus cI q_fu Q v3 vat ((y1 v3).1, x6.2, (y1 v3).2.2.1, (y1 v3).2.2.2.1, (y1 v3).2.2.2.2.1, (y1 v3).2.2.2.2.2.1, (y1 v3).2.2.2.2.2.2.1, (y1 v3).2.2.2.2.2.2.2)) H1 := hPk.sub [0, 7, 8, 1, 2, 3, 4, 5, 6] rfl
  have hkk := jv_out (ws := (w_focus cI q_fu Q v3 vat (y1 v3))) (wc := (w_area cI (Q v3 0) (Q v3 1) (Q v3 2) (Q v3 6) (Q v3 7) ((y1 v3).1) ((y1 v3).2.1))) [1, 2] rfl hk1
  obtain ⟨hP, hD⟩ := jv_close hP hD hj5 hkk hPk
  obtain ⟨A8, e9, hf⟩ := jv_le hf
  rw [← e9] at hP hD
  have hP : va_P (dC, dI) vwCl (w_vault cI cA q_va q_aa q_cl q_fu Q vn vC vat A8) H1 := hP
  have hD : va_D A (w_vault cI cA q_va q_aa q_cl q_fu Q vn vC vat A8) := hD
  generalize H1 = H at hP hS ⊢
  obtain rfl := Sum.inr.inj (Option.some.inj hf)
  exact W.iret hx hb hr (fun t ht hW => ⟨rfl, by rw [ht]; exact hP, hD, hS.F ht⟩) hS.2.2 d_V_logout_13
def f_V_logout (vn : Nat) (a0 : Int32) (ars : Nat → jv_ar) : Option (Nat ⊕ (Int32 × (Nat → jv_ar))) := f_V_logout_0 vn a0 ars
set_option maxHeartbeats 4000000 in
set_option maxRecDepth 100000 in
theorem c_V_logout (l : Launch) (hl9 : l.stackTraces = false) (dC : Nat → ClassId) (dI : Nat → Nat → Nat) (cI cA cL : ClassId) (q_va q_aa q_cl q_fu : Nat) (Q : Nat → Nat → Nat) (vn : Nat) (vC : Nat → Int32) (vat : Int32) (ars : Nat → jv_ar) (a0 : Int32) (sz : Nat) (r : Int32 × (Nat → jv_ar)) (hf : f_V_logout vn a0 ars = some (Sum.inr r)) : Met l y_V_logout ws_V_logout rm_V_logout (jv_Pwt [.ref q_va, .int a0] (dC, dI) (jv_ty cI cA cL) (w_vault cI cA q_va q_aa q_cl q_fu Q vn vC vat ars) sz) (jv_Qi r.1 (dC, dI) (w_vault cI cA q_va q_aa q_cl q_fu Q vn vC vat r.2) (va_A (w_vault cI cA q_va q_aa q_cl q_fu Q vn vC vat ars) sz)) 0 0 (va_A (w_vault cI cA q_va q_aa q_cl q_fu Q vn vC vat ars) sz) := by
  refine Met.ofW (cc := cc_V_logout) (maxL := 3) (ret := (some .int)) (by decide) rfl ?_
  intro p e s m args below meth c s₁ B hml hv
  obtain ⟨rfl, hsz, hP, hK, hD0, hT⟩ := hv
  have cx : jv_cx p s m _ meth c cc_V_logout 3 R_Vault (some .int) ws_V_logout := ⟨B.exec, B.bytes, hml, findClass_of_methodNamed B.named, atoms_spec (ws := ws_V_logout) B.pre, B.returns, B.notSynchronized⟩
  have hout : c.exceptionTable.isEmpty = true := B.noHandlers (atoms_spec (ws := ws_V_logout) B.pre _ List.mem_cons_self)
  subst hsz
  have hD := hD0.self (sz := s.heap.size)
  generalize hAe : va_A (w_vault cI cA q_va q_aa q_cl q_fu Q vn vC vat ars) s.heap.size = A at hD ⊢
  have hA : ∀ q : Nat, s.heap.size ≤ q → A q := fun q h => by rw [← hAe]; exact Or.inr h
  have hS : va_S A s.heap s.heap [] := va_S.rf
  have hl := lv_entry ([.ref q_va, .int a0]) (n := 3) (Nat.le_of_ble_eq_true rfl)
  rw [lg_entry_eq]
  generalize (lg_sl ([.ref q_va, .int a0]) ++ List.replicate (3 - (lg_sl ([.ref q_va, .int a0])).length) Slot.unset).toArray = ls at hl ⊢
  have hl : lv_has ls 3 [(0, .ref q_va), (1, .int a0)] := hl
  exact b_V_logout_0 (y0 := a0) (y1 := ars) cx hK hA hl9 hT hout (lv_sub hl [0, 1] rfl) hP hD hf
set_option maxHeartbeats 4000000 in
set_option maxRecDepth 100000 in
theorem t_V_logout_0 {l : Launch} {dC : Nat → ClassId} {dI : Nat → Nat → Nat} {cI cA cL : ClassId} {q_va q_aa q_cl q_fu : Nat} {Q : Nat → Nat → Nat} {vn : Nat} {vC : Nat → Int32} {vat : Int32} {p : Program} {e : Env} {s : State} {m : MethodId} {args : Array Value} {below : List Frame} {meth : Method} {c : Code} (cx : jv_cx p s m args meth c cc_V_logout 3 R_Vault (some .int) ws_V_logout) (hK : va_K (dC, dI) vwCl (jv_ty cI cA cL) s) (hl9 : l.stackTraces = false) (hT : jv_th s) (hout : c.exceptionTable.isEmpty = true) {kx : Nat} {y0 : Int32} {y1 : Nat → jv_ar} {ls : Array Slot} (hl : lv_has ls 3 [(0, .ref q_va), (1, .int y0)]) (hP : va_P (dC, dI) vwCl (w_vault cI cA q_va q_aa q_cl q_fu Q vn vC vat y1) s.heap) (hf : f_V_logout_0 vn y0 y1 = some (Sum.inl kx)) : W p l e rx_V_logout s m args below meth c s.heap [] 0 0 (jv_MQ below (jv_en kx) args s 1 6) (F0 m 0 ls []) := by
  unfold f_V_logout_0 at hf
  obtain ⟨hx, hb, hml, hown, hts, hr, hlocks⟩ := id cx
  refine lv_aload_n hx hb d_V_logout_0 rfl (lv_at hl 0 rfl) ?_
  refine lv_iload_n hx hb d_V_logout_1 rfl (lv_at hl 1 rfl) ?_
  obtain ⟨x1, g2, hf⟩ := jv_ob hf
  rcases x1 with k4 | v3
  · rw [jv_sl hf] at g2
    exact jv_xV (cells := 0) (slots := 0) (As := [.int y0]) (rest := []) (b := q_va) ⟨hx, hb, hml, hown, hts⟩ (x_V_areaOf l hl9 dC dI cI cA cL q_va q_aa q_cl q_fu Q vn vC vat y1 y0 kx g2) (jv_cwV hts wa_389 wa_303 wa_390 wa_391 wa_392 rfl rfl yd_V_areaOf ⟨Nat.le_of_ble_eq_true rfl, Nat.le_of_ble_eq_true rfl⟩) (jv_preVt hT hK hP 0 rfl rfl) rfl rfl hl.1 rfl (lv_room (Nat.le_of_ble_eq_true rfl)) d_V_logout_2 ⟨Nat.le_of_ble_eq_true rfl, Nat.le_of_ble_eq_true rfl⟩ (fun x H1 hob => jv_leave hout hlocks hob)
  have hf := jv_sr hf
  obtain ⟨hj5, hf⟩ := jv_gd hf
  refine jv_csr (W.runV (As := [.int y0]) (rest := []) (b := q_va) ⟨hx, hb, hml, hown, hts⟩ (c_V_areaOf l hl9 dC dI cI cA cL q_va q_aa q_cl q_fu Q vn vC vat y1 y0 v3 g2) (jv_cwV hts wa_389 wa_303 wa_390 wa_391 wa_392 rfl rfl yd_V_areaOf ⟨Nat.le_of_ble_eq_true rfl, Nat.le_of_ble_eq_true rfl⟩) (jv_preVt hT hK hP 0 rfl rfl) rfl rfl hl.1 rfl (lv_room (Nat.le_of_ble_eq_true rfl)) d_V_logout_2 ⟨Nat.zero_le _, Nat.zero_le _⟩) ?_
  refine lv_astore_n (lv' := [(2, .ref (Q v3 0)), (0, .ref q_va), (1, .int y0)]) hx hb d_V_logout_5 rfl hl (by decide) rfl (fun ls hl => ?_)
  refine lv_aload_n hx hb d_V_logout_6 rfl (lv_at hl 0 rfl) ?_
  refine lv_iload_n hx hb d_V_logout_7 rfl (lv_at hl 2 rfl) ?_
  refine lv_iconst (v := (4 : Int32)) hx hb d_V_logout_8 (by decide) ?_
  refine lv_irem hx hb d_V_logout_9 (by decide) ?_
  obtain ⟨x6, g7, hf⟩ := jv_ob hf
  obtain ⟨A8, e9, hf⟩ := jv_le hf
  cases Option.some.inj hf
set_option maxHeartbeats 4000000 in
set_option maxRecDepth 100000 in
theorem x_V_logout (l : Launch) (hl9 : l.stackTraces = false) (dC : Nat → ClassId) (dI : Nat → Nat → Nat) (cI cA cL : ClassId) (q_va q_aa q_cl q_fu : Nat) (Q : Nat → Nat → Nat) (vn : Nat) (vC : Nat → Int32) (vat : Int32) (ars : Nat → jv_ar) (a0 : Int32) (kx : Nat) (hf : f_V_logout vn a0 ars = some (Sum.inl kx)) : jv_MX l y_V_logout ws_V_logout rx_V_logout (jv_Prt [.ref q_va, .int a0] (dC, dI) (jv_ty cI cA cL) (w_vault cI cA q_va q_aa q_cl q_fu Q vn vC vat ars)) (jv_en kx) 1 6 := by
  refine jv_MX.ofW (cc := cc_V_logout) (maxL := 3) (ret := (some .int)) (by decide) rfl ?_
  intro p e s m args below meth c s₁ B hml hv
  obtain ⟨rfl, hP, hK, hT⟩ := hv
  have cx : jv_cx p s m _ meth c cc_V_logout 3 R_Vault (some .int) ws_V_logout := ⟨B.exec, B.bytes, hml, findClass_of_methodNamed B.named, atoms_spec (ws := ws_V_logout) B.pre, B.returns, B.notSynchronized⟩
  have hout : c.exceptionTable.isEmpty = true := B.noHandlers (atoms_spec (ws := ws_V_logout) B.pre _ List.mem_cons_self)
  have hl := lv_entry ([.ref q_va, .int a0]) (n := 3) (Nat.le_of_ble_eq_true rfl)
  rw [lg_entry_eq]
  generalize (lg_sl ([.ref q_va, .int a0]) ++ List.replicate (3 - (lg_sl ([.ref q_va, .int a0])).length) Slot.unset).toArray = ls at hl ⊢
  have hl : lv_has ls 3 [(0, .ref q_va), (1, .int a0)] := hl
  exact t_V_logout_0 (y0 := a0) (y1 := ars) cx hK hl9 hT hout (lv_sub hl [0, 1] rfl) hP hf
