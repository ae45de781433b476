theorem wa_738 : (Cond.instantiable R_Vault 4) ∈ jv_LT := List.mem_filter.mpr ⟨List.mem_of_getElem? (i := 71) (by decide +kernel), by decide +kernel⟩
theorem wa_739 : (Cond.instantiable R_Model 9) ∈ jv_LT := List.mem_filter.mpr ⟨List.mem_of_getElem? (i := 789) (by decide +kernel), by decide +kernel⟩
theorem wa_740 : (Cond.classLink R_Law 8 R_Vault) ∈ jv_LT := List.mem_filter.mpr ⟨List.mem_of_getElem? (i := 70) (by decide +kernel), by decide +kernel⟩
theorem wa_741 : (Cond.code y_V_init prog_1_method_1_code 1 none) ∈ jv_LT := List.mem_filter.mpr ⟨List.mem_of_getElem? (i := 74) (by decide +kernel), by decide +kernel⟩
theorem wa_742 : (Cond.methodLink R_Law 73 y_V_init) ∈ jv_LT := List.mem_filter.mpr ⟨List.mem_of_getElem? (i := 72) (by decide +kernel), by decide +kernel⟩
theorem wa_743 : (Cond.instanceMethod y_V_init) ∈ jv_LT := List.mem_filter.mpr ⟨List.mem_of_getElem? (i := 73) (by decide +kernel), by decide +kernel⟩
theorem wa_744 : (Cond.classLink R_Law 74 R_Model) ∈ jv_LT := List.mem_filter.mpr ⟨List.mem_of_getElem? (i := 788) (by decide +kernel), by decide +kernel⟩
theorem wa_745 : (Cond.code y_M_init prog_10_method_1_code 1 none) ∈ jv_LT := List.mem_filter.mpr ⟨List.mem_of_getElem? (i := 792) (by decide +kernel), by decide +kernel⟩
theorem wa_746 : (Cond.methodLink R_Law 76 y_M_init) ∈ jv_LT := List.mem_filter.mpr ⟨List.mem_of_getElem? (i := 790) (by decide +kernel), by decide +kernel⟩
theorem wa_747 : (Cond.instanceMethod y_M_init) ∈ jv_LT := List.mem_filter.mpr ⟨List.mem_of_getElem? (i := 791) (by decide +kernel), by decide +kernel⟩
theorem wa_748 : (Cond.arrayClass .long) ∈ jv_LT := List.mem_filter.mpr ⟨List.mem_of_getElem? (i := 1000) (by decide +kernel), by decide +kernel⟩
theorem jv_tsT {args : Array Value} {s : State} (hts0 : ∀ w ∈ lw_tbl, w.before args s = true) : ∀ w ∈ Cond.tt :: jv_LT, w.before args s = true := fun w hw => by
  rcases List.mem_cons.mp hw with h | h
  · rw [h]; rfl
  · exact hts0 w (List.mem_filter.mp h).1
theorem jv_strT : ∀ q ∈ jv_strs, Cond.stringRef "LabelVault" q.1 q.2 ∈ lw_tbl := by decide +kernel
theorem jv_ncT : ∀ q ∈ jv_ncs, Cond.not (.castable q.1 q.2) ∈ flatC (Jvm.Cond.and given_1 narrow_1) := by decide +kernel
theorem jv_startT {b : Nat} {s : State} (hts0 : ∀ w ∈ lw_tbl, w.before #[Value.ref b] s = true) (hgv : (Jvm.Cond.and given_1 narrow_1).before #[Value.ref b] s = true) : jv_tc s := by
  have hs := flat_of_before _ hgv
  refine ⟨⟨⟨?_, ?_⟩, fun w hw => ?_, fun q hq => ?_⟩, fun q hq => va_Nc.of (hs _ (jv_ncT q hq))⟩
  · exact vx_Zqof (args := #[Value.ref b]) (hts0 _ (by decide +kernel)) (hts0 _ (by decide +kernel)) (hs _ (by decide +kernel)) (fun _ _ h => h)
  · exact vx_Zqof (args := #[Value.ref b]) (hts0 _ (by decide +kernel)) (hts0 _ (by decide +kernel)) (hs _ (by decide +kernel)) (fun _ _ h => h)
  · have h1 := List.mem_filter.mp hw
    have h2 : w.faceAtom = true ∧ w.onTables = true := by simpa using h1.2
    exact va_tabs h2.2 rfl (hts0 w h1.1)
  · obtain ⟨cC, kC, hfc, -⟩ := Cond.instantiable_spec (hts0 (Cond.instantiable "LabelVault" 4) (by decide +kernel))
    obtain ⟨k, cf, i, a, -, -, -, -, -, hev⟩ := Cond.stringRef_spec hfc (hts0 _ (jv_strT q hq))
    exact ⟨a, vk_R.of (A := #[Value.ref b]) (hts0 _ (jv_strT q hq)) hev⟩
def jv_st0 : jv_st := ((0, (fun _ => (0 : Int32)), (-1 : Int32), (fun _ => ((0 : Int32), (fun _ => (0 : Int32)), (fun _ => (0 : Int32)), (fun _ => (0 : Int32)), (fun _ => (0 : Int32)), (0 : Int32), (0 : Int32), (0 : Int32)))), (fun _ => (0 : Int64)), ((0 : Int32), (0 : Int32), (-1 : Int32), (fun _ => (0 : Int32)), (fun _ => (0 : Int32)), (fun _ => (0 : Int32)), (fun _ => (0 : Int32)), (fun _ => (0 : Int32)), (fun _ => (0 : Int32))))
theorem jv_preSX {s : State} {H : Heap} {D : va_G} {tys : List (ClassId × FieldType)} {ws : va_W} {A : Nat → Prop} {w : String × Nat × MethodName × String} {C : String} {As : List Value} (hO : va_AO C s) (hN : va_Nw (.methodLinkNest w.1 w.2.1 w.2.2.1 w.2.2.2) s) (hK : va_K D vwCl tys s) (hP : va_P D vwCl ws H) (hD : va_D A ws) :
    PreS s H (va_Pc As (fun U => U.heap.size = H.size ∧ va_P D vwCl ws U.heap ∧ va_K D vwCl tys U ∧ va_D (fun _ => True) ws ∧ va_AO C U ∧ va_Nw (.methodLinkNest w.1 w.2.1 w.2.2.1 w.2.2.2) U)) As :=
  ⟨fun a U g mk q => ⟨q.1, q.2.1, q.2.2.1, va_K.moved (u := U) (U := U.calling g mk a) (Vm.Alike.refl U.vm) q.2.2.2.1, q.2.2.2.2.1, va_AO.moved (u := U) (U := U.calling g mk a) (Vm.Alike.refl U.vm) q.2.2.2.2.2.1, va_Nw.same rfl (u := U) (U := U.calling g mk a) rfl q.2.2.2.2.2.2⟩, fun U hU hW => ⟨rfl, by rw [hU], by rw [hU]; exact hP, va_K.moved hW.alike hK, hD.weaken (fun _ _ _ _ => trivial), va_AO.moved hW.alike hO, va_Nw.warmM hW hN⟩⟩
theorem jv_startK {args : Array Value} {s : State} (hts0 : ∀ w ∈ lw_tbl, w.before args s = true) : ∃ (dC : Nat → ClassId) (dI : Nat → Nat → Nat) (cI cA cL : ClassId), va_K (dC, dI) vwCl (jv_ty cI cA cL) s := by
  have hts : ∀ w ∈ Cond.tt :: jv_LT, w.before args s = true := jv_tsT hts0
  obtain ⟨c0, i0, k0⟩ := u_known (C := R_Vault) (T := T_Vault) (N := 4) hts (fun w h => List.mem_cons_of_mem _ (in_Vault w h)) (jv_w hts wa_738)
  obtain ⟨c1, i1, k1⟩ := u_known (C := R_Fuse) (T := T_Fuse) (N := 1) hts (fun w h => List.mem_cons_of_mem _ (in_Fuse w h)) (jv_w hts wa_503)
  obtain ⟨c2, i2, k2⟩ := u_known (C := R_Area) (T := T_Area) (N := 5) hts (fun w h => List.mem_cons_of_mem _ (in_Area w h)) (jv_w hts wa_511)
  obtain ⟨c3, i3, k3⟩ := u_known (C := R_Disk) (T := T_Disk) (N := 6) hts (fun w h => List.mem_cons_of_mem _ (in_Disk w h)) (jv_w hts wa_513)
  obtain ⟨c4, i4, k4⟩ := u_known (C := R_Tree) (T := T_Tree) (N := 1) hts (fun w h => List.mem_cons_of_mem _ (in_Tree w h)) (jv_w hts wa_488)
  obtain ⟨c5, i5, k5⟩ := u_known (C := R_Cont) (T := T_Cont) (N := 1) hts (fun w h => List.mem_cons_of_mem _ (in_Cont w h)) (jv_w hts wa_494)
  obtain ⟨c6, i6, k6⟩ := u_known (C := R_Model) (T := T_Model) (N := 9) hts (fun w h => List.mem_cons_of_mem _ (in_Model w h)) (jv_w hts wa_739)
  obtain ⟨cI, kI, pI, a1, a2, a3⟩ := Cond.arrayClass_spec (hts0 (Cond.arrayClass .int) (by decide +kernel))
  obtain ⟨cL, kL, pL, e1, e2, e3⟩ := Cond.arrayClass_spec (hts0 (Cond.arrayClass .long) (by decide +kernel))
  obtain ⟨pA, cA, kA, b1, b2, b3, b4, b5⟩ := Cond.arrayOver_spec (hts0 (Cond.arrayOver (.object "LabelVault$Area")) (by decide +kernel))
  refine ⟨(fun k => match k with | 0 => c0 | 1 => c1 | 2 => c2 | 3 => c3 | 4 => c4 | 5 => c5 | _ => c6), (fun k => match k with | 0 => i0 | 1 => i1 | 2 => i2 | 3 => i3 | 4 => i4 | 5 => i5 | _ => i6), cI, cA, cL, fun c q hq => ?_, fun k q hq => ?_⟩
  · rcases c with _ | _ | _ | _ | _ | _ | _ | c
    · cases Option.some.inj hq; exact k0
    · cases Option.some.inj hq; exact k1
    · cases Option.some.inj hq; exact k2
    · cases Option.some.inj hq; exact k3
    · cases Option.some.inj hq; exact k4
    · cases Option.some.inj hq; exact k5
    · cases Option.some.inj hq; exact k6
    · cases hq
  · rcases k with _ | _ | _ | k
    · cases Option.some.inj hq; exact ⟨fun n z => ⟨fun k h => (by cases h), kI, a2, pI, a3⟩, a1⟩
    · cases Option.some.inj hq; exact ⟨fun n z => ⟨fun k h => (by cases h), kA, b3, pA, b4⟩, kA, pA, b3, b4, b1, b5⟩
    · cases Option.some.inj hq; exact ⟨fun n z => ⟨fun k h => (by cases h), kL, e2, pL, e3⟩, e1⟩
    · cases hq
theorem d_law_0 : decode cc_law 0 = .ok (.new 8, 3) := by decide +kernel
theorem d_law_3 : decode cc_law 3 = .ok (.dup, 1) := by decide +kernel
theorem d_law_4 : decode cc_law 4 = .ok (.invokespecial 73, 3) := by decide +kernel
theorem d_law_7 : decode cc_law 7 = .ok (.astore_n 1, 1) := by decide +kernel
theorem d_law_8 : decode cc_law 8 = .ok (.new 74, 3) := by decide +kernel
theorem d_law_11 : decode cc_law 11 = .ok (.dup, 1) := by decide +kernel
theorem d_law_12 : decode cc_law 12 = .ok (.invokespecial 76, 3) := by decide +kernel
theorem d_law_15 : decode cc_law 15 = .ok (.astore_n 2, 1) := by decide +kernel
theorem d_law_16 : decode cc_law 16 = .ok (.iconst 1, 1) := by decide +kernel
theorem d_law_17 : decode cc_law 17 = .ok (.newarray .long, 2) := by decide +kernel
theorem d_law_19 : decode cc_law 19 = .ok (.astore_n 3, 1) := by decide +kernel
theorem d_law_20 : decode cc_law 20 = .ok (.iconst 0, 1) := by decide +kernel
theorem d_law_21 : decode cc_law 21 = .ok (.istore 4, 2) := by decide +kernel
theorem d_law_1407 : decode cc_law 1407 = .ok (.iconst 1, 1) := by decide +kernel
theorem d_law_1408 : decode cc_law 1408 = .ok (.ireturn, 1) := by decide +kernel
set_option maxHeartbeats 4000000 in
set_option maxRecDepth 100000 in
theorem jv_start {p : Program} {e : Env} {s : State} {m : MethodId} {below : List Frame} {meth : Method} {c : Code} (l : Launch) (hl9 : l.stackTraces = false) {b L : Nat} {xs : Nat → Int32} (hL : L ≤ 2560) (C0 : lw_At p s m meth c b L xs) {J : jv_st → Prop} (hJ0 : J jv_st0) (hJ : ∀ (st : jv_st) (o p1 p2 p3 p4 : Int32), J st → ∃ r, jv_step st o p1 p2 p3 p4 = some r ∧ J r) : W p l e room_1 s m #[Value.ref b] below meth c s.heap [] 0 0 (lw_Z below #[Value.ref b] s) (entryFrame m ([Value.ref b] : List Value).toArray 7) := by
  obtain ⟨hx, hb, hr, hml, hown, hts0, hX, hbl, hlocks, hgv⟩ := C0
  have hown : s.vm.findClass R_Law = some m.cls := hown
  have hTc := jv_startT hts0 hgv
  have hts : ∀ w ∈ Cond.tt :: jv_LT, w.before #[Value.ref b] s = true := jv_tsT hts0
  obtain ⟨dC, dI, cI, cA, cL, hK⟩ := jv_startK hts0
  have hO : va_AO "LabelVault$Area" s := va_AO.of (hts0 (Cond.arrayOver (.object "LabelVault$Area")) (by decide +kernel))
  have hN : va_Nw (.methodLinkNest R_Vault 25 y_Fu_init R_Vault) s := va_Nw.of rfl (hts0 _ (by decide +kernel))
  have hl := lv_entry ([Value.ref b]) (n := 7) (Nat.le_of_ble_eq_true rfl)
  rw [lg_entry_eq]
  generalize (lg_sl ([Value.ref b]) ++ List.replicate (7 - (lg_sl ([Value.ref b])).length) Slot.unset).toArray = ls at hl ⊢
  have hl : lv_has ls 7 [(0, .ref b)] := hl
  have hA : ∀ q : Nat, s.heap.size ≤ q → (fun q => s.heap.size ≤ q) q := fun q h => h
  have hAn : ∀ q : Nat, (fun q => s.heap.size ≤ q) q → s.heap.size ≤ q := fun q h => h
  generalize (fun q : Nat => s.heap.size ≤ q) = A at hA hAn
  have hP : va_P (dC, dI) vwCl [] s.heap := fun k q h => by cases h
  have hD : va_D A [] := ⟨fun i k p q h => (by cases h), fun k q h => (by cases h)⟩
  have hS : va_S A s.heap s.heap [] := va_S.rf
  refine va_new (ci := kVault) (fs := [.null, .int (0 : Int32), .null, .null]) (C := R_Vault) (T := T_Vault) (N := 4) hx hb hts (fun w h => List.mem_cons_of_mem _ (in_Vault w h)) ty_Vault tyok_Vault hown (jv_w hts wa_740) (jv_w hts wa_738) (jv_w hts wa_303) hK hP hD hS hA rfl (fun j hj => by rcases j with _ | _ | _ | _ | j <;> first | rfl | omega) (Nat.le_of_ble_eq_true rfl) (Nat.le_of_ble_eq_true rfl) d_law_0 (fun q_va H hP hD hS => ?_)
  have hP : va_P (dC, dI) vwCl [(q_va, .inr (kVault, [.null, .int (0 : Int32), .null, .null]))] H := hP
  have hD : va_D A [(q_va, .inr (kVault, [.null, .int (0 : Int32), .null, .null]))] := hD
  refine lv_dup hx hb d_law_3 rfl ?_
  have hFc := jv_fr hD hS hA
  refine jv_cwn (va_runI (As := []) (rest := [.ref q_va]) (b := q_va) ⟨hx, hb, hml, hown, hts⟩ (c_V_init l dC dI cI cA cL q_va H.size) (jv_cwI hts wa_741 wa_303 wa_742 wa_743 rfl rfl yd_V_init ⟨Nat.le_of_ble_eq_true rfl, Nat.le_of_ble_eq_true rfl⟩) (jv_preSX (w := (R_Vault, 25, y_Fu_init, R_Vault)) hO hN hK hP hD) rfl rfl hl.1 rfl (lv_room (Nat.le_of_ble_eq_true rfl)) d_law_4 ⟨Nat.le_of_ble_eq_true rfl, Nat.le_of_ble_eq_true rfl⟩) hS hFc (fun H1 locs hB hz hk1 hS0 => ?_)
  obtain ⟨q_aa, q_cl, q_fu, hP1, hD1⟩ := hB
  have hP := hP1
  have hD := hD1.weaken (fun _ q _ h => hFc q.1 h)
  have hS := hS0
  generalize H1 = H at hP hS ⊢
  rw [show (fun _ => none : Nat → Option Nat) = (fun j => if j < 0 then some ((fun _ _ => 0 : Nat → Nat → Nat) j 0) else none) from funext (fun j => (if_neg (Nat.not_lt_zero j)).symm)] at hP hD
  have hP : va_P (dC, dI) vwCl (w_vault cI cA q_va q_aa q_cl q_fu (fun _ _ => 0) jv_st0.1.1 jv_st0.1.2.1 jv_st0.1.2.2.1 jv_st0.1.2.2.2) H := hP
  have hD : va_D A (w_vault cI cA q_va q_aa q_cl q_fu (fun _ _ => 0) jv_st0.1.1 jv_st0.1.2.1 jv_st0.1.2.2.1 jv_st0.1.2.2.2) := hD
  refine lv_astore_n (lv' := [(1, .ref q_va), (0, .ref b)]) hx hb d_law_7 rfl hl (by decide) rfl (fun ls hl => ?_)
  refine va_new (ci := kModel) (fs := [.int (0 : Int32), .int (0 : Int32), .null, .null, .null, .null, .null, .null, .int (0 : Int32)]) (C := R_Model) (T := T_Model) (N := 9) hx hb hts (fun w h => List.mem_cons_of_mem _ (in_Model w h)) ty_Model tyok_Model hown (jv_w hts wa_744) (jv_w hts wa_739) (jv_w hts wa_194) hK hP hD hS hA rfl (fun j hj => by rcases j with _ | _ | _ | _ | _ | _ | _ | _ | _ | j <;> first | rfl | omega) (Nat.le_of_ble_eq_true rfl) (Nat.le_of_ble_eq_true rfl) d_law_8 (fun q_mo H hP hD hS => ?_)
  have hP : va_P (dC, dI) vwCl ([(q_mo, .inr (kModel, [.int (0 : Int32), .int (0 : Int32), .null, .null, .null, .null, .null, .null, .int (0 : Int32)]))] ++ (w_vault cI cA q_va q_aa q_cl q_fu (fun _ _ => 0) jv_st0.1.1 jv_st0.1.2.1 jv_st0.1.2.2.1 jv_st0.1.2.2.2)) H := va_P.swap (a := []) (b := (w_vault cI cA q_va q_aa q_cl q_fu (fun _ _ => 0) jv_st0.1.1 jv_st0.1.2.1 jv_st0.1.2.2.1 jv_st0.1.2.2.2)) (c := [(q_mo, .inr (kModel, [.int (0 : Int32), .int (0 : Int32), .null, .null, .null, .null, .null, .null, .int (0 : Int32)]))]) hP
  have hD : va_D A ([(q_mo, .inr (kModel, [.int (0 : Int32), .int (0 : Int32), .null, .null, .null, .null, .null, .null, .int (0 : Int32)]))] ++ (w_vault cI cA q_va q_aa q_cl q_fu (fun _ _ => 0) jv_st0.1.1 jv_st0.1.2.1 jv_st0.1.2.2.1 jv_st0.1.2.2.2)) := va_D.swap (a := []) (b := (w_vault cI cA q_va q_aa q_cl q_fu (fun _ _ => 0) jv_st0.1.1 jv_st0.1.2.1 jv_st0.1.2.2.1 jv_st0.1.2.2.2)) (c := [(q_mo, .inr (kModel, [.int (0 : Int32), .int (0 : Int32), .null, .null, .null, .null, .null, .null, .int (0 : Int32)]))]) hD
  refine lv_dup hx hb d_law_11 rfl ?_
  have hPl : va_P (dC, dI) vwCl [(q_mo, .inr (kModel, [.int (0 : Int32), .int (0 : Int32), .null, .null, .null, .null, .null, .null, .int (0 : Int32)]))] H := jv_PL (Y := (w_vault cI cA q_va q_aa q_cl q_fu (fun _ _ => 0) jv_st0.1.1 jv_st0.1.2.1 jv_st0.1.2.2.1 jv_st0.1.2.2.2)) hP
  have hDl : va_D A [(q_mo, .inr (kModel, [.int (0 : Int32), .int (0 : Int32), .null, .null, .null, .null, .null, .null, .int (0 : Int32)]))] := jv_DL (Y := (w_vault cI cA q_va q_aa q_cl q_fu (fun _ _ => 0) jv_st0.1.1 jv_st0.1.2.1 jv_st0.1.2.2.1 jv_st0.1.2.2.2)) hD
  have hFc := jv_fr hDl hS hA
  refine jv_cwn (va_runI (As := []) (rest := [.ref q_mo]) (b := q_mo) ⟨hx, hb, hml, hown, hts⟩ (c_M_init l dC dI cI cA cL q_mo H.size) (jv_cwI hts wa_745 wa_194 wa_746 wa_747 rfl rfl yd_M_init ⟨Nat.le_of_ble_eq_true rfl, Nat.le_of_ble_eq_true rfl⟩) (jv_preSW hK hPl hDl) rfl rfl hl.1 rfl (lv_room (Nat.le_of_ble_eq_true rfl)) d_law_12 ⟨Nat.le_of_ble_eq_true rfl, Nat.le_of_ble_eq_true rfl⟩) hS hFc (fun H1 locs hB hz hk1 hS0 => ?_)
  obtain ⟨q_mlb_, q_mcl_, q_mus_, q_mwr_, q_mdk_, q_mcp_, hP1, hD1⟩ := hB
  obtain ⟨hP, hD⟩ := jv_joinL (X := [(q_mo, .inr (kModel, [.int (0 : Int32), .int (0 : Int32), .null, .null, .null, .null, .null, .null, .int (0 : Int32)]))]) (X1 := (w_model cI q_mo q_mlb_ q_mcl_ q_mus_ q_mwr_ q_mdk_ q_mcp_ jv_st0.2.2.1 jv_st0.2.2.2.1 jv_st0.2.2.2.2.1 jv_st0.2.2.2.2.2.1 jv_st0.2.2.2.2.2.2.1 jv_st0.2.2.2.2.2.2.2.1 jv_st0.2.2.2.2.2.2.2.2.1 jv_st0.2.2.2.2.2.2.2.2.2.1 jv_st0.2.2.2.2.2.2.2.2.2.2)) (V := (w_vault cI cA q_va q_aa q_cl q_fu (fun _ _ => 0) jv_st0.1.1 jv_st0.1.2.1 jv_st0.1.2.2.1 jv_st0.1.2.2.2)) hP hD (fun q h => hA q (Nat.le_trans hS.1 h)) hk1 hP1 hD1
  have hS := hS0
  generalize H1 = H at hP hS ⊢
  have hP : va_P (dC, dI) vwCl ((w_model cI q_mo q_mlb_ q_mcl_ q_mus_ q_mwr_ q_mdk_ q_mcp_ jv_st0.2.2.1 jv_st0.2.2.2.1 jv_st0.2.2.2.2.1 jv_st0.2.2.2.2.2.1 jv_st0.2.2.2.2.2.2.1 jv_st0.2.2.2.2.2.2.2.1 jv_st0.2.2.2.2.2.2.2.2.1 jv_st0.2.2.2.2.2.2.2.2.2.1 jv_st0.2.2.2.2.2.2.2.2.2.2) ++ (w_vault cI cA q_va q_aa q_cl q_fu (fun _ _ => 0) jv_st0.1.1 jv_st0.1.2.1 jv_st0.1.2.2.1 jv_st0.1.2.2.2)) H := hP
  have hD : va_D A ((w_model cI q_mo q_mlb_ q_mcl_ q_mus_ q_mwr_ q_mdk_ q_mcp_ jv_st0.2.2.1 jv_st0.2.2.2.1 jv_st0.2.2.2.2.1 jv_st0.2.2.2.2.2.1 jv_st0.2.2.2.2.2.2.1 jv_st0.2.2.2.2.2.2.2.1 jv_st0.2.2.2.2.2.2.2.2.1 jv_st0.2.2.2.2.2.2.2.2.2.1 jv_st0.2.2.2.2.2.2.2.2.2.2) ++ (w_vault cI cA q_va q_aa q_cl q_fu (fun _ _ => 0) jv_st0.1.1 jv_st0.1.2.1 jv_st0.1.2.2.1 jv_st0.1.2.2.2)) := hD
  refine lv_astore_n (lv' := [(2, .ref q_mo), (1, .ref q_va), (0, .ref b)]) hx hb d_law_15 rfl hl (by decide) rfl (fun ls hl => ?_)
  refine lv_iconst (v := (1 : Int32)) hx hb d_law_16 (by decide) ?_
  refine va_newa (atype := .long) (a0 := (1, .inr (.inl (fun _ => 0)))) (N' := 1) hx hb (jv_w hts wa_748) rfl hK hP hD hS hA (fun _ => rfl) (by decide) (by decide) (by decide) (Nat.le_of_ble_eq_true rfl) (Nat.le_of_ble_eq_true rfl) d_law_17 (fun q_out c9 H hK9 hP hD hS => ?_)
  obtain rfl := jv_cL hK9
  have hP : va_P (dC, dI) vwCl ((w_model cI q_mo q_mlb_ q_mcl_ q_mus_ q_mwr_ q_mdk_ q_mcp_ jv_st0.2.2.1 jv_st0.2.2.2.1 jv_st0.2.2.2.2.1 jv_st0.2.2.2.2.2.1 jv_st0.2.2.2.2.2.2.1 jv_st0.2.2.2.2.2.2.2.1 jv_st0.2.2.2.2.2.2.2.2.1 jv_st0.2.2.2.2.2.2.2.2.2.1 jv_st0.2.2.2.2.2.2.2.2.2.2) ++ (w_lo cI cA cL q_out q_va q_aa q_cl q_fu (fun _ _ => 0) jv_st0.1 jv_st0.2.1)) H := va_P.swap (a := (w_model cI q_mo q_mlb_ q_mcl_ q_mus_ q_mwr_ q_mdk_ q_mcp_ jv_st0.2.2.1 jv_st0.2.2.2.1 jv_st0.2.2.2.2.1 jv_st0.2.2.2.2.2.1 jv_st0.2.2.2.2.2.2.1 jv_st0.2.2.2.2.2.2.2.1 jv_st0.2.2.2.2.2.2.2.2.1 jv_st0.2.2.2.2.2.2.2.2.2.1 jv_st0.2.2.2.2.2.2.2.2.2.2)) (b := (w_vault cI cA q_va q_aa q_cl q_fu (fun _ _ => 0) jv_st0.1.1 jv_st0.1.2.1 jv_st0.1.2.2.1 jv_st0.1.2.2.2)) (c := [(q_out, .inl (cL, 1, .inr (.inl jv_st0.2.1)))]) hP
  have hD : va_D A ((w_model cI q_mo q_mlb_ q_mcl_ q_mus_ q_mwr_ q_mdk_ q_mcp_ jv_st0.2.2.1 jv_st0.2.2.2.1 jv_st0.2.2.2.2.1 jv_st0.2.2.2.2.2.1 jv_st0.2.2.2.2.2.2.1 jv_st0.2.2.2.2.2.2.2.1 jv_st0.2.2.2.2.2.2.2.2.1 jv_st0.2.2.2.2.2.2.2.2.2.1 jv_st0.2.2.2.2.2.2.2.2.2.2) ++ (w_lo cI cA cL q_out q_va q_aa q_cl q_fu (fun _ _ => 0) jv_st0.1 jv_st0.2.1)) := va_D.swap (a := (w_model cI q_mo q_mlb_ q_mcl_ q_mus_ q_mwr_ q_mdk_ q_mcp_ jv_st0.2.2.1 jv_st0.2.2.2.1 jv_st0.2.2.2.2.1 jv_st0.2.2.2.2.2.1 jv_st0.2.2.2.2.2.2.1 jv_st0.2.2.2.2.2.2.2.1 jv_st0.2.2.2.2.2.2.2.2.1 jv_st0.2.2.2.2.2.2.2.2.2.1 jv_st0.2.2.2.2.2.2.2.2.2.2)) (b := (w_vault cI cA q_va q_aa q_cl q_fu (fun _ _ => 0) jv_st0.1.1 jv_st0.1.2.1 jv_st0.1.2.2.1 jv_st0.1.2.2.2)) (c := [(q_out, .inl (cL, 1, .inr (.inl jv_st0.2.1)))]) hD
  refine lv_astore_n (lv' := [(3, .ref q_out), (2, .ref q_mo), (1, .ref q_va), (0, .ref b)]) hx hb d_law_19 rfl hl (by decide) rfl (fun ls hl => ?_)
  refine lv_iconst (v := nI 0) hx hb d_law_20 (by decide) ?_
  refine lv_istore (lv' := [(4, .int (nI 0)), (3, .ref q_out), (2, .ref q_mo), (1, .ref q_va), (0, .ref b)]) hx hb d_law_21 hl (by decide) rfl (fun ls hl => ?_)
  refine jv_loop hl9 hx hb hml hown hts hX hbl hK hTc hA hAn hL hJ (fun H locs ls cells slots hS hc hsl => ?_) 512 0 (fun _ _ => 0) jv_st0 H locs ls _ _ (by omega) (Nat.zero_le _) (Nat.le_of_ble_eq_true rfl) (Nat.le_of_ble_eq_true rfl) hJ0 (lv_sub hl [4, 3, 2, 1, 0] rfl) hP hD hS
  refine va_forget (fun q h => hAn _ (hS.2.2 q h)) ?_
  refine W.widen (k := 601024) (n := 7293034) hc hsl ?_
  refine lv_iconst (v := (1 : Int32)) hx hb d_law_1407 (by decide) ?_
  exact lw_ret hx hb hr hlocks d_law_1408
