theorem d_M_flows_0 : decode cc_M_flows 0 = .ok (.aload_n 0, 1) := by decide +kernel
theorem d_M_flows_1 : decode cc_M_flows 1 = .ok (.iload_n 1, 1) := by decide +kernel
theorem d_M_flows_2 : decode cc_M_flows 2 = .ok (.invokestatic 39, 3) := by decide +kernel
theorem d_M_flows_5 : decode cc_M_flows 5 = .ok (.ifCond .eq 14, 3) := by decide +kernel
theorem d_M_flows_19 : decode cc_M_flows 19 = .ok (.iconst 1, 1) := by decide +kernel
theorem d_M_flows_8 : decode cc_M_flows 8 = .ok (.iload_n 2, 1) := by decide +kernel
theorem d_M_flows_9 : decode cc_M_flows 9 = .ok (.invokestatic 39, 3) := by decide +kernel
theorem d_M_flows_12 : decode cc_M_flows 12 = .ok (.ifCond .eq 7, 3) := by decide +kernel
theorem d_M_flows_15 : decode cc_M_flows 15 = .ok (.iconst 0, 1) := by decide +kernel
theorem d_M_flows_16 : decode cc_M_flows 16 = .ok (.goto 4, 3) := by decide +kernel
theorem d_M_flows_20 : decode cc_M_flows 20 = .ok (.putfield 32, 3) := by decide +kernel
theorem d_M_flows_23 : decode cc_M_flows 23 = .ok (.aload_n 0, 1) := by decide +kernel
theorem d_M_flows_24 : decode cc_M_flows 24 = .ok (.getfield 32, 3) := by decide +kernel
theorem d_M_flows_27 : decode cc_M_flows 27 = .ok (.ifCond .ne 15, 3) := by decide +kernel
theorem d_M_flows_42 : decode cc_M_flows 42 = .ok (.iconst 0, 1) := by decide +kernel
theorem d_M_flows_43 : decode cc_M_flows 43 = .ok (.ireturn, 1) := by decide +kernel
theorem d_M_flows_30 : decode cc_M_flows 30 = .ok (.iload_n 1, 1) := by decide +kernel
theorem d_M_flows_31 : decode cc_M_flows 31 = .ok (.iload_n 2, 1) := by decide +kernel
theorem d_M_flows_32 : decode cc_M_flows 32 = .ok (.invokestatic 43, 3) := by decide +kernel
theorem d_M_flows_35 : decode cc_M_flows 35 = .ok (.ifCond .eq 7, 3) := by decide +kernel
theorem d_M_flows_38 : decode cc_M_flows 38 = .ok (.iconst 1, 1) := by decide +kernel
theorem d_M_flows_39 : decode cc_M_flows 39 = .ok (.goto 4, 3) := by decide +kernel
def f_M_flows_20 (y0 : Int32) (y1 : Int32) (y2 : Int32) (y3 : Int32) : Option (Int32 × Int32) :=
  if y2 = 0 then ((f_M_flow y0 y1).bind fun x5 => if x5 = 0 then (some ((0 : Int32), y2)) else (some ((1 : Int32), y2))) else (some ((0 : Int32), y2))
set_option maxHeartbeats 4000000 in
set_option maxRecDepth 100000 in
theorem b_M_flows_20 {l : Launch} {dC : Nat → ClassId} {dI : Nat → Nat → Nat} {cI cA cL : ClassId} {q_mo q_mlb_ q_mcl_ q_mus_ q_mwr_ q_mdk_ q_mcp_ : Nat} {mar : Int32} {mfu : Int32} {mLb : Nat → Int32} {mCl : Nat → Int32} {mUs : Nat → Int32} {mWr : Nat → Int32} {mDk : Nat → Int32} {mCp : Nat → Int32} {p : Program} {e : Env} {s : State} {m : MethodId} {args : Array Value} {below : List Frame} {meth : Method} {c : Code} (cx : jv_cx p s m args meth c cc_M_flows 3 R_Model (some .boolean) ws_M_flows) (hK : va_K (dC, dI) vwCl (jv_ty cI cA cL) s) {A : Nat → Prop} (hA : ∀ q : Nat, s.heap.size ≤ q → A q) {r : Int32 × Int32} {y0 : Int32} {y1 : Int32} {y2 : Int32} {y3 : Int32} {ls : Array Slot} (hl : lv_has ls 3 [(0, .ref q_mo), (1, .int y0), (2, .int y1)]) {H : Heap} {locs : List Loc} (hP : va_P (dC, dI) vwCl (w_model cI q_mo q_mlb_ q_mcl_ q_mus_ q_mwr_ q_mdk_ q_mcp_ y3 mar mfu mLb mCl mUs mWr mDk mCp) H) (hD : va_D A (w_model cI q_mo q_mlb_ q_mcl_ q_mus_ q_mwr_ q_mdk_ q_mcp_ y3 mar mfu mLb mCl mUs mWr mDk mCp)) (hS : va_S A s.heap H locs) (hf : f_M_flows_20 y0 y1 y2 y3 = some r) : W p l e rm_M_flows s m args below meth c H locs 0 0 (MQ below (jv_Qi r.1 (dC, dI) (w_model cI q_mo q_mlb_ q_mcl_ q_mus_ q_mwr_ q_mdk_ q_mcp_ r.2 mar mfu mLb mCl mUs mWr mDk mCp) A) args s 0 0 A) (F0 m 20 ls [.int y2, .ref q_mo]) := by
  unfold f_M_flows_20 at hf
  obtain ⟨hx, hb, hml, hown, hts, hr, hlocks⟩ := id cx
  refine va_put (D := (dC, dI)) (ci := kModel) (v := .int y2) (ty := .int) (C := R_Model) (T := T_Model) (N := 9) hx hb hts (fun w h => List.mem_cons_of_mem _ (in_Model w h)) ty_Model tyok_Model nm_Model hown hK hP hD hS 0 rfl rfl 0 (by decide) (jv_w hts wa_200) (fun _ h9 => h9) rfl (by decide +kernel) rfl rfl (Nat.le_of_ble_eq_true rfl) d_M_flows_20 (fun H locs hP hD hS => ?_)
  have hP : va_P (dC, dI) vwCl (w_model cI q_mo q_mlb_ q_mcl_ q_mus_ q_mwr_ q_mdk_ q_mcp_ y2 mar mfu mLb mCl mUs mWr mDk mCp) H := hP
  have hD : va_D A (w_model cI q_mo q_mlb_ q_mcl_ q_mus_ q_mwr_ q_mdk_ q_mcp_ y2 mar mfu mLb mCl mUs mWr mDk mCp) := hD
  refine lv_aload_n hx hb d_M_flows_23 rfl (lv_at hl 0 rfl) ?_
  refine va_get (D := (dC, dI)) (ci := kModel) (v := .int y2) (C := R_Model) (T := T_Model) (N := 9) hx hb hts (fun w h => List.mem_cons_of_mem _ (in_Model w h)) hown hK hP 0 rfl rfl 0 (by decide) (jv_w hts wa_200) (fun _ h9 => h9) rfl d_M_flows_24 ?_
  refine lv_if_ne (tgt := 42) hx hb d_M_flows_27 (by decide) (fun hc => ?_) (fun hc => ?_)
  · have hf := jv_if hf hc
    refine lv_iconst (v := (0 : Int32)) hx hb d_M_flows_42 (by decide) ?_
    obtain rfl := Option.some.inj hf
    exact W.zret hx hb hr rfl (fun t ht hW => ⟨rfl, by rw [ht]; exact hP, hD, hS.F ht⟩) hS.2.2 d_M_flows_43
  · have hf := jv_it hf hc
    refine lv_iload_n hx hb d_M_flows_30 rfl (lv_at hl 1 rfl) ?_
    refine lv_iload_n hx hb d_M_flows_31 rfl (lv_at hl 2 rfl) ?_
    obtain ⟨x5, g6, hf⟩ := jv_ob hf
    refine jv_cs (W.runS (As := [.int y0, .int y1]) (rest := []) ⟨hx, hb, hml, hown, hts⟩ (c_M_flow l y0 y1 x5 g6) (jv_cwS hts wa_216 wa_194 wa_217 wa_218 rfl rfl yd_M_flow ⟨Nat.le_of_ble_eq_true rfl, Nat.le_of_ble_eq_true rfl⟩) jv_pre0 rfl rfl hl.1 rfl (lv_room (Nat.le_of_ble_eq_true rfl)) d_M_flows_32 ⟨Nat.zero_le _, Nat.zero_le _⟩) ?_
    refine lv_if_eq (tgt := 42) hx hb d_M_flows_35 (by decide) (fun hc => ?_) (fun hc => ?_)
    · have hf := jv_it hf hc
      refine lv_iconst (v := (0 : Int32)) hx hb d_M_flows_42 (by decide) ?_
      obtain rfl := Option.some.inj hf
      exact W.zret hx hb hr rfl (fun t ht hW => ⟨rfl, by rw [ht]; exact hP, hD, hS.F ht⟩) hS.2.2 d_M_flows_43
    · have hf := jv_if hf hc
      refine lv_iconst (v := (1 : Int32)) hx hb d_M_flows_38 (by decide) ?_
      refine lv_goto (tgt := 43) hx hb d_M_flows_39 (by decide) ?_
      obtain rfl := Option.some.inj hf
      exact W.zret hx hb hr rfl (fun t ht hW => ⟨rfl, by rw [ht]; exact hP, hD, hS.F ht⟩) hS.2.2 d_M_flows_43
def f_M_flows_0 (y0 : Int32) (y1 : Int32) (y2 : Int32) : Option (Int32 × Int32) :=
  (f_M_isLabel y0).bind fun x1 => if x1 = 0 then (f_M_flows_20 y0 y1 (1 : Int32) y2) else ((f_M_isLabel y1).bind fun x3 => if x3 = 0 then (f_M_flows_20 y0 y1 (1 : Int32) y2) else (f_M_flows_20 y0 y1 (0 : Int32) y2))
set_option maxHeartbeats 4000000 in
set_option maxRecDepth 100000 in
theorem b_M_flows_0 {l : Launch} {dC : Nat → ClassId} {dI : Nat → Nat → Nat} {cI cA cL : ClassId} {q_mo q_mlb_ q_mcl_ q_mus_ q_mwr_ q_mdk_ q_mcp_ : Nat} {mar : Int32} {mfu : Int32} {mLb : Nat → Int32} {mCl : Nat → Int32} {mUs : Nat → Int32} {mWr : Nat → Int32} {mDk : Nat → Int32} {mCp : Nat → Int32} {p : Program} {e : Env} {s : State} {m : MethodId} {args : Array Value} {below : List Frame} {meth : Method} {c : Code} (cx : jv_cx p s m args meth c cc_M_flows 3 R_Model (some .boolean) ws_M_flows) (hK : va_K (dC, dI) vwCl (jv_ty cI cA cL) s) {A : Nat → Prop} (hA : ∀ q : Nat, s.heap.size ≤ q → A q) {r : Int32 × Int32} {y0 : Int32} {y1 : Int32} {y2 : Int32} {ls : Array Slot} (hl : lv_has ls 3 [(0, .ref q_mo), (1, .int y0), (2, .int y1)]) {H : Heap} {locs : List Loc} (hP : va_P (dC, dI) vwCl (w_model cI q_mo q_mlb_ q_mcl_ q_mus_ q_mwr_ q_mdk_ q_mcp_ y2 mar mfu mLb mCl mUs mWr mDk mCp) H) (hD : va_D A (w_model cI q_mo q_mlb_ q_mcl_ q_mus_ q_mwr_ q_mdk_ q_mcp_ y2 mar mfu mLb mCl mUs mWr mDk mCp)) (hS : va_S A s.heap H locs) (hf : f_M_flows_0 y0 y1 y2 = some r) : W p l e rm_M_flows s m args below meth c H locs 0 0 (MQ below (jv_Qi r.1 (dC, dI) (w_model cI q_mo q_mlb_ q_mcl_ q_mus_ q_mwr_ q_mdk_ q_mcp_ r.2 mar mfu mLb mCl mUs mWr mDk mCp) A) args s 0 0 A) (F0 m 0 ls []) := by
  unfold f_M_flows_0 at hf
  obtain ⟨hx, hb, hml, hown, hts, hr, hlocks⟩ := id cx
  refine lv_aload_n hx hb d_M_flows_0 rfl (lv_at hl 0 rfl) ?_
  refine lv_iload_n hx hb d_M_flows_1 rfl (lv_at hl 1 rfl) ?_
  obtain ⟨x1, g2, hf⟩ := jv_ob hf
  refine jv_cs (W.runS (As := [.int y0]) (rest := [.ref q_mo]) ⟨hx, hb, hml, hown, hts⟩ (c_M_isLabel l y0 x1 g2) (jv_cwS hts wa_243 wa_194 wa_244 wa_245 rfl rfl yd_M_isLabel ⟨Nat.le_of_ble_eq_true rfl, Nat.le_of_ble_eq_true rfl⟩) jv_pre0 rfl rfl hl.1 rfl (lv_room (Nat.le_of_ble_eq_true rfl)) d_M_flows_2 ⟨Nat.zero_le _, Nat.zero_le _⟩) ?_
  refine lv_if_eq (tgt := 19) hx hb d_M_flows_5 (by decide) (fun hc => ?_) (fun hc => ?_)
  · have hf := jv_it hf hc
    refine lv_iconst (v := (1 : Int32)) hx hb d_M_flows_19 (by decide) ?_
    exact b_M_flows_20 (y0 := y0) (y1 := y1) (y2 := (1 : Int32)) (y3 := y2) cx hK hA (lv_sub hl [0, 1, 2] rfl) hP hD hS hf
  · have hf := jv_if hf hc
    refine lv_iload_n hx hb d_M_flows_8 rfl (lv_at hl 2 rfl) ?_
    obtain ⟨x3, g4, hf⟩ := jv_ob hf
    refine jv_cs (W.runS (As := [.int y1]) (rest := [.ref q_mo]) ⟨hx, hb, hml, hown, hts⟩ (c_M_isLabel l y1 x3 g4) (jv_cwS hts wa_243 wa_194 wa_244 wa_245 rfl rfl yd_M_isLabel ⟨Nat.le_of_ble_eq_true rfl, Nat.le_of_ble_eq_true rfl⟩) jv_pre0 rfl rfl hl.1 rfl (lv_room (Nat.le_of_ble_eq_true rfl)) d_M_flows_9 ⟨Nat.zero_le _, Nat.zero_le _⟩) ?_
    refine lv_if_eq (tgt := 19) hx hb d_M_flows_12 (by decide) (fun hc => ?_) (fun hc => ?_)
    · have hf := jv_it hf hc
      refine lv_iconst (v := (1 : Int32)) hx hb d_M_flows_19 (by decide) ?_
      exact b_M_flows_20 (y0 := y0) (y1 := y1) (y2 := (1 : Int32)) (y3 := y2) cx hK hA (lv_sub hl [0, 1, 2] rfl) hP hD hS hf
    · have hf := jv_if hf hc
      refine lv_iconst (v := (0 : Int32)) hx hb d_M_flows_15 (by decide) ?_
      refine lv_goto (tgt := 20) hx hb d_M_flows_16 (by decide) ?_
      exact b_M_flows_20 (y0 := y0) (y1 := y1) (y2 := (0 : Int32)) (y3 := y2) cx hK hA (lv_sub hl [0, 1, 2] rfl) hP hD hS hf
def f_M_flows (a0 : Int32) (a1 : Int32) (mth : Int32) : Option (Int32 × Int32) := f_M_flows_0 a0 a1 mth
set_option maxHeartbeats 4000000 in
set_option maxRecDepth 100000 in
theorem c_M_flows (l : Launch) (dC : Nat → ClassId) (dI : Nat → Nat → Nat) (cI cA cL : ClassId) (q_mo q_mlb_ q_mcl_ q_mus_ q_mwr_ q_mdk_ q_mcp_ : Nat) (mth : Int32) (mar : Int32) (mfu : Int32) (mLb : Nat → Int32) (mCl : Nat → Int32) (mUs : Nat → Int32) (mWr : Nat → Int32) (mDk : Nat → Int32) (mCp : Nat → Int32) (a0 : Int32) (a1 : Int32) (sz : Nat) (r : Int32 × Int32) (hf : f_M_flows a0 a1 mth = some r) : Met l y_M_flows ws_M_flows rm_M_flows (jv_Pw [.ref q_mo, .int a0, .int a1] (dC, dI) (jv_ty cI cA cL) (w_model cI q_mo q_mlb_ q_mcl_ q_mus_ q_mwr_ q_mdk_ q_mcp_ mth mar mfu mLb mCl mUs mWr mDk mCp) sz) (jv_Qi r.1 (dC, dI) (w_model cI q_mo q_mlb_ q_mcl_ q_mus_ q_mwr_ q_mdk_ q_mcp_ r.2 mar mfu mLb mCl mUs mWr mDk mCp) (va_A (w_model cI q_mo q_mlb_ q_mcl_ q_mus_ q_mwr_ q_mdk_ q_mcp_ mth mar mfu mLb mCl mUs mWr mDk mCp) sz)) 0 0 (va_A (w_model cI q_mo q_mlb_ q_mcl_ q_mus_ q_mwr_ q_mdk_ q_mcp_ mth mar mfu mLb mCl mUs mWr mDk mCp) sz) := by
  refine Met.ofW (cc := cc_M_flows) (maxL := 3) (ret := (some .boolean)) (by decide) rfl ?_
  intro p e s m args below meth c s₁ B hml hv
  obtain ⟨rfl, hsz, hP, hK, hD0⟩ := hv
  have cx : jv_cx p s m _ meth c cc_M_flows 3 R_Model (some .boolean) ws_M_flows := ⟨B.exec, B.bytes, hml, findClass_of_methodNamed B.named, atoms_spec (ws := ws_M_flows) B.pre, B.returns, B.notSynchronized⟩
  subst hsz
  have hD := hD0.self (sz := s.heap.size)
  generalize hAe : va_A (w_model cI q_mo q_mlb_ q_mcl_ q_mus_ q_mwr_ q_mdk_ q_mcp_ mth mar mfu mLb mCl mUs mWr mDk mCp) s.heap.size = A at hD ⊢
  have hA : ∀ q : Nat, s.heap.size ≤ q → A q := fun q h => by rw [← hAe]; exact Or.inr h
  have hS : va_S A s.heap s.heap [] := va_S.rf
  have hl := lv_entry ([.ref q_mo, .int a0, .int a1]) (n := 3) (Nat.le_of_ble_eq_true rfl)
  rw [lg_entry_eq]
  generalize (lg_sl ([.ref q_mo, .int a0, .int a1]) ++ List.replicate (3 - (lg_sl ([.ref q_mo, .int a0, .int a1])).length) Slot.unset).toArray = ls at hl ⊢
  have hl : lv_has ls 3 [(0, .ref q_mo), (1, .int a0), (2, .int a1)] := hl
  exact b_M_flows_0 (y0 := a0) (y1 := a1) (y2 := mth) cx hK hA (lv_sub hl [0, 1, 2] rfl) hP hD hS hf
theorem d_M_area_0 : decode cc_M_area 0 = .ok (.aload_n 0, 1) := by decide +kernel
theorem d_M_area_1 : decode cc_M_area 1 = .ok (.getfield 47, 3) := by decide +kernel
theorem d_M_area_4 : decode cc_M_area 4 = .ok (.bipush 6, 2) := by decide +kernel
theorem d_M_area_6 : decode cc_M_area 6 = .ok (.if_icmp .ne 7, 3) := by decide +kernel
theorem d_M_area_13 : decode cc_M_area 13 = .ok (.iconst 0, 1) := by decide +kernel
theorem d_M_area_14 : decode cc_M_area 14 = .ok (.istore_n 2, 1) := by decide +kernel
theorem d_M_area_15 : decode cc_M_area 15 = .ok (.iconst 0, 1) := by decide +kernel
theorem d_M_area_16 : decode cc_M_area 16 = .ok (.istore_n 3, 1) := by decide +kernel
theorem d_M_area_9 : decode cc_M_area 9 = .ok (.iconst 1, 1) := by decide +kernel
theorem d_M_area_10 : decode cc_M_area 10 = .ok (.goto 4, 3) := by decide +kernel
theorem d_M_area_17 : decode cc_M_area 17 = .ok (.iload_n 3, 1) := by decide +kernel
theorem d_M_area_18 : decode cc_M_area 18 = .ok (.aload_n 0, 1) := by decide +kernel
theorem d_M_area_19 : decode cc_M_area 19 = .ok (.getfield 47, 3) := by decide +kernel
theorem d_M_area_22 : decode cc_M_area 22 = .ok (.if_icmp .ge 29, 3) := by decide +kernel
theorem d_M_area_51 : decode cc_M_area 51 = .ok (.aload_n 0, 1) := by decide +kernel
theorem d_M_area_52 : decode cc_M_area 52 = .ok (.iload_n 1, 1) := by decide +kernel
theorem d_M_area_53 : decode cc_M_area 53 = .ok (.invokestatic 39, 3) := by decide +kernel
theorem d_M_area_56 : decode cc_M_area 56 = .ok (.ifCond .ne 7, 3) := by decide +kernel
theorem d_M_area_63 : decode cc_M_area 63 = .ok (.iload_n 2, 1) := by decide +kernel
theorem d_M_area_64 : decode cc_M_area 64 = .ok (.ifCond .eq 7, 3) := by decide +kernel
theorem d_M_area_71 : decode cc_M_area 71 = .ok (.iconst 0, 1) := by decide +kernel
theorem d_M_area_67 : decode cc_M_area 67 = .ok (.iconst 2, 1) := by decide +kernel
theorem d_M_area_68 : decode cc_M_area 68 = .ok (.goto 4, 3) := by decide +kernel
theorem d_M_area_59 : decode cc_M_area 59 = .ok (.iconst 1, 1) := by decide +kernel
theorem d_M_area_60 : decode cc_M_area 60 = .ok (.goto 12, 3) := by decide +kernel
theorem d_M_area_25 : decode cc_M_area 25 = .ok (.iload_n 2, 1) := by decide +kernel
theorem d_M_area_26 : decode cc_M_area 26 = .ok (.ifCond .ne 13, 3) := by decide +kernel
theorem d_M_area_39 : decode cc_M_area 39 = .ok (.iconst 1, 1) := by decide +kernel
theorem d_M_area_40 : decode cc_M_area 40 = .ok (.goto 4, 3) := by decide +kernel
theorem d_M_area_44 : decode cc_M_area 44 = .ok (.istore_n 2, 1) := by decide +kernel
theorem d_M_area_45 : decode cc_M_area 45 = .ok (.iinc 3 1, 3) := by decide +kernel
theorem d_M_area_48 : decode cc_M_area 48 = .ok (.goto (-31), 3) := by decide +kernel
theorem d_M_area_29 : decode cc_M_area 29 = .ok (.aload_n 0, 1) := by decide +kernel
theorem d_M_area_30 : decode cc_M_area 30 = .ok (.getfield 7, 3) := by decide +kernel
theorem d_M_area_33 : decode cc_M_area 33 = .ok (.iload_n 3, 1) := by decide +kernel
theorem d_M_area_34 : decode cc_M_area 34 = .ok (.iaload, 1) := by decide +kernel
theorem d_M_area_35 : decode cc_M_area 35 = .ok (.iload_n 1, 1) := by decide +kernel
theorem d_M_area_36 : decode cc_M_area 36 = .ok (.if_icmp .ne 7, 3) := by decide +kernel
theorem d_M_area_43 : decode cc_M_area 43 = .ok (.iconst 0, 1) := by decide +kernel
theorem d_M_area_72 : decode cc_M_area 72 = .ok (.putfield 32, 3) := by decide +kernel
theorem d_M_area_75 : decode cc_M_area 75 = .ok (.aload_n 0, 1) := by decide +kernel
theorem d_M_area_76 : decode cc_M_area 76 = .ok (.getfield 32, 3) := by decide +kernel
theorem d_M_area_79 : decode cc_M_area 79 = .ok (.ifCond .le 5, 3) := by decide +kernel
theorem d_M_area_84 : decode cc_M_area 84 = .ok (.aload_n 0, 1) := by decide +kernel
theorem d_M_area_85 : decode cc_M_area 85 = .ok (.getfield 7, 3) := by decide +kernel
theorem d_M_area_88 : decode cc_M_area 88 = .ok (.aload_n 0, 1) := by decide +kernel
theorem d_M_area_89 : decode cc_M_area 89 = .ok (.getfield 47, 3) := by decide +kernel
theorem d_M_area_92 : decode cc_M_area 92 = .ok (.iload_n 1, 1) := by decide +kernel
theorem d_M_area_93 : decode cc_M_area 93 = .ok (.iastore, 1) := by decide +kernel
theorem d_M_area_94 : decode cc_M_area 94 = .ok (.aload_n 0, 1) := by decide +kernel
theorem d_M_area_95 : decode cc_M_area 95 = .ok (.getfield 22, 3) := by decide +kernel
theorem d_M_area_98 : decode cc_M_area 98 = .ok (.sipush 232, 3) := by decide +kernel
theorem d_M_area_101 : decode cc_M_area 101 = .ok (.aload_n 0, 1) := by decide +kernel
theorem d_M_area_102 : decode cc_M_area 102 = .ok (.getfield 47, 3) := by decide +kernel
theorem d_M_area_105 : decode cc_M_area 105 = .ok (.imul, 1) := by decide +kernel
theorem d_M_area_106 : decode cc_M_area 106 = .ok (.bipush 8, 2) := by decide +kernel
theorem d_M_area_108 : decode cc_M_area 108 = .ok (.iadd, 1) := by decide +kernel
theorem d_M_area_109 : decode cc_M_area 109 = .ok (.iconst 1, 1) := by decide +kernel
theorem d_M_area_110 : decode cc_M_area 110 = .ok (.iastore, 1) := by decide +kernel
theorem d_M_area_111 : decode cc_M_area 111 = .ok (.aload_n 0, 1) := by decide +kernel
theorem d_M_area_112 : decode cc_M_area 112 = .ok (.dup, 1) := by decide +kernel
theorem d_M_area_113 : decode cc_M_area 113 = .ok (.getfield 47, 3) := by decide +kernel
theorem d_M_area_116 : decode cc_M_area 116 = .ok (.iconst 1, 1) := by decide +kernel
theorem d_M_area_117 : decode cc_M_area 117 = .ok (.iadd, 1) := by decide +kernel
theorem d_M_area_118 : decode cc_M_area 118 = .ok (.putfield 47, 3) := by decide +kernel
theorem d_M_area_121 : decode cc_M_area 121 = .ok (.aload_n 0, 1) := by decide +kernel
theorem d_M_area_122 : decode cc_M_area 122 = .ok (.getfield 47, 3) := by decide +kernel
theorem d_M_area_125 : decode cc_M_area 125 = .ok (.iconst 1, 1) := by decide +kernel
theorem d_M_area_126 : decode cc_M_area 126 = .ok (.isub, 1) := by decide +kernel
theorem d_M_area_127 : decode cc_M_area 127 = .ok (.ireturn, 1) := by decide +kernel
theorem d_M_area_82 : decode cc_M_area 82 = .ok (.iconst 0, 1) := by decide +kernel
theorem d_M_area_83 : decode cc_M_area 83 = .ok (.ireturn, 1) := by decide +kernel
def f_M_area_72 (y0 : Int32) (y1 : Int32) (y2 : Int32) (y3 : Int32) (y4 : Nat → Int32) (y5 : Nat → Int32) : Option (Int32 × Int32 × Int32 × (Nat → Int32) × (Nat → Int32)) :=
  if y1 ≤ 0 then ((jv_sa y4 6 y3 y0).bind fun F5 => (jv_sa y5 1392 (((232 : Int32) * y3) + (8 : Int32)) (1 : Int32)).bind fun F7 => some ((y3 + (1 : Int32)) - (1 : Int32), y1, y3 + (1 : Int32), F5, F7)) else (some ((0 : Int32), y1, y3, y4, y5))
set_option maxHeartbeats 4000000 in
set_option maxRecDepth 100000 in
theorem b_M_area_72 {l : Launch} {dC : Nat → ClassId} {dI : Nat → Nat → Nat} {cI cA cL : ClassId} {q_mo q_mlb_ q_mcl_ q_mus_ q_mwr_ q_mdk_ q_mcp_ : Nat} {mfu : Int32} {mCl : Nat → Int32} {mUs : Nat → Int32} {mWr : Nat → Int32} {mCp : Nat → Int32} {p : Program} {e : Env} {s : State} {m : MethodId} {args : Array Value} {below : List Frame} {meth : Method} {c : Code} (cx : jv_cx p s m args meth c cc_M_area 4 R_Model (some .int) ws_M_area) (hK : va_K (dC, dI) vwCl (jv_ty cI cA cL) s) {A : Nat → Prop} (hA : ∀ q : Nat, s.heap.size ≤ q → A q) {r : Int32 × Int32 × Int32 × (Nat → Int32) × (Nat → Int32)} {y0 : Int32} {y1 : Int32} {y2 : Int32} {y3 : Int32} {y4 : Nat → Int32} {y5 : Nat → Int32} {ls : Array Slot} (hl : lv_has ls 4 [(0, .ref q_mo), (1, .int y0)]) {H : Heap} {locs : List Loc} (hP : va_P (dC, dI) vwCl (w_model cI q_mo q_mlb_ q_mcl_ q_mus_ q_mwr_ q_mdk_ q_mcp_ y2 y3 mfu y4 mCl mUs mWr y5 mCp) H) (hD : va_D A (w_model cI q_mo q_mlb_ q_mcl_ q_mus_ q_mwr_ q_mdk_ q_mcp_ y2 y3 mfu y4 mCl mUs mWr y5 mCp)) (hS : va_S A s.heap H locs) (hf : f_M_area_72 y0 y1 y2 y3 y4 y5 = some r) : W p l e rm_M_area s m args below meth c H locs 0 0 (MQ below (jv_Qi r.1 (dC, dI) (w_model cI q_mo q_mlb_ q_mcl_ q_mus_ q_mwr_ q_mdk_ q_mcp_ r.2.1 r.2.2.1 mfu r.2.2.2.1 mCl mUs mWr r.2.2.2.2 mCp) A) args s 0 0 A) (F0 m 72 ls [.int y1, .ref q_mo]) := by
  unfold f_M_area_72 at hf
  obtain ⟨hx, hb, hml, hown, hts, hr, hlocks⟩ := id cx
  refine va_put (D := (dC, dI)) (ci := kModel) (v := .int y1) (ty := .int) (C := R_Model) (T := T_Model) (N := 9) hx hb hts (fun w h => List.mem_cons_of_mem _ (in_Model w h)) ty_Model tyok_Model nm_Model hown hK hP hD hS 0 rfl rfl 0 (by decide) (jv_w hts wa_200) (fun _ h9 => h9) rfl (by decide +kernel) rfl rfl (Nat.le_of_ble_eq_true rfl) d_M_area_72 (fun H locs hP hD hS => ?_)
  have hP : va_P (dC, dI) vwCl (w_model cI q_mo q_mlb_ q_mcl_ q_mus_ q_mwr_ q_mdk_ q_mcp_ y1 y3 mfu y4 mCl mUs mWr y5 mCp) H := hP
  have hD : va_D A (w_model cI q_mo q_mlb_ q_mcl_ q_mus_ q_mwr_ q_mdk_ q_mcp_ y1 y3 mfu y4 mCl mUs mWr y5 mCp) := hD
  refine lv_aload_n hx hb d_M_area_75 rfl (lv_at hl 0 rfl) ?_
  refine va_get (D := (dC, dI)) (ci := kModel) (v := .int y1) (C := R_Model) (T := T_Model) (N := 9) hx hb hts (fun w h => List.mem_cons_of_mem _ (in_Model w h)) hown hK hP 0 rfl rfl 0 (by decide) (jv_w hts wa_200) (fun _ h9 => h9) rfl d_M_area_76 ?_
  refine lv_if_le (tgt := 84) hx hb d_M_area_79 (by decide) (fun hc => ?_) (fun hc => ?_)
  · have hf := jv_it hf hc
    refine lv_aload_n hx hb d_M_area_84 rfl (lv_at hl 0 rfl) ?_
    refine va_get (D := (dC, dI)) (ci := kModel) (v := .ref q_mlb_) (C := R_Model) (T := T_Model) (N := 9) hx hb hts (fun w h => List.mem_cons_of_mem _ (in_Model w h)) hown hK hP 0 rfl rfl 2 (by decide) (jv_w hts wa_215) (fun _ h9 => h9) rfl d_M_area_85 ?_
    refine lv_aload_n hx hb d_M_area_88 rfl (lv_at hl 0 rfl) ?_
    refine va_get (D := (dC, dI)) (ci := kModel) (v := .int y3) (C := R_Model) (T := T_Model) (N := 9) hx hb hts (fun w h => List.mem_cons_of_mem _ (in_Model w h)) hown hK hP 0 rfl rfl 1 (by decide) (jv_w hts wa_201) (fun _ h9 => h9) rfl d_M_area_89 ?_
    refine lv_iload_n hx hb d_M_area_92 rfl (lv_at hl 1 rfl) ?_
    obtain ⟨F5, g6, hf⟩ := jv_ob hf
    refine jv_iast hx hb hK hP hD hS 1 0 rfl rfl g6 d_M_area_93 (fun H locs hP hD hS => ?_)
    have hP : va_P (dC, dI) vwCl (w_model cI q_mo q_mlb_ q_mcl_ q_mus_ q_mwr_ q_mdk_ q_mcp_ y1 y3 mfu F5 mCl mUs mWr y5 mCp) H := hP
    have hD : va_D A (w_model cI q_mo q_mlb_ q_mcl_ q_mus_ q_mwr_ q_mdk_ q_mcp_ y1 y3 mfu F5 mCl mUs mWr y5 mCp) := hD
    refine lv_aload_n hx hb d_M_area_94 rfl (lv_at hl 0 rfl) ?_
    refine va_get (D := (dC, dI)) (ci := kModel) (v := .ref q_mdk_) (C := R_Model) (T := T_Model) (N := 9) hx hb hts (fun w h => List.mem_cons_of_mem _ (in_Model w h)) hown hK hP 0 rfl rfl 6 (by decide) (jv_w hts wa_203) (fun _ h9 => h9) rfl d_M_area_95 ?_
    refine lv_sipush (v := (232 : Int32)) hx hb d_M_area_98 (by decide) ?_
    refine lv_aload_n hx hb d_M_area_101 rfl (lv_at hl 0 rfl) ?_
    refine va_get (D := (dC, dI)) (ci := kModel) (v := .int y3) (C := R_Model) (T := T_Model) (N := 9) hx hb hts (fun w h => List.mem_cons_of_mem _ (in_Model w h)) hown hK hP 0 rfl rfl 1 (by decide) (jv_w hts wa_201) (fun _ h9 => h9) rfl d_M_area_102 ?_
    refine lv_imul hx hb d_M_area_105 ?_
    refine lv_bipush (v := (8 : Int32)) hx hb d_M_area_106 (by decide) ?_
    refine lv_iadd hx hb d_M_area_108 ?_
    refine lv_iconst (v := (1 : Int32)) hx hb d_M_area_109 (by decide) ?_
    obtain ⟨F7, g8, hf⟩ := jv_ob hf
    refine jv_iast hx hb hK hP hD hS 5 0 rfl rfl g8 d_M_area_110 (fun H locs hP hD hS => ?_)
    have hP : va_P (dC, dI) vwCl (w_model cI q_mo q_mlb_ q_mcl_ q_mus_ q_mwr_ q_mdk_ q_mcp_ y1 y3 mfu F5 mCl mUs mWr F7 mCp) H := hP
    have hD : va_D A (w_model cI q_mo q_mlb_ q_mcl_ q_mus_ q_mwr_ q_mdk_ q_mcp_ y1 y3 mfu F5 mCl mUs mWr F7 mCp) := hD
    refine lv_aload_n hx hb d_M_area_111 rfl (lv_at hl 0 rfl) ?_
    refine lv_dup hx hb d_M_area_112 rfl ?_
    refine va_get (D := (dC, dI)) (ci := kModel) (v := .int y3) (C := R_Model) (T := T_Model) (N := 9) hx hb hts (fun w h => List.mem_cons_of_mem _ (in_Model w h)) hown hK hP 0 rfl rfl 1 (by decide) (jv_w hts wa_201) (fun _ h9 => h9) rfl d_M_area_113 ?_
    refine lv_iconst (v := (1 : Int32)) hx hb d_M_area_116 (by decide) ?_
    refine lv_iadd hx hb d_M_area_117 ?_
    refine va_put (D := (dC, dI)) (ci := kModel) (v := .int (y3 + (1 : Int32))) (ty := .int) (C := R_Model) (T := T_Model) (N := 9) hx hb hts (fun w h => List.mem_cons_of_mem _ (in_Model w h)) ty_Model tyok_Model nm_Model hown hK hP hD hS 0 rfl rfl 1 (by decide) (jv_w hts wa_201) (fun _ h9 => h9) rfl (by decide +kernel) rfl rfl (Nat.le_of_ble_eq_true rfl) d_M_area_118 (fun H locs hP hD hS => ?_)
    have hP : va_P (dC, dI) vwCl (w_model cI q_mo q_mlb_ q_mcl_ q_mus_ q_mwr_ q_mdk_ q_mcp_ y1 (y3 + (1 : Int32)) mfu F5 mCl mUs mWr F7 mCp) H := hP
    have hD : va_D A (w_model cI q_mo q_mlb_ q_mcl_ q_mus_ q_mwr_ q_mdk_ q_mcp_ y1 (y3 + (1 : Int32)) mfu F5 mCl mUs mWr F7 mCp) := hD
    refine lv_aload_n hx hb d_M_area_121 rfl (lv_at hl 0 rfl) ?_
    refine va_get (D := (dC, dI)) (ci := kModel) (v := .int (y3 + (1 : Int32))) (C := R_Model) (T := T_Model) (N := 9) hx hb hts (fun w h => List.mem_cons_of_mem _ (in_Model w h)) hown hK hP 0 rfl rfl 1 (by decide) (jv_w hts wa_201) (fun _ h9 => h9) rfl d_M_area_122 ?_
    refine lv_iconst (v := (1 : Int32)) hx hb d_M_area_125 (by decide) ?_
    refine lv_isub hx hb d_M_area_126 ?_
    obtain rfl := Option.some.inj hf
    exact W.iret hx hb hr (fun t ht hW => ⟨rfl, by rw [ht]; exact hP, hD, hS.F ht⟩) hS.2.2 d_M_area_127
  · have hf := jv_if hf hc
    refine lv_iconst (v := (0 : Int32)) hx hb d_M_area_82 (by decide) ?_
    obtain rfl := Option.some.inj hf
    exact W.iret hx hb hr (fun t ht hW => ⟨rfl, by rw [ht]; exact hP, hD, hS.F ht⟩) hS.2.2 d_M_area_83
def f_M_area_17 (y0 : Int32) (y1 : Int32) (y2 : Int32) (y3 : Nat → Int32) (y4 : Nat → Int32) (k17 : (Int32 × Int32) → Option (Int32 × Int32 × Int32 × (Nat → Int32) × (Nat → Int32))) (a : Int32 × Int32) : Option (Int32 × Int32 × Int32 × (Nat → Int32) × (Nat → Int32)) :=
  if y2 ≤ a.2 then ((f_M_isLabel y0).bind fun x1 => if x1 = 0 then (f_M_area_72 y0 (1 : Int32) y1 y2 y3 y4) else (if a.1 = 0 then (f_M_area_72 y0 (0 : Int32) y1 y2 y3 y4) else (f_M_area_72 y0 (2 : Int32) y1 y2 y3 y4))) else (if a.1 = 0 then ((jv_ga y3 6 a.2).bind fun x3 => if x3 = y0 then (k17 ((1 : Int32), a.2 + (1 : Int32))) else (k17 ((0 : Int32), a.2 + (1 : Int32)))) else (k17 ((1 : Int32), a.2 + (1 : Int32))))
set_option maxHeartbeats 4000000 in
set_option maxRecDepth 100000 in
theorem b_M_area_17 {l : Launch} {dC : Nat → ClassId} {dI : Nat → Nat → Nat} {cI cA cL : ClassId} {q_mo q_mlb_ q_mcl_ q_mus_ q_mwr_ q_mdk_ q_mcp_ : Nat} {mfu : Int32} {mCl : Nat → Int32} {mUs : Nat → Int32} {mWr : Nat → Int32} {mCp : Nat → Int32} {p : Program} {e : Env} {s : State} {m : MethodId} {args : Array Value} {below : List Frame} {meth : Method} {c : Code} (cx : jv_cx p s m args meth c cc_M_area 4 R_Model (some .int) ws_M_area) (hK : va_K (dC, dI) vwCl (jv_ty cI cA cL) s) {A : Nat → Prop} (hA : ∀ q : Nat, s.heap.size ≤ q → A q) {r : Int32 × Int32 × Int32 × (Nat → Int32) × (Nat → Int32)} {y0 : Int32} {y1 : Int32} {y2 : Int32} {y3 : Nat → Int32} {y4 : Nat → Int32} {k17 : (Int32 × Int32) → Option (Int32 × Int32 × Int32 × (Nat → Int32) × (Nat → Int32))} (hk17 : ∀ (a : Int32 × Int32) (ls : Array Slot) (H : Heap) (locs : List Loc), lv_has ls 4 [(0, .ref q_mo), (1, .int y0), (2, .int a.1), (3, .int a.2)] → va_P (dC, dI) vwCl (w_model cI q_mo q_mlb_ q_mcl_ q_mus_ q_mwr_ q_mdk_ q_mcp_ y1 y2 mfu y3 mCl mUs mWr y4 mCp) H → va_D A (w_model cI q_mo q_mlb_ q_mcl_ q_mus_ q_mwr_ q_mdk_ q_mcp_ y1 y2 mfu y3 mCl mUs mWr y4 mCp) → va_S A s.heap H locs → k17 a = some r → W p l e rm_M_area s m args below meth c H locs 0 0 (MQ below (jv_Qi r.1 (dC, dI) (w_model cI q_mo q_mlb_ q_mcl_ q_mus_ q_mwr_ q_mdk_ q_mcp_ r.2.1 r.2.2.1 mfu r.2.2.2.1 mCl mUs mWr r.2.2.2.2 mCp) A) args s 0 0 A) (F0 m 17 ls [])) {a : Int32 × Int32} {ls : Array Slot} (hl : lv_has ls 4 [(0, .ref q_mo), (1, .int y0), (2, .int a.1), (3, .int a.2)]) {H : Heap} {locs : List Loc} (hP : va_P (dC, dI) vwCl (w_model cI q_mo q_mlb_ q_mcl_ q_mus_ q_mwr_ q_mdk_ q_mcp_ y1 y2 mfu y3 mCl mUs mWr y4 mCp) H) (hD : va_D A (w_model cI q_mo q_mlb_ q_mcl_ q_mus_ q_mwr_ q_mdk_ q_mcp_ y1 y2 mfu y3 mCl mUs mWr y4 mCp)) (hS : va_S A s.heap H locs) (hf : f_M_area_17 y0 y1 y2 y3 y4 k17 a = some r) : W p l e rm_M_area s m args below meth c H locs 0 0 (MQ below (jv_Qi r.1 (dC, dI) (w_model cI q_mo q_mlb_ q_mcl_ q_mus_ q_mwr_ q_mdk_ q_mcp_ r.2.1 r.2.2.1 mfu r.2.2.2.1 mCl mUs mWr r.2.2.2.2 mCp) A) args s 0 0 A) (F0 m 17 ls []) := by
  unfold f_M_area_17 at hf
  obtain ⟨hx, hb, hml, hown, hts, hr, hlocks⟩ := id cx
  refine lv_iload_n hx hb d_M_area_17 rfl (lv_at hl 3 rfl) ?_
  refine lv_aload_n hx hb d_M_area_18 rfl (lv_at hl 0 rfl) ?_
  refine va_get (D := (dC, dI)) (ci := kModel) (v := .int y2) (C := R_Model) (T := T_Model) (N := 9) hx hb hts (fun w h => List.mem_cons_of_mem _ (in_Model w h)) hown hK hP 0 rfl rfl 1 (by decide) (jv_w hts wa_201) (fun _ h9 => h9) rfl d_M_area_19 ?_
  refine lv_icmp_ge (tgt := 51) hx hb d_M_area_22 (by decide) (fun hc => ?_) (fun hc => ?_)
  · have hf := jv_it hf hc
    refine lv_aload_n hx hb d_M_area_51 rfl (lv_at hl 0 rfl) ?_
    refine lv_iload_n hx hb d_M_area_52 rfl (lv_at hl 1 rfl) ?_
    obtain ⟨x1, g2, hf⟩ := jv_ob hf
    refine jv_cs (W.runS (As := [.int y0]) (rest := [.ref q_mo]) ⟨hx, hb, hml, hown, hts⟩ (c_M_isLabel l y0 x1 g2) (jv_cwS hts wa_243 wa_194 wa_244 wa_245 rfl rfl yd_M_isLabel ⟨Nat.le_of_ble_eq_true rfl, Nat.le_of_ble_eq_true rfl⟩) jv_pre0 rfl rfl hl.1 rfl (lv_room (Nat.le_of_ble_eq_true rfl)) d_M_area_53 ⟨Nat.zero_le _, Nat.zero_le _⟩) ?_
    refine lv_if_ne (tgt := 63) hx hb d_M_area_56 (by decide) (fun hc => ?_) (fun hc => ?_)
    · have hf := jv_if hf hc
      refine lv_iload_n hx hb d_M_area_63 rfl (lv_at hl 2 rfl) ?_
      refine lv_if_eq (tgt := 71) hx hb d_M_area_64 (by decide) (fun hc => ?_) (fun hc => ?_)
      · have hf := jv_it hf hc
        refine lv_iconst (v := (0 : Int32)) hx hb d_M_area_71 (by decide) ?_
        exact b_M_area_72 (y0 := y0) (y1 := (0 : Int32)) (y2 := y1) (y3 := y2) (y4 := y3) (y5 := y4) cx hK hA (lv_sub hl [0, 1] rfl) hP hD hS hf
      · have hf := jv_if hf hc
        refine lv_iconst (v := (2 : Int32)) hx hb d_M_area_67 (by decide) ?_
        refine lv_goto (tgt := 72) hx hb d_M_area_68 (by decide) ?_
        exact b_M_area_72 (y0 := y0) (y1 := (2 : Int32)) (y2 := y1) (y3 := y2) (y4 := y3) (y5 := y4) cx hK hA (lv_sub hl [0, 1] rfl) hP hD hS hf
    · have hf := jv_it hf hc
      refine lv_iconst (v := (1 : Int32)) hx hb d_M_area_59 (by decide) ?_
      refine lv_goto (tgt := 72) hx hb d_M_area_60 (by decide) ?_
      exact b_M_area_72 (y0 := y0) (y1 := (1 : Int32)) (y2 := y1) (y3 := y2) (y4 := y3) (y5 := y4) cx hK hA (lv_sub hl [0, 1] rfl) hP hD hS hf
  · have hf := jv_if hf hc
    refine lv_iload_n hx hb d_M_area_25 rfl (lv_at hl 2 rfl) ?_
    refine lv_if_ne (tgt := 39) hx hb d_M_area_26 (by decide) (fun hc => ?_) (fun hc => ?_)
    · have hf := jv_if hf hc
      refine lv_iconst (v := (1 : Int32)) hx hb d_M_area_39 (by decide) ?_
      refine lv_goto (tgt := 44) hx hb d_M_area_40 (by decide) ?_
      refine lv_istore_n (lv' := [(2, .int (1 : Int32)), (0, .ref q_mo), (1, .int y0), (3, .int a.2)]) hx hb d_M_area_44 rfl hl (by decide) rfl (fun ls hl => ?_)
      refine lv_iinc (k := 3) (v := a.2 + (1 : Int32)) (lv' := [(3, .int (a.2 + (1 : Int32))), (2, .int (1 : Int32)), (0, .ref q_mo), (1, .int y0)]) hx hb d_M_area_45 hl rfl (jv_inc _) (by decide) rfl (fun ls hl => ?_)
      refine lv_goto (tgt := 17) hx hb d_M_area_48 (by decide) ?_
      exact hk17 ((1 : Int32), a.2 + (1 : Int32)) _ _ _ (lv_sub hl [2, 3, 1, 0] rfl) hP hD hS hf
    · have hf := jv_it hf hc
      refine lv_aload_n hx hb d_M_area_29 rfl (lv_at hl 0 rfl) ?_
      refine va_get (D := (dC, dI)) (ci := kModel) (v := .ref q_mlb_) (C := R_Model) (T := T_Model) (N := 9) hx hb hts (fun w h => List.mem_cons_of_mem _ (in_Model w h)) hown hK hP 0 rfl rfl 2 (by decide) (jv_w hts wa_215) (fun _ h9 => h9) rfl d_M_area_30 ?_
      refine lv_iload_n hx hb d_M_area_33 rfl (lv_at hl 3 rfl) ?_
      obtain ⟨x3, g4, hf⟩ := jv_ob hf
      refine jv_iald hx hb hK hP 1 0 rfl rfl g4 d_M_area_34 ?_
      refine lv_iload_n hx hb d_M_area_35 rfl (lv_at hl 1 rfl) ?_
      refine lv_icmp_ne (tgt := 43) hx hb d_M_area_36 (by decide) (fun hc => ?_) (fun hc => ?_)
      · have hf := jv_if hf hc
        refine lv_iconst (v := (0 : Int32)) hx hb d_M_area_43 (by decide) ?_
        refine lv_istore_n (lv' := [(2, .int (0 : Int32)), (0, .ref q_mo), (1, .int y0), (3, .int a.2)]) hx hb d_M_area_44 rfl hl (by decide) rfl (fun ls hl => ?_)
        refine lv_iinc (k := 3) (v := a.2 + (1 : Int32)) (lv' := [(3, .int (a.2 + (1 : Int32))), (2, .int (0 : Int32)), (0, .ref q_mo), (1, .int y0)]) hx hb d_M_area_45 hl rfl (jv_inc _) (by decide) rfl (fun ls hl => ?_)
        refine lv_goto (tgt := 17) hx hb d_M_area_48 (by decide) ?_
        exact hk17 ((0 : Int32), a.2 + (1 : Int32)) _ _ _ (lv_sub hl [2, 3, 1, 0] rfl) hP hD hS hf
      · have hf := jv_it hf hc
        refine lv_iconst (v := (1 : Int32)) hx hb d_M_area_39 (by decide) ?_
        refine lv_goto (tgt := 44) hx hb d_M_area_40 (by decide) ?_
        refine lv_istore_n (lv' := [(2, .int (1 : Int32)), (0, .ref q_mo), (1, .int y0), (3, .int a.2)]) hx hb d_M_area_44 rfl hl (by decide) rfl (fun ls hl => ?_)
        refine lv_iinc (k := 3) (v := a.2 + (1 : Int32)) (lv' := [(3, .int (a.2 + (1 : Int32))), (2, .int (1 : Int32)), (0, .ref q_mo), (1, .int y0)]) hx hb d_M_area_45 hl rfl (jv_inc _) (by decide) rfl (fun ls hl => ?_)
        refine lv_goto (tgt := 17) hx hb d_M_area_48 (by decide) ?_
        exact hk17 ((1 : Int32), a.2 + (1 : Int32)) _ _ _ (lv_sub hl [2, 3, 1, 0] rfl) hP hD hS hf
set_option maxHeartbeats 4000000 in
set_option maxRecDepth 100000 in
theorem l_M_area_17 {l : Launch} {dC : Nat → ClassId} {dI : Nat → Nat → Nat} {cI cA cL : ClassId} {q_mo q_mlb_ q_mcl_ q_mus_ q_mwr_ q_mdk_ q_mcp_ : Nat} {mfu : Int32} {mCl : Nat → Int32} {mUs : Nat → Int32} {mWr : Nat → Int32} {mCp : Nat → Int32} {p : Program} {e : Env} {s : State} {m : MethodId} {args : Array Value} {below : List Frame} {meth : Method} {c : Code} (cx : jv_cx p s m args meth c cc_M_area 4 R_Model (some .int) ws_M_area) (hK : va_K (dC, dI) vwCl (jv_ty cI cA cL) s) {A : Nat → Prop} (hA : ∀ q : Nat, s.heap.size ≤ q → A q) {r : Int32 × Int32 × Int32 × (Nat → Int32) × (Nat → Int32)} {y0 : Int32} {y1 : Int32} {y2 : Int32} {y3 : Nat → Int32} {y4 : Nat → Int32} : ∀ n : Nat, ∀ (a : Int32 × Int32) (ls : Array Slot) (H : Heap) (locs : List Loc), lv_has ls 4 [(0, .ref q_mo), (1, .int y0), (2, .int a.1), (3, .int a.2)] → va_P (dC, dI) vwCl (w_model cI q_mo q_mlb_ q_mcl_ q_mus_ q_mwr_ q_mdk_ q_mcp_ y1 y2 mfu y3 mCl mUs mWr y4 mCp) H → va_D A (w_model cI q_mo q_mlb_ q_mcl_ q_mus_ q_mwr_ q_mdk_ q_mcp_ y1 y2 mfu y3 mCl mUs mWr y4 mCp) → va_S A s.heap H locs → jv_fx (f_M_area_17 y0 y1 y2 y3 y4) n a = some r → W p l e rm_M_area s m args below meth c H locs 0 0 (MQ below (jv_Qi r.1 (dC, dI) (w_model cI q_mo q_mlb_ q_mcl_ q_mus_ q_mwr_ q_mdk_ q_mcp_ r.2.1 r.2.2.1 mfu r.2.2.2.1 mCl mUs mWr r.2.2.2.2 mCp) A) args s 0 0 A) (F0 m 17 ls []) := by
  intro n
  induction n with
  | zero => intro a ls H locs hl hP hD hS hf; exact jv_no hf
  | succ n ih => intro a ls H locs hl hP hD hS hf; exact b_M_area_17 cx hK hA ih hl hP hD hS hf
def f_M_area_0 (y0 : Int32) (y1 : Int32) (y2 : Int32) (y3 : Nat → Int32) (y4 : Nat → Int32) : Option (Int32 × Int32 × Int32 × (Nat → Int32) × (Nat → Int32)) :=
  if y2 = (6 : Int32) then (jv_fx (f_M_area_17 y0 y1 y2 y3 y4) 300 ((1 : Int32), (0 : Int32))) else (jv_fx (f_M_area_17 y0 y1 y2 y3 y4) 300 ((0 : Int32), (0 : Int32)))
set_option maxHeartbeats 4000000 in
set_option maxRecDepth 100000 in
theorem b_M_area_0 {l : Launch} {dC : Nat → ClassId} {dI : Nat → Nat → Nat} {cI cA cL : ClassId} {q_mo q_mlb_ q_mcl_ q_mus_ q_mwr_ q_mdk_ q_mcp_ : Nat} {mfu : Int32} {mCl : Nat → Int32} {mUs : Nat → Int32} {mWr : Nat → Int32} {mCp : Nat → Int32} {p : Program} {e : Env} {s : State} {m : MethodId} {args : Array Value} {below : List Frame} {meth : Method} {c : Code} (cx : jv_cx p s m args meth c cc_M_area 4 R_Model (some .int) ws_M_area) (hK : va_K (dC, dI) vwCl (jv_ty cI cA cL) s) {A : Nat → Prop} (hA : ∀ q : Nat, s.heap.size ≤ q → A q) {r : Int32 × Int32 × Int32 × (Nat → Int32) × (Nat → Int32)} {y0 : Int32} {y1 : Int32} {y2 : Int32} {y3 : Nat → Int32} {y4 : Nat → Int32} {ls : Array Slot} (hl : lv_has ls 4 [(0, .ref q_mo), (1, .int y0)]) {H : Heap} {locs : List Loc} (hP : va_P (dC, dI) vwCl (w_model cI q_mo q_mlb_ q_mcl_ q_mus_ q_mwr_ q_mdk_ q_mcp_ y1 y2 mfu y3 mCl mUs mWr y4 mCp) H) (hD : va_D A (w_model cI q_mo q_mlb_ q_mcl_ q_mus_ q_mwr_ q_mdk_ q_mcp_ y1 y2 mfu y3 mCl mUs mWr y4 mCp)) (hS : va_S A s.heap H locs) (hf : f_M_area_0 y0 y1 y2 y3 y4 = some r) : W p l e rm_M_area s m args below meth c H locs 0 0 (MQ below (jv_Qi r.1 (dC, dI) (w_model cI q_mo q_mlb_ q_mcl_ q_mus_ q_mwr_ q_mdk_ q_mcp_ r.2.1 r.2.2.1 mfu r.2.2.2.1 mCl mUs mWr r.2.2.2.2 mCp) A) args s 0 0 A) (F0 m 0 ls []) := by
  unfold f_M_area_0 at hf
  obtain ⟨hx, hb, hml, hown, hts, hr, hlocks⟩ := id cx
  refine lv_aload_n hx hb d_M_area_0 rfl (lv_at hl 0 rfl) ?_
  refine va_get (D := (dC, dI)) (ci := kModel) (v := .int y2) (C := R_Model) (T := T_Model) (N := 9) hx hb hts (fun w h => List.mem_cons_of_mem _ (in_Model w h)) hown hK hP 0 rfl rfl 1 (by decide) (jv_w hts wa_201) (fun _ h9 => h9) rfl d_M_area_1 ?_
  refine lv_bipush (v := (6 : Int32)) hx hb d_M_area_4 (by decide) ?_
  refine lv_icmp_ne (tgt := 13) hx hb d_M_area_6 (by decide) (fun hc => ?_) (fun hc => ?_)
  · have hf := jv_if hf hc
    refine lv_iconst (v := (0 : Int32)) hx hb d_M_area_13 (by decide) ?_
    refine lv_istore_n (lv' := [(2, .int (0 : Int32)), (0, .ref q_mo), (1, .int y0)]) hx hb d_M_area_14 rfl hl (by decide) rfl (fun ls hl => ?_)
    refine lv_iconst (v := (0 : Int32)) hx hb d_M_area_15 (by decide) ?_
    refine lv_istore_n (lv' := [(3, .int (0 : Int32)), (2, .int (0 : Int32)), (0, .ref q_mo), (1, .int y0)]) hx hb d_M_area_16 rfl hl (by decide) rfl (fun ls hl => ?_)
    exact l_M_area_17 (y0 := y0) (y1 := y1) (y2 := y2) (y3 := y3) (y4 := y4) cx hK hA 300 ((0 : Int32), (0 : Int32)) _ _ _ (lv_sub hl [2, 3, 1, 0] rfl) hP hD hS hf
  · have hf := jv_it hf hc
    refine lv_iconst (v := (1 : Int32)) hx hb d_M_area_9 (by decide) ?_
    refine lv_goto (tgt := 14) hx hb d_M_area_10 (by decide) ?_
    refine lv_istore_n (lv' := [(2, .int (1 : Int32)), (0, .ref q_mo), (1, .int y0)]) hx hb d_M_area_14 rfl hl (by decide) rfl (fun ls hl => ?_)
    refine lv_iconst (v := (0 : Int32)) hx hb d_M_area_15 (by decide) ?_
    refine lv_istore_n (lv' := [(3, .int (0 : Int32)), (2, .int (1 : Int32)), (0, .ref q_mo), (1, .int y0)]) hx hb d_M_area_16 rfl hl (by decide) rfl (fun ls hl => ?_)
    exact l_M_area_17 (y0 := y0) (y1 := y1) (y2 := y2) (y3 := y3) (y4 := y4) cx hK hA 300 ((1 : Int32), (0 : Int32)) _ _ _ (lv_sub hl [2, 3, 1, 0] rfl) hP hD hS hf
def f_M_area (a0 : Int32) (mth : Int32) (mar : Int32) (mLb : Nat → Int32) (mDk : Nat → Int32) : Option (Int32 × Int32 × Int32 × (Nat → Int32) × (Nat → Int32)) := f_M_area_0 a0 mth mar mLb mDk
set_option maxHeartbeats 4000000 in
set_option maxRecDepth 100000 in
theorem c_M_area (l : Launch) (dC : Nat → ClassId) (dI : Nat → Nat → Nat) (cI cA cL : ClassId) (q_mo q_mlb_ q_mcl_ q_mus_ q_mwr_ q_mdk_ q_mcp_ : Nat) (mth : Int32) (mar : Int32) (mfu : Int32) (mLb : Nat → Int32) (mCl : Nat → Int32) (mUs : Nat → Int32) (mWr : Nat → Int32) (mDk : Nat → Int32) (mCp : Nat → Int32) (a0 : Int32) (sz : Nat) (r : Int32 × Int32 × Int32 × (Nat → Int32) × (Nat → Int32)) (hf : f_M_area a0 mth mar mLb mDk = some r) : Met l y_M_area ws_M_area rm_M_area (jv_Pw [.ref q_mo, .int a0] (dC, dI) (jv_ty cI cA cL) (w_model cI q_mo q_mlb_ q_mcl_ q_mus_ q_mwr_ q_mdk_ q_mcp_ mth mar mfu mLb mCl mUs mWr mDk mCp) sz) (jv_Qi r.1 (dC, dI) (w_model cI q_mo q_mlb_ q_mcl_ q_mus_ q_mwr_ q_mdk_ q_mcp_ r.2.1 r.2.2.1 mfu r.2.2.2.1 mCl mUs mWr r.2.2.2.2 mCp) (va_A (w_model cI q_mo q_mlb_ q_mcl_ q_mus_ q_mwr_ q_mdk_ q_mcp_ mth mar mfu mLb mCl mUs mWr mDk mCp) sz)) 0 0 (va_A (w_model cI q_mo q_mlb_ q_mcl_ q_mus_ q_mwr_ q_mdk_ q_mcp_ mth mar mfu mLb mCl mUs mWr mDk mCp) sz) := by
  refine Met.ofW (cc := cc_M_area) (maxL := 4) (ret := (some .int)) (by decide) rfl ?_
  intro p e s m args below meth c s₁ B hml hv
  obtain ⟨rfl, hsz, hP, hK, hD0⟩ := hv
  have cx : jv_cx p s m _ meth c cc_M_area 4 R_Model (some .int) ws_M_area := ⟨B.exec, B.bytes, hml, findClass_of_methodNamed B.named, atoms_spec (ws := ws_M_area) B.pre, B.returns, B.notSynchronized⟩
  subst hsz
  have hD := hD0.self (sz := s.heap.size)
  generalize hAe : va_A (w_model cI q_mo q_mlb_ q_mcl_ q_mus_ q_mwr_ q_mdk_ q_mcp_ mth mar mfu mLb mCl mUs mWr mDk mCp) s.heap.size = A at hD ⊢
  have hA : ∀ q : Nat, s.heap.size ≤ q → A q := fun q h => by rw [← hAe]; exact Or.inr h
  have hS : va_S A s.heap s.heap [] := va_S.rf
  have hl := lv_entry ([.ref q_mo, .int a0]) (n := 4) (Nat.le_of_ble_eq_true rfl)
  rw [lg_entry_eq]
  generalize (lg_sl ([.ref q_mo, .int a0]) ++ List.replicate (4 - (lg_sl ([.ref q_mo, .int a0])).length) Slot.unset).toArray = ls at hl ⊢
  have hl : lv_has ls 4 [(0, .ref q_mo), (1, .int a0)] := hl
  exact b_M_area_0 (y0 := a0) (y1 := mth) (y2 := mar) (y3 := mLb) (y4 := mDk) cx hK hA (lv_sub hl [0, 1] rfl) hP hD hS hf
theorem d_M_clear_0 : decode cc_M_clear 0 = .ok (.aload_n 0, 1) := by decide +kernel
theorem d_M_clear_1 : decode cc_M_clear 1 = .ok (.iload_n 1, 1) := by decide +kernel
theorem d_M_clear_2 : decode cc_M_clear 2 = .ok (.ifCond .lt 15, 3) := by decide +kernel
theorem d_M_clear_5 : decode cc_M_clear 5 = .ok (.iload_n 1, 1) := by decide +kernel
theorem d_M_clear_6 : decode cc_M_clear 6 = .ok (.iconst 3, 1) := by decide +kernel
theorem d_M_clear_7 : decode cc_M_clear 7 = .ok (.if_icmp .gt 10, 3) := by decide +kernel
theorem d_M_clear_10 : decode cc_M_clear 10 = .ok (.iload_n 2, 1) := by decide +kernel
theorem d_M_clear_11 : decode cc_M_clear 11 = .ok (.invokestatic 39, 3) := by decide +kernel
theorem d_M_clear_14 : decode cc_M_clear 14 = .ok (.ifCond .ne 7, 3) := by decide +kernel
theorem d_M_clear_21 : decode cc_M_clear 21 = .ok (.iconst 0, 1) := by decide +kernel
theorem d_M_clear_22 : decode cc_M_clear 22 = .ok (.putfield 32, 3) := by decide +kernel
theorem d_M_clear_25 : decode cc_M_clear 25 = .ok (.aload_n 0, 1) := by decide +kernel
theorem d_M_clear_26 : decode cc_M_clear 26 = .ok (.getfield 32, 3) := by decide +kernel
theorem d_M_clear_29 : decode cc_M_clear 29 = .ok (.ifCond .le 5, 3) := by decide +kernel
theorem d_M_clear_34 : decode cc_M_clear 34 = .ok (.aload_n 0, 1) := by decide +kernel
theorem d_M_clear_35 : decode cc_M_clear 35 = .ok (.getfield 13, 3) := by decide +kernel
theorem d_M_clear_38 : decode cc_M_clear 38 = .ok (.iload_n 1, 1) := by decide +kernel
theorem d_M_clear_39 : decode cc_M_clear 39 = .ok (.iload_n 2, 1) := by decide +kernel
theorem d_M_clear_40 : decode cc_M_clear 40 = .ok (.iastore, 1) := by decide +kernel
theorem d_M_clear_41 : decode cc_M_clear 41 = .ok (.iconst 1, 1) := by decide +kernel
theorem d_M_clear_42 : decode cc_M_clear 42 = .ok (.ireturn, 1) := by decide +kernel
theorem d_M_clear_32 : decode cc_M_clear 32 = .ok (.iconst 0, 1) := by decide +kernel
theorem d_M_clear_33 : decode cc_M_clear 33 = .ok (.ireturn, 1) := by decide +kernel
theorem d_M_clear_17 : decode cc_M_clear 17 = .ok (.iconst 1, 1) := by decide +kernel
theorem d_M_clear_18 : decode cc_M_clear 18 = .ok (.goto 4, 3) := by decide +kernel
def f_M_clear_17 (y0 : Int32) (y1 : Int32) (y2 : Int32) (y3 : Nat → Int32) : Option (Int32 × Int32 × (Nat → Int32)) :=
  if (1 : Int32) ≤ 0 then ((jv_sa y3 4 y0 y1).bind fun F5 => some ((1 : Int32), (1 : Int32), F5)) else (some ((0 : Int32), (1 : Int32), y3))
set_option maxHeartbeats 4000000 in
set_option maxRecDepth 100000 in
theorem b_M_clear_17 {l : Launch} {dC : Nat → ClassId} {dI : Nat → Nat → Nat} {cI cA cL : ClassId} {q_mo q_mlb_ q_mcl_ q_mus_ q_mwr_ q_mdk_ q_mcp_ : Nat} {mar : Int32} {mfu : Int32} {mLb : Nat → Int32} {mUs : Nat → Int32} {mWr : Nat → Int32} {mDk : Nat → Int32} {mCp : Nat → Int32} {p : Program} {e : Env} {s : State} {m : MethodId} {args : Array Value} {below : List Frame} {meth : Method} {c : Code} (cx : jv_cx p s m args meth c cc_M_clear 3 R_Model (some .boolean) ws_M_clear) (hK : va_K (dC, dI) vwCl (jv_ty cI cA cL) s) {A : Nat → Prop} (hA : ∀ q : Nat, s.heap.size ≤ q → A q) {r : Int32 × Int32 × (Nat → Int32)} {y0 : Int32} {y1 : Int32} {y2 : Int32} {y3 : Nat → Int32} {ls : Array Slot} (hl : lv_has ls 3 [(0, .ref q_mo), (1, .int y0), (2, .int y1)]) {H : Heap} {locs : List Loc} (hP : va_P (dC, dI) vwCl (w_model cI q_mo q_mlb_ q_mcl_ q_mus_ q_mwr_ q_mdk_ q_mcp_ y2 mar mfu mLb y3 mUs mWr mDk mCp) H) (hD : va_D A (w_model cI q_mo q_mlb_ q_mcl_ q_mus_ q_mwr_ q_mdk_ q_mcp_ y2 mar mfu mLb y3 mUs mWr mDk mCp)) (hS : va_S A s.heap H locs) (hf : f_M_clear_17 y0 y1 y2 y3 = some r) : W p l e rm_M_clear s m args below meth c H locs 0 0 (MQ below (jv_Qi r.1 (dC, dI) (w_model cI q_mo q_mlb_ q_mcl_ q_mus_ q_mwr_ q_mdk_ q_mcp_ r.2.1 mar mfu mLb r.2.2 mUs mWr mDk mCp) A) args s 0 0 A) (F0 m 17 ls [.ref q_mo]) := by
  unfold f_M_clear_17 at hf
  obtain ⟨hx, hb, hml, hown, hts, hr, hlocks⟩ := id cx
  refine lv_iconst (v := (1 : Int32)) hx hb d_M_clear_17 (by decide) ?_
  refine lv_goto (tgt := 22) hx hb d_M_clear_18 (by decide) ?_
  refine va_put (D := (dC, dI)) (ci := kModel) (v := .int (1 : Int32)) (ty := .int) (C := R_Model) (T := T_Model) (N := 9) hx hb hts (fun w h => List.mem_cons_of_mem _ (in_Model w h)) ty_Model tyok_Model nm_Model hown hK hP hD hS 0 rfl rfl 0 (by decide) (jv_w hts wa_200) (fun _ h9 => h9) rfl (by decide +kernel) rfl rfl (Nat.le_of_ble_eq_true rfl) d_M_clear_22 (fun H locs hP hD hS => ?_)
  have hP : va_P (dC, dI) vwCl (w_model cI q_mo q_mlb_ q_mcl_ q_mus_ q_mwr_ q_mdk_ q_mcp_ (1 : Int32) mar mfu mLb y3 mUs mWr mDk mCp) H := hP
  have hD : va_D A (w_model cI q_mo q_mlb_ q_mcl_ q_mus_ q_mwr_ q_mdk_ q_mcp_ (1 : Int32) mar mfu mLb y3 mUs mWr mDk mCp) := hD
  refine lv_aload_n hx hb d_M_clear_25 rfl (lv_at hl 0 rfl) ?_
  refine va_get (D := (dC, dI)) (ci := kModel) (v := .int (1 : Int32)) (C := R_Model) (T := T_Model) (N := 9) hx hb hts (fun w h => List.mem_cons_of_mem _ (in_Model w h)) hown hK hP 0 rfl rfl 0 (by decide) (jv_w hts wa_200) (fun _ h9 => h9) rfl d_M_clear_26 ?_
  refine lv_if_le (tgt := 34) hx hb d_M_clear_29 (by decide) (fun hc => ?_) (fun hc => ?_)
  · have hf := jv_it hf hc
    refine lv_aload_n hx hb d_M_clear_34 rfl (lv_at hl 0 rfl) ?_
    refine va_get (D := (dC, dI)) (ci := kModel) (v := .ref q_mcl_) (C := R_Model) (T := T_Model) (N := 9) hx hb hts (fun w h => List.mem_cons_of_mem _ (in_Model w h)) hown hK hP 0 rfl rfl 3 (by decide) (jv_w hts wa_246) (fun _ h9 => h9) rfl d_M_clear_35 ?_
    refine lv_iload_n hx hb d_M_clear_38 rfl (lv_at hl 1 rfl) ?_
    refine lv_iload_n hx hb d_M_clear_39 rfl (lv_at hl 2 rfl) ?_
    obtain ⟨F5, g6, hf⟩ := jv_ob hf
    refine jv_iast hx hb hK hP hD hS 2 0 rfl rfl g6 d_M_clear_40 (fun H locs hP hD hS => ?_)
    have hP : va_P (dC, dI) vwCl (w_model cI q_mo q_mlb_ q_mcl_ q_mus_ q_mwr_ q_mdk_ q_mcp_ (1 : Int32) mar mfu mLb F5 mUs mWr mDk mCp) H := hP
    have hD : va_D A (w_model cI q_mo q_mlb_ q_mcl_ q_mus_ q_mwr_ q_mdk_ q_mcp_ (1 : Int32) mar mfu mLb F5 mUs mWr mDk mCp) := hD
    refine lv_iconst (v := (1 : Int32)) hx hb d_M_clear_41 (by decide) ?_
    obtain rfl := Option.some.inj hf
    exact W.zret hx hb hr rfl (fun t ht hW => ⟨rfl, by rw [ht]; exact hP, hD, hS.F ht⟩) hS.2.2 d_M_clear_42
  · have hf := jv_if hf hc
    refine lv_iconst (v := (0 : Int32)) hx hb d_M_clear_32 (by decide) ?_
    obtain rfl := Option.some.inj hf
    exact W.zret hx hb hr rfl (fun t ht hW => ⟨rfl, by rw [ht]; exact hP, hD, hS.F ht⟩) hS.2.2 d_M_clear_33
def f_M_clear_0 (y0 : Int32) (y1 : Int32) (y2 : Int32) (y3 : Nat → Int32) : Option (Int32 × Int32 × (Nat → Int32)) :=
  if y0 < 0 then (f_M_clear_17 y0 y1 y2 y3) else (if (3 : Int32) < y0 then (f_M_clear_17 y0 y1 y2 y3) else ((f_M_isLabel y1).bind fun x1 => if x1 = 0 then (f_M_clear_17 y0 y1 y2 y3) else (if (0 : Int32) ≤ 0 then ((jv_sa y3 4 y0 y1).bind fun F3 => some ((1 : Int32), (0 : Int32), F3)) else (some ((0 : Int32), (0 : Int32), y3)))))
set_option maxHeartbeats 4000000 in
set_option maxRecDepth 100000 in
theorem b_M_clear_0 {l : Launch} {dC : Nat → ClassId} {dI : Nat → Nat → Nat} {cI cA cL : ClassId} {q_mo q_mlb_ q_mcl_ q_mus_ q_mwr_ q_mdk_ q_mcp_ : Nat} {mar : Int32} {mfu : Int32} {mLb : Nat → Int32} {mUs : Nat → Int32} {mWr : Nat → Int32} {mDk : Nat → Int32} {mCp : Nat → Int32} {p : Program} {e : Env} {s : State} {m : MethodId} {args : Array Value} {below : List Frame} {meth : Method} {c : Code} (cx : jv_cx p s m args meth c cc_M_clear 3 R_Model (some .boolean) ws_M_clear) (hK : va_K (dC, dI) vwCl (jv_ty cI cA cL) s) {A : Nat → Prop} (hA : ∀ q : Nat, s.heap.size ≤ q → A q) {r : Int32 × Int32 × (Nat → Int32)} {y0 : Int32} {y1 : Int32} {y2 : Int32} {y3 : Nat → Int32} {ls : Array Slot} (hl : lv_has ls 3 [(0, .ref q_mo), (1, .int y0), (2, .int y1)]) {H : Heap} {locs : List Loc} (hP : va_P (dC, dI) vwCl (w_model cI q_mo q_mlb_ q_mcl_ q_mus_ q_mwr_ q_mdk_ q_mcp_ y2 mar mfu mLb y3 mUs mWr mDk mCp) H) (hD : va_D A (w_model cI q_mo q_mlb_ q_mcl_ q_mus_ q_mwr_ q_mdk_ q_mcp_ y2 mar mfu mLb y3 mUs mWr mDk mCp)) (hS : va_S A s.heap H locs) (hf : f_M_clear_0 y0 y1 y2 y3 = some r) : W p l e rm_M_clear s m args below meth c H locs 0 0 (MQ below (jv_Qi r.1 (dC, dI) (w_model cI q_mo q_mlb_ q_mcl_ q_mus_ q_mwr_ q_mdk_ q_mcp_ r.2.1 mar mfu mLb r.2.2 mUs mWr mDk mCp) A) args s 0 0 A) (F0 m 0 ls []) := by
  unfold f_M_clear_0 at hf
  obtain ⟨hx, hb, hml, hown, hts, hr, hlocks⟩ := id cx
  refine lv_aload_n hx hb d_M_clear_0 rfl (lv_at hl 0 rfl) ?_
  refine lv_iload_n hx hb d_M_clear_1 rfl (lv_at hl 1 rfl) ?_
  refine lv_if_lt (tgt := 17) hx hb d_M_clear_2 (by decide) (fun hc => ?_) (fun hc => ?_)
  · have hf := jv_it hf hc
    exact b_M_clear_17 (y0 := y0) (y1 := y1) (y2 := y2) (y3 := y3) cx hK hA (lv_sub hl [0, 1, 2] rfl) hP hD hS hf
  · have hf := jv_if hf hc
    refine lv_iload_n hx hb d_M_clear_5 rfl (lv_at hl 1 rfl) ?_
    refine lv_iconst (v := (3 : Int32)) hx hb d_M_clear_6 (by decide) ?_
    refine lv_icmp_gt (tgt := 17) hx hb d_M_clear_7 (by decide) (fun hc => ?_) (fun hc => ?_)
    · have hf := jv_it hf hc
      exact b_M_clear_17 (y0 := y0) (y1 := y1) (y2 := y2) (y3 := y3) cx hK hA (lv_sub hl [0, 1, 2] rfl) hP hD hS hf
    · have hf := jv_if hf hc
      refine lv_iload_n hx hb d_M_clear_10 rfl (lv_at hl 2 rfl) ?_
      obtain ⟨x1, g2, hf⟩ := jv_ob hf
      refine jv_cs (W.runS (As := [.int y1]) (rest := [.ref q_mo]) ⟨hx, hb, hml, hown, hts⟩ (c_M_isLabel l y1 x1 g2) (jv_cwS hts wa_243 wa_194 wa_244 wa_245 rfl rfl yd_M_isLabel ⟨Nat.le_of_ble_eq_true rfl, Nat.le_of_ble_eq_true rfl⟩) jv_pre0 rfl rfl hl.1 rfl (lv_room (Nat.le_of_ble_eq_true rfl)) d_M_clear_11 ⟨Nat.zero_le _, Nat.zero_le _⟩) ?_
      refine lv_if_ne (tgt := 21) hx hb d_M_clear_14 (by decide) (fun hc => ?_) (fun hc => ?_)
      · have hf := jv_if hf hc
        refine lv_iconst (v := (0 : Int32)) hx hb d_M_clear_21 (by decide) ?_
        refine va_put (D := (dC, dI)) (ci := kModel) (v := .int (0 : Int32)) (ty := .int) (C := R_Model) (T := T_Model) (N := 9) hx hb hts (fun w h => List.mem_cons_of_mem _ (in_Model w h)) ty_Model tyok_Model nm_Model hown hK hP hD hS 0 rfl rfl 0 (by decide) (jv_w hts wa_200) (fun _ h9 => h9) rfl (by decide +kernel) rfl rfl (Nat.le_of_ble_eq_true rfl) d_M_clear_22 (fun H locs hP hD hS => ?_)
        have hP : va_P (dC, dI) vwCl (w_model cI q_mo q_mlb_ q_mcl_ q_mus_ q_mwr_ q_mdk_ q_mcp_ (0 : Int32) mar mfu mLb y3 mUs mWr mDk mCp) H := hP
        have hD : va_D A (w_model cI q_mo q_mlb_ q_mcl_ q_mus_ q_mwr_ q_mdk_ q_mcp_ (0 : Int32) mar mfu mLb y3 mUs mWr mDk mCp) := hD
        refine lv_aload_n hx hb d_M_clear_25 rfl (lv_at hl 0 rfl) ?_
        refine va_get (D := (dC, dI)) (ci := kModel) (v := .int (0 : Int32)) (C := R_Model) (T := T_Model) (N := 9) hx hb hts (fun w h => List.mem_cons_of_mem _ (in_Model w h)) hown hK hP 0 rfl rfl 0 (by decide) (jv_w hts wa_200) (fun _ h9 => h9) rfl d_M_clear_26 ?_
        refine lv_if_le (tgt := 34) hx hb d_M_clear_29 (by decide) (fun hc => ?_) (fun hc => ?_)
        · have hf := jv_it hf hc
          refine lv_aload_n hx hb d_M_clear_34 rfl (lv_at hl 0 rfl) ?_
          refine va_get (D := (dC, dI)) (ci := kModel) (v := .ref q_mcl_) (C := R_Model) (T := T_Model) (N := 9) hx hb hts (fun w h => List.mem_cons_of_mem _ (in_Model w h)) hown hK hP 0 rfl rfl 3 (by decide) (jv_w hts wa_246) (fun _ h9 => h9) rfl d_M_clear_35 ?_
          refine lv_iload_n hx hb d_M_clear_38 rfl (lv_at hl 1 rfl) ?_
          refine lv_iload_n hx hb d_M_clear_39 rfl (lv_at hl 2 rfl) ?_
          obtain ⟨F3, g4, hf⟩ := jv_ob hf
          refine jv_iast hx hb hK hP hD hS 2 0 rfl rfl g4 d_M_clear_40 (fun H locs hP hD hS => ?_)
          have hP : va_P (dC, dI) vwCl (w_model cI q_mo q_mlb_ q_mcl_ q_mus_ q_mwr_ q_mdk_ q_mcp_ (0 : Int32) mar mfu mLb F3 mUs mWr mDk mCp) H := hP
          have hD : va_D A (w_model cI q_mo q_mlb_ q_mcl_ q_mus_ q_mwr_ q_mdk_ q_mcp_ (0 : Int32) mar mfu mLb F3 mUs mWr mDk mCp) := hD
          refine lv_iconst (v := (1 : Int32)) hx hb d_M_clear_41 (by decide) ?_
          obtain rfl := Option.some.inj hf
          exact W.zret hx hb hr rfl (fun t ht hW => ⟨rfl, by rw [ht]; exact hP, hD, hS.F ht⟩) hS.2.2 d_M_clear_42
        · have hf := jv_if hf hc
          refine lv_iconst (v := (0 : Int32)) hx hb d_M_clear_32 (by decide) ?_
          obtain rfl := Option.some.inj hf
          exact W.zret hx hb hr rfl (fun t ht hW => ⟨rfl, by rw [ht]; exact hP, hD, hS.F ht⟩) hS.2.2 d_M_clear_33
      · have hf := jv_it hf hc
        exact b_M_clear_17 (y0 := y0) (y1 := y1) (y2 := y2) (y3 := y3) cx hK hA (lv_sub hl [0, 1, 2] rfl) hP hD hS hf
def f_M_clear (a0 : Int32) (a1 : Int32) (mth : Int32) (mCl : Nat → Int32) : Option (Int32 × Int32 × (Nat → Int32)) := f_M_clear_0 a0 a1 mth mCl
set_option maxHeartbeats 4000000 in
set_option maxRecDepth 100000 in
theorem c_M_clear (l : Launch) (dC : Nat → ClassId) (dI : Nat → Nat → Nat) (cI cA cL : ClassId) (q_mo q_mlb_ q_mcl_ q_mus_ q_mwr_ q_mdk_ q_mcp_ : Nat) (mth : Int32) (mar : Int32) (mfu : Int32) (mLb : Nat → Int32) (mCl : Nat → Int32) (mUs : Nat → Int32) (mWr : Nat → Int32) (mDk : Nat → Int32) (mCp : Nat → Int32) (a0 : Int32) (a1 : Int32) (sz : Nat) (r : Int32 × Int32 × (Nat → Int32)) (hf : f_M_clear a0 a1 mth mCl = some r) : Met l y_M_clear ws_M_clear rm_M_clear (jv_Pw [.ref q_mo, .int a0, .int a1] (dC, dI) (jv_ty cI cA cL) (w_model cI q_mo q_mlb_ q_mcl_ q_mus_ q_mwr_ q_mdk_ q_mcp_ mth mar mfu mLb mCl mUs mWr mDk mCp) sz) (jv_Qi r.1 (dC, dI) (w_model cI q_mo q_mlb_ q_mcl_ q_mus_ q_mwr_ q_mdk_ q_mcp_ r.2.1 mar mfu mLb r.2.2 mUs mWr mDk mCp) (va_A (w_model cI q_mo q_mlb_ q_mcl_ q_mus_ q_mwr_ q_mdk_ q_mcp_ mth mar mfu mLb mCl mUs mWr mDk mCp) sz)) 0 0 (va_A (w_model cI q_mo q_mlb_ q_mcl_ q_mus_ q_mwr_ q_mdk_ q_mcp_ mth mar mfu mLb mCl mUs mWr mDk mCp) sz) := by
  refine Met.ofW (cc := cc_M_clear) (maxL := 3) (ret := (some .boolean)) (by decide) rfl ?_
  intro p e s m args below meth c s₁ B hml hv
  obtain ⟨rfl, hsz, hP, hK, hD0⟩ := hv
  have cx : jv_cx p s m _ meth c cc_M_clear 3 R_Model (some .boolean) ws_M_clear := ⟨B.exec, B.bytes, hml, findClass_of_methodNamed B.named, atoms_spec (ws := ws_M_clear) B.pre, B.returns, B.notSynchronized⟩
  subst hsz
  have hD := hD0.self (sz := s.heap.size)
  generalize hAe : va_A (w_model cI q_mo q_mlb_ q_mcl_ q_mus_ q_mwr_ q_mdk_ q_mcp_ mth mar mfu mLb mCl mUs mWr mDk mCp) s.heap.size = A at hD ⊢
  have hA : ∀ q : Nat, s.heap.size ≤ q → A q := fun q h => by rw [← hAe]; exact Or.inr h
  have hS : va_S A s.heap s.heap [] := va_S.rf
  have hl := lv_entry ([.ref q_mo, .int a0, .int a1]) (n := 3) (Nat.le_of_ble_eq_true rfl)
  rw [lg_entry_eq]
  generalize (lg_sl ([.ref q_mo, .int a0, .int a1]) ++ List.replicate (3 - (lg_sl ([.ref q_mo, .int a0, .int a1])).length) Slot.unset).toArray = ls at hl ⊢
  have hl : lv_has ls 3 [(0, .ref q_mo), (1, .int a0), (2, .int a1)] := hl
  exact b_M_clear_0 (y0 := a0) (y1 := a1) (y2 := mth) (y3 := mCl) cx hK hA (lv_sub hl [0, 1, 2] rfl) hP hD hS hf
theorem d_M_login_0 : decode cc_M_login 0 = .ok (.iload_n 1, 1) := by decide +kernel
theorem d_M_login_1 : decode cc_M_login 1 = .ok (.ifCond .lt 16, 3) := by decide +kernel
theorem d_M_login_17 : decode cc_M_login 17 = .ok (.aload_n 0, 1) := by decide +kernel
theorem d_M_login_18 : decode cc_M_login 18 = .ok (.iconst 1, 1) := by decide +kernel
theorem d_M_login_19 : decode cc_M_login 19 = .ok (.putfield 32, 3) := by decide +kernel
theorem d_M_login_22 : decode cc_M_login 22 = .ok (.iconst 0, 1) := by decide +kernel
theorem d_M_login_23 : decode cc_M_login 23 = .ok (.ireturn, 1) := by decide +kernel
theorem d_M_login_4 : decode cc_M_login 4 = .ok (.iload_n 1, 1) := by decide +kernel
theorem d_M_login_5 : decode cc_M_login 5 = .ok (.iconst 3, 1) := by decide +kernel
theorem d_M_login_6 : decode cc_M_login 6 = .ok (.if_icmp .gt 11, 3) := by decide +kernel
theorem d_M_login_9 : decode cc_M_login 9 = .ok (.aload_n 0, 1) := by decide +kernel
theorem d_M_login_10 : decode cc_M_login 10 = .ok (.iload_n 2, 1) := by decide +kernel
theorem d_M_login_11 : decode cc_M_login 11 = .ok (.invokevirtual 50, 3) := by decide +kernel
theorem d_M_login_14 : decode cc_M_login 14 = .ok (.ifCond .ne 10, 3) := by decide +kernel
theorem d_M_login_24 : decode cc_M_login 24 = .ok (.aload_n 0, 1) := by decide +kernel
theorem d_M_login_25 : decode cc_M_login 25 = .ok (.getfield 7, 3) := by decide +kernel
theorem d_M_login_28 : decode cc_M_login 28 = .ok (.iload_n 2, 1) := by decide +kernel
theorem d_M_login_29 : decode cc_M_login 29 = .ok (.iaload, 1) := by decide +kernel
theorem d_M_login_30 : decode cc_M_login 30 = .ok (.istore_n 3, 1) := by decide +kernel
theorem d_M_login_31 : decode cc_M_login 31 = .ok (.aload_n 0, 1) := by decide +kernel
theorem d_M_login_32 : decode cc_M_login 32 = .ok (.getfield 13, 3) := by decide +kernel
theorem d_M_login_35 : decode cc_M_login 35 = .ok (.iload_n 1, 1) := by decide +kernel
theorem d_M_login_36 : decode cc_M_login 36 = .ok (.iaload, 1) := by decide +kernel
theorem d_M_login_37 : decode cc_M_login 37 = .ok (.istore 4, 2) := by decide +kernel
theorem d_M_login_39 : decode cc_M_login 39 = .ok (.iload_n 3, 1) := by decide +kernel
theorem d_M_login_40 : decode cc_M_login 40 = .ok (.iconst 3, 1) := by decide +kernel
theorem d_M_login_41 : decode cc_M_login 41 = .ok (.iand, 1) := by decide +kernel
theorem d_M_login_42 : decode cc_M_login 42 = .ok (.iload 4, 2) := by decide +kernel
theorem d_M_login_44 : decode cc_M_login 44 = .ok (.iconst 3, 1) := by decide +kernel
theorem d_M_login_45 : decode cc_M_login 45 = .ok (.iand, 1) := by decide +kernel
theorem d_M_login_46 : decode cc_M_login 46 = .ok (.if_icmp .gt 45, 3) := by decide +kernel
theorem d_M_login_91 : decode cc_M_login 91 = .ok (.iconst 0, 1) := by decide +kernel
theorem d_M_login_49 : decode cc_M_login 49 = .ok (.iload_n 3, 1) := by decide +kernel
theorem d_M_login_50 : decode cc_M_login 50 = .ok (.iconst 5, 1) := by decide +kernel
theorem d_M_login_51 : decode cc_M_login 51 = .ok (.ishr, 1) := by decide +kernel
theorem d_M_login_52 : decode cc_M_login 52 = .ok (.iconst 3, 1) := by decide +kernel
theorem d_M_login_53 : decode cc_M_login 53 = .ok (.iand, 1) := by decide +kernel
theorem d_M_login_54 : decode cc_M_login 54 = .ok (.iload 4, 2) := by decide +kernel
theorem d_M_login_56 : decode cc_M_login 56 = .ok (.iconst 5, 1) := by decide +kernel
theorem d_M_login_57 : decode cc_M_login 57 = .ok (.ishr, 1) := by decide +kernel
theorem d_M_login_58 : decode cc_M_login 58 = .ok (.iconst 3, 1) := by decide +kernel
theorem d_M_login_59 : decode cc_M_login 59 = .ok (.iand, 1) := by decide +kernel
theorem d_M_login_60 : decode cc_M_login 60 = .ok (.if_icmp .gt 31, 3) := by decide +kernel
theorem d_M_login_63 : decode cc_M_login 63 = .ok (.iload_n 3, 1) := by decide +kernel
theorem d_M_login_64 : decode cc_M_login 64 = .ok (.iload 4, 2) := by decide +kernel
theorem d_M_login_66 : decode cc_M_login 66 = .ok (.iconst 2, 1) := by decide +kernel
theorem d_M_login_67 : decode cc_M_login 67 = .ok (.bipush 7, 2) := by decide +kernel
theorem d_M_login_69 : decode cc_M_login 69 = .ok (.invokestatic 35, 3) := by decide +kernel
theorem d_M_login_72 : decode cc_M_login 72 = .ok (.ifCond .eq 19, 3) := by decide +kernel
theorem d_M_login_75 : decode cc_M_login 75 = .ok (.iload_n 3, 1) := by decide +kernel
theorem d_M_login_76 : decode cc_M_login 76 = .ok (.iload 4, 2) := by decide +kernel
theorem d_M_login_78 : decode cc_M_login 78 = .ok (.bipush 7, 2) := by decide +kernel
theorem d_M_login_80 : decode cc_M_login 80 = .ok (.iconst 3, 1) := by decide +kernel
theorem d_M_login_81 : decode cc_M_login 81 = .ok (.invokestatic 35, 3) := by decide +kernel
theorem d_M_login_84 : decode cc_M_login 84 = .ok (.ifCond .eq 7, 3) := by decide +kernel
theorem d_M_login_87 : decode cc_M_login 87 = .ok (.iconst 1, 1) := by decide +kernel
theorem d_M_login_88 : decode cc_M_login 88 = .ok (.goto 4, 3) := by decide +kernel
theorem d_M_login_92 : decode cc_M_login 92 = .ok (.istore 5, 2) := by decide +kernel
theorem d_M_login_94 : decode cc_M_login 94 = .ok (.aload_n 0, 1) := by decide +kernel
theorem d_M_login_95 : decode cc_M_login 95 = .ok (.iload 5, 2) := by decide +kernel
theorem d_M_login_97 : decode cc_M_login 97 = .ok (.ifCond .eq 7, 3) := by decide +kernel
theorem d_M_login_104 : decode cc_M_login 104 = .ok (.iconst 2, 1) := by decide +kernel
theorem d_M_login_105 : decode cc_M_login 105 = .ok (.putfield 32, 3) := by decide +kernel
theorem d_M_login_108 : decode cc_M_login 108 = .ok (.aload_n 0, 1) := by decide +kernel
theorem d_M_login_109 : decode cc_M_login 109 = .ok (.getfield 32, 3) := by decide +kernel
theorem d_M_login_112 : decode cc_M_login 112 = .ok (.ifCond .le 5, 3) := by decide +kernel
theorem d_M_login_117 : decode cc_M_login 117 = .ok (.iconst 4, 1) := by decide +kernel
theorem d_M_login_118 : decode cc_M_login 118 = .ok (.iload_n 2, 1) := by decide +kernel
theorem d_M_login_119 : decode cc_M_login 119 = .ok (.imul, 1) := by decide +kernel
theorem d_M_login_120 : decode cc_M_login 120 = .ok (.istore 6, 2) := by decide +kernel
theorem d_M_login_115 : decode cc_M_login 115 = .ok (.iconst 0, 1) := by decide +kernel
theorem d_M_login_116 : decode cc_M_login 116 = .ok (.ireturn, 1) := by decide +kernel
theorem d_M_login_100 : decode cc_M_login 100 = .ok (.iconst 0, 1) := by decide +kernel
theorem d_M_login_101 : decode cc_M_login 101 = .ok (.goto 4, 3) := by decide +kernel
theorem d_M_login_122 : decode cc_M_login 122 = .ok (.iload 6, 2) := by decide +kernel
theorem d_M_login_124 : decode cc_M_login 124 = .ok (.iconst 4, 1) := by decide +kernel
theorem d_M_login_125 : decode cc_M_login 125 = .ok (.iload_n 2, 1) := by decide +kernel
theorem d_M_login_126 : decode cc_M_login 126 = .ok (.imul, 1) := by decide +kernel
theorem d_M_login_127 : decode cc_M_login 127 = .ok (.iconst 4, 1) := by decide +kernel
theorem d_M_login_128 : decode cc_M_login 128 = .ok (.iadd, 1) := by decide +kernel
theorem d_M_login_129 : decode cc_M_login 129 = .ok (.if_icmp .ge 32, 3) := by decide +kernel
theorem d_M_login_161 : decode cc_M_login 161 = .ok (.bipush (-2), 2) := by decide +kernel
theorem d_M_login_163 : decode cc_M_login 163 = .ok (.ireturn, 1) := by decide +kernel
theorem d_M_login_132 : decode cc_M_login 132 = .ok (.aload_n 0, 1) := by decide +kernel
theorem d_M_login_133 : decode cc_M_login 133 = .ok (.getfield 16, 3) := by decide +kernel
theorem d_M_login_136 : decode cc_M_login 136 = .ok (.iload 6, 2) := by decide +kernel
theorem d_M_login_138 : decode cc_M_login 138 = .ok (.iaload, 1) := by decide +kernel
theorem d_M_login_139 : decode cc_M_login 139 = .ok (.ifCond .ne 16, 3) := by decide +kernel
theorem d_M_login_155 : decode cc_M_login 155 = .ok (.iinc 6 1, 3) := by decide +kernel
theorem d_M_login_158 : decode cc_M_login 158 = .ok (.goto (-36), 3) := by decide +kernel
theorem d_M_login_142 : decode cc_M_login 142 = .ok (.aload_n 0, 1) := by decide +kernel
theorem d_M_login_143 : decode cc_M_login 143 = .ok (.getfield 16, 3) := by decide +kernel
theorem d_M_login_146 : decode cc_M_login 146 = .ok (.iload 6, 2) := by decide +kernel
theorem d_M_login_148 : decode cc_M_login 148 = .ok (.iload_n 1, 1) := by decide +kernel
theorem d_M_login_149 : decode cc_M_login 149 = .ok (.iconst 1, 1) := by decide +kernel
theorem d_M_login_150 : decode cc_M_login 150 = .ok (.iadd, 1) := by decide +kernel
theorem d_M_login_151 : decode cc_M_login 151 = .ok (.iastore, 1) := by decide +kernel
theorem d_M_login_152 : decode cc_M_login 152 = .ok (.iload 6, 2) := by decide +kernel
theorem d_M_login_154 : decode cc_M_login 154 = .ok (.ireturn, 1) := by decide +kernel
def f_M_login_122 (mar : Int32) (mLb : Nat → Int32) (mCl : Nat → Int32) (y0 : Int32) (y1 : Int32) (y2 : Int32) (y3 : Nat → Int32) (k122 : (Int32) → Option (Int32 × Int32 × (Nat → Int32))) (a : Int32) : Option (Int32 × Int32 × (Nat → Int32)) :=
  if (((4 : Int32) * y1) + (4 : Int32)) ≤ a then (some ((-2 : Int32), y2, y3)) else ((jv_ga y3 24 a).bind fun x11 => if x11 = 0 then ((jv_sa y3 24 a (y0 + (1 : Int32))).bind fun F13 => some (a, y2, F13)) else (k122 (a + (1 : Int32))))
set_option maxHeartbeats 4000000 in
set_option maxRecDepth 100000 in
theorem b_M_login_122 {l : Launch} {dC : Nat → ClassId} {dI : Nat → Nat → Nat} {cI cA cL : ClassId} {q_mo q_mlb_ q_mcl_ q_mus_ q_mwr_ q_mdk_ q_mcp_ : Nat} {mar : Int32} {mfu : Int32} {mLb : Nat → Int32} {mCl : Nat → Int32} {mWr : Nat → Int32} {mDk : Nat → Int32} {mCp : Nat → Int32} {p : Program} {e : Env} {s : State} {m : MethodId} {args : Array Value} {below : List Frame} {meth : Method} {c : Code} (cx : jv_cx p s m args meth c cc_M_login 7 R_Model (some .int) ws_M_login) (hK : va_K (dC, dI) vwCl (jv_ty cI cA cL) s) {A : Nat → Prop} (hA : ∀ q : Nat, s.heap.size ≤ q → A q) {r : Int32 × Int32 × (Nat → Int32)} {y0 : Int32} {y1 : Int32} {y2 : Int32} {y3 : Nat → Int32} {k122 : (Int32) → Option (Int32 × Int32 × (Nat → Int32))} (hk122 : ∀ (a : Int32) (ls : Array Slot) (H : Heap) (locs : List Loc), lv_has ls 7 [(0, .ref q_mo), (1, .int y0), (2, .int y1), (6, .int a)] → va_P (dC, dI) vwCl (w_model cI q_mo q_mlb_ q_mcl_ q_mus_ q_mwr_ q_mdk_ q_mcp_ y2 mar mfu mLb mCl y3 mWr mDk mCp) H → va_D A (w_model cI q_mo q_mlb_ q_mcl_ q_mus_ q_mwr_ q_mdk_ q_mcp_ y2 mar mfu mLb mCl y3 mWr mDk mCp) → va_S A s.heap H locs → k122 a = some r → W p l e rm_M_login s m args below meth c H locs 0 0 (MQ below (jv_Qi r.1 (dC, dI) (w_model cI q_mo q_mlb_ q_mcl_ q_mus_ q_mwr_ q_mdk_ q_mcp_ r.2.1 mar mfu mLb mCl r.2.2 mWr mDk mCp) A) args s 0 0 A) (F0 m 122 ls [])) {a : Int32} {ls : Array Slot} (hl : lv_has ls 7 [(0, .ref q_mo), (1, .int y0), (2, .int y1), (6, .int a)]) {H : Heap} {locs : List Loc} (hP : va_P (dC, dI) vwCl (w_model cI q_mo q_mlb_ q_mcl_ q_mus_ q_mwr_ q_mdk_ q_mcp_ y2 mar mfu mLb mCl y3 mWr mDk mCp) H) (hD : va_D A (w_model cI q_mo q_mlb_ q_mcl_ q_mus_ q_mwr_ q_mdk_ q_mcp_ y2 mar mfu mLb mCl y3 mWr mDk mCp)) (hS : va_S A s.heap H locs) (hf : f_M_login_122 mar mLb mCl y0 y1 y2 y3 k122 a = some r) : W p l e rm_M_login s m args below meth c H locs 0 0 (MQ below (jv_Qi r.1 (dC, dI) (w_model cI q_mo q_mlb_ q_mcl_ q_mus_ q_mwr_ q_mdk_ q_mcp_ r.2.1 mar mfu mLb mCl r.2.2 mWr mDk mCp) A) args s 0 0 A) (F0 m 122 ls []) := by
  unfold f_M_login_122 at hf
  obtain ⟨hx, hb, hml, hown, hts, hr, hlocks⟩ := id cx
  refine lv_iload hx hb d_M_login_122 (lv_at hl 3 rfl) ?_
  refine lv_iconst (v := (4 : Int32)) hx hb d_M_login_124 (by decide) ?_
  refine lv_iload_n hx hb d_M_login_125 rfl (lv_at hl 2 rfl) ?_
  refine lv_imul hx hb d_M_login_126 ?_
  refine lv_iconst (v := (4 : Int32)) hx hb d_M_login_127 (by decide) ?_
  refine lv_iadd hx hb d_M_login_128 ?_
  refine lv_icmp_ge (tgt := 161) hx hb d_M_login_129 (by decide) (fun hc => ?_) (fun hc => ?_)
  · have hf := jv_it hf hc
    refine lv_bipush (v := (-2 : Int32)) hx hb d_M_login_161 (by decide) ?_
    obtain rfl := Option.some.inj hf
    exact W.iret hx hb hr (fun t ht hW => ⟨rfl, by rw [ht]; exact hP, hD, hS.F ht⟩) hS.2.2 d_M_login_163
  · have hf := jv_if hf hc
    refine lv_aload_n hx hb d_M_login_132 rfl (lv_at hl 0 rfl) ?_
    refine va_get (D := (dC, dI)) (ci := kModel) (v := .ref q_mus_) (C := R_Model) (T := T_Model) (N := 9) hx hb hts (fun w h => List.mem_cons_of_mem _ (in_Model w h)) hown hK hP 0 rfl rfl 4 (by decide) (jv_w hts wa_202) (fun _ h9 => h9) rfl d_M_login_133 ?_
    refine lv_iload hx hb d_M_login_136 (lv_at hl 3 rfl) ?_
    obtain ⟨x11, g12, hf⟩ := jv_ob hf
    refine jv_iald hx hb hK hP 3 0 rfl rfl g12 d_M_login_138 ?_
    refine lv_if_ne (tgt := 155) hx hb d_M_login_139 (by decide) (fun hc => ?_) (fun hc => ?_)
    · have hf := jv_if hf hc
      refine lv_iinc (k := 3) (v := a + (1 : Int32)) (lv' := [(6, .int (a + (1 : Int32))), (0, .ref q_mo), (1, .int y0), (2, .int y1)]) hx hb d_M_login_155 hl rfl (jv_inc _) (by decide) rfl (fun ls hl => ?_)
      refine lv_goto (tgt := 122) hx hb d_M_login_158 (by decide) ?_
      exact hk122 (a + (1 : Int32)) _ _ _ (lv_sub hl [1, 2, 3, 0] rfl) hP hD hS hf
    · have hf := jv_it hf hc
      refine lv_aload_n hx hb d_M_login_142 rfl (lv_at hl 0 rfl) ?_
      refine va_get (D := (dC, dI)) (ci := kModel) (v := .ref q_mus_) (C := R_Model) (T := T_Model) (N := 9) hx hb hts (fun w h => List.mem_cons_of_mem _ (in_Model w h)) hown hK hP 0 rfl rfl 4 (by decide) (jv_w hts wa_202) (fun _ h9 => h9) rfl d_M_login_143 ?_
      refine lv_iload hx hb d_M_login_146 (lv_at hl 3 rfl) ?_
      refine lv_iload_n hx hb d_M_login_148 rfl (lv_at hl 1 rfl) ?_
      refine lv_iconst (v := (1 : Int32)) hx hb d_M_login_149 (by decide) ?_
      refine lv_iadd hx hb d_M_login_150 ?_
      obtain ⟨F13, g14, hf⟩ := jv_ob hf
      refine jv_iast hx hb hK hP hD hS 3 0 rfl rfl g14 d_M_login_151 (fun H locs hP hD hS => ?_)
      have hP : va_P (dC, dI) vwCl (w_model cI q_mo q_mlb_ q_mcl_ q_mus_ q_mwr_ q_mdk_ q_mcp_ y2 mar mfu mLb mCl F13 mWr mDk mCp) H := hP
      have hD : va_D A (w_model cI q_mo q_mlb_ q_mcl_ q_mus_ q_mwr_ q_mdk_ q_mcp_ y2 mar mfu mLb mCl F13 mWr mDk mCp) := hD
      refine lv_iload hx hb d_M_login_152 (lv_at hl 3 rfl) ?_
      obtain rfl := Option.some.inj hf
      exact W.iret hx hb hr (fun t ht hW => ⟨rfl, by rw [ht]; exact hP, hD, hS.F ht⟩) hS.2.2 d_M_login_154
set_option maxHeartbeats 4000000 in
set_option maxRecDepth 100000 in
theorem l_M_login_122 {l : Launch} {dC : Nat → ClassId} {dI : Nat → Nat → Nat} {cI cA cL : ClassId} {q_mo q_mlb_ q_mcl_ q_mus_ q_mwr_ q_mdk_ q_mcp_ : Nat} {mar : Int32} {mfu : Int32} {mLb : Nat → Int32} {mCl : Nat → Int32} {mWr : Nat → Int32} {mDk : Nat → Int32} {mCp : Nat → Int32} {p : Program} {e : Env} {s : State} {m : MethodId} {args : Array Value} {below : List Frame} {meth : Method} {c : Code} (cx : jv_cx p s m args meth c cc_M_login 7 R_Model (some .int) ws_M_login) (hK : va_K (dC, dI) vwCl (jv_ty cI cA cL) s) {A : Nat → Prop} (hA : ∀ q : Nat, s.heap.size ≤ q → A q) {r : Int32 × Int32 × (Nat → Int32)} {y0 : Int32} {y1 : Int32} {y2 : Int32} {y3 : Nat → Int32} : ∀ n : Nat, ∀ (a : Int32) (ls : Array Slot) (H : Heap) (locs : List Loc), lv_has ls 7 [(0, .ref q_mo), (1, .int y0), (2, .int y1), (6, .int a)] → va_P (dC, dI) vwCl (w_model cI q_mo q_mlb_ q_mcl_ q_mus_ q_mwr_ q_mdk_ q_mcp_ y2 mar mfu mLb mCl y3 mWr mDk mCp) H → va_D A (w_model cI q_mo q_mlb_ q_mcl_ q_mus_ q_mwr_ q_mdk_ q_mcp_ y2 mar mfu mLb mCl y3 mWr mDk mCp) → va_S A s.heap H locs → jv_fx (f_M_login_122 mar mLb mCl y0 y1 y2 y3) n a = some r → W p l e rm_M_login s m args below meth c H locs 0 0 (MQ below (jv_Qi r.1 (dC, dI) (w_model cI q_mo q_mlb_ q_mcl_ q_mus_ q_mwr_ q_mdk_ q_mcp_ r.2.1 mar mfu mLb mCl r.2.2 mWr mDk mCp) A) args s 0 0 A) (F0 m 122 ls []) := by
  intro n
  induction n with
  | zero => intro a ls H locs hl hP hD hS hf; exact jv_no hf
  | succ n ih => intro a ls H locs hl hP hD hS hf; exact b_M_login_122 cx hK hA ih hl hP hD hS hf
def f_M_login_92 (mar : Int32) (mLb : Nat → Int32) (mCl : Nat → Int32) (y0 : Int32) (y1 : Int32) (y2 : Int32) (y3 : Int32) (y4 : Nat → Int32) : Option (Int32 × Int32 × (Nat → Int32)) :=
  if y2 = 0 then (if (2 : Int32) ≤ 0 then (jv_fx (f_M_login_122 mar mLb mCl y0 y1 (2 : Int32) y4) 300 ((4 : Int32) * y1)) else (some ((0 : Int32), (2 : Int32), y4))) else (if (0 : Int32) ≤ 0 then (jv_fx (f_M_login_122 mar mLb mCl y0 y1 (0 : Int32) y4) 300 ((4 : Int32) * y1)) else (some ((0 : Int32), (0 : Int32), y4)))
set_option maxHeartbeats 4000000 in
set_option maxRecDepth 100000 in
theorem b_M_login_92 {l : Launch} {dC : Nat → ClassId} {dI : Nat → Nat → Nat} {cI cA cL : ClassId} {q_mo q_mlb_ q_mcl_ q_mus_ q_mwr_ q_mdk_ q_mcp_ : Nat} {mar : Int32} {mfu : Int32} {mLb : Nat → Int32} {mCl : Nat → Int32} {mWr : Nat → Int32} {mDk : Nat → Int32} {mCp : Nat → Int32} {p : Program} {e : Env} {s : State} {m : MethodId} {args : Array Value} {below : List Frame} {meth : Method} {c : Code} (cx : jv_cx p s m args meth c cc_M_login 7 R_Model (some .int) ws_M_login) (hK : va_K (dC, dI) vwCl (jv_ty cI cA cL) s) {A : Nat → Prop} (hA : ∀ q : Nat, s.heap.size ≤ q → A q) {r : Int32 × Int32 × (Nat → Int32)} {y0 : Int32} {y1 : Int32} {y2 : Int32} {y3 : Int32} {y4 : Nat → Int32} {ls : Array Slot} (hl : lv_has ls 7 [(0, .ref q_mo), (1, .int y0), (2, .int y1)]) {H : Heap} {locs : List Loc} (hP : va_P (dC, dI) vwCl (w_model cI q_mo q_mlb_ q_mcl_ q_mus_ q_mwr_ q_mdk_ q_mcp_ y3 mar mfu mLb mCl y4 mWr mDk mCp) H) (hD : va_D A (w_model cI q_mo q_mlb_ q_mcl_ q_mus_ q_mwr_ q_mdk_ q_mcp_ y3 mar mfu mLb mCl y4 mWr mDk mCp)) (hS : va_S A s.heap H locs) (hf : f_M_login_92 mar mLb mCl y0 y1 y2 y3 y4 = some r) : W p l e rm_M_login s m args below meth c H locs 0 0 (MQ below (jv_Qi r.1 (dC, dI) (w_model cI q_mo q_mlb_ q_mcl_ q_mus_ q_mwr_ q_mdk_ q_mcp_ r.2.1 mar mfu mLb mCl r.2.2 mWr mDk mCp) A) args s 0 0 A) (F0 m 92 ls [.int y2]) := by
  unfold f_M_login_92 at hf
  obtain ⟨hx, hb, hml, hown, hts, hr, hlocks⟩ := id cx
  refine lv_istore (lv' := [(5, .int y2), (0, .ref q_mo), (1, .int y0), (2, .int y1)]) hx hb d_M_login_92 hl (by decide) rfl (fun ls hl => ?_)
  refine lv_aload_n hx hb d_M_login_94 rfl (lv_at hl 1 rfl) ?_
  refine lv_iload hx hb d_M_login_95 (lv_at hl 0 rfl) ?_
  refine lv_if_eq (tgt := 104) hx hb d_M_login_97 (by decide) (fun hc => ?_) (fun hc => ?_)
  · have hf := jv_it hf hc
    refine lv_iconst (v := (2 : Int32)) hx hb d_M_login_104 (by decide) ?_
    refine va_put (D := (dC, dI)) (ci := kModel) (v := .int (2 : Int32)) (ty := .int) (C := R_Model) (T := T_Model) (N := 9) hx hb hts (fun w h => List.mem_cons_of_mem _ (in_Model w h)) ty_Model tyok_Model nm_Model hown hK hP hD hS 0 rfl rfl 0 (by decide) (jv_w hts wa_200) (fun _ h9 => h9) rfl (by decide +kernel) rfl rfl (Nat.le_of_ble_eq_true rfl) d_M_login_105 (fun H locs hP hD hS => ?_)
    have hP : va_P (dC, dI) vwCl (w_model cI q_mo q_mlb_ q_mcl_ q_mus_ q_mwr_ q_mdk_ q_mcp_ (2 : Int32) mar mfu mLb mCl y4 mWr mDk mCp) H := hP
    have hD : va_D A (w_model cI q_mo q_mlb_ q_mcl_ q_mus_ q_mwr_ q_mdk_ q_mcp_ (2 : Int32) mar mfu mLb mCl y4 mWr mDk mCp) := hD
    refine lv_aload_n hx hb d_M_login_108 rfl (lv_at hl 1 rfl) ?_
    refine va_get (D := (dC, dI)) (ci := kModel) (v := .int (2 : Int32)) (C := R_Model) (T := T_Model) (N := 9) hx hb hts (fun w h => List.mem_cons_of_mem _ (in_Model w h)) hown hK hP 0 rfl rfl 0 (by decide) (jv_w hts wa_200) (fun _ h9 => h9) rfl d_M_login_109 ?_
    refine lv_if_le (tgt := 117) hx hb d_M_login_112 (by decide) (fun hc => ?_) (fun hc => ?_)
    · have hf := jv_it hf hc
      refine lv_iconst (v := (4 : Int32)) hx hb d_M_login_117 (by decide) ?_
      refine lv_iload_n hx hb d_M_login_118 rfl (lv_at hl 3 rfl) ?_
      refine lv_imul hx hb d_M_login_119 ?_
      refine lv_istore (lv' := [(6, .int ((4 : Int32) * y1)), (5, .int y2), (0, .ref q_mo), (1, .int y0), (2, .int y1)]) hx hb d_M_login_120 hl (by decide) rfl (fun ls hl => ?_)
      exact l_M_login_122 (y0 := y0) (y1 := y1) (y2 := (2 : Int32)) (y3 := y4) cx hK hA 300 ((4 : Int32) * y1) _ _ _ (lv_sub hl [2, 3, 4, 0] rfl) hP hD hS hf
    · have hf := jv_if hf hc
      refine lv_iconst (v := (0 : Int32)) hx hb d_M_login_115 (by decide) ?_
      obtain rfl := Option.some.inj hf
      exact W.iret hx hb hr (fun t ht hW => ⟨rfl, by rw [ht]; exact hP, hD, hS.F ht⟩) hS.2.2 d_M_login_116
  · have hf := jv_if hf hc
    refine lv_iconst (v := (0 : Int32)) hx hb d_M_login_100 (by decide) ?_
    refine lv_goto (tgt := 105) hx hb d_M_login_101 (by decide) ?_
    refine va_put (D := (dC, dI)) (ci := kModel) (v := .int (0 : Int32)) (ty := .int) (C := R_Model) (T := T_Model) (N := 9) hx hb hts (fun w h => List.mem_cons_of_mem _ (in_Model w h)) ty_Model tyok_Model nm_Model hown hK hP hD hS 0 rfl rfl 0 (by decide) (jv_w hts wa_200) (fun _ h9 => h9) rfl (by decide +kernel) rfl rfl (Nat.le_of_ble_eq_true rfl) d_M_login_105 (fun H locs hP hD hS => ?_)
    have hP : va_P (dC, dI) vwCl (w_model cI q_mo q_mlb_ q_mcl_ q_mus_ q_mwr_ q_mdk_ q_mcp_ (0 : Int32) mar mfu mLb mCl y4 mWr mDk mCp) H := hP
    have hD : va_D A (w_model cI q_mo q_mlb_ q_mcl_ q_mus_ q_mwr_ q_mdk_ q_mcp_ (0 : Int32) mar mfu mLb mCl y4 mWr mDk mCp) := hD
    refine lv_aload_n hx hb d_M_login_108 rfl (lv_at hl 1 rfl) ?_
    refine va_get (D := (dC, dI)) (ci := kModel) (v := .int (0 : Int32)) (C := R_Model) (T := T_Model) (N := 9) hx hb hts (fun w h => List.mem_cons_of_mem _ (in_Model w h)) hown hK hP 0 rfl rfl 0 (by decide) (jv_w hts wa_200) (fun _ h9 => h9) rfl d_M_login_109 ?_
    refine lv_if_le (tgt := 117) hx hb d_M_login_112 (by decide) (fun hc => ?_) (fun hc => ?_)
    · have hf := jv_it hf hc
      refine lv_iconst (v := (4 : Int32)) hx hb d_M_login_117 (by decide) ?_
      refine lv_iload_n hx hb d_M_login_118 rfl (lv_at hl 3 rfl) ?_
      refine lv_imul hx hb d_M_login_119 ?_
      refine lv_istore (lv' := [(6, .int ((4 : Int32) * y1)), (5, .int y2), (0, .ref q_mo), (1, .int y0), (2, .int y1)]) hx hb d_M_login_120 hl (by decide) rfl (fun ls hl => ?_)
      exact l_M_login_122 (y0 := y0) (y1 := y1) (y2 := (0 : Int32)) (y3 := y4) cx hK hA 300 ((4 : Int32) * y1) _ _ _ (lv_sub hl [2, 3, 4, 0] rfl) hP hD hS hf
    · have hf := jv_if hf hc
      refine lv_iconst (v := (0 : Int32)) hx hb d_M_login_115 (by decide) ?_
      obtain rfl := Option.some.inj hf
      exact W.iret hx hb hr (fun t ht hW => ⟨rfl, by rw [ht]; exact hP, hD, hS.F ht⟩) hS.2.2 d_M_login_116
def f_M_login_0 (mar : Int32) (mLb : Nat → Int32) (mCl : Nat → Int32) (y0 : Int32) (y1 : Int32) (y2 : Int32) (y3 : Nat → Int32) : Option (Int32 × Int32 × (Nat → Int32)) :=
  if y0 < 0 then (some ((0 : Int32), (1 : Int32), y3)) else (if (3 : Int32) < y0 then (some ((0 : Int32), (1 : Int32), y3)) else ((f_M_isArea mar y1).bind fun x1 => if x1 = 0 then (some ((0 : Int32), (1 : Int32), y3)) else ((jv_ga mLb 6 y1).bind fun x3 => (jv_ga mCl 4 y0).bind fun x5 => if (x5 &&& (3 : Int32)) < (x3 &&& (3 : Int32)) then (f_M_login_92 mar mLb mCl y0 y1 (0 : Int32) y2 y3) else (if ((x5 >>> ((5 : Int32) &&& 31)) &&& (3 : Int32)) < ((x3 >>> ((5 : Int32) &&& 31)) &&& (3 : Int32)) then (f_M_login_92 mar mLb mCl y0 y1 (0 : Int32) y2 y3) else ((f_M_among x3 x5 (2 : Int32) (7 : Int32)).bind fun x7 => if x7 = 0 then (f_M_login_92 mar mLb mCl y0 y1 (0 : Int32) y2 y3) else ((f_M_among x3 x5 (7 : Int32) (3 : Int32)).bind fun x9 => if x9 = 0 then (f_M_login_92 mar mLb mCl y0 y1 (0 : Int32) y2 y3) else (f_M_login_92 mar mLb mCl y0 y1 (1 : Int32) y2 y3)))))))
set_option maxHeartbeats 4000000 in
set_option maxRecDepth 100000 in
theorem b_M_login_0 {l : Launch} {dC : Nat → ClassId} {dI : Nat → Nat → Nat} {cI cA cL : ClassId} {q_mo q_mlb_ q_mcl_ q_mus_ q_mwr_ q_mdk_ q_mcp_ : Nat} {mar : Int32} {mfu : Int32} {mLb : Nat → Int32} {mCl : Nat → Int32} {mWr : Nat → Int32} {mDk : Nat → Int32} {mCp : Nat → Int32} {p : Program} {e : Env} {s : State} {m : MethodId} {args : Array Value} {below : List Frame} {meth : Method} {c : Code} (cx : jv_cx p s m args meth c cc_M_login 7 R_Model (some .int) ws_M_login) (hK : va_K (dC, dI) vwCl (jv_ty cI cA cL) s) {A : Nat → Prop} (hA : ∀ q : Nat, s.heap.size ≤ q → A q) {r : Int32 × Int32 × (Nat → Int32)} {y0 : Int32} {y1 : Int32} {y2 : Int32} {y3 : Nat → Int32} {ls : Array Slot} (hl : lv_has ls 7 [(0, .ref q_mo), (1, .int y0), (2, .int y1)]) {H : Heap} {locs : List Loc} (hP : va_P (dC, dI) vwCl (w_model cI q_mo q_mlb_ q_mcl_ q_mus_ q_mwr_ q_mdk_ q_mcp_ y2 mar mfu mLb mCl y3 mWr mDk mCp) H) (hD : va_D A (w_model cI q_mo q_mlb_ q_mcl_ q_mus_ q_mwr_ q_mdk_ q_mcp_ y2 mar mfu mLb mCl y3 mWr mDk mCp)) (hS : va_S A s.heap H locs) (hf : f_M_login_0 mar mLb mCl y0 y1 y2 y3 = some r) : W p l e rm_M_login s m args below meth c H locs 0 0 (MQ below (jv_Qi r.1 (dC, dI) (w_model cI q_mo q_mlb_ q_mcl_ q_mus_ q_mwr_ q_mdk_ q_mcp_ r.2.1 mar mfu mLb mCl r.2.2 mWr mDk mCp) A) args s 0 0 A) (F0 m 0 ls []) := by
  unfold f_M_login_0 at hf
  obtain ⟨hx, hb, hml, hown, hts, hr, hlocks⟩ := id cx
  refine lv_iload_n hx hb d_M_login_0 rfl (lv_at hl 1 rfl) ?_
  refine lv_if_lt (tgt := 17) hx hb d_M_login_1 (by decide) (fun hc => ?_) (fun hc => ?_)
  · have hf := jv_it hf hc
    refine lv_aload_n hx hb d_M_login_17 rfl (lv_at hl 0 rfl) ?_
    refine lv_iconst (v := (1 : Int32)) hx hb d_M_login_18 (by decide) ?_
    refine va_put (D := (dC, dI)) (ci := kModel) (v := .int (1 : Int32)) (ty := .int) (C := R_Model) (T := T_Model) (N := 9) hx hb hts (fun w h => List.mem_cons_of_mem _ (in_Model w h)) ty_Model tyok_Model nm_Model hown hK hP hD hS 0 rfl rfl 0 (by decide) (jv_w hts wa_200) (fun _ h9 => h9) rfl (by decide +kernel) rfl rfl (Nat.le_of_ble_eq_true rfl) d_M_login_19 (fun H locs hP hD hS => ?_)
    have hP : va_P (dC, dI) vwCl (w_model cI q_mo q_mlb_ q_mcl_ q_mus_ q_mwr_ q_mdk_ q_mcp_ (1 : Int32) mar mfu mLb mCl y3 mWr mDk mCp) H := hP
    have hD : va_D A (w_model cI q_mo q_mlb_ q_mcl_ q_mus_ q_mwr_ q_mdk_ q_mcp_ (1 : Int32) mar mfu mLb mCl y3 mWr mDk mCp) := hD
    refine lv_iconst (v := (0 : Int32)) hx hb d_M_login_22 (by decide) ?_
    obtain rfl := Option.some.inj hf
    exact W.iret hx hb hr (fun t ht hW => ⟨rfl, by rw [ht]; exact hP, hD, hS.F ht⟩) hS.2.2 d_M_login_23
  · have hf := jv_if hf hc
    refine lv_iload_n hx hb d_M_login_4 rfl (lv_at hl 1 rfl) ?_
    refine lv_iconst (v := (3 : Int32)) hx hb d_M_login_5 (by decide) ?_
    refine lv_icmp_gt (tgt := 17) hx hb d_M_login_6 (by decide) (fun hc => ?_) (fun hc => ?_)
    · have hf := jv_it hf hc
      refine lv_aload_n hx hb d_M_login_17 rfl (lv_at hl 0 rfl) ?_
      refine lv_iconst (v := (1 : Int32)) hx hb d_M_login_18 (by decide) ?_
      refine va_put (D := (dC, dI)) (ci := kModel) (v := .int (1 : Int32)) (ty := .int) (C := R_Model) (T := T_Model) (N := 9) hx hb hts (fun w h => List.mem_cons_of_mem _ (in_Model w h)) ty_Model tyok_Model nm_Model hown hK hP hD hS 0 rfl rfl 0 (by decide) (jv_w hts wa_200) (fun _ h9 => h9) rfl (by decide +kernel) rfl rfl (Nat.le_of_ble_eq_true rfl) d_M_login_19 (fun H locs hP hD hS => ?_)
      have hP : va_P (dC, dI) vwCl (w_model cI q_mo q_mlb_ q_mcl_ q_mus_ q_mwr_ q_mdk_ q_mcp_ (1 : Int32) mar mfu mLb mCl y3 mWr mDk mCp) H := hP
      have hD : va_D A (w_model cI q_mo q_mlb_ q_mcl_ q_mus_ q_mwr_ q_mdk_ q_mcp_ (1 : Int32) mar mfu mLb mCl y3 mWr mDk mCp) := hD
      refine lv_iconst (v := (0 : Int32)) hx hb d_M_login_22 (by decide) ?_
      obtain rfl := Option.some.inj hf
      exact W.iret hx hb hr (fun t ht hW => ⟨rfl, by rw [ht]; exact hP, hD, hS.F ht⟩) hS.2.2 d_M_login_23
    · have hf := jv_if hf hc
      refine lv_aload_n hx hb d_M_login_9 rfl (lv_at hl 0 rfl) ?_
      refine lv_iload_n hx hb d_M_login_10 rfl (lv_at hl 2 rfl) ?_
      obtain ⟨x1, g2, hf⟩ := jv_ob hf
      have hPc := hP.sub (ws' := (w_model cI q_mo q_mlb_ q_mcl_ q_mus_ q_mwr_ q_mdk_ q_mcp_ y2 mar mfu mLb mCl y3 mWr mDk mCp)) [0, 1, 2, 3, 4, 5, 6] rfl
      refine jv_cs (W.runV (As := [.int y1]) (rest := []) (b := q_mo) ⟨hx, hb, hml, hown, hts⟩ (c_M_isArea l dC dI cI cA cL q_mo q_mlb_ q_mcl_ q_mus_ q_mwr_ q_mdk_ q_mcp_ y2 mar mfu mLb mCl y3 mWr mDk mCp y1 x1 g2) (jv_cwV hts wa_239 wa_194 wa_240 wa_241 wa_242 rfl rfl yd_M_isArea ⟨Nat.le_of_ble_eq_true rfl, Nat.le_of_ble_eq_true rfl⟩) (jv_preV hK hPc 0 rfl rfl) rfl rfl hl.1 rfl (lv_room (Nat.le_of_ble_eq_true rfl)) d_M_login_11 ⟨Nat.zero_le _, Nat.zero_le _⟩) ?_
      refine lv_if_ne (tgt := 24) hx hb d_M_login_14 (by decide) (fun hc => ?_) (fun hc => ?_)
      · have hf := jv_if hf hc
        refine lv_aload_n hx hb d_M_login_24 rfl (lv_at hl 0 rfl) ?_
        refine va_get (D := (dC, dI)) (ci := kModel) (v := .ref q_mlb_) (C := R_Model) (T := T_Model) (N := 9) hx hb hts (fun w h => List.mem_cons_of_mem _ (in_Model w h)) hown hK hP 0 rfl rfl 2 (by decide) (jv_w hts wa_215) (fun _ h9 => h9) rfl d_M_login_25 ?_
        refine lv_iload_n hx hb d_M_login_28 rfl (lv_at hl 2 rfl) ?_
        obtain ⟨x3, g4, hf⟩ := jv_ob hf
        refine jv_iald hx hb hK hP 1 0 rfl rfl g4 d_M_login_29 ?_
        refine lv_istore_n (lv' := [(3, .int x3), (0, .ref q_mo), (1, .int y0), (2, .int y1)]) hx hb d_M_login_30 rfl hl (by decide) rfl (fun ls hl => ?_)
        refine lv_aload_n hx hb d_M_login_31 rfl (lv_at hl 1 rfl) ?_
        refine va_get (D := (dC, dI)) (ci := kModel) (v := .ref q_mcl_) (C := R_Model) (T := T_Model) (N := 9) hx hb hts (fun w h => List.mem_cons_of_mem _ (in_Model w h)) hown hK hP 0 rfl rfl 3 (by decide) (jv_w hts wa_246) (fun _ h9 => h9) rfl d_M_login_32 ?_
        refine lv_iload_n hx hb d_M_login_35 rfl (lv_at hl 2 rfl) ?_
        obtain ⟨x5, g6, hf⟩ := jv_ob hf
        refine jv_iald hx hb hK hP 2 0 rfl rfl g6 d_M_login_36 ?_
        refine lv_istore (lv' := [(4, .int x5), (3, .int x3), (0, .ref q_mo), (1, .int y0), (2, .int y1)]) hx hb d_M_login_37 hl (by decide) rfl (fun ls hl => ?_)
        refine lv_iload_n hx hb d_M_login_39 rfl (lv_at hl 1 rfl) ?_
        refine lv_iconst (v := (3 : Int32)) hx hb d_M_login_40 (by decide) ?_
        refine lv_iand hx hb d_M_login_41 ?_
        refine lv_iload hx hb d_M_login_42 (lv_at hl 0 rfl) ?_
        refine lv_iconst (v := (3 : Int32)) hx hb d_M_login_44 (by decide) ?_
        refine lv_iand hx hb d_M_login_45 ?_
        refine lv_icmp_gt (tgt := 91) hx hb d_M_login_46 (by decide) (fun hc => ?_) (fun hc => ?_)
        · have hf := jv_it hf hc
          refine lv_iconst (v := (0 : Int32)) hx hb d_M_login_91 (by decide) ?_
          exact b_M_login_92 (y0 := y0) (y1 := y1) (y2 := (0 : Int32)) (y3 := y2) (y4 := y3) cx hK hA (lv_sub hl [2, 3, 4] rfl) hP hD hS hf
        · have hf := jv_if hf hc
          refine lv_iload_n hx hb d_M_login_49 rfl (lv_at hl 1 rfl) ?_
          refine lv_iconst (v := (5 : Int32)) hx hb d_M_login_50 (by decide) ?_
          refine lv_ishr hx hb d_M_login_51 ?_
          refine lv_iconst (v := (3 : Int32)) hx hb d_M_login_52 (by decide) ?_
          refine lv_iand hx hb d_M_login_53 ?_
          refine lv_iload hx hb d_M_login_54 (lv_at hl 0 rfl) ?_
          refine lv_iconst (v := (5 : Int32)) hx hb d_M_login_56 (by decide) ?_
          refine lv_ishr hx hb d_M_login_57 ?_
          refine lv_iconst (v := (3 : Int32)) hx hb d_M_login_58 (by decide) ?_
          refine lv_iand hx hb d_M_login_59 ?_
          refine lv_icmp_gt (tgt := 91) hx hb d_M_login_60 (by decide) (fun hc => ?_) (fun hc => ?_)
          · have hf := jv_it hf hc
            refine lv_iconst (v := (0 : Int32)) hx hb d_M_login_91 (by decide) ?_
            exact b_M_login_92 (y0 := y0) (y1 := y1) (y2 := (0 : Int32)) (y3 := y2) (y4 := y3) cx hK hA (lv_sub hl [2, 3, 4] rfl) hP hD hS hf
          · have hf := jv_if hf hc
            refine lv_iload_n hx hb d_M_login_63 rfl (lv_at hl 1 rfl) ?_
            refine lv_iload hx hb d_M_login_64 (lv_at hl 0 rfl) ?_
            refine lv_iconst (v := (2 : Int32)) hx hb d_M_login_66 (by decide) ?_
            refine lv_bipush (v := (7 : Int32)) hx hb d_M_login_67 (by decide) ?_
            obtain ⟨x7, g8, hf⟩ := jv_ob hf
            refine jv_cs (W.runS (As := [.int x3, .int x5, .int (2 : Int32), .int (7 : Int32)]) (rest := []) ⟨hx, hb, hml, hown, hts⟩ (c_M_among l x3 x5 (2 : Int32) (7 : Int32) x7 g8) (jv_cwS hts wa_193 wa_194 wa_195 wa_196 rfl rfl yd_M_among ⟨Nat.le_of_ble_eq_true rfl, Nat.le_of_ble_eq_true rfl⟩) jv_pre0 rfl rfl hl.1 rfl (lv_room (Nat.le_of_ble_eq_true rfl)) d_M_login_69 ⟨Nat.zero_le _, Nat.zero_le _⟩) ?_
            refine lv_if_eq (tgt := 91) hx hb d_M_login_72 (by decide) (fun hc => ?_) (fun hc => ?_)
            · have hf := jv_it hf hc
              refine lv_iconst (v := (0 : Int32)) hx hb d_M_login_91 (by decide) ?_
              exact b_M_login_92 (y0 := y0) (y1 := y1) (y2 := (0 : Int32)) (y3 := y2) (y4 := y3) cx hK hA (lv_sub hl [2, 3, 4] rfl) hP hD hS hf
            · have hf := jv_if hf hc
              refine lv_iload_n hx hb d_M_login_75 rfl (lv_at hl 1 rfl) ?_
              refine lv_iload hx hb d_M_login_76 (lv_at hl 0 rfl) ?_
              refine lv_bipush (v := (7 : Int32)) hx hb d_M_login_78 (by decide) ?_
              refine lv_iconst (v := (3 : Int32)) hx hb d_M_login_80 (by decide) ?_
              obtain ⟨x9, g10, hf⟩ := jv_ob hf
              refine jv_cs (W.runS (As := [.int x3, .int x5, .int (7 : Int32), .int (3 : Int32)]) (rest := []) ⟨hx, hb, hml, hown, hts⟩ (c_M_among l x3 x5 (7 : Int32) (3 : Int32) x9 g10) (jv_cwS hts wa_193 wa_194 wa_195 wa_196 rfl rfl yd_M_among ⟨Nat.le_of_ble_eq_true rfl, Nat.le_of_ble_eq_true rfl⟩) jv_pre0 rfl rfl hl.1 rfl (lv_room (Nat.le_of_ble_eq_true rfl)) d_M_login_81 ⟨Nat.zero_le _, Nat.zero_le _⟩) ?_
              refine lv_if_eq (tgt := 91) hx hb d_M_login_84 (by decide) (fun hc => ?_) (fun hc => ?_)
              · have hf := jv_it hf hc
                refine lv_iconst (v := (0 : Int32)) hx hb d_M_login_91 (by decide) ?_
                exact b_M_login_92 (y0 := y0) (y1 := y1) (y2 := (0 : Int32)) (y3 := y2) (y4 := y3) cx hK hA (lv_sub hl [2, 3, 4] rfl) hP hD hS hf
              · have hf := jv_if hf hc
                refine lv_iconst (v := (1 : Int32)) hx hb d_M_login_87 (by decide) ?_
                refine lv_goto (tgt := 92) hx hb d_M_login_88 (by decide) ?_
                exact b_M_login_92 (y0 := y0) (y1 := y1) (y2 := (1 : Int32)) (y3 := y2) (y4 := y3) cx hK hA (lv_sub hl [2, 3, 4] rfl) hP hD hS hf
      · have hf := jv_it hf hc
        refine lv_aload_n hx hb d_M_login_17 rfl (lv_at hl 0 rfl) ?_
        refine lv_iconst (v := (1 : Int32)) hx hb d_M_login_18 (by decide) ?_
        refine va_put (D := (dC, dI)) (ci := kModel) (v := .int (1 : Int32)) (ty := .int) (C := R_Model) (T := T_Model) (N := 9) hx hb hts (fun w h => List.mem_cons_of_mem _ (in_Model w h)) ty_Model tyok_Model nm_Model hown hK hP hD hS 0 rfl rfl 0 (by decide) (jv_w hts wa_200) (fun _ h9 => h9) rfl (by decide +kernel) rfl rfl (Nat.le_of_ble_eq_true rfl) d_M_login_19 (fun H locs hP hD hS => ?_)
        have hP : va_P (dC, dI) vwCl (w_model cI q_mo q_mlb_ q_mcl_ q_mus_ q_mwr_ q_mdk_ q_mcp_ (1 : Int32) mar mfu mLb mCl y3 mWr mDk mCp) H := hP
        have hD : va_D A (w_model cI q_mo q_mlb_ q_mcl_ q_mus_ q_mwr_ q_mdk_ q_mcp_ (1 : Int32) mar mfu mLb mCl y3 mWr mDk mCp) := hD
        refine lv_iconst (v := (0 : Int32)) hx hb d_M_login_22 (by decide) ?_
        obtain rfl := Option.some.inj hf
        exact W.iret hx hb hr (fun t ht hW => ⟨rfl, by rw [ht]; exact hP, hD, hS.F ht⟩) hS.2.2 d_M_login_23
def f_M_login (mar : Int32) (mLb : Nat → Int32) (mCl : Nat → Int32) (a0 : Int32) (a1 : Int32) (mth : Int32) (mUs : Nat → Int32) : Option (Int32 × Int32 × (Nat → Int32)) := f_M_login_0 mar mLb mCl a0 a1 mth mUs
set_option maxHeartbeats 4000000 in
set_option maxRecDepth 100000 in
theorem c_M_login (l : Launch) (dC : Nat → ClassId) (dI : Nat → Nat → Nat) (cI cA cL : ClassId) (q_mo q_mlb_ q_mcl_ q_mus_ q_mwr_ q_mdk_ q_mcp_ : Nat) (mth : Int32) (mar : Int32) (mfu : Int32) (mLb : Nat → Int32) (mCl : Nat → Int32) (mUs : Nat → Int32) (mWr : Nat → Int32) (mDk : Nat → Int32) (mCp : Nat → Int32) (a0 : Int32) (a1 : Int32) (sz : Nat) (r : Int32 × Int32 × (Nat → Int32)) (hf : f_M_login mar mLb mCl a0 a1 mth mUs = some r) : Met l y_M_login ws_M_login rm_M_login (jv_Pw [.ref q_mo, .int a0, .int a1] (dC, dI) (jv_ty cI cA cL) (w_model cI q_mo q_mlb_ q_mcl_ q_mus_ q_mwr_ q_mdk_ q_mcp_ mth mar mfu mLb mCl mUs mWr mDk mCp) sz) (jv_Qi r.1 (dC, dI) (w_model cI q_mo q_mlb_ q_mcl_ q_mus_ q_mwr_ q_mdk_ q_mcp_ r.2.1 mar mfu mLb mCl r.2.2 mWr mDk mCp) (va_A (w_model cI q_mo q_mlb_ q_mcl_ q_mus_ q_mwr_ q_mdk_ q_mcp_ mth mar mfu mLb mCl mUs mWr mDk mCp) sz)) 0 0 (va_A (w_model cI q_mo q_mlb_ q_mcl_ q_mus_ q_mwr_ q_mdk_ q_mcp_ mth mar mfu mLb mCl mUs mWr mDk mCp) sz) := by
  refine Met.ofW (cc := cc_M_login) (maxL := 7) (ret := (some .int)) (by decide) rfl ?_
  intro p e s m args below meth c s₁ B hml hv
  obtain ⟨rfl, hsz, hP, hK, hD0⟩ := hv
  have cx : jv_cx p s m _ meth c cc_M_login 7 R_Model (some .int) ws_M_login := ⟨B.exec, B.bytes, hml, findClass_of_methodNamed B.named, atoms_spec (ws := ws_M_login) B.pre, B.returns, B.notSynchronized⟩
  subst hsz
  have hD := hD0.self (sz := s.heap.size)
  generalize hAe : va_A (w_model cI q_mo q_mlb_ q_mcl_ q_mus_ q_mwr_ q_mdk_ q_mcp_ mth mar mfu mLb mCl mUs mWr mDk mCp) s.heap.size = A at hD ⊢
  have hA : ∀ q : Nat, s.heap.size ≤ q → A q := fun q h => by rw [← hAe]; exact Or.inr h
  have hS : va_S A s.heap s.heap [] := va_S.rf
  have hl := lv_entry ([.ref q_mo, .int a0, .int a1]) (n := 7) (Nat.le_of_ble_eq_true rfl)
  rw [lg_entry_eq]
  generalize (lg_sl ([.ref q_mo, .int a0, .int a1]) ++ List.replicate (7 - (lg_sl ([.ref q_mo, .int a0, .int a1])).length) Slot.unset).toArray = ls at hl ⊢
  have hl : lv_has ls 7 [(0, .ref q_mo), (1, .int a0), (2, .int a1)] := hl
  exact b_M_login_0 (y0 := a0) (y1 := a1) (y2 := mth) (y3 := mUs) cx hK hA (lv_sub hl [0, 1, 2] rfl) hP hD hS hf
theorem d_M_logout_0 : decode cc_M_logout 0 = .ok (.aload_n 0, 1) := by decide +kernel
theorem d_M_logout_1 : decode cc_M_logout 1 = .ok (.aload_n 0, 1) := by decide +kernel
theorem d_M_logout_2 : decode cc_M_logout 2 = .ok (.iload_n 1, 1) := by decide +kernel
theorem d_M_logout_3 : decode cc_M_logout 3 = .ok (.invokevirtual 53, 3) := by decide +kernel
theorem d_M_logout_6 : decode cc_M_logout 6 = .ok (.ifCond .eq 7, 3) := by decide +kernel
theorem d_M_logout_13 : decode cc_M_logout 13 = .ok (.iconst 1, 1) := by decide +kernel
theorem d_M_logout_9 : decode cc_M_logout 9 = .ok (.iconst 0, 1) := by decide +kernel
theorem d_M_logout_10 : decode cc_M_logout 10 = .ok (.goto 4, 3) := by decide +kernel
theorem d_M_logout_14 : decode cc_M_logout 14 = .ok (.putfield 32, 3) := by decide +kernel
theorem d_M_logout_17 : decode cc_M_logout 17 = .ok (.aload_n 0, 1) := by decide +kernel
theorem d_M_logout_18 : decode cc_M_logout 18 = .ok (.getfield 32, 3) := by decide +kernel
theorem d_M_logout_21 : decode cc_M_logout 21 = .ok (.ifCond .le 5, 3) := by decide +kernel
theorem d_M_logout_26 : decode cc_M_logout 26 = .ok (.aload_n 0, 1) := by decide +kernel
theorem d_M_logout_27 : decode cc_M_logout 27 = .ok (.getfield 16, 3) := by decide +kernel
theorem d_M_logout_30 : decode cc_M_logout 30 = .ok (.iload_n 1, 1) := by decide +kernel
theorem d_M_logout_31 : decode cc_M_logout 31 = .ok (.iaload, 1) := by decide +kernel
theorem d_M_logout_32 : decode cc_M_logout 32 = .ok (.iconst 1, 1) := by decide +kernel
theorem d_M_logout_33 : decode cc_M_logout 33 = .ok (.isub, 1) := by decide +kernel
theorem d_M_logout_34 : decode cc_M_logout 34 = .ok (.istore_n 2, 1) := by decide +kernel
theorem d_M_logout_35 : decode cc_M_logout 35 = .ok (.aload_n 0, 1) := by decide +kernel
theorem d_M_logout_36 : decode cc_M_logout 36 = .ok (.getfield 16, 3) := by decide +kernel
theorem d_M_logout_39 : decode cc_M_logout 39 = .ok (.iload_n 1, 1) := by decide +kernel
theorem d_M_logout_40 : decode cc_M_logout 40 = .ok (.iconst 0, 1) := by decide +kernel
theorem d_M_logout_41 : decode cc_M_logout 41 = .ok (.iastore, 1) := by decide +kernel
theorem d_M_logout_42 : decode cc_M_logout 42 = .ok (.iload_n 2, 1) := by decide +kernel
theorem d_M_logout_43 : decode cc_M_logout 43 = .ok (.ireturn, 1) := by decide +kernel
theorem d_M_logout_24 : decode cc_M_logout 24 = .ok (.iconst 0, 1) := by decide +kernel
theorem d_M_logout_25 : decode cc_M_logout 25 = .ok (.ireturn, 1) := by decide +kernel
def f_M_logout_14 (y0 : Int32) (y1 : Int32) (y2 : Int32) (y3 : Nat → Int32) : Option (Int32 × Int32 × (Nat → Int32)) :=
  if y1 ≤ 0 then ((jv_ga y3 24 y0).bind fun x3 => (jv_sa y3 24 y0 (0 : Int32)).bind fun F5 => some (x3 - (1 : Int32), y1, F5)) else (some ((0 : Int32), y1, y3))
set_option maxHeartbeats 4000000 in
set_option maxRecDepth 100000 in
theorem b_M_logout_14 {l : Launch} {dC : Nat → ClassId} {dI : Nat → Nat → Nat} {cI cA cL : ClassId} {q_mo q_mlb_ q_mcl_ q_mus_ q_mwr_ q_mdk_ q_mcp_ : Nat} {mar : Int32} {mfu : Int32} {mLb : Nat → Int32} {mCl : Nat → Int32} {mWr : Nat → Int32} {mDk : Nat → Int32} {mCp : Nat → Int32} {p : Program} {e : Env} {s : State} {m : MethodId} {args : Array Value} {below : List Frame} {meth : Method} {c : Code} (cx : jv_cx p s m args meth c cc_M_logout 3 R_Model (some .int) ws_M_logout) (hK : va_K (dC, dI) vwCl (jv_ty cI cA cL) s) {A : Nat → Prop} (hA : ∀ q : Nat, s.heap.size ≤ q → A q) {r : Int32 × Int32 × (Nat → Int32)} {y0 : Int32} {y1 : Int32} {y2 : Int32} {y3 : Nat → Int32} {ls : Array Slot} (hl : lv_has ls 3 [(0, .ref q_mo), (1, .int y0)]) {H : Heap} {locs : List Loc} (hP : va_P (dC, dI) vwCl (w_model cI q_mo q_mlb_ q_mcl_ q_mus_ q_mwr_ q_mdk_ q_mcp_ y2 mar mfu mLb mCl y3 mWr mDk mCp) H) (hD : va_D A (w_model cI q_mo q_mlb_ q_mcl_ q_mus_ q_mwr_ q_mdk_ q_mcp_ y2 mar mfu mLb mCl y3 mWr mDk mCp)) (hS : va_S A s.heap H locs) (hf : f_M_logout_14 y0 y1 y2 y3 = some r) : W p l e rm_M_logout s m args below meth c H locs 0 0 (MQ below (jv_Qi r.1 (dC, dI) (w_model cI q_mo q_mlb_ q_mcl_ q_mus_ q_mwr_ q_mdk_ q_mcp_ r.2.1 mar mfu mLb mCl r.2.2 mWr mDk mCp) A) args s 0 0 A) (F0 m 14 ls [.int y1, .ref q_mo]) := by
  unfold f_M_logout_14 at hf
  obtain ⟨hx, hb, hml, hown, hts, hr, hlocks⟩ := id cx
  refine va_put (D := (dC, dI)) (ci := kModel) (v := .int y1) (ty := .int) (C := R_Model) (T := T_Model) (N := 9) hx hb hts (fun w h => List.mem_cons_of_mem _ (in_Model w h)) ty_Model tyok_Model nm_Model hown hK hP hD hS 0 rfl rfl 0 (by decide) (jv_w hts wa_200) (fun _ h9 => h9) rfl (by decide +kernel) rfl rfl (Nat.le_of_ble_eq_true rfl) d_M_logout_14 (fun H locs hP hD hS => ?_)
  have hP : va_P (dC, dI) vwCl (w_model cI q_mo q_mlb_ q_mcl_ q_mus_ q_mwr_ q_mdk_ q_mcp_ y1 mar mfu mLb mCl y3 mWr mDk mCp) H := hP
  have hD : va_D A (w_model cI q_mo q_mlb_ q_mcl_ q_mus_ q_mwr_ q_mdk_ q_mcp_ y1 mar mfu mLb mCl y3 mWr mDk mCp) := hD
  refine lv_aload_n hx hb d_M_logout_17 rfl (lv_at hl 0 rfl) ?_
  refine va_get (D := (dC, dI)) (ci := kModel) (v := .int y1) (C := R_Model) (T := T_Model) (N := 9) hx hb hts (fun w h => List.mem_cons_of_mem _ (in_Model w h)) hown hK hP 0 rfl rfl 0 (by decide) (jv_w hts wa_200) (fun _ h9 => h9) rfl d_M_logout_18 ?_
  refine lv_if_le (tgt := 26) hx hb d_M_logout_21 (by decide) (fun hc => ?_) (fun hc => ?_)
  · have hf := jv_it hf hc
    refine lv_aload_n hx hb d_M_logout_26 rfl (lv_at hl 0 rfl) ?_
    refine va_get (D := (dC, dI)) (ci := kModel) (v := .ref q_mus_) (C := R_Model) (T := T_Model) (N := 9) hx hb hts (fun w h => List.mem_cons_of_mem _ (in_Model w h)) hown hK hP 0 rfl rfl 4 (by decide) (jv_w hts wa_202) (fun _ h9 => h9) rfl d_M_logout_27 ?_
    refine lv_iload_n hx hb d_M_logout_30 rfl (lv_at hl 1 rfl) ?_
    obtain ⟨x3, g4, hf⟩ := jv_ob hf
    refine jv_iald hx hb hK hP 3 0 rfl rfl g4 d_M_logout_31 ?_
    refine lv_iconst (v := (1 : Int32)) hx hb d_M_logout_32 (by decide) ?_
    refine lv_isub hx hb d_M_logout_33 ?_
    refine lv_istore_n (lv' := [(2, .int (x3 - (1 : Int32))), (0, .ref q_mo), (1, .int y0)]) hx hb d_M_logout_34 rfl hl (by decide) rfl (fun ls hl => ?_)
    refine lv_aload_n hx hb d_M_logout_35 rfl (lv_at hl 1 rfl) ?_
    refine va_get (D := (dC, dI)) (ci := kModel) (v := .ref q_mus_) (C := R_Model) (T := T_Model) (N := 9) hx hb hts (fun w h => List.mem_cons_of_mem _ (in_Model w h)) hown hK hP 0 rfl rfl 4 (by decide) (jv_w hts wa_202) (fun _ h9 => h9) rfl d_M_logout_36 ?_
    refine lv_iload_n hx hb d_M_logout_39 rfl (lv_at hl 2 rfl) ?_
    refine lv_iconst (v := (0 : Int32)) hx hb d_M_logout_40 (by decide) ?_
    obtain ⟨F5, g6, hf⟩ := jv_ob hf
    refine jv_iast hx hb hK hP hD hS 3 0 rfl rfl g6 d_M_logout_41 (fun H locs hP hD hS => ?_)
    have hP : va_P (dC, dI) vwCl (w_model cI q_mo q_mlb_ q_mcl_ q_mus_ q_mwr_ q_mdk_ q_mcp_ y1 mar mfu mLb mCl F5 mWr mDk mCp) H := hP
    have hD : va_D A (w_model cI q_mo q_mlb_ q_mcl_ q_mus_ q_mwr_ q_mdk_ q_mcp_ y1 mar mfu mLb mCl F5 mWr mDk mCp) := hD
    refine lv_iload_n hx hb d_M_logout_42 rfl (lv_at hl 0 rfl) ?_
    obtain rfl := Option.some.inj hf
    exact W.iret hx hb hr (fun t ht hW => ⟨rfl, by rw [ht]; exact hP, hD, hS.F ht⟩) hS.2.2 d_M_logout_43
  · have hf := jv_if hf hc
    refine lv_iconst (v := (0 : Int32)) hx hb d_M_logout_24 (by decide) ?_
    obtain rfl := Option.some.inj hf
    exact W.iret hx hb hr (fun t ht hW => ⟨rfl, by rw [ht]; exact hP, hD, hS.F ht⟩) hS.2.2 d_M_logout_25
def f_M_logout_0 (y0 : Int32) (y1 : Int32) (y2 : Nat → Int32) : Option (Int32 × Int32 × (Nat → Int32)) :=
  (f_M_isSession y2 y0).bind fun x1 => if x1 = 0 then (f_M_logout_14 y0 (1 : Int32) y1 y2) else (f_M_logout_14 y0 (0 : Int32) y1 y2)
set_option maxHeartbeats 4000000 in
set_option maxRecDepth 100000 in
theorem b_M_logout_0 {l : Launch} {dC : Nat → ClassId} {dI : Nat → Nat → Nat} {cI cA cL : ClassId} {q_mo q_mlb_ q_mcl_ q_mus_ q_mwr_ q_mdk_ q_mcp_ : Nat} {mar : Int32} {mfu : Int32} {mLb : Nat → Int32} {mCl : Nat → Int32} {mWr : Nat → Int32} {mDk : Nat → Int32} {mCp : Nat → Int32} {p : Program} {e : Env} {s : State} {m : MethodId} {args : Array Value} {below : List Frame} {meth : Method} {c : Code} (cx : jv_cx p s m args meth c cc_M_logout 3 R_Model (some .int) ws_M_logout) (hK : va_K (dC, dI) vwCl (jv_ty cI cA cL) s) {A : Nat → Prop} (hA : ∀ q : Nat, s.heap.size ≤ q → A q) {r : Int32 × Int32 × (Nat → Int32)} {y0 : Int32} {y1 : Int32} {y2 : Nat → Int32} {ls : Array Slot} (hl : lv_has ls 3 [(0, .ref q_mo), (1, .int y0)]) {H : Heap} {locs : List Loc} (hP : va_P (dC, dI) vwCl (w_model cI q_mo q_mlb_ q_mcl_ q_mus_ q_mwr_ q_mdk_ q_mcp_ y1 mar mfu mLb mCl y2 mWr mDk mCp) H) (hD : va_D A (w_model cI q_mo q_mlb_ q_mcl_ q_mus_ q_mwr_ q_mdk_ q_mcp_ y1 mar mfu mLb mCl y2 mWr mDk mCp)) (hS : va_S A s.heap H locs) (hf : f_M_logout_0 y0 y1 y2 = some r) : W p l e rm_M_logout s m args below meth c H locs 0 0 (MQ below (jv_Qi r.1 (dC, dI) (w_model cI q_mo q_mlb_ q_mcl_ q_mus_ q_mwr_ q_mdk_ q_mcp_ r.2.1 mar mfu mLb mCl r.2.2 mWr mDk mCp) A) args s 0 0 A) (F0 m 0 ls []) := by
  unfold f_M_logout_0 at hf
  obtain ⟨hx, hb, hml, hown, hts, hr, hlocks⟩ := id cx
  refine lv_aload_n hx hb d_M_logout_0 rfl (lv_at hl 0 rfl) ?_
  refine lv_aload_n hx hb d_M_logout_1 rfl (lv_at hl 0 rfl) ?_
  refine lv_iload_n hx hb d_M_logout_2 rfl (lv_at hl 1 rfl) ?_
  obtain ⟨x1, g2, hf⟩ := jv_ob hf
  have hPc := hP.sub (ws' := (w_model cI q_mo q_mlb_ q_mcl_ q_mus_ q_mwr_ q_mdk_ q_mcp_ y1 mar mfu mLb mCl y2 mWr mDk mCp)) [0, 1, 2, 3, 4, 5, 6] rfl
  refine jv_cs (W.runV (As := [.int y0]) (rest := [.ref q_mo]) (b := q_mo) ⟨hx, hb, hml, hown, hts⟩ (c_M_isSession l dC dI cI cA cL q_mo q_mlb_ q_mcl_ q_mus_ q_mwr_ q_mdk_ q_mcp_ y1 mar mfu mLb mCl y2 mWr mDk mCp y0 x1 g2) (jv_cwV hts wa_227 wa_194 wa_228 wa_229 wa_230 rfl rfl yd_M_isSession ⟨Nat.le_of_ble_eq_true rfl, Nat.le_of_ble_eq_true rfl⟩) (jv_preV hK hPc 0 rfl rfl) rfl rfl hl.1 rfl (lv_room (Nat.le_of_ble_eq_true rfl)) d_M_logout_3 ⟨Nat.zero_le _, Nat.zero_le _⟩) ?_
  refine lv_if_eq (tgt := 13) hx hb d_M_logout_6 (by decide) (fun hc => ?_) (fun hc => ?_)
  · have hf := jv_it hf hc
    refine lv_iconst (v := (1 : Int32)) hx hb d_M_logout_13 (by decide) ?_
    exact b_M_logout_14 (y0 := y0) (y1 := (1 : Int32)) (y2 := y1) (y3 := y2) cx hK hA (lv_sub hl [0, 1] rfl) hP hD hS hf
  · have hf := jv_if hf hc
    refine lv_iconst (v := (0 : Int32)) hx hb d_M_logout_9 (by decide) ?_
    refine lv_goto (tgt := 14) hx hb d_M_logout_10 (by decide) ?_
    exact b_M_logout_14 (y0 := y0) (y1 := (0 : Int32)) (y2 := y1) (y3 := y2) cx hK hA (lv_sub hl [0, 1] rfl) hP hD hS hf
def f_M_logout (a0 : Int32) (mth : Int32) (mUs : Nat → Int32) : Option (Int32 × Int32 × (Nat → Int32)) := f_M_logout_0 a0 mth mUs
set_option maxHeartbeats 4000000 in
set_option maxRecDepth 100000 in
theorem c_M_logout (l : Launch) (dC : Nat → ClassId) (dI : Nat → Nat → Nat) (cI cA cL : ClassId) (q_mo q_mlb_ q_mcl_ q_mus_ q_mwr_ q_mdk_ q_mcp_ : Nat) (mth : Int32) (mar : Int32) (mfu : Int32) (mLb : Nat → Int32) (mCl : Nat → Int32) (mUs : Nat → Int32) (mWr : Nat → Int32) (mDk : Nat → Int32) (mCp : Nat → Int32) (a0 : Int32) (sz : Nat) (r : Int32 × Int32 × (Nat → Int32)) (hf : f_M_logout a0 mth mUs = some r) : Met l y_M_logout ws_M_logout rm_M_logout (jv_Pw [.ref q_mo, .int a0] (dC, dI) (jv_ty cI cA cL) (w_model cI q_mo q_mlb_ q_mcl_ q_mus_ q_mwr_ q_mdk_ q_mcp_ mth mar mfu mLb mCl mUs mWr mDk mCp) sz) (jv_Qi r.1 (dC, dI) (w_model cI q_mo q_mlb_ q_mcl_ q_mus_ q_mwr_ q_mdk_ q_mcp_ r.2.1 mar mfu mLb mCl r.2.2 mWr mDk mCp) (va_A (w_model cI q_mo q_mlb_ q_mcl_ q_mus_ q_mwr_ q_mdk_ q_mcp_ mth mar mfu mLb mCl mUs mWr mDk mCp) sz)) 0 0 (va_A (w_model cI q_mo q_mlb_ q_mcl_ q_mus_ q_mwr_ q_mdk_ q_mcp_ mth mar mfu mLb mCl mUs mWr mDk mCp) sz) := by
  refine Met.ofW (cc := cc_M_logout) (maxL := 3) (ret := (some .int)) (by decide) rfl ?_
  intro p e s m args below meth c s₁ B hml hv
  obtain ⟨rfl, hsz, hP, hK, hD0⟩ := hv
  have cx : jv_cx p s m _ meth c cc_M_logout 3 R_Model (some .int) ws_M_logout := ⟨B.exec, B.bytes, hml, findClass_of_methodNamed B.named, atoms_spec (ws := ws_M_logout) B.pre, B.returns, B.notSynchronized⟩
  subst hsz
  have hD := hD0.self (sz := s.heap.size)
  generalize hAe : va_A (w_model cI q_mo q_mlb_ q_mcl_ q_mus_ q_mwr_ q_mdk_ q_mcp_ mth mar mfu mLb mCl mUs mWr mDk mCp) s.heap.size = A at hD ⊢
  have hA : ∀ q : Nat, s.heap.size ≤ q → A q := fun q h => by rw [← hAe]; exact Or.inr h
  have hS : va_S A s.heap s.heap [] := va_S.rf
  have hl := lv_entry ([.ref q_mo, .int a0]) (n := 3) (Nat.le_of_ble_eq_true rfl)
  rw [lg_entry_eq]
  generalize (lg_sl ([.ref q_mo, .int a0]) ++ List.replicate (3 - (lg_sl ([.ref q_mo, .int a0])).length) Slot.unset).toArray = ls at hl ⊢
  have hl : lv_has ls 3 [(0, .ref q_mo), (1, .int a0)] := hl
  exact b_M_logout_0 (y0 := a0) (y1 := mth) (y2 := mUs) cx hK hA (lv_sub hl [0, 1] rfl) hP hD hS hf
theorem d_M_start_0 : decode cc_M_start 0 = .ok (.iconst 0, 1) := by decide +kernel
theorem d_M_start_1 : decode cc_M_start 1 = .ok (.istore_n 2, 1) := by decide +kernel
theorem d_M_start_2 : decode cc_M_start 2 = .ok (.iload_n 2, 1) := by decide +kernel
theorem d_M_start_3 : decode cc_M_start 3 = .ok (.sipush 232, 3) := by decide +kernel
theorem d_M_start_6 : decode cc_M_start 6 = .ok (.if_icmp .ge 27, 3) := by decide +kernel
theorem d_M_start_33 : decode cc_M_start 33 = .ok (.return_, 1) := by decide +kernel
theorem d_M_start_9 : decode cc_M_start 9 = .ok (.aload_n 0, 1) := by decide +kernel
theorem d_M_start_10 : decode cc_M_start 10 = .ok (.getfield 25, 3) := by decide +kernel
theorem d_M_start_13 : decode cc_M_start 13 = .ok (.iload_n 2, 1) := by decide +kernel
theorem d_M_start_14 : decode cc_M_start 14 = .ok (.aload_n 0, 1) := by decide +kernel
theorem d_M_start_15 : decode cc_M_start 15 = .ok (.getfield 22, 3) := by decide +kernel
theorem d_M_start_18 : decode cc_M_start 18 = .ok (.sipush 232, 3) := by decide +kernel
theorem d_M_start_21 : decode cc_M_start 21 = .ok (.iload_n 1, 1) := by decide +kernel
theorem d_M_start_22 : decode cc_M_start 22 = .ok (.imul, 1) := by decide +kernel
theorem d_M_start_23 : decode cc_M_start 23 = .ok (.iload_n 2, 1) := by decide +kernel
theorem d_M_start_24 : decode cc_M_start 24 = .ok (.iadd, 1) := by decide +kernel
theorem d_M_start_25 : decode cc_M_start 25 = .ok (.iaload, 1) := by decide +kernel
theorem d_M_start_26 : decode cc_M_start 26 = .ok (.iastore, 1) := by decide +kernel
theorem d_M_start_27 : decode cc_M_start 27 = .ok (.iinc 2 1, 3) := by decide +kernel
theorem d_M_start_30 : decode cc_M_start 30 = .ok (.goto (-28), 3) := by decide +kernel
def f_M_start_2 (mDk : Nat → Int32) (y0 : Int32) (k2 : (Int32 × (Nat → Int32)) → Option (Nat → Int32)) (a : Int32 × (Nat → Int32)) : Option (Nat → Int32) :=
  if (232 : Int32) ≤ a.1 then (some a.2) else ((jv_ga mDk 1392 (((232 : Int32) * y0) + a.1)).bind fun x1 => (jv_sa a.2 232 a.1 x1).bind fun F3 => k2 (a.1 + (1 : Int32), F3))
set_option maxHeartbeats 4000000 in
set_option maxRecDepth 100000 in
theorem b_M_start_2 {l : Launch} {dC : Nat → ClassId} {dI : Nat → Nat → Nat} {cI cA cL : ClassId} {q_mo q_mlb_ q_mcl_ q_mus_ q_mwr_ q_mdk_ q_mcp_ : Nat} {mth : Int32} {mar : Int32} {mfu : Int32} {mLb : Nat → Int32} {mCl : Nat → Int32} {mUs : Nat → Int32} {mWr : Nat → Int32} {mDk : Nat → Int32} {p : Program} {e : Env} {s : State} {m : MethodId} {args : Array Value} {below : List Frame} {meth : Method} {c : Code} (cx : jv_cx p s m args meth c cc_M_start 3 R_Model none ws_M_start) (hK : va_K (dC, dI) vwCl (jv_ty cI cA cL) s) {A : Nat → Prop} (hA : ∀ q : Nat, s.heap.size ≤ q → A q) {r : Nat → Int32} {y0 : Int32} {k2 : (Int32 × (Nat → Int32)) → Option (Nat → Int32)} (hk2 : ∀ (a : Int32 × (Nat → Int32)) (ls : Array Slot) (H : Heap) (locs : List Loc), lv_has ls 3 [(0, .ref q_mo), (1, .int y0), (2, .int a.1)] → va_P (dC, dI) vwCl (w_model cI q_mo q_mlb_ q_mcl_ q_mus_ q_mwr_ q_mdk_ q_mcp_ mth mar mfu mLb mCl mUs mWr mDk a.2) H → va_D A (w_model cI q_mo q_mlb_ q_mcl_ q_mus_ q_mwr_ q_mdk_ q_mcp_ mth mar mfu mLb mCl mUs mWr mDk a.2) → va_S A s.heap H locs → k2 a = some r → W p l e rm_M_start s m args below meth c H locs 0 0 (MQ below (jv_Qv (dC, dI) (w_model cI q_mo q_mlb_ q_mcl_ q_mus_ q_mwr_ q_mdk_ q_mcp_ mth mar mfu mLb mCl mUs mWr mDk r) A) args s 0 0 A) (F0 m 2 ls [])) {a : Int32 × (Nat → Int32)} {ls : Array Slot} (hl : lv_has ls 3 [(0, .ref q_mo), (1, .int y0), (2, .int a.1)]) {H : Heap} {locs : List Loc} (hP : va_P (dC, dI) vwCl (w_model cI q_mo q_mlb_ q_mcl_ q_mus_ q_mwr_ q_mdk_ q_mcp_ mth mar mfu mLb mCl mUs mWr mDk a.2) H) (hD : va_D A (w_model cI q_mo q_mlb_ q_mcl_ q_mus_ q_mwr_ q_mdk_ q_mcp_ mth mar mfu mLb mCl mUs mWr mDk a.2)) (hS : va_S A s.heap H locs) (hf : f_M_start_2 mDk y0 k2 a = some r) : W p l e rm_M_start s m args below meth c H locs 0 0 (MQ below (jv_Qv (dC, dI) (w_model cI q_mo q_mlb_ q_mcl_ q_mus_ q_mwr_ q_mdk_ q_mcp_ mth mar mfu mLb mCl mUs mWr mDk r) A) args s 0 0 A) (F0 m 2 ls []) := by
  unfold f_M_start_2 at hf
  obtain ⟨hx, hb, hml, hown, hts, hr, hlocks⟩ := id cx
  refine lv_iload_n hx hb d_M_start_2 rfl (lv_at hl 2 rfl) ?_
  refine lv_sipush (v := (232 : Int32)) hx hb d_M_start_3 (by decide) ?_
  refine lv_icmp_ge (tgt := 33) hx hb d_M_start_6 (by decide) (fun hc => ?_) (fun hc => ?_)
  · have hf := jv_it hf hc
    obtain rfl := Option.some.inj hf
    exact W.vret hx hb hr (fun t ht hW => ⟨rfl, by rw [ht]; exact hP, hD, hS.F ht⟩) hS.2.2 d_M_start_33
  · have hf := jv_if hf hc
    refine lv_aload_n hx hb d_M_start_9 rfl (lv_at hl 0 rfl) ?_
    refine va_get (D := (dC, dI)) (ci := kModel) (v := .ref q_mcp_) (C := R_Model) (T := T_Model) (N := 9) hx hb hts (fun w h => List.mem_cons_of_mem _ (in_Model w h)) hown hK hP 0 rfl rfl 7 (by decide) (jv_w hts wa_238) (fun _ h9 => h9) rfl d_M_start_10 ?_
    refine lv_iload_n hx hb d_M_start_13 rfl (lv_at hl 2 rfl) ?_
    refine lv_aload_n hx hb d_M_start_14 rfl (lv_at hl 0 rfl) ?_
    refine va_get (D := (dC, dI)) (ci := kModel) (v := .ref q_mdk_) (C := R_Model) (T := T_Model) (N := 9) hx hb hts (fun w h => List.mem_cons_of_mem _ (in_Model w h)) hown hK hP 0 rfl rfl 6 (by decide) (jv_w hts wa_203) (fun _ h9 => h9) rfl d_M_start_15 ?_
    refine lv_sipush (v := (232 : Int32)) hx hb d_M_start_18 (by decide) ?_
    refine lv_iload_n hx hb d_M_start_21 rfl (lv_at hl 1 rfl) ?_
    refine lv_imul hx hb d_M_start_22 ?_
    refine lv_iload_n hx hb d_M_start_23 rfl (lv_at hl 2 rfl) ?_
    refine lv_iadd hx hb d_M_start_24 ?_
    obtain ⟨x1, g2, hf⟩ := jv_ob hf
    refine jv_iald hx hb hK hP 5 0 rfl rfl g2 d_M_start_25 ?_
    obtain ⟨F3, g4, hf⟩ := jv_ob hf
    refine jv_iast hx hb hK hP hD hS 6 0 rfl rfl g4 d_M_start_26 (fun H locs hP hD hS => ?_)
    have hP : va_P (dC, dI) vwCl (w_model cI q_mo q_mlb_ q_mcl_ q_mus_ q_mwr_ q_mdk_ q_mcp_ mth mar mfu mLb mCl mUs mWr mDk F3) H := hP
    have hD : va_D A (w_model cI q_mo q_mlb_ q_mcl_ q_mus_ q_mwr_ q_mdk_ q_mcp_ mth mar mfu mLb mCl mUs mWr mDk F3) := hD
    refine lv_iinc (k := 2) (v := a.1 + (1 : Int32)) (lv' := [(2, .int (a.1 + (1 : Int32))), (0, .ref q_mo), (1, .int y0)]) hx hb d_M_start_27 hl rfl (jv_inc _) (by decide) rfl (fun ls hl => ?_)
    refine lv_goto (tgt := 2) hx hb d_M_start_30 (by decide) ?_
    exact hk2 (a.1 + (1 : Int32), F3) _ _ _ (lv_sub hl [1, 2, 0] rfl) hP hD hS hf
set_option maxHeartbeats 4000000 in
set_option maxRecDepth 100000 in
theorem l_M_start_2 {l : Launch} {dC : Nat → ClassId} {dI : Nat → Nat → Nat} {cI cA cL : ClassId} {q_mo q_mlb_ q_mcl_ q_mus_ q_mwr_ q_mdk_ q_mcp_ : Nat} {mth : Int32} {mar : Int32} {mfu : Int32} {mLb : Nat → Int32} {mCl : Nat → Int32} {mUs : Nat → Int32} {mWr : Nat → Int32} {mDk : Nat → Int32} {p : Program} {e : Env} {s : State} {m : MethodId} {args : Array Value} {below : List Frame} {meth : Method} {c : Code} (cx : jv_cx p s m args meth c cc_M_start 3 R_Model none ws_M_start) (hK : va_K (dC, dI) vwCl (jv_ty cI cA cL) s) {A : Nat → Prop} (hA : ∀ q : Nat, s.heap.size ≤ q → A q) {r : Nat → Int32} {y0 : Int32} : ∀ n : Nat, ∀ (a : Int32 × (Nat → Int32)) (ls : Array Slot) (H : Heap) (locs : List Loc), lv_has ls 3 [(0, .ref q_mo), (1, .int y0), (2, .int a.1)] → va_P (dC, dI) vwCl (w_model cI q_mo q_mlb_ q_mcl_ q_mus_ q_mwr_ q_mdk_ q_mcp_ mth mar mfu mLb mCl mUs mWr mDk a.2) H → va_D A (w_model cI q_mo q_mlb_ q_mcl_ q_mus_ q_mwr_ q_mdk_ q_mcp_ mth mar mfu mLb mCl mUs mWr mDk a.2) → va_S A s.heap H locs → jv_fx (f_M_start_2 mDk y0) n a = some r → W p l e rm_M_start s m args below meth c H locs 0 0 (MQ below (jv_Qv (dC, dI) (w_model cI q_mo q_mlb_ q_mcl_ q_mus_ q_mwr_ q_mdk_ q_mcp_ mth mar mfu mLb mCl mUs mWr mDk r) A) args s 0 0 A) (F0 m 2 ls []) := by
  intro n
  induction n with
  | zero => intro a ls H locs hl hP hD hS hf; exact jv_no hf
  | succ n ih => intro a ls H locs hl hP hD hS hf; exact b_M_start_2 cx hK hA ih hl hP hD hS hf
def f_M_start_0 (mDk : Nat → Int32) (y0 : Int32) (y1 : Nat → Int32) : Option (Nat → Int32) :=
  jv_fx (f_M_start_2 mDk y0) 300 ((0 : Int32), y1)
set_option maxHeartbeats 4000000 in
set_option maxRecDepth 100000 in
theorem b_M_start_0 {l : Launch} {dC : Nat → ClassId} {dI : Nat → Nat → Nat} {cI cA cL : ClassId} {q_mo q_mlb_ q_mcl_ q_mus_ q_mwr_ q_mdk_ q_mcp_ : Nat} {mth : Int32} {mar : Int32} {mfu : Int32} {mLb : Nat → Int32} {mCl : Nat → Int32} {mUs : Nat → Int32} {mWr : Nat → Int32} {mDk : Nat → Int32} {p : Program} {e : Env} {s : State} {m : MethodId} {args : Array Value} {below : List Frame} {meth : Method} {c : Code} (cx : jv_cx p s m args meth c cc_M_start 3 R_Model none ws_M_start) (hK : va_K (dC, dI) vwCl (jv_ty cI cA cL) s) {A : Nat → Prop} (hA : ∀ q : Nat, s.heap.size ≤ q → A q) {r : Nat → Int32} {y0 : Int32} {y1 : Nat → Int32} {ls : Array Slot} (hl : lv_has ls 3 [(0, .ref q_mo), (1, .int y0)]) {H : Heap} {locs : List Loc} (hP : va_P (dC, dI) vwCl (w_model cI q_mo q_mlb_ q_mcl_ q_mus_ q_mwr_ q_mdk_ q_mcp_ mth mar mfu mLb mCl mUs mWr mDk y1) H) (hD : va_D A (w_model cI q_mo q_mlb_ q_mcl_ q_mus_ q_mwr_ q_mdk_ q_mcp_ mth mar mfu mLb mCl mUs mWr mDk y1)) (hS : va_S A s.heap H locs) (hf : f_M_start_0 mDk y0 y1 = some r) : W p l e rm_M_start s m args below meth c H locs 0 0 (MQ below (jv_Qv (dC, dI) (w_model cI q_mo q_mlb_ q_mcl_ q_mus_ q_mwr_ q_mdk_ q_mcp_ mth mar mfu mLb mCl mUs mWr mDk r) A) args s 0 0 A) (F0 m 0 ls []) := by
  unfold f_M_start_0 at hf
  obtain ⟨hx, hb, hml, hown, hts, hr, hlocks⟩ := id cx
  refine lv_iconst (v := (0 : Int32)) hx hb d_M_start_0 (by decide) ?_
  refine lv_istore_n (lv' := [(2, .int (0 : Int32)), (0, .ref q_mo), (1, .int y0)]) hx hb d_M_start_1 rfl hl (by decide) rfl (fun ls hl => ?_)
  exact l_M_start_2 (y0 := y0) cx hK hA 300 ((0 : Int32), y1) _ _ _ (lv_sub hl [1, 2, 0] rfl) hP hD hS hf
def f_M_start (mDk : Nat → Int32) (a0 : Int32) (mCp : Nat → Int32) : Option (Nat → Int32) := f_M_start_0 mDk a0 mCp
set_option maxHeartbeats 4000000 in
set_option maxRecDepth 100000 in
theorem c_M_start (l : Launch) (dC : Nat → ClassId) (dI : Nat → Nat → Nat) (cI cA cL : ClassId) (q_mo q_mlb_ q_mcl_ q_mus_ q_mwr_ q_mdk_ q_mcp_ : Nat) (mth : Int32) (mar : Int32) (mfu : Int32) (mLb : Nat → Int32) (mCl : Nat → Int32) (mUs : Nat → Int32) (mWr : Nat → Int32) (mDk : Nat → Int32) (mCp : Nat → Int32) (a0 : Int32) (sz : Nat) (r : Nat → Int32) (hf : f_M_start mDk a0 mCp = some r) : Met l y_M_start ws_M_start rm_M_start (jv_Pw [.ref q_mo, .int a0] (dC, dI) (jv_ty cI cA cL) (w_model cI q_mo q_mlb_ q_mcl_ q_mus_ q_mwr_ q_mdk_ q_mcp_ mth mar mfu mLb mCl mUs mWr mDk mCp) sz) (jv_Qv (dC, dI) (w_model cI q_mo q_mlb_ q_mcl_ q_mus_ q_mwr_ q_mdk_ q_mcp_ mth mar mfu mLb mCl mUs mWr mDk r) (va_A (w_model cI q_mo q_mlb_ q_mcl_ q_mus_ q_mwr_ q_mdk_ q_mcp_ mth mar mfu mLb mCl mUs mWr mDk mCp) sz)) 0 0 (va_A (w_model cI q_mo q_mlb_ q_mcl_ q_mus_ q_mwr_ q_mdk_ q_mcp_ mth mar mfu mLb mCl mUs mWr mDk mCp) sz) := by
  refine Met.ofW (cc := cc_M_start) (maxL := 3) (ret := none) (by decide) rfl ?_
  intro p e s m args below meth c s₁ B hml hv
  obtain ⟨rfl, hsz, hP, hK, hD0⟩ := hv
  have cx : jv_cx p s m _ meth c cc_M_start 3 R_Model none ws_M_start := ⟨B.exec, B.bytes, hml, findClass_of_methodNamed B.named, atoms_spec (ws := ws_M_start) B.pre, B.returns, B.notSynchronized⟩
  subst hsz
  have hD := hD0.self (sz := s.heap.size)
  generalize hAe : va_A (w_model cI q_mo q_mlb_ q_mcl_ q_mus_ q_mwr_ q_mdk_ q_mcp_ mth mar mfu mLb mCl mUs mWr mDk mCp) s.heap.size = A at hD ⊢
  have hA : ∀ q : Nat, s.heap.size ≤ q → A q := fun q h => by rw [← hAe]; exact Or.inr h
  have hS : va_S A s.heap s.heap [] := va_S.rf
  have hl := lv_entry ([.ref q_mo, .int a0]) (n := 3) (Nat.le_of_ble_eq_true rfl)
  rw [lg_entry_eq]
  generalize (lg_sl ([.ref q_mo, .int a0]) ++ List.replicate (3 - (lg_sl ([.ref q_mo, .int a0])).length) Slot.unset).toArray = ls at hl ⊢
  have hl : lv_has ls 3 [(0, .ref q_mo), (1, .int a0)] := hl
  exact b_M_start_0 (y0 := a0) (y1 := mCp) cx hK hA (lv_sub hl [0, 1] rfl) hP hD hS hf
theorem d_M_crashNow_0 : decode cc_M_crashNow 0 = .ok (.iconst 0, 1) := by decide +kernel
theorem d_M_crashNow_1 : decode cc_M_crashNow 1 = .ok (.istore_n 1, 1) := by decide +kernel
theorem d_M_crashNow_2 : decode cc_M_crashNow 2 = .ok (.iconst 0, 1) := by decide +kernel
theorem d_M_crashNow_3 : decode cc_M_crashNow 3 = .ok (.istore_n 2, 1) := by decide +kernel
theorem d_M_crashNow_4 : decode cc_M_crashNow 4 = .ok (.iload_n 2, 1) := by decide +kernel
theorem d_M_crashNow_5 : decode cc_M_crashNow 5 = .ok (.bipush 24, 2) := by decide +kernel
theorem d_M_crashNow_7 : decode cc_M_crashNow 7 = .ok (.if_icmp .ge 33, 3) := by decide +kernel
theorem d_M_crashNow_40 : decode cc_M_crashNow 40 = .ok (.aload_n 0, 1) := by decide +kernel
theorem d_M_crashNow_41 : decode cc_M_crashNow 41 = .ok (.iconst (-1), 1) := by decide +kernel
theorem d_M_crashNow_42 : decode cc_M_crashNow 42 = .ok (.putfield 28, 3) := by decide +kernel
theorem d_M_crashNow_45 : decode cc_M_crashNow 45 = .ok (.iload_n 1, 1) := by decide +kernel
theorem d_M_crashNow_46 : decode cc_M_crashNow 46 = .ok (.ireturn, 1) := by decide +kernel
theorem d_M_crashNow_10 : decode cc_M_crashNow 10 = .ok (.iload_n 1, 1) := by decide +kernel
theorem d_M_crashNow_11 : decode cc_M_crashNow 11 = .ok (.aload_n 0, 1) := by decide +kernel
theorem d_M_crashNow_12 : decode cc_M_crashNow 12 = .ok (.getfield 16, 3) := by decide +kernel
theorem d_M_crashNow_15 : decode cc_M_crashNow 15 = .ok (.iload_n 2, 1) := by decide +kernel
theorem d_M_crashNow_16 : decode cc_M_crashNow 16 = .ok (.iaload, 1) := by decide +kernel
theorem d_M_crashNow_17 : decode cc_M_crashNow 17 = .ok (.ifCond .le 7, 3) := by decide +kernel
theorem d_M_crashNow_24 : decode cc_M_crashNow 24 = .ok (.iconst 0, 1) := by decide +kernel
theorem d_M_crashNow_25 : decode cc_M_crashNow 25 = .ok (.iadd, 1) := by decide +kernel
theorem d_M_crashNow_26 : decode cc_M_crashNow 26 = .ok (.istore_n 1, 1) := by decide +kernel
theorem d_M_crashNow_27 : decode cc_M_crashNow 27 = .ok (.aload_n 0, 1) := by decide +kernel
theorem d_M_crashNow_28 : decode cc_M_crashNow 28 = .ok (.getfield 16, 3) := by decide +kernel
theorem d_M_crashNow_31 : decode cc_M_crashNow 31 = .ok (.iload_n 2, 1) := by decide +kernel
theorem d_M_crashNow_32 : decode cc_M_crashNow 32 = .ok (.iconst 0, 1) := by decide +kernel
theorem d_M_crashNow_33 : decode cc_M_crashNow 33 = .ok (.iastore, 1) := by decide +kernel
theorem d_M_crashNow_34 : decode cc_M_crashNow 34 = .ok (.iinc 2 1, 3) := by decide +kernel
theorem d_M_crashNow_37 : decode cc_M_crashNow 37 = .ok (.goto (-33), 3) := by decide +kernel
theorem d_M_crashNow_20 : decode cc_M_crashNow 20 = .ok (.iconst 1, 1) := by decide +kernel
theorem d_M_crashNow_21 : decode cc_M_crashNow 21 = .ok (.goto 4, 3) := by decide +kernel
def f_M_crashNow_4 (y0 : Int32) (k4 : (Int32 × Int32 × (Nat → Int32)) → Option (Int32 × Int32 × (Nat → Int32))) (a : Int32 × Int32 × (Nat → Int32)) : Option (Int32 × Int32 × (Nat → Int32)) :=
  if (24 : Int32) ≤ a.2.1 then (some (a.1, (-1 : Int32), a.2.2)) else ((jv_ga a.2.2 24 a.2.1).bind fun x1 => if x1 ≤ 0 then ((jv_sa a.2.2 24 a.2.1 (0 : Int32)).bind fun F3 => k4 (a.1 + (0 : Int32), a.2.1 + (1 : Int32), F3)) else ((jv_sa a.2.2 24 a.2.1 (0 : Int32)).bind fun F5 => k4 (a.1 + (1 : Int32), a.2.1 + (1 : Int32), F5)))
set_option maxHeartbeats 4000000 in
set_option maxRecDepth 100000 in
theorem b_M_crashNow_4 {l : Launch} {dC : Nat → ClassId} {dI : Nat → Nat → Nat} {cI cA cL : ClassId} {q_mo q_mlb_ q_mcl_ q_mus_ q_mwr_ q_mdk_ q_mcp_ : Nat} {mth : Int32} {mar : Int32} {mLb : Nat → Int32} {mCl : Nat → Int32} {mWr : Nat → Int32} {mDk : Nat → Int32} {mCp : Nat → Int32} {p : Program} {e : Env} {s : State} {m : MethodId} {args : Array Value} {below : List Frame} {meth : Method} {c : Code} (cx : jv_cx p s m args meth c cc_M_crashNow 3 R_Model (some .int) ws_M_crashNow) (hK : va_K (dC, dI) vwCl (jv_ty cI cA cL) s) {A : Nat → Prop} (hA : ∀ q : Nat, s.heap.size ≤ q → A q) {r : Int32 × Int32 × (Nat → Int32)} {y0 : Int32} {k4 : (Int32 × Int32 × (Nat → Int32)) → Option (Int32 × Int32 × (Nat → Int32))} (hk4 : ∀ (a : Int32 × Int32 × (Nat → Int32)) (ls : Array Slot) (H : Heap) (locs : List Loc), lv_has ls 3 [(0, .ref q_mo), (1, .int a.1), (2, .int a.2.1)] → va_P (dC, dI) vwCl (w_model cI q_mo q_mlb_ q_mcl_ q_mus_ q_mwr_ q_mdk_ q_mcp_ mth mar y0 mLb mCl a.2.2 mWr mDk mCp) H → va_D A (w_model cI q_mo q_mlb_ q_mcl_ q_mus_ q_mwr_ q_mdk_ q_mcp_ mth mar y0 mLb mCl a.2.2 mWr mDk mCp) → va_S A s.heap H locs → k4 a = some r → W p l e rm_M_crashNow s m args below meth c H locs 0 0 (MQ below (jv_Qi r.1 (dC, dI) (w_model cI q_mo q_mlb_ q_mcl_ q_mus_ q_mwr_ q_mdk_ q_mcp_ mth mar r.2.1 mLb mCl r.2.2 mWr mDk mCp) A) args s 0 0 A) (F0 m 4 ls [])) {a : Int32 × Int32 × (Nat → Int32)} {ls : Array Slot} (hl : lv_has ls 3 [(0, .ref q_mo), (1, .int a.1), (2, .int a.2.1)]) {H : Heap} {locs : List Loc} (hP : va_P (dC, dI) vwCl (w_model cI q_mo q_mlb_ q_mcl_ q_mus_ q_mwr_ q_mdk_ q_mcp_ mth mar y0 mLb mCl a.2.2 mWr mDk mCp) H) (hD : va_D A (w_model cI q_mo q_mlb_ q_mcl_ q_mus_ q_mwr_ q_mdk_ q_mcp_ mth mar y0 mLb mCl a.2.2 mWr mDk mCp)) (hS : va_S A s.heap H locs) (hf : f_M_crashNow_4 y0 k4 a = some r) : W p l e rm_M_crashNow s m args below meth c H locs 0 0 (MQ below (jv_Qi r.1 (dC, dI) (w_model cI q_mo q_mlb_ q_mcl_ q_mus_ q_mwr_ q_mdk_ q_mcp_ mth mar r.2.1 mLb mCl r.2.2 mWr mDk mCp) A) args s 0 0 A) (F0 m 4 ls []) := by
  unfold f_M_crashNow_4 at hf
  obtain ⟨hx, hb, hml, hown, hts, hr, hlocks⟩ := id cx
  refine lv_iload_n hx hb d_M_crashNow_4 rfl (lv_at hl 2 rfl) ?_
  refine lv_bipush (v := (24 : Int32)) hx hb d_M_crashNow_5 (by decide) ?_
  refine lv_icmp_ge (tgt := 40) hx hb d_M_crashNow_7 (by decide) (fun hc => ?_) (fun hc => ?_)
  · have hf := jv_it hf hc
    refine lv_aload_n hx hb d_M_crashNow_40 rfl (lv_at hl 0 rfl) ?_
    refine lv_iconst (v := (-1 : Int32)) hx hb d_M_crashNow_41 (by decide) ?_
    refine va_put (D := (dC, dI)) (ci := kModel) (v := .int (-1 : Int32)) (ty := .int) (C := R_Model) (T := T_Model) (N := 9) hx hb hts (fun w h => List.mem_cons_of_mem _ (in_Model w h)) ty_Model tyok_Model nm_Model hown hK hP hD hS 0 rfl rfl 8 (by decide) (jv_w hts wa_247) (fun _ h9 => h9) rfl (by decide +kernel) rfl rfl (Nat.le_of_ble_eq_true rfl) d_M_crashNow_42 (fun H locs hP hD hS => ?_)
    have hP : va_P (dC, dI) vwCl (w_model cI q_mo q_mlb_ q_mcl_ q_mus_ q_mwr_ q_mdk_ q_mcp_ mth mar (-1 : Int32) mLb mCl a.2.2 mWr mDk mCp) H := hP
    have hD : va_D A (w_model cI q_mo q_mlb_ q_mcl_ q_mus_ q_mwr_ q_mdk_ q_mcp_ mth mar (-1 : Int32) mLb mCl a.2.2 mWr mDk mCp) := hD
    refine lv_iload_n hx hb d_M_crashNow_45 rfl (lv_at hl 1 rfl) ?_
    obtain rfl := Option.some.inj hf
    exact W.iret hx hb hr (fun t ht hW => ⟨rfl, by rw [ht]; exact hP, hD, hS.F ht⟩) hS.2.2 d_M_crashNow_46
  · have hf := jv_if hf hc
    refine lv_iload_n hx hb d_M_crashNow_10 rfl (lv_at hl 1 rfl) ?_
    refine lv_aload_n hx hb d_M_crashNow_11 rfl (lv_at hl 0 rfl) ?_
    refine va_get (D := (dC, dI)) (ci := kModel) (v := .ref q_mus_) (C := R_Model) (T := T_Model) (N := 9) hx hb hts (fun w h => List.mem_cons_of_mem _ (in_Model w h)) hown hK hP 0 rfl rfl 4 (by decide) (jv_w hts wa_202) (fun _ h9 => h9) rfl d_M_crashNow_12 ?_
    refine lv_iload_n hx hb d_M_crashNow_15 rfl (lv_at hl 2 rfl) ?_
    obtain ⟨x1, g2, hf⟩ := jv_ob hf
    refine jv_iald hx hb hK hP 3 0 rfl rfl g2 d_M_crashNow_16 ?_
    refine lv_if_le (tgt := 24) hx hb d_M_crashNow_17 (by decide) (fun hc => ?_) (fun hc => ?_)
    · have hf := jv_it hf hc
      refine lv_iconst (v := (0 : Int32)) hx hb d_M_crashNow_24 (by decide) ?_
      refine lv_iadd hx hb d_M_crashNow_25 ?_
      refine lv_istore_n (lv' := [(1, .int (a.1 + (0 : Int32))), (0, .ref q_mo), (2, .int a.2.1)]) hx hb d_M_crashNow_26 rfl hl (by decide) rfl (fun ls hl => ?_)
      refine lv_aload_n hx hb d_M_crashNow_27 rfl (lv_at hl 1 rfl) ?_
      refine va_get (D := (dC, dI)) (ci := kModel) (v := .ref q_mus_) (C := R_Model) (T := T_Model) (N := 9) hx hb hts (fun w h => List.mem_cons_of_mem _ (in_Model w h)) hown hK hP 0 rfl rfl 4 (by decide) (jv_w hts wa_202) (fun _ h9 => h9) rfl d_M_crashNow_28 ?_
      refine lv_iload_n hx hb d_M_crashNow_31 rfl (lv_at hl 2 rfl) ?_
      refine lv_iconst (v := (0 : Int32)) hx hb d_M_crashNow_32 (by decide) ?_
      obtain ⟨F3, g4, hf⟩ := jv_ob hf
      refine jv_iast hx hb hK hP hD hS 3 0 rfl rfl g4 d_M_crashNow_33 (fun H locs hP hD hS => ?_)
      have hP : va_P (dC, dI) vwCl (w_model cI q_mo q_mlb_ q_mcl_ q_mus_ q_mwr_ q_mdk_ q_mcp_ mth mar y0 mLb mCl F3 mWr mDk mCp) H := hP
      have hD : va_D A (w_model cI q_mo q_mlb_ q_mcl_ q_mus_ q_mwr_ q_mdk_ q_mcp_ mth mar y0 mLb mCl F3 mWr mDk mCp) := hD
      refine lv_iinc (k := 2) (v := a.2.1 + (1 : Int32)) (lv' := [(2, .int (a.2.1 + (1 : Int32))), (1, .int (a.1 + (0 : Int32))), (0, .ref q_mo)]) hx hb d_M_crashNow_34 hl rfl (jv_inc _) (by decide) rfl (fun ls hl => ?_)
      refine lv_goto (tgt := 4) hx hb d_M_crashNow_37 (by decide) ?_
      exact hk4 (a.1 + (0 : Int32), a.2.1 + (1 : Int32), F3) _ _ _ (lv_sub hl [2, 1, 0] rfl) hP hD hS hf
    · have hf := jv_if hf hc
      refine lv_iconst (v := (1 : Int32)) hx hb d_M_crashNow_20 (by decide) ?_
      refine lv_goto (tgt := 25) hx hb d_M_crashNow_21 (by decide) ?_
      refine lv_iadd hx hb d_M_crashNow_25 ?_
      refine lv_istore_n (lv' := [(1, .int (a.1 + (1 : Int32))), (0, .ref q_mo), (2, .int a.2.1)]) hx hb d_M_crashNow_26 rfl hl (by decide) rfl (fun ls hl => ?_)
      refine lv_aload_n hx hb d_M_crashNow_27 rfl (lv_at hl 1 rfl) ?_
      refine va_get (D := (dC, dI)) (ci := kModel) (v := .ref q_mus_) (C := R_Model) (T := T_Model) (N := 9) hx hb hts (fun w h => List.mem_cons_of_mem _ (in_Model w h)) hown hK hP 0 rfl rfl 4 (by decide) (jv_w hts wa_202) (fun _ h9 => h9) rfl d_M_crashNow_28 ?_
      refine lv_iload_n hx hb d_M_crashNow_31 rfl (lv_at hl 2 rfl) ?_
      refine lv_iconst (v := (0 : Int32)) hx hb d_M_crashNow_32 (by decide) ?_
      obtain ⟨F5, g6, hf⟩ := jv_ob hf
      refine jv_iast hx hb hK hP hD hS 3 0 rfl rfl g6 d_M_crashNow_33 (fun H locs hP hD hS => ?_)
      have hP : va_P (dC, dI) vwCl (w_model cI q_mo q_mlb_ q_mcl_ q_mus_ q_mwr_ q_mdk_ q_mcp_ mth mar y0 mLb mCl F5 mWr mDk mCp) H := hP
      have hD : va_D A (w_model cI q_mo q_mlb_ q_mcl_ q_mus_ q_mwr_ q_mdk_ q_mcp_ mth mar y0 mLb mCl F5 mWr mDk mCp) := hD
      refine lv_iinc (k := 2) (v := a.2.1 + (1 : Int32)) (lv' := [(2, .int (a.2.1 + (1 : Int32))), (1, .int (a.1 + (1 : Int32))), (0, .ref q_mo)]) hx hb d_M_crashNow_34 hl rfl (jv_inc _) (by decide) rfl (fun ls hl => ?_)
      refine lv_goto (tgt := 4) hx hb d_M_crashNow_37 (by decide) ?_
      exact hk4 (a.1 + (1 : Int32), a.2.1 + (1 : Int32), F5) _ _ _ (lv_sub hl [2, 1, 0] rfl) hP hD hS hf
set_option maxHeartbeats 4000000 in
set_option maxRecDepth 100000 in
theorem l_M_crashNow_4 {l : Launch} {dC : Nat → ClassId} {dI : Nat → Nat → Nat} {cI cA cL : ClassId} {q_mo q_mlb_ q_mcl_ q_mus_ q_mwr_ q_mdk_ q_mcp_ : Nat} {mth : Int32} {mar : Int32} {mLb : Nat → Int32} {mCl : Nat → Int32} {mWr : Nat → Int32} {mDk : Nat → Int32} {mCp : Nat → Int32} {p : Program} {e : Env} {s : State} {m : MethodId} {args : Array Value} {below : List Frame} {meth : Method} {c : Code} (cx : jv_cx p s m args meth c cc_M_crashNow 3 R_Model (some .int) ws_M_crashNow) (hK : va_K (dC, dI) vwCl (jv_ty cI cA cL) s) {A : Nat → Prop} (hA : ∀ q : Nat, s.heap.size ≤ q → A q) {r : Int32 × Int32 × (Nat → Int32)} {y0 : Int32} : ∀ n : Nat, ∀ (a : Int32 × Int32 × (Nat → Int32)) (ls : Array Slot) (H : Heap) (locs : List Loc), lv_has ls 3 [(0, .ref q_mo), (1, .int a.1), (2, .int a.2.1)] → va_P (dC, dI) vwCl (w_model cI q_mo q_mlb_ q_mcl_ q_mus_ q_mwr_ q_mdk_ q_mcp_ mth mar y0 mLb mCl a.2.2 mWr mDk mCp) H → va_D A (w_model cI q_mo q_mlb_ q_mcl_ q_mus_ q_mwr_ q_mdk_ q_mcp_ mth mar y0 mLb mCl a.2.2 mWr mDk mCp) → va_S A s.heap H locs → jv_fx (f_M_crashNow_4 y0) n a = some r → W p l e rm_M_crashNow s m args below meth c H locs 0 0 (MQ below (jv_Qi r.1 (dC, dI) (w_model cI q_mo q_mlb_ q_mcl_ q_mus_ q_mwr_ q_mdk_ q_mcp_ mth mar r.2.1 mLb mCl r.2.2 mWr mDk mCp) A) args s 0 0 A) (F0 m 4 ls []) := by
  intro n
  induction n with
  | zero => intro a ls H locs hl hP hD hS hf; exact jv_no hf
  | succ n ih => intro a ls H locs hl hP hD hS hf; exact b_M_crashNow_4 cx hK hA ih hl hP hD hS hf
def f_M_crashNow_0 (y0 : Int32) (y1 : Nat → Int32) : Option (Int32 × Int32 × (Nat → Int32)) :=
  jv_fx (f_M_crashNow_4 y0) 300 ((0 : Int32), (0 : Int32), y1)
set_option maxHeartbeats 4000000 in
set_option maxRecDepth 100000 in
theorem b_M_crashNow_0 {l : Launch} {dC : Nat → ClassId} {dI : Nat → Nat → Nat} {cI cA cL : ClassId} {q_mo q_mlb_ q_mcl_ q_mus_ q_mwr_ q_mdk_ q_mcp_ : Nat} {mth : Int32} {mar : Int32} {mLb : Nat → Int32} {mCl : Nat → Int32} {mWr : Nat → Int32} {mDk : Nat → Int32} {mCp : Nat → Int32} {p : Program} {e : Env} {s : State} {m : MethodId} {args : Array Value} {below : List Frame} {meth : Method} {c : Code} (cx : jv_cx p s m args meth c cc_M_crashNow 3 R_Model (some .int) ws_M_crashNow) (hK : va_K (dC, dI) vwCl (jv_ty cI cA cL) s) {A : Nat → Prop} (hA : ∀ q : Nat, s.heap.size ≤ q → A q) {r : Int32 × Int32 × (Nat → Int32)} {y0 : Int32} {y1 : Nat → Int32} {ls : Array Slot} (hl : lv_has ls 3 [(0, .ref q_mo)]) {H : Heap} {locs : List Loc} (hP : va_P (dC, dI) vwCl (w_model cI q_mo q_mlb_ q_mcl_ q_mus_ q_mwr_ q_mdk_ q_mcp_ mth mar y0 mLb mCl y1 mWr mDk mCp) H) (hD : va_D A (w_model cI q_mo q_mlb_ q_mcl_ q_mus_ q_mwr_ q_mdk_ q_mcp_ mth mar y0 mLb mCl y1 mWr mDk mCp)) (hS : va_S A s.heap H locs) (hf : f_M_crashNow_0 y0 y1 = some r) : W p l e rm_M_crashNow s m args below meth c H locs 0 0 (MQ below (jv_Qi r.1 (dC, dI) (w_model cI q_mo q_mlb_ q_mcl_ q_mus_ q_mwr_ q_mdk_ q_mcp_ mth mar r.2.1 mLb mCl r.2.2 mWr mDk mCp) A) args s 0 0 A) (F0 m 0 ls []) := by
  unfold f_M_crashNow_0 at hf
  obtain ⟨hx, hb, hml, hown, hts, hr, hlocks⟩ := id cx
  refine lv_iconst (v := (0 : Int32)) hx hb d_M_crashNow_0 (by decide) ?_
  refine lv_istore_n (lv' := [(1, .int (0 : Int32)), (0, .ref q_mo)]) hx hb d_M_crashNow_1 rfl hl (by decide) rfl (fun ls hl => ?_)
  refine lv_iconst (v := (0 : Int32)) hx hb d_M_crashNow_2 (by decide) ?_
  refine lv_istore_n (lv' := [(2, .int (0 : Int32)), (1, .int (0 : Int32)), (0, .ref q_mo)]) hx hb d_M_crashNow_3 rfl hl (by decide) rfl (fun ls hl => ?_)
  exact l_M_crashNow_4 (y0 := y0) cx hK hA 300 ((0 : Int32), (0 : Int32), y1) _ _ _ (lv_sub hl [2, 1, 0] rfl) hP hD hS hf
def f_M_crashNow (mfu : Int32) (mUs : Nat → Int32) : Option (Int32 × Int32 × (Nat → Int32)) := f_M_crashNow_0 mfu mUs
set_option maxHeartbeats 4000000 in
set_option maxRecDepth 100000 in
theorem c_M_crashNow (l : Launch) (dC : Nat → ClassId) (dI : Nat → Nat → Nat) (cI cA cL : ClassId) (q_mo q_mlb_ q_mcl_ q_mus_ q_mwr_ q_mdk_ q_mcp_ : Nat) (mth : Int32) (mar : Int32) (mfu : Int32) (mLb : Nat → Int32) (mCl : Nat → Int32) (mUs : Nat → Int32) (mWr : Nat → Int32) (mDk : Nat → Int32) (mCp : Nat → Int32) (sz : Nat) (r : Int32 × Int32 × (Nat → Int32)) (hf : f_M_crashNow mfu mUs = some r) : Met l y_M_crashNow ws_M_crashNow rm_M_crashNow (jv_Pw [.ref q_mo] (dC, dI) (jv_ty cI cA cL) (w_model cI q_mo q_mlb_ q_mcl_ q_mus_ q_mwr_ q_mdk_ q_mcp_ mth mar mfu mLb mCl mUs mWr mDk mCp) sz) (jv_Qi r.1 (dC, dI) (w_model cI q_mo q_mlb_ q_mcl_ q_mus_ q_mwr_ q_mdk_ q_mcp_ mth mar r.2.1 mLb mCl r.2.2 mWr mDk mCp) (va_A (w_model cI q_mo q_mlb_ q_mcl_ q_mus_ q_mwr_ q_mdk_ q_mcp_ mth mar mfu mLb mCl mUs mWr mDk mCp) sz)) 0 0 (va_A (w_model cI q_mo q_mlb_ q_mcl_ q_mus_ q_mwr_ q_mdk_ q_mcp_ mth mar mfu mLb mCl mUs mWr mDk mCp) sz) := by
  refine Met.ofW (cc := cc_M_crashNow) (maxL := 3) (ret := (some .int)) (by decide) rfl ?_
  intro p e s m args below meth c s₁ B hml hv
  obtain ⟨rfl, hsz, hP, hK, hD0⟩ := hv
  have cx : jv_cx p s m _ meth c cc_M_crashNow 3 R_Model (some .int) ws_M_crashNow := ⟨B.exec, B.bytes, hml, findClass_of_methodNamed B.named, atoms_spec (ws := ws_M_crashNow) B.pre, B.returns, B.notSynchronized⟩
  subst hsz
  have hD := hD0.self (sz := s.heap.size)
  generalize hAe : va_A (w_model cI q_mo q_mlb_ q_mcl_ q_mus_ q_mwr_ q_mdk_ q_mcp_ mth mar mfu mLb mCl mUs mWr mDk mCp) s.heap.size = A at hD ⊢
  have hA : ∀ q : Nat, s.heap.size ≤ q → A q := fun q h => by rw [← hAe]; exact Or.inr h
  have hS : va_S A s.heap s.heap [] := va_S.rf
  have hl := lv_entry ([.ref q_mo]) (n := 3) (Nat.le_of_ble_eq_true rfl)
  rw [lg_entry_eq]
  generalize (lg_sl ([.ref q_mo]) ++ List.replicate (3 - (lg_sl ([.ref q_mo])).length) Slot.unset).toArray = ls at hl ⊢
  have hl : lv_has ls 3 [(0, .ref q_mo)] := hl
  exact b_M_crashNow_0 (y0 := mfu) (y1 := mUs) cx hK hA (lv_sub hl [0] rfl) hP hD hS hf
