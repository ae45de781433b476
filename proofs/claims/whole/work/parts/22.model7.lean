theorem d_M_read_0 : decode cc_M_read 0 = .ok (.aload_n 0, 1) := by decide +kernel
theorem d_M_read_1 : decode cc_M_read 1 = .ok (.aload_n 0, 1) := by decide +kernel
theorem d_M_read_2 : decode cc_M_read 2 = .ok (.iload_n 1, 1) := by decide +kernel
theorem d_M_read_3 : decode cc_M_read 3 = .ok (.iload_n 2, 1) := by decide +kernel
theorem d_M_read_4 : decode cc_M_read 4 = .ok (.iload_n 3, 1) := by decide +kernel
theorem d_M_read_5 : decode cc_M_read 5 = .ok (.invokevirtual 119, 3) := by decide +kernel
theorem d_M_read_8 : decode cc_M_read 8 = .ok (.putfield 32, 3) := by decide +kernel
theorem d_M_read_11 : decode cc_M_read 11 = .ok (.aload_n 0, 1) := by decide +kernel
theorem d_M_read_12 : decode cc_M_read 12 = .ok (.getfield 32, 3) := by decide +kernel
theorem d_M_read_15 : decode cc_M_read 15 = .ok (.ifCond .ne 12, 3) := by decide +kernel
theorem d_M_read_27 : decode cc_M_read 27 = .ok (.iconst 0, 1) := by decide +kernel
theorem d_M_read_18 : decode cc_M_read 18 = .ok (.aload_n 0, 1) := by decide +kernel
theorem d_M_read_19 : decode cc_M_read 19 = .ok (.iload_n 3, 1) := by decide +kernel
theorem d_M_read_20 : decode cc_M_read 20 = .ok (.iload_n 2, 1) := by decide +kernel
theorem d_M_read_21 : decode cc_M_read 21 = .ok (.invokevirtual 68, 3) := by decide +kernel
theorem d_M_read_24 : decode cc_M_read 24 = .ok (.goto 4, 3) := by decide +kernel
theorem d_M_read_28 : decode cc_M_read 28 = .ok (.istore 5, 2) := by decide +kernel
theorem d_M_read_30 : decode cc_M_read 30 = .ok (.aload_n 0, 1) := by decide +kernel
theorem d_M_read_31 : decode cc_M_read 31 = .ok (.aload_n 0, 1) := by decide +kernel
theorem d_M_read_32 : decode cc_M_read 32 = .ok (.getfield 32, 3) := by decide +kernel
theorem d_M_read_35 : decode cc_M_read 35 = .ok (.ifCond .ne 25, 3) := by decide +kernel
theorem d_M_read_60 : decode cc_M_read 60 = .ok (.aload_n 0, 1) := by decide +kernel
theorem d_M_read_61 : decode cc_M_read 61 = .ok (.getfield 32, 3) := by decide +kernel
theorem d_M_read_38 : decode cc_M_read 38 = .ok (.iload 4, 2) := by decide +kernel
theorem d_M_read_40 : decode cc_M_read 40 = .ok (.ifCond .lt 16, 3) := by decide +kernel
theorem d_M_read_56 : decode cc_M_read 56 = .ok (.iconst 5, 1) := by decide +kernel
theorem d_M_read_57 : decode cc_M_read 57 = .ok (.goto 7, 3) := by decide +kernel
theorem d_M_read_43 : decode cc_M_read 43 = .ok (.iload 4, 2) := by decide +kernel
theorem d_M_read_45 : decode cc_M_read 45 = .ok (.aload_n 0, 1) := by decide +kernel
theorem d_M_read_46 : decode cc_M_read 46 = .ok (.iload_n 3, 1) := by decide +kernel
theorem d_M_read_47 : decode cc_M_read 47 = .ok (.iload 5, 2) := by decide +kernel
theorem d_M_read_49 : decode cc_M_read 49 = .ok (.iconst 3, 1) := by decide +kernel
theorem d_M_read_50 : decode cc_M_read 50 = .ok (.invokevirtual 64, 3) := by decide +kernel
theorem d_M_read_53 : decode cc_M_read 53 = .ok (.if_icmp .lt 7, 3) := by decide +kernel
theorem d_M_read_64 : decode cc_M_read 64 = .ok (.putfield 32, 3) := by decide +kernel
theorem d_M_read_67 : decode cc_M_read 67 = .ok (.aload_n 0, 1) := by decide +kernel
theorem d_M_read_68 : decode cc_M_read 68 = .ok (.getfield 32, 3) := by decide +kernel
theorem d_M_read_71 : decode cc_M_read 71 = .ok (.ifCond .le 5, 3) := by decide +kernel
theorem d_M_read_76 : decode cc_M_read 76 = .ok (.aload_n 0, 1) := by decide +kernel
theorem d_M_read_77 : decode cc_M_read 77 = .ok (.iload_n 3, 1) := by decide +kernel
theorem d_M_read_78 : decode cc_M_read 78 = .ok (.invokevirtual 91, 3) := by decide +kernel
theorem d_M_read_81 : decode cc_M_read 81 = .ok (.aload_n 0, 1) := by decide +kernel
theorem d_M_read_82 : decode cc_M_read 82 = .ok (.iload 5, 2) := by decide +kernel
theorem d_M_read_84 : decode cc_M_read 84 = .ok (.iload 4, 2) := by decide +kernel
theorem d_M_read_86 : decode cc_M_read 86 = .ok (.bipush 8, 2) := by decide +kernel
theorem d_M_read_88 : decode cc_M_read 88 = .ok (.idiv, 1) := by decide +kernel
theorem d_M_read_89 : decode cc_M_read 89 = .ok (.invokevirtual 101, 3) := by decide +kernel
theorem d_M_read_92 : decode cc_M_read 92 = .ok (.istore 6, 2) := by decide +kernel
theorem d_M_read_94 : decode cc_M_read 94 = .ok (.iload 6, 2) := by decide +kernel
theorem d_M_read_96 : decode cc_M_read 96 = .ok (.ifCond .lt 13, 3) := by decide +kernel
theorem d_M_read_109 : decode cc_M_read 109 = .ok (.iconst 0, 1) := by decide +kernel
theorem d_M_read_110 : decode cc_M_read 110 = .ok (.goto 27, 3) := by decide +kernel
theorem d_M_read_137 : decode cc_M_read 137 = .ok (.ireturn, 1) := by decide +kernel
theorem d_M_read_99 : decode cc_M_read 99 = .ok (.aload_n 0, 1) := by decide +kernel
theorem d_M_read_100 : decode cc_M_read 100 = .ok (.getfield 25, 3) := by decide +kernel
theorem d_M_read_103 : decode cc_M_read 103 = .ok (.iload 6, 2) := by decide +kernel
theorem d_M_read_105 : decode cc_M_read 105 = .ok (.iaload, 1) := by decide +kernel
theorem d_M_read_106 : decode cc_M_read 106 = .ok (.ifCond .ne 7, 3) := by decide +kernel
theorem d_M_read_113 : decode cc_M_read 113 = .ok (.aload_n 0, 1) := by decide +kernel
theorem d_M_read_114 : decode cc_M_read 114 = .ok (.getfield 25, 3) := by decide +kernel
theorem d_M_read_117 : decode cc_M_read 117 = .ok (.bipush 64, 2) := by decide +kernel
theorem d_M_read_119 : decode cc_M_read 119 = .ok (.bipush 8, 2) := by decide +kernel
theorem d_M_read_121 : decode cc_M_read 121 = .ok (.aload_n 0, 1) := by decide +kernel
theorem d_M_read_122 : decode cc_M_read 122 = .ok (.getfield 25, 3) := by decide +kernel
theorem d_M_read_125 : decode cc_M_read 125 = .ok (.iload 6, 2) := by decide +kernel
theorem d_M_read_127 : decode cc_M_read 127 = .ok (.iaload, 1) := by decide +kernel
theorem d_M_read_128 : decode cc_M_read 128 = .ok (.imul, 1) := by decide +kernel
theorem d_M_read_129 : decode cc_M_read 129 = .ok (.iadd, 1) := by decide +kernel
theorem d_M_read_130 : decode cc_M_read 130 = .ok (.iload 4, 2) := by decide +kernel
theorem d_M_read_132 : decode cc_M_read 132 = .ok (.bipush 8, 2) := by decide +kernel
theorem d_M_read_134 : decode cc_M_read 134 = .ok (.irem, 1) := by decide +kernel
theorem d_M_read_135 : decode cc_M_read 135 = .ok (.iadd, 1) := by decide +kernel
theorem d_M_read_136 : decode cc_M_read 136 = .ok (.iaload, 1) := by decide +kernel
theorem d_M_read_74 : decode cc_M_read 74 = .ok (.iconst 0, 1) := by decide +kernel
theorem d_M_read_75 : decode cc_M_read 75 = .ok (.ireturn, 1) := by decide +kernel
def f_M_read_64 (mar : Int32) (mLb : Nat → Int32) (mUs : Nat → Int32) (mDk : Nat → Int32) (y0 : Int32) (y1 : Int32) (y2 : Int32) (y3 : Int32) (y4 : Int32) (y5 : Nat → Int32) : Option (Int32 × Int32 × (Nat → Int32)) :=
  if y3 ≤ 0 then ((f_M_start mDk y0 y5).bind fun x7 => (f_M_pointer x7 y2 (y1 / (8 : Int32))).bind fun x9 => if x9 < 0 then (some ((0 : Int32), y3, x7)) else ((jv_ga x7 232 x9).bind fun x11 => if x11 = 0 then (some ((0 : Int32), y3, x7)) else ((jv_ga x7 232 x9).bind fun x13 => (jv_ga x7 232 (((64 : Int32) + ((8 : Int32) * x13)) + (y1 - y1 / (8 : Int32) * (8 : Int32)))).bind fun x15 => some (x15, y3, x7)))) else (some ((0 : Int32), y3, y5))
set_option maxHeartbeats 4000000 in
set_option maxRecDepth 100000 in
theorem b_M_read_64 {l : Launch} {dC : Nat → ClassId} {dI : Nat → Nat → Nat} {cI cA cL : ClassId} {q_mo q_mlb_ q_mcl_ q_mus_ q_mwr_ q_mdk_ q_mcp_ : Nat} {mar : Int32} {mfu : Int32} {mLb : Nat → Int32} {mCl : Nat → Int32} {mUs : Nat → Int32} {mWr : Nat → Int32} {mDk : Nat → Int32} {p : Program} {e : Env} {s : State} {m : MethodId} {args : Array Value} {below : List Frame} {meth : Method} {c : Code} (cx : jv_cx p s m args meth c cc_M_read 7 R_Model (some .int) ws_M_read) (hK : va_K (dC, dI) vwCl (jv_ty cI cA cL) s) {A : Nat → Prop} (hA : ∀ q : Nat, s.heap.size ≤ q → A q) {r : Int32 × Int32 × (Nat → Int32)} {y0 : Int32} {y1 : Int32} {y2 : Int32} {y3 : Int32} {y4 : Int32} {y5 : Nat → Int32} {ls : Array Slot} (hl : lv_has ls 7 [(0, .ref q_mo), (3, .int y0), (4, .int y1), (5, .int y2)]) {H : Heap} {locs : List Loc} (hP : va_P (dC, dI) vwCl (w_model cI q_mo q_mlb_ q_mcl_ q_mus_ q_mwr_ q_mdk_ q_mcp_ y4 mar mfu mLb mCl mUs mWr mDk y5) H) (hD : va_D A (w_model cI q_mo q_mlb_ q_mcl_ q_mus_ q_mwr_ q_mdk_ q_mcp_ y4 mar mfu mLb mCl mUs mWr mDk y5)) (hS : va_S A s.heap H locs) (hf : f_M_read_64 mar mLb mUs mDk y0 y1 y2 y3 y4 y5 = some r) : W p l e rm_M_read s m args below meth c H locs 0 0 (MQ below (jv_Qi r.1 (dC, dI) (w_model cI q_mo q_mlb_ q_mcl_ q_mus_ q_mwr_ q_mdk_ q_mcp_ r.2.1 mar mfu mLb mCl mUs mWr mDk r.2.2) A) args s 0 0 A) (F0 m 64 ls [.int y3, .ref q_mo]) := by
  unfold f_M_read_64 at hf
  obtain ⟨hx, hb, hml, hown, hts, hr, hlocks⟩ := id cx
  refine va_put (D := (dC, dI)) (ci := kModel) (v := .int y3) (ty := .int) (C := R_Model) (T := T_Model) (N := 9) hx hb hts (fun w h => List.mem_cons_of_mem _ (in_Model w h)) ty_Model tyok_Model nm_Model hown hK hP hD hS 0 rfl rfl 0 (by decide) (jv_w hts wa_200) (fun _ h9 => h9) rfl (by decide +kernel) rfl rfl (Nat.le_of_ble_eq_true rfl) d_M_read_64 (fun H locs hP hD hS => ?_)
  have hP : va_P (dC, dI) vwCl (w_model cI q_mo q_mlb_ q_mcl_ q_mus_ q_mwr_ q_mdk_ q_mcp_ y3 mar mfu mLb mCl mUs mWr mDk y5) H := hP
  have hD : va_D A (w_model cI q_mo q_mlb_ q_mcl_ q_mus_ q_mwr_ q_mdk_ q_mcp_ y3 mar mfu mLb mCl mUs mWr mDk y5) := hD
  refine lv_aload_n hx hb d_M_read_67 rfl (lv_at hl 0 rfl) ?_
  refine va_get (D := (dC, dI)) (ci := kModel) (v := .int y3) (C := R_Model) (T := T_Model) (N := 9) hx hb hts (fun w h => List.mem_cons_of_mem _ (in_Model w h)) hown hK hP 0 rfl rfl 0 (by decide) (jv_w hts wa_200) (fun _ h9 => h9) rfl d_M_read_68 ?_
  refine lv_if_le (tgt := 76) hx hb d_M_read_71 (by decide) (fun hc => ?_) (fun hc => ?_)
  · have hf := jv_it hf hc
    refine lv_aload_n hx hb d_M_read_76 rfl (lv_at hl 0 rfl) ?_
    refine lv_iload_n hx hb d_M_read_77 rfl (lv_at hl 1 rfl) ?_
    obtain ⟨x7, g8, hf⟩ := jv_ob hf
    have hPc := hP.sub (ws' := (w_model cI q_mo q_mlb_ q_mcl_ q_mus_ q_mwr_ q_mdk_ q_mcp_ y3 mar mfu mLb mCl mUs mWr mDk y5)) [0, 1, 2, 3, 4, 5, 6] rfl
    have hDc := hD.sub (ws' := (w_model cI q_mo q_mlb_ q_mcl_ q_mus_ q_mwr_ q_mdk_ q_mcp_ y3 mar mfu mLb mCl mUs mWr mDk y5)) [0, 1, 2, 3, 4, 5, 6] (by decide) rfl
    have hFc := va_free (wc := (w_model cI q_mo q_mlb_ q_mcl_ q_mus_ q_mwr_ q_mdk_ q_mcp_ y3 mar mfu mLb mCl mUs mWr mDk y5)) hD hS hA [0, 1, 2, 3, 4, 5, 6] rfl
    refine jv_cwv (va_runV (As := [.int y0]) (rest := []) (b := q_mo) ⟨hx, hb, hml, hown, hts⟩ (c_M_start l dC dI cI cA cL q_mo q_mlb_ q_mcl_ q_mus_ q_mwr_ q_mdk_ q_mcp_ y3 mar mfu mLb mCl mUs mWr mDk y5 y0 H.size x7 g8) (jv_cwV hts wa_257 wa_194 wa_258 wa_259 wa_260 rfl rfl yd_M_start ⟨Nat.le_of_ble_eq_true rfl, Nat.le_of_ble_eq_true rfl⟩) (jv_preVW hK hPc hDc 0 rfl rfl) rfl rfl hl.1 rfl (lv_room (Nat.le_of_ble_eq_true rfl)) d_M_read_78 ⟨Nat.zero_le _, Nat.zero_le _⟩) hS hFc (fun H1 locs hP1 hD1 hk1 hS => ?_)
    have hP : va_P (dC, dI) vwCl (w_model cI q_mo q_mlb_ q_mcl_ q_mus_ q_mwr_ q_mdk_ q_mcp_ y3 mar mfu mLb mCl mUs mWr mDk x7) H1 := hP1.sub [0, 1, 2, 3, 4, 5, 6] rfl
    have hD : va_D A (w_model cI q_mo q_mlb_ q_mcl_ q_mus_ q_mwr_ q_mdk_ q_mcp_ y3 mar mfu mLb mCl mUs mWr mDk x7) := (hD1.weaken (fun _ q _ h => hFc q.1 h)).sub [0, 1, 2, 3, 4, 5, 6] (by decide) rfl
    generalize H1 = H at hP hS ⊢
    refine lv_aload_n hx hb d_M_read_81 rfl (lv_at hl 0 rfl) ?_
    refine lv_iload hx hb d_M_read_82 (lv_at hl 3 rfl) ?_
    refine lv_iload hx hb d_M_read_84 (lv_at hl 2 rfl) ?_
    refine lv_bipush (v := (8 : Int32)) hx hb d_M_read_86 (by decide) ?_
    refine lv_idiv hx hb d_M_read_88 (by decide) ?_
    obtain ⟨x9, g10, hf⟩ := jv_ob hf
    have hPc := hP.sub (ws' := (w_model cI q_mo q_mlb_ q_mcl_ q_mus_ q_mwr_ q_mdk_ q_mcp_ y3 mar mfu mLb mCl mUs mWr mDk x7)) [0, 1, 2, 3, 4, 5, 6] rfl
    refine jv_cs (W.runV (As := [.int y2, .int (y1 / (8 : Int32))]) (rest := []) (b := q_mo) ⟨hx, hb, hml, hown, hts⟩ (c_M_pointer l dC dI cI cA cL q_mo q_mlb_ q_mcl_ q_mus_ q_mwr_ q_mdk_ q_mcp_ y3 mar mfu mLb mCl mUs mWr mDk x7 y2 (y1 / (8 : Int32)) x9 g10) (jv_cwV hts wa_269 wa_194 wa_270 wa_271 wa_272 rfl rfl yd_M_pointer ⟨Nat.le_of_ble_eq_true rfl, Nat.le_of_ble_eq_true rfl⟩) (jv_preV hK hPc 0 rfl rfl) rfl rfl hl.1 rfl (lv_room (Nat.le_of_ble_eq_true rfl)) d_M_read_89 ⟨Nat.zero_le _, Nat.zero_le _⟩) ?_
    refine lv_istore (lv' := [(6, .int x9), (0, .ref q_mo), (3, .int y0), (4, .int y1), (5, .int y2)]) hx hb d_M_read_92 hl (by decide) rfl (fun ls hl => ?_)
    refine lv_iload hx hb d_M_read_94 (lv_at hl 0 rfl) ?_
    refine lv_if_lt (tgt := 109) hx hb d_M_read_96 (by decide) (fun hc => ?_) (fun hc => ?_)
    · have hf := jv_it hf hc
      refine lv_iconst (v := (0 : Int32)) hx hb d_M_read_109 (by decide) ?_
      refine lv_goto (tgt := 137) hx hb d_M_read_110 (by decide) ?_
      obtain rfl := Option.some.inj hf
      exact W.iret hx hb hr (fun t ht hW => ⟨rfl, by rw [ht]; exact hP, hD, hS.F ht⟩) hS.2.2 d_M_read_137
    · have hf := jv_if hf hc
      refine lv_aload_n hx hb d_M_read_99 rfl (lv_at hl 1 rfl) ?_
      refine va_get (D := (dC, dI)) (ci := kModel) (v := .ref q_mcp_) (C := R_Model) (T := T_Model) (N := 9) hx hb hts (fun w h => List.mem_cons_of_mem _ (in_Model w h)) hown hK hP 0 rfl rfl 7 (by decide) (jv_w hts wa_238) (fun _ h9 => h9) rfl d_M_read_100 ?_
      refine lv_iload hx hb d_M_read_103 (lv_at hl 0 rfl) ?_
      obtain ⟨x11, g12, hf⟩ := jv_ob hf
      refine jv_iald hx hb hK hP 6 0 rfl rfl g12 d_M_read_105 ?_
      refine lv_if_ne (tgt := 113) hx hb d_M_read_106 (by decide) (fun hc => ?_) (fun hc => ?_)
      · have hf := jv_if hf hc
        refine lv_aload_n hx hb d_M_read_113 rfl (lv_at hl 1 rfl) ?_
        refine va_get (D := (dC, dI)) (ci := kModel) (v := .ref q_mcp_) (C := R_Model) (T := T_Model) (N := 9) hx hb hts (fun w h => List.mem_cons_of_mem _ (in_Model w h)) hown hK hP 0 rfl rfl 7 (by decide) (jv_w hts wa_238) (fun _ h9 => h9) rfl d_M_read_114 ?_
        refine lv_bipush (v := (64 : Int32)) hx hb d_M_read_117 (by decide) ?_
        refine lv_bipush (v := (8 : Int32)) hx hb d_M_read_119 (by decide) ?_
        refine lv_aload_n hx hb d_M_read_121 rfl (lv_at hl 1 rfl) ?_
        refine va_get (D := (dC, dI)) (ci := kModel) (v := .ref q_mcp_) (C := R_Model) (T := T_Model) (N := 9) hx hb hts (fun w h => List.mem_cons_of_mem _ (in_Model w h)) hown hK hP 0 rfl rfl 7 (by decide) (jv_w hts wa_238) (fun _ h9 => h9) rfl d_M_read_122 ?_
        refine lv_iload hx hb d_M_read_125 (lv_at hl 0 rfl) ?_
        obtain ⟨x13, g14, hf⟩ := jv_ob hf
        refine jv_iald hx hb hK hP 6 0 rfl rfl g14 d_M_read_127 ?_
        refine lv_imul hx hb d_M_read_128 ?_
        refine lv_iadd hx hb d_M_read_129 ?_
        refine lv_iload hx hb d_M_read_130 (lv_at hl 3 rfl) ?_
        refine lv_bipush (v := (8 : Int32)) hx hb d_M_read_132 (by decide) ?_
        refine lv_irem hx hb d_M_read_134 (by decide) ?_
        refine lv_iadd hx hb d_M_read_135 ?_
        obtain ⟨x15, g16, hf⟩ := jv_ob hf
        refine jv_iald hx hb hK hP 6 0 rfl rfl g16 d_M_read_136 ?_
        obtain rfl := Option.some.inj hf
        exact W.iret hx hb hr (fun t ht hW => ⟨rfl, by rw [ht]; exact hP, hD, hS.F ht⟩) hS.2.2 d_M_read_137
      · have hf := jv_it hf hc
        refine lv_iconst (v := (0 : Int32)) hx hb d_M_read_109 (by decide) ?_
        refine lv_goto (tgt := 137) hx hb d_M_read_110 (by decide) ?_
        obtain rfl := Option.some.inj hf
        exact W.iret hx hb hr (fun t ht hW => ⟨rfl, by rw [ht]; exact hP, hD, hS.F ht⟩) hS.2.2 d_M_read_137
  · have hf := jv_if hf hc
    refine lv_iconst (v := (0 : Int32)) hx hb d_M_read_74 (by decide) ?_
    obtain rfl := Option.some.inj hf
    exact W.iret hx hb hr (fun t ht hW => ⟨rfl, by rw [ht]; exact hP, hD, hS.F ht⟩) hS.2.2 d_M_read_75
def f_M_read_28 (mar : Int32) (mLb : Nat → Int32) (mUs : Nat → Int32) (mDk : Nat → Int32) (y0 : Int32) (y1 : Int32) (y2 : Int32) (y3 : Int32) (y4 : Nat → Int32) : Option (Int32 × Int32 × (Nat → Int32)) :=
  if y3 = 0 then (if y1 < 0 then (f_M_read_64 mar mLb mUs mDk y0 y1 y2 (5 : Int32) y3 y4) else ((f_M_inode mDk y0 y2 (3 : Int32)).bind fun x5 => if y1 < x5 then (f_M_read_64 mar mLb mUs mDk y0 y1 y2 y3 y3 y4) else (f_M_read_64 mar mLb mUs mDk y0 y1 y2 (5 : Int32) y3 y4))) else (f_M_read_64 mar mLb mUs mDk y0 y1 y2 y3 y3 y4)
set_option maxHeartbeats 4000000 in
set_option maxRecDepth 100000 in
theorem b_M_read_28 {l : Launch} {dC : Nat → ClassId} {dI : Nat → Nat → Nat} {cI cA cL : ClassId} {q_mo q_mlb_ q_mcl_ q_mus_ q_mwr_ q_mdk_ q_mcp_ : Nat} {mar : Int32} {mfu : Int32} {mLb : Nat → Int32} {mCl : Nat → Int32} {mUs : Nat → Int32} {mWr : Nat → Int32} {mDk : Nat → Int32} {p : Program} {e : Env} {s : State} {m : MethodId} {args : Array Value} {below : List Frame} {meth : Method} {c : Code} (cx : jv_cx p s m args meth c cc_M_read 7 R_Model (some .int) ws_M_read) (hK : va_K (dC, dI) vwCl (jv_ty cI cA cL) s) {A : Nat → Prop} (hA : ∀ q : Nat, s.heap.size ≤ q → A q) {r : Int32 × Int32 × (Nat → Int32)} {y0 : Int32} {y1 : Int32} {y2 : Int32} {y3 : Int32} {y4 : Nat → Int32} {ls : Array Slot} (hl : lv_has ls 7 [(0, .ref q_mo), (3, .int y0), (4, .int y1)]) {H : Heap} {locs : List Loc} (hP : va_P (dC, dI) vwCl (w_model cI q_mo q_mlb_ q_mcl_ q_mus_ q_mwr_ q_mdk_ q_mcp_ y3 mar mfu mLb mCl mUs mWr mDk y4) H) (hD : va_D A (w_model cI q_mo q_mlb_ q_mcl_ q_mus_ q_mwr_ q_mdk_ q_mcp_ y3 mar mfu mLb mCl mUs mWr mDk y4)) (hS : va_S A s.heap H locs) (hf : f_M_read_28 mar mLb mUs mDk y0 y1 y2 y3 y4 = some r) : W p l e rm_M_read s m args below meth c H locs 0 0 (MQ below (jv_Qi r.1 (dC, dI) (w_model cI q_mo q_mlb_ q_mcl_ q_mus_ q_mwr_ q_mdk_ q_mcp_ r.2.1 mar mfu mLb mCl mUs mWr mDk r.2.2) A) args s 0 0 A) (F0 m 28 ls [.int y2]) := by
  unfold f_M_read_28 at hf
  obtain ⟨hx, hb, hml, hown, hts, hr, hlocks⟩ := id cx
  refine lv_istore (lv' := [(5, .int y2), (0, .ref q_mo), (3, .int y0), (4, .int y1)]) hx hb d_M_read_28 hl (by decide) rfl (fun ls hl => ?_)
  refine lv_aload_n hx hb d_M_read_30 rfl (lv_at hl 1 rfl) ?_
  refine lv_aload_n hx hb d_M_read_31 rfl (lv_at hl 1 rfl) ?_
  refine va_get (D := (dC, dI)) (ci := kModel) (v := .int y3) (C := R_Model) (T := T_Model) (N := 9) hx hb hts (fun w h => List.mem_cons_of_mem _ (in_Model w h)) hown hK hP 0 rfl rfl 0 (by decide) (jv_w hts wa_200) (fun _ h9 => h9) rfl d_M_read_32 ?_
  refine lv_if_ne (tgt := 60) hx hb d_M_read_35 (by decide) (fun hc => ?_) (fun hc => ?_)
  · have hf := jv_if hf hc
    refine lv_aload_n hx hb d_M_read_60 rfl (lv_at hl 1 rfl) ?_
    refine va_get (D := (dC, dI)) (ci := kModel) (v := .int y3) (C := R_Model) (T := T_Model) (N := 9) hx hb hts (fun w h => List.mem_cons_of_mem _ (in_Model w h)) hown hK hP 0 rfl rfl 0 (by decide) (jv_w hts wa_200) (fun _ h9 => h9) rfl d_M_read_61 ?_
    exact b_M_read_64 (y0 := y0) (y1 := y1) (y2 := y2) (y3 := y3) (y4 := y3) (y5 := y4) cx hK hA (lv_sub hl [1, 2, 3, 0] rfl) hP hD hS hf
  · have hf := jv_it hf hc
    refine lv_iload hx hb d_M_read_38 (lv_at hl 3 rfl) ?_
    refine lv_if_lt (tgt := 56) hx hb d_M_read_40 (by decide) (fun hc => ?_) (fun hc => ?_)
    · have hf := jv_it hf hc
      refine lv_iconst (v := (5 : Int32)) hx hb d_M_read_56 (by decide) ?_
      refine lv_goto (tgt := 64) hx hb d_M_read_57 (by decide) ?_
      exact b_M_read_64 (y0 := y0) (y1 := y1) (y2 := y2) (y3 := (5 : Int32)) (y4 := y3) (y5 := y4) cx hK hA (lv_sub hl [1, 2, 3, 0] rfl) hP hD hS hf
    · have hf := jv_if hf hc
      refine lv_iload hx hb d_M_read_43 (lv_at hl 3 rfl) ?_
      refine lv_aload_n hx hb d_M_read_45 rfl (lv_at hl 1 rfl) ?_
      refine lv_iload_n hx hb d_M_read_46 rfl (lv_at hl 2 rfl) ?_
      refine lv_iload hx hb d_M_read_47 (lv_at hl 0 rfl) ?_
      refine lv_iconst (v := (3 : Int32)) hx hb d_M_read_49 (by decide) ?_
      obtain ⟨x5, g6, hf⟩ := jv_ob hf
      have hPc := hP.sub (ws' := (w_model cI q_mo q_mlb_ q_mcl_ q_mus_ q_mwr_ q_mdk_ q_mcp_ y3 mar mfu mLb mCl mUs mWr mDk y4)) [0, 1, 2, 3, 4, 5, 6] rfl
      refine jv_cs (W.runV (As := [.int y0, .int y2, .int (3 : Int32)]) (rest := [.int y1, .ref q_mo]) (b := q_mo) ⟨hx, hb, hml, hown, hts⟩ (c_M_inode l dC dI cI cA cL q_mo q_mlb_ q_mcl_ q_mus_ q_mwr_ q_mdk_ q_mcp_ y3 mar mfu mLb mCl mUs mWr mDk y4 y0 y2 (3 : Int32) x5 g6) (jv_cwV hts wa_207 wa_194 wa_208 wa_209 wa_210 rfl rfl yd_M_inode ⟨Nat.le_of_ble_eq_true rfl, Nat.le_of_ble_eq_true rfl⟩) (jv_preV hK hPc 0 rfl rfl) rfl rfl hl.1 rfl (lv_room (Nat.le_of_ble_eq_true rfl)) d_M_read_50 ⟨Nat.zero_le _, Nat.zero_le _⟩) ?_
      refine lv_icmp_lt (tgt := 60) hx hb d_M_read_53 (by decide) (fun hc => ?_) (fun hc => ?_)
      · have hf := jv_it hf hc
        refine lv_aload_n hx hb d_M_read_60 rfl (lv_at hl 1 rfl) ?_
        refine va_get (D := (dC, dI)) (ci := kModel) (v := .int y3) (C := R_Model) (T := T_Model) (N := 9) hx hb hts (fun w h => List.mem_cons_of_mem _ (in_Model w h)) hown hK hP 0 rfl rfl 0 (by decide) (jv_w hts wa_200) (fun _ h9 => h9) rfl d_M_read_61 ?_
        exact b_M_read_64 (y0 := y0) (y1 := y1) (y2 := y2) (y3 := y3) (y4 := y3) (y5 := y4) cx hK hA (lv_sub hl [1, 2, 3, 0] rfl) hP hD hS hf
      · have hf := jv_if hf hc
        refine lv_iconst (v := (5 : Int32)) hx hb d_M_read_56 (by decide) ?_
        refine lv_goto (tgt := 64) hx hb d_M_read_57 (by decide) ?_
        exact b_M_read_64 (y0 := y0) (y1 := y1) (y2 := y2) (y3 := (5 : Int32)) (y4 := y3) (y5 := y4) cx hK hA (lv_sub hl [1, 2, 3, 0] rfl) hP hD hS hf
def f_M_read_0 (mar : Int32) (mLb : Nat → Int32) (mUs : Nat → Int32) (mDk : Nat → Int32) (y0 : Int32) (y1 : Int32) (y2 : Int32) (y3 : Int32) (y4 : Int32) (y5 : Nat → Int32) : Option (Int32 × Int32 × (Nat → Int32)) :=
  (f_M_unreadable mar mLb mUs mDk y0 y1 y2).bind fun x1 => if x1 = 0 then ((f_M_find mDk y2 y1).bind fun x3 => f_M_read_28 mar mLb mUs mDk y2 y3 x3 x1 y5) else (f_M_read_28 mar mLb mUs mDk y2 y3 (0 : Int32) x1 y5)
set_option maxHeartbeats 4000000 in
set_option maxRecDepth 100000 in
theorem b_M_read_0 {l : Launch} {dC : Nat → ClassId} {dI : Nat → Nat → Nat} {cI cA cL : ClassId} {q_mo q_mlb_ q_mcl_ q_mus_ q_mwr_ q_mdk_ q_mcp_ : Nat} {mar : Int32} {mfu : Int32} {mLb : Nat → Int32} {mCl : Nat → Int32} {mUs : Nat → Int32} {mWr : Nat → Int32} {mDk : Nat → Int32} {p : Program} {e : Env} {s : State} {m : MethodId} {args : Array Value} {below : List Frame} {meth : Method} {c : Code} (cx : jv_cx p s m args meth c cc_M_read 7 R_Model (some .int) ws_M_read) (hK : va_K (dC, dI) vwCl (jv_ty cI cA cL) s) {A : Nat → Prop} (hA : ∀ q : Nat, s.heap.size ≤ q → A q) {r : Int32 × Int32 × (Nat → Int32)} {y0 : Int32} {y1 : Int32} {y2 : Int32} {y3 : Int32} {y4 : Int32} {y5 : Nat → Int32} {ls : Array Slot} (hl : lv_has ls 7 [(0, .ref q_mo), (1, .int y0), (2, .int y1), (3, .int y2), (4, .int y3)]) {H : Heap} {locs : List Loc} (hP : va_P (dC, dI) vwCl (w_model cI q_mo q_mlb_ q_mcl_ q_mus_ q_mwr_ q_mdk_ q_mcp_ y4 mar mfu mLb mCl mUs mWr mDk y5) H) (hD : va_D A (w_model cI q_mo q_mlb_ q_mcl_ q_mus_ q_mwr_ q_mdk_ q_mcp_ y4 mar mfu mLb mCl mUs mWr mDk y5)) (hS : va_S A s.heap H locs) (hf : f_M_read_0 mar mLb mUs mDk y0 y1 y2 y3 y4 y5 = some r) : W p l e rm_M_read s m args below meth c H locs 0 0 (MQ below (jv_Qi r.1 (dC, dI) (w_model cI q_mo q_mlb_ q_mcl_ q_mus_ q_mwr_ q_mdk_ q_mcp_ r.2.1 mar mfu mLb mCl mUs mWr mDk r.2.2) A) args s 0 0 A) (F0 m 0 ls []) := by
  unfold f_M_read_0 at hf
  obtain ⟨hx, hb, hml, hown, hts, hr, hlocks⟩ := id cx
  refine lv_aload_n hx hb d_M_read_0 rfl (lv_at hl 0 rfl) ?_
  refine lv_aload_n hx hb d_M_read_1 rfl (lv_at hl 0 rfl) ?_
  refine lv_iload_n hx hb d_M_read_2 rfl (lv_at hl 1 rfl) ?_
  refine lv_iload_n hx hb d_M_read_3 rfl (lv_at hl 2 rfl) ?_
  refine lv_iload_n hx hb d_M_read_4 rfl (lv_at hl 3 rfl) ?_
  obtain ⟨x1, g2, hf⟩ := jv_ob hf
  have hPc := hP.sub (ws' := (w_model cI q_mo q_mlb_ q_mcl_ q_mus_ q_mwr_ q_mdk_ q_mcp_ y4 mar mfu mLb mCl mUs mWr mDk y5)) [0, 1, 2, 3, 4, 5, 6] rfl
  refine jv_cs (W.runV (As := [.int y0, .int y1, .int y2]) (rest := [.ref q_mo]) (b := q_mo) ⟨hx, hb, hml, hown, hts⟩ (c_M_unreadable l dC dI cI cA cL q_mo q_mlb_ q_mcl_ q_mus_ q_mwr_ q_mdk_ q_mcp_ y4 mar mfu mLb mCl mUs mWr mDk y5 y0 y1 y2 x1 g2) (jv_cwV hts wa_293 wa_194 wa_294 wa_295 wa_296 rfl rfl yd_M_unreadable ⟨Nat.le_of_ble_eq_true rfl, Nat.le_of_ble_eq_true rfl⟩) (jv_preV hK hPc 0 rfl rfl) rfl rfl hl.1 rfl (lv_room (Nat.le_of_ble_eq_true rfl)) d_M_read_5 ⟨Nat.zero_le _, Nat.zero_le _⟩) ?_
  refine va_put (D := (dC, dI)) (ci := kModel) (v := .int x1) (ty := .int) (C := R_Model) (T := T_Model) (N := 9) hx hb hts (fun w h => List.mem_cons_of_mem _ (in_Model w h)) ty_Model tyok_Model nm_Model hown hK hP hD hS 0 rfl rfl 0 (by decide) (jv_w hts wa_200) (fun _ h9 => h9) rfl (by decide +kernel) rfl rfl (Nat.le_of_ble_eq_true rfl) d_M_read_8 (fun H locs hP hD hS => ?_)
  have hP : va_P (dC, dI) vwCl (w_model cI q_mo q_mlb_ q_mcl_ q_mus_ q_mwr_ q_mdk_ q_mcp_ x1 mar mfu mLb mCl mUs mWr mDk y5) H := hP
  have hD : va_D A (w_model cI q_mo q_mlb_ q_mcl_ q_mus_ q_mwr_ q_mdk_ q_mcp_ x1 mar mfu mLb mCl mUs mWr mDk y5) := hD
  refine lv_aload_n hx hb d_M_read_11 rfl (lv_at hl 0 rfl) ?_
  refine va_get (D := (dC, dI)) (ci := kModel) (v := .int x1) (C := R_Model) (T := T_Model) (N := 9) hx hb hts (fun w h => List.mem_cons_of_mem _ (in_Model w h)) hown hK hP 0 rfl rfl 0 (by decide) (jv_w hts wa_200) (fun _ h9 => h9) rfl d_M_read_12 ?_
  refine lv_if_ne (tgt := 27) hx hb d_M_read_15 (by decide) (fun hc => ?_) (fun hc => ?_)
  · have hf := jv_if hf hc
    refine lv_iconst (v := (0 : Int32)) hx hb d_M_read_27 (by decide) ?_
    exact b_M_read_28 (y0 := y2) (y1 := y3) (y2 := (0 : Int32)) (y3 := x1) (y4 := y5) cx hK hA (lv_sub hl [0, 3, 4] rfl) hP hD hS hf
  · have hf := jv_it hf hc
    refine lv_aload_n hx hb d_M_read_18 rfl (lv_at hl 0 rfl) ?_
    refine lv_iload_n hx hb d_M_read_19 rfl (lv_at hl 3 rfl) ?_
    refine lv_iload_n hx hb d_M_read_20 rfl (lv_at hl 2 rfl) ?_
    obtain ⟨x3, g4, hf⟩ := jv_ob hf
    have hPc := hP.sub (ws' := (w_model cI q_mo q_mlb_ q_mcl_ q_mus_ q_mwr_ q_mdk_ q_mcp_ x1 mar mfu mLb mCl mUs mWr mDk y5)) [0, 1, 2, 3, 4, 5, 6] rfl
    refine jv_cs (W.runV (As := [.int y2, .int y1]) (rest := []) (b := q_mo) ⟨hx, hb, hml, hown, hts⟩ (c_M_find l dC dI cI cA cL q_mo q_mlb_ q_mcl_ q_mus_ q_mwr_ q_mdk_ q_mcp_ x1 mar mfu mLb mCl mUs mWr mDk y5 y2 y1 x3 g4) (jv_cwV hts wa_211 wa_194 wa_212 wa_213 wa_214 rfl rfl yd_M_find ⟨Nat.le_of_ble_eq_true rfl, Nat.le_of_ble_eq_true rfl⟩) (jv_preV hK hPc 0 rfl rfl) rfl rfl hl.1 rfl (lv_room (Nat.le_of_ble_eq_true rfl)) d_M_read_21 ⟨Nat.zero_le _, Nat.zero_le _⟩) ?_
    refine lv_goto (tgt := 28) hx hb d_M_read_24 (by decide) ?_
    exact b_M_read_28 (y0 := y2) (y1 := y3) (y2 := x3) (y3 := x1) (y4 := y5) cx hK hA (lv_sub hl [0, 3, 4] rfl) hP hD hS hf
def f_M_read (mar : Int32) (mLb : Nat → Int32) (mUs : Nat → Int32) (mDk : Nat → Int32) (a0 : Int32) (a1 : Int32) (a2 : Int32) (a3 : Int32) (mth : Int32) (mCp : Nat → Int32) : Option (Int32 × Int32 × (Nat → Int32)) := f_M_read_0 mar mLb mUs mDk a0 a1 a2 a3 mth mCp
set_option maxHeartbeats 4000000 in
set_option maxRecDepth 100000 in
theorem c_M_read (l : Launch) (dC : Nat → ClassId) (dI : Nat → Nat → Nat) (cI cA cL : ClassId) (q_mo q_mlb_ q_mcl_ q_mus_ q_mwr_ q_mdk_ q_mcp_ : Nat) (mth : Int32) (mar : Int32) (mfu : Int32) (mLb : Nat → Int32) (mCl : Nat → Int32) (mUs : Nat → Int32) (mWr : Nat → Int32) (mDk : Nat → Int32) (mCp : Nat → Int32) (a0 : Int32) (a1 : Int32) (a2 : Int32) (a3 : Int32) (sz : Nat) (r : Int32 × Int32 × (Nat → Int32)) (hf : f_M_read mar mLb mUs mDk a0 a1 a2 a3 mth mCp = some r) : Met l y_M_read ws_M_read rm_M_read (jv_Pw [.ref q_mo, .int a0, .int a1, .int a2, .int a3] (dC, dI) (jv_ty cI cA cL) (w_model cI q_mo q_mlb_ q_mcl_ q_mus_ q_mwr_ q_mdk_ q_mcp_ mth mar mfu mLb mCl mUs mWr mDk mCp) sz) (jv_Qi r.1 (dC, dI) (w_model cI q_mo q_mlb_ q_mcl_ q_mus_ q_mwr_ q_mdk_ q_mcp_ r.2.1 mar mfu mLb mCl mUs mWr mDk r.2.2) (va_A (w_model cI q_mo q_mlb_ q_mcl_ q_mus_ q_mwr_ q_mdk_ q_mcp_ mth mar mfu mLb mCl mUs mWr mDk mCp) sz)) 0 0 (va_A (w_model cI q_mo q_mlb_ q_mcl_ q_mus_ q_mwr_ q_mdk_ q_mcp_ mth mar mfu mLb mCl mUs mWr mDk mCp) sz) := by
  refine Met.ofW (cc := cc_M_read) (maxL := 7) (ret := (some .int)) (by decide) rfl ?_
  intro p e s m args below meth c s₁ B hml hv
  obtain ⟨rfl, hsz, hP, hK, hD0⟩ := hv
  have cx : jv_cx p s m _ meth c cc_M_read 7 R_Model (some .int) ws_M_read := ⟨B.exec, B.bytes, hml, findClass_of_methodNamed B.named, atoms_spec (ws := ws_M_read) B.pre, B.returns, B.notSynchronized⟩
  subst hsz
  have hD := hD0.self (sz := s.heap.size)
  generalize hAe : va_A (w_model cI q_mo q_mlb_ q_mcl_ q_mus_ q_mwr_ q_mdk_ q_mcp_ mth mar mfu mLb mCl mUs mWr mDk mCp) s.heap.size = A at hD ⊢
  have hA : ∀ q : Nat, s.heap.size ≤ q → A q := fun q h => by rw [← hAe]; exact Or.inr h
  have hS : va_S A s.heap s.heap [] := va_S.rf
  have hl := lv_entry ([.ref q_mo, .int a0, .int a1, .int a2, .int a3]) (n := 7) (Nat.le_of_ble_eq_true rfl)
  rw [lg_entry_eq]
  generalize (lg_sl ([.ref q_mo, .int a0, .int a1, .int a2, .int a3]) ++ List.replicate (7 - (lg_sl ([.ref q_mo, .int a0, .int a1, .int a2, .int a3])).length) Slot.unset).toArray = ls at hl ⊢
  have hl : lv_has ls 7 [(0, .ref q_mo), (1, .int a0), (2, .int a1), (3, .int a2), (4, .int a3)] := hl
  exact b_M_read_0 (y0 := a0) (y1 := a1) (y2 := a2) (y3 := a3) (y4 := mth) (y5 := mCp) cx hK hA (lv_sub hl [0, 1, 2, 3, 4] rfl) hP hD hS hf
theorem d_M_size_0 : decode cc_M_size 0 = .ok (.aload_n 0, 1) := by decide +kernel
theorem d_M_size_1 : decode cc_M_size 1 = .ok (.aload_n 0, 1) := by decide +kernel
theorem d_M_size_2 : decode cc_M_size 2 = .ok (.iload_n 1, 1) := by decide +kernel
theorem d_M_size_3 : decode cc_M_size 3 = .ok (.iload_n 2, 1) := by decide +kernel
theorem d_M_size_4 : decode cc_M_size 4 = .ok (.iload_n 3, 1) := by decide +kernel
theorem d_M_size_5 : decode cc_M_size 5 = .ok (.invokevirtual 119, 3) := by decide +kernel
theorem d_M_size_8 : decode cc_M_size 8 = .ok (.putfield 32, 3) := by decide +kernel
theorem d_M_size_11 : decode cc_M_size 11 = .ok (.aload_n 0, 1) := by decide +kernel
theorem d_M_size_12 : decode cc_M_size 12 = .ok (.getfield 32, 3) := by decide +kernel
theorem d_M_size_15 : decode cc_M_size 15 = .ok (.ifCond .le 7, 3) := by decide +kernel
theorem d_M_size_22 : decode cc_M_size 22 = .ok (.aload_n 0, 1) := by decide +kernel
theorem d_M_size_23 : decode cc_M_size 23 = .ok (.iload_n 3, 1) := by decide +kernel
theorem d_M_size_24 : decode cc_M_size 24 = .ok (.aload_n 0, 1) := by decide +kernel
theorem d_M_size_25 : decode cc_M_size 25 = .ok (.iload_n 3, 1) := by decide +kernel
theorem d_M_size_26 : decode cc_M_size 26 = .ok (.iload_n 2, 1) := by decide +kernel
theorem d_M_size_27 : decode cc_M_size 27 = .ok (.invokevirtual 68, 3) := by decide +kernel
theorem d_M_size_30 : decode cc_M_size 30 = .ok (.iconst 3, 1) := by decide +kernel
theorem d_M_size_31 : decode cc_M_size 31 = .ok (.invokevirtual 64, 3) := by decide +kernel
theorem d_M_size_34 : decode cc_M_size 34 = .ok (.ireturn, 1) := by decide +kernel
theorem d_M_size_18 : decode cc_M_size 18 = .ok (.iconst 0, 1) := by decide +kernel
theorem d_M_size_19 : decode cc_M_size 19 = .ok (.goto 15, 3) := by decide +kernel
def f_M_size_0 (mar : Int32) (mLb : Nat → Int32) (mUs : Nat → Int32) (mDk : Nat → Int32) (y0 : Int32) (y1 : Int32) (y2 : Int32) (y3 : Int32) : Option (Int32 × Int32) :=
  (f_M_unreadable mar mLb mUs mDk y0 y1 y2).bind fun x1 => if x1 ≤ 0 then ((f_M_find mDk y2 y1).bind fun x3 => (f_M_inode mDk y2 x3 (3 : Int32)).bind fun x5 => some (x5, x1)) else (some ((0 : Int32), x1))
set_option maxHeartbeats 4000000 in
set_option maxRecDepth 100000 in
theorem b_M_size_0 {l : Launch} {dC : Nat → ClassId} {dI : Nat → Nat → Nat} {cI cA cL : ClassId} {q_mo q_mlb_ q_mcl_ q_mus_ q_mwr_ q_mdk_ q_mcp_ : Nat} {mar : Int32} {mfu : Int32} {mLb : Nat → Int32} {mCl : Nat → Int32} {mUs : Nat → Int32} {mWr : Nat → Int32} {mDk : Nat → Int32} {mCp : Nat → Int32} {p : Program} {e : Env} {s : State} {m : MethodId} {args : Array Value} {below : List Frame} {meth : Method} {c : Code} (cx : jv_cx p s m args meth c cc_M_size 4 R_Model (some .int) ws_M_size) (hK : va_K (dC, dI) vwCl (jv_ty cI cA cL) s) {A : Nat → Prop} (hA : ∀ q : Nat, s.heap.size ≤ q → A q) {r : Int32 × Int32} {y0 : Int32} {y1 : Int32} {y2 : Int32} {y3 : Int32} {ls : Array Slot} (hl : lv_has ls 4 [(0, .ref q_mo), (1, .int y0), (2, .int y1), (3, .int y2)]) {H : Heap} {locs : List Loc} (hP : va_P (dC, dI) vwCl (w_model cI q_mo q_mlb_ q_mcl_ q_mus_ q_mwr_ q_mdk_ q_mcp_ y3 mar mfu mLb mCl mUs mWr mDk mCp) H) (hD : va_D A (w_model cI q_mo q_mlb_ q_mcl_ q_mus_ q_mwr_ q_mdk_ q_mcp_ y3 mar mfu mLb mCl mUs mWr mDk mCp)) (hS : va_S A s.heap H locs) (hf : f_M_size_0 mar mLb mUs mDk y0 y1 y2 y3 = some r) : W p l e rm_M_size s m args below meth c H locs 0 0 (MQ below (jv_Qi r.1 (dC, dI) (w_model cI q_mo q_mlb_ q_mcl_ q_mus_ q_mwr_ q_mdk_ q_mcp_ r.2 mar mfu mLb mCl mUs mWr mDk mCp) A) args s 0 0 A) (F0 m 0 ls []) := by
  unfold f_M_size_0 at hf
  obtain ⟨hx, hb, hml, hown, hts, hr, hlocks⟩ := id cx
  refine lv_aload_n hx hb d_M_size_0 rfl (lv_at hl 0 rfl) ?_
  refine lv_aload_n hx hb d_M_size_1 rfl (lv_at hl 0 rfl) ?_
  refine lv_iload_n hx hb d_M_size_2 rfl (lv_at hl 1 rfl) ?_
  refine lv_iload_n hx hb d_M_size_3 rfl (lv_at hl 2 rfl) ?_
  refine lv_iload_n hx hb d_M_size_4 rfl (lv_at hl 3 rfl) ?_
  obtain ⟨x1, g2, hf⟩ := jv_ob hf
  have hPc := hP.sub (ws' := (w_model cI q_mo q_mlb_ q_mcl_ q_mus_ q_mwr_ q_mdk_ q_mcp_ y3 mar mfu mLb mCl mUs mWr mDk mCp)) [0, 1, 2, 3, 4, 5, 6] rfl
  refine jv_cs (W.runV (As := [.int y0, .int y1, .int y2]) (rest := [.ref q_mo]) (b := q_mo) ⟨hx, hb, hml, hown, hts⟩ (c_M_unreadable l dC dI cI cA cL q_mo q_mlb_ q_mcl_ q_mus_ q_mwr_ q_mdk_ q_mcp_ y3 mar mfu mLb mCl mUs mWr mDk mCp y0 y1 y2 x1 g2) (jv_cwV hts wa_293 wa_194 wa_294 wa_295 wa_296 rfl rfl yd_M_unreadable ⟨Nat.le_of_ble_eq_true rfl, Nat.le_of_ble_eq_true rfl⟩) (jv_preV hK hPc 0 rfl rfl) rfl rfl hl.1 rfl (lv_room (Nat.le_of_ble_eq_true rfl)) d_M_size_5 ⟨Nat.zero_le _, Nat.zero_le _⟩) ?_
  refine va_put (D := (dC, dI)) (ci := kModel) (v := .int x1) (ty := .int) (C := R_Model) (T := T_Model) (N := 9) hx hb hts (fun w h => List.mem_cons_of_mem _ (in_Model w h)) ty_Model tyok_Model nm_Model hown hK hP hD hS 0 rfl rfl 0 (by decide) (jv_w hts wa_200) (fun _ h9 => h9) rfl (by decide +kernel) rfl rfl (Nat.le_of_ble_eq_true rfl) d_M_size_8 (fun H locs hP hD hS => ?_)
  have hP : va_P (dC, dI) vwCl (w_model cI q_mo q_mlb_ q_mcl_ q_mus_ q_mwr_ q_mdk_ q_mcp_ x1 mar mfu mLb mCl mUs mWr mDk mCp) H := hP
  have hD : va_D A (w_model cI q_mo q_mlb_ q_mcl_ q_mus_ q_mwr_ q_mdk_ q_mcp_ x1 mar mfu mLb mCl mUs mWr mDk mCp) := hD
  refine lv_aload_n hx hb d_M_size_11 rfl (lv_at hl 0 rfl) ?_
  refine va_get (D := (dC, dI)) (ci := kModel) (v := .int x1) (C := R_Model) (T := T_Model) (N := 9) hx hb hts (fun w h => List.mem_cons_of_mem _ (in_Model w h)) hown hK hP 0 rfl rfl 0 (by decide) (jv_w hts wa_200) (fun _ h9 => h9) rfl d_M_size_12 ?_
  refine lv_if_le (tgt := 22) hx hb d_M_size_15 (by decide) (fun hc => ?_) (fun hc => ?_)
  · have hf := jv_it hf hc
    refine lv_aload_n hx hb d_M_size_22 rfl (lv_at hl 0 rfl) ?_
    refine lv_iload_n hx hb d_M_size_23 rfl (lv_at hl 3 rfl) ?_
    refine lv_aload_n hx hb d_M_size_24 rfl (lv_at hl 0 rfl) ?_
    refine lv_iload_n hx hb d_M_size_25 rfl (lv_at hl 3 rfl) ?_
    refine lv_iload_n hx hb d_M_size_26 rfl (lv_at hl 2 rfl) ?_
    obtain ⟨x3, g4, hf⟩ := jv_ob hf
    have hPc := hP.sub (ws' := (w_model cI q_mo q_mlb_ q_mcl_ q_mus_ q_mwr_ q_mdk_ q_mcp_ x1 mar mfu mLb mCl mUs mWr mDk mCp)) [0, 1, 2, 3, 4, 5, 6] rfl
    refine jv_cs (W.runV (As := [.int y2, .int y1]) (rest := [.int y2, .ref q_mo]) (b := q_mo) ⟨hx, hb, hml, hown, hts⟩ (c_M_find l dC dI cI cA cL q_mo q_mlb_ q_mcl_ q_mus_ q_mwr_ q_mdk_ q_mcp_ x1 mar mfu mLb mCl mUs mWr mDk mCp y2 y1 x3 g4) (jv_cwV hts wa_211 wa_194 wa_212 wa_213 wa_214 rfl rfl yd_M_find ⟨Nat.le_of_ble_eq_true rfl, Nat.le_of_ble_eq_true rfl⟩) (jv_preV hK hPc 0 rfl rfl) rfl rfl hl.1 rfl (lv_room (Nat.le_of_ble_eq_true rfl)) d_M_size_27 ⟨Nat.zero_le _, Nat.zero_le _⟩) ?_
    refine lv_iconst (v := (3 : Int32)) hx hb d_M_size_30 (by decide) ?_
    obtain ⟨x5, g6, hf⟩ := jv_ob hf
    have hPc := hP.sub (ws' := (w_model cI q_mo q_mlb_ q_mcl_ q_mus_ q_mwr_ q_mdk_ q_mcp_ x1 mar mfu mLb mCl mUs mWr mDk mCp)) [0, 1, 2, 3, 4, 5, 6] rfl
    refine jv_cs (W.runV (As := [.int y2, .int x3, .int (3 : Int32)]) (rest := []) (b := q_mo) ⟨hx, hb, hml, hown, hts⟩ (c_M_inode l dC dI cI cA cL q_mo q_mlb_ q_mcl_ q_mus_ q_mwr_ q_mdk_ q_mcp_ x1 mar mfu mLb mCl mUs mWr mDk mCp y2 x3 (3 : Int32) x5 g6) (jv_cwV hts wa_207 wa_194 wa_208 wa_209 wa_210 rfl rfl yd_M_inode ⟨Nat.le_of_ble_eq_true rfl, Nat.le_of_ble_eq_true rfl⟩) (jv_preV hK hPc 0 rfl rfl) rfl rfl hl.1 rfl (lv_room (Nat.le_of_ble_eq_true rfl)) d_M_size_31 ⟨Nat.zero_le _, Nat.zero_le _⟩) ?_
    obtain rfl := Option.some.inj hf
    exact W.iret hx hb hr (fun t ht hW => ⟨rfl, by rw [ht]; exact hP, hD, hS.F ht⟩) hS.2.2 d_M_size_34
  · have hf := jv_if hf hc
    refine lv_iconst (v := (0 : Int32)) hx hb d_M_size_18 (by decide) ?_
    refine lv_goto (tgt := 34) hx hb d_M_size_19 (by decide) ?_
    obtain rfl := Option.some.inj hf
    exact W.iret hx hb hr (fun t ht hW => ⟨rfl, by rw [ht]; exact hP, hD, hS.F ht⟩) hS.2.2 d_M_size_34
def f_M_size (mar : Int32) (mLb : Nat → Int32) (mUs : Nat → Int32) (mDk : Nat → Int32) (a0 : Int32) (a1 : Int32) (a2 : Int32) (mth : Int32) : Option (Int32 × Int32) := f_M_size_0 mar mLb mUs mDk a0 a1 a2 mth
set_option maxHeartbeats 4000000 in
set_option maxRecDepth 100000 in
theorem c_M_size (l : Launch) (dC : Nat → ClassId) (dI : Nat → Nat → Nat) (cI cA cL : ClassId) (q_mo q_mlb_ q_mcl_ q_mus_ q_mwr_ q_mdk_ q_mcp_ : Nat) (mth : Int32) (mar : Int32) (mfu : Int32) (mLb : Nat → Int32) (mCl : Nat → Int32) (mUs : Nat → Int32) (mWr : Nat → Int32) (mDk : Nat → Int32) (mCp : Nat → Int32) (a0 : Int32) (a1 : Int32) (a2 : Int32) (sz : Nat) (r : Int32 × Int32) (hf : f_M_size mar mLb mUs mDk a0 a1 a2 mth = some r) : Met l y_M_size ws_M_size rm_M_size (jv_Pw [.ref q_mo, .int a0, .int a1, .int a2] (dC, dI) (jv_ty cI cA cL) (w_model cI q_mo q_mlb_ q_mcl_ q_mus_ q_mwr_ q_mdk_ q_mcp_ mth mar mfu mLb mCl mUs mWr mDk mCp) sz) (jv_Qi r.1 (dC, dI) (w_model cI q_mo q_mlb_ q_mcl_ q_mus_ q_mwr_ q_mdk_ q_mcp_ r.2 mar mfu mLb mCl mUs mWr mDk mCp) (va_A (w_model cI q_mo q_mlb_ q_mcl_ q_mus_ q_mwr_ q_mdk_ q_mcp_ mth mar mfu mLb mCl mUs mWr mDk mCp) sz)) 0 0 (va_A (w_model cI q_mo q_mlb_ q_mcl_ q_mus_ q_mwr_ q_mdk_ q_mcp_ mth mar mfu mLb mCl mUs mWr mDk mCp) sz) := by
  refine Met.ofW (cc := cc_M_size) (maxL := 4) (ret := (some .int)) (by decide) rfl ?_
  intro p e s m args below meth c s₁ B hml hv
  obtain ⟨rfl, hsz, hP, hK, hD0⟩ := hv
  have cx : jv_cx p s m _ meth c cc_M_size 4 R_Model (some .int) ws_M_size := ⟨B.exec, B.bytes, hml, findClass_of_methodNamed B.named, atoms_spec (ws := ws_M_size) B.pre, B.returns, B.notSynchronized⟩
  subst hsz
  have hD := hD0.self (sz := s.heap.size)
  generalize hAe : va_A (w_model cI q_mo q_mlb_ q_mcl_ q_mus_ q_mwr_ q_mdk_ q_mcp_ mth mar mfu mLb mCl mUs mWr mDk mCp) s.heap.size = A at hD ⊢
  have hA : ∀ q : Nat, s.heap.size ≤ q → A q := fun q h => by rw [← hAe]; exact Or.inr h
  have hS : va_S A s.heap s.heap [] := va_S.rf
  have hl := lv_entry ([.ref q_mo, .int a0, .int a1, .int a2]) (n := 4) (Nat.le_of_ble_eq_true rfl)
  rw [lg_entry_eq]
  generalize (lg_sl ([.ref q_mo, .int a0, .int a1, .int a2]) ++ List.replicate (4 - (lg_sl ([.ref q_mo, .int a0, .int a1, .int a2])).length) Slot.unset).toArray = ls at hl ⊢
  have hl : lv_has ls 4 [(0, .ref q_mo), (1, .int a0), (2, .int a1), (3, .int a2)] := hl
  exact b_M_size_0 (y0 := a0) (y1 := a1) (y2 := a2) (y3 := mth) cx hK hA (lv_sub hl [0, 1, 2, 3] rfl) hP hD hS hf
theorem d_M_list_0 : decode cc_M_list 0 = .ok (.aload_n 0, 1) := by decide +kernel
theorem d_M_list_1 : decode cc_M_list 1 = .ok (.iload_n 1, 1) := by decide +kernel
theorem d_M_list_2 : decode cc_M_list 2 = .ok (.invokevirtual 53, 3) := by decide +kernel
theorem d_M_list_5 : decode cc_M_list 5 = .ok (.ifCond .eq 10, 3) := by decide +kernel
theorem d_M_list_15 : decode cc_M_list 15 = .ok (.aload_n 0, 1) := by decide +kernel
theorem d_M_list_16 : decode cc_M_list 16 = .ok (.iconst 1, 1) := by decide +kernel
theorem d_M_list_17 : decode cc_M_list 17 = .ok (.putfield 32, 3) := by decide +kernel
theorem d_M_list_20 : decode cc_M_list 20 = .ok (.iconst 0, 1) := by decide +kernel
theorem d_M_list_21 : decode cc_M_list 21 = .ok (.ireturn, 1) := by decide +kernel
theorem d_M_list_8 : decode cc_M_list 8 = .ok (.iload_n 2, 1) := by decide +kernel
theorem d_M_list_9 : decode cc_M_list 9 = .ok (.invokestatic 81, 3) := by decide +kernel
theorem d_M_list_12 : decode cc_M_list 12 = .ok (.ifCond .ne 10, 3) := by decide +kernel
theorem d_M_list_22 : decode cc_M_list 22 = .ok (.aload_n 0, 1) := by decide +kernel
theorem d_M_list_23 : decode cc_M_list 23 = .ok (.aload_n 0, 1) := by decide +kernel
theorem d_M_list_24 : decode cc_M_list 24 = .ok (.iload_n 1, 1) := by decide +kernel
theorem d_M_list_25 : decode cc_M_list 25 = .ok (.iload_n 2, 1) := by decide +kernel
theorem d_M_list_26 : decode cc_M_list 26 = .ok (.iconst 0, 1) := by decide +kernel
theorem d_M_list_27 : decode cc_M_list 27 = .ok (.invokevirtual 84, 3) := by decide +kernel
theorem d_M_list_30 : decode cc_M_list 30 = .ok (.ifCond .ne 7, 3) := by decide +kernel
theorem d_M_list_37 : decode cc_M_list 37 = .ok (.aload_n 0, 1) := by decide +kernel
theorem d_M_list_38 : decode cc_M_list 38 = .ok (.iload_n 1, 1) := by decide +kernel
theorem d_M_list_39 : decode cc_M_list 39 = .ok (.iload_n 2, 1) := by decide +kernel
theorem d_M_list_40 : decode cc_M_list 40 = .ok (.iconst 1, 1) := by decide +kernel
theorem d_M_list_41 : decode cc_M_list 41 = .ok (.invokevirtual 84, 3) := by decide +kernel
theorem d_M_list_44 : decode cc_M_list 44 = .ok (.ifCond .ne 7, 3) := by decide +kernel
theorem d_M_list_51 : decode cc_M_list 51 = .ok (.iconst 0, 1) := by decide +kernel
theorem d_M_list_52 : decode cc_M_list 52 = .ok (.putfield 32, 3) := by decide +kernel
theorem d_M_list_55 : decode cc_M_list 55 = .ok (.iconst 0, 1) := by decide +kernel
theorem d_M_list_56 : decode cc_M_list 56 = .ok (.istore_n 3, 1) := by decide +kernel
theorem d_M_list_57 : decode cc_M_list 57 = .ok (.iconst 0, 1) := by decide +kernel
theorem d_M_list_58 : decode cc_M_list 58 = .ok (.istore 4, 2) := by decide +kernel
theorem d_M_list_47 : decode cc_M_list 47 = .ok (.iconst 3, 1) := by decide +kernel
theorem d_M_list_48 : decode cc_M_list 48 = .ok (.goto 4, 3) := by decide +kernel
theorem d_M_list_33 : decode cc_M_list 33 = .ok (.iconst 2, 1) := by decide +kernel
theorem d_M_list_34 : decode cc_M_list 34 = .ok (.goto 18, 3) := by decide +kernel
theorem d_M_list_60 : decode cc_M_list 60 = .ok (.iload 4, 2) := by decide +kernel
theorem d_M_list_62 : decode cc_M_list 62 = .ok (.aload_n 0, 1) := by decide +kernel
theorem d_M_list_63 : decode cc_M_list 63 = .ok (.getfield 47, 3) := by decide +kernel
theorem d_M_list_66 : decode cc_M_list 66 = .ok (.if_icmp .ge 108, 3) := by decide +kernel
theorem d_M_list_174 : decode cc_M_list 174 = .ok (.iload_n 3, 1) := by decide +kernel
theorem d_M_list_175 : decode cc_M_list 175 = .ok (.ireturn, 1) := by decide +kernel
theorem d_M_list_69 : decode cc_M_list 69 = .ok (.aload_n 0, 1) := by decide +kernel
theorem d_M_list_70 : decode cc_M_list 70 = .ok (.getfield 32, 3) := by decide +kernel
theorem d_M_list_73 : decode cc_M_list 73 = .ok (.ifCond .ne 101, 3) := by decide +kernel
theorem d_M_list_76 : decode cc_M_list 76 = .ok (.aload_n 0, 1) := by decide +kernel
theorem d_M_list_77 : decode cc_M_list 77 = .ok (.iload_n 1, 1) := by decide +kernel
theorem d_M_list_78 : decode cc_M_list 78 = .ok (.iload 4, 2) := by decide +kernel
theorem d_M_list_80 : decode cc_M_list 80 = .ok (.invokevirtual 71, 3) := by decide +kernel
theorem d_M_list_83 : decode cc_M_list 83 = .ok (.ifCond .eq 85, 3) := by decide +kernel
theorem d_M_list_168 : decode cc_M_list 168 = .ok (.iinc 4 1, 3) := by decide +kernel
theorem d_M_list_171 : decode cc_M_list 171 = .ok (.goto (-111), 3) := by decide +kernel
theorem d_M_list_86 : decode cc_M_list 86 = .ok (.aload_n 0, 1) := by decide +kernel
theorem d_M_list_87 : decode cc_M_list 87 = .ok (.iload 4, 2) := by decide +kernel
theorem d_M_list_89 : decode cc_M_list 89 = .ok (.iload_n 2, 1) := by decide +kernel
theorem d_M_list_90 : decode cc_M_list 90 = .ok (.invokevirtual 74, 3) := by decide +kernel
theorem d_M_list_93 : decode cc_M_list 93 = .ok (.iconst 1, 1) := by decide +kernel
theorem d_M_list_94 : decode cc_M_list 94 = .ok (.if_icmp .ne 74, 3) := by decide +kernel
theorem d_M_list_97 : decode cc_M_list 97 = .ok (.aload_n 0, 1) := by decide +kernel
theorem d_M_list_98 : decode cc_M_list 98 = .ok (.iload 4, 2) := by decide +kernel
theorem d_M_list_100 : decode cc_M_list 100 = .ok (.iload_n 2, 1) := by decide +kernel
theorem d_M_list_101 : decode cc_M_list 101 = .ok (.invokevirtual 68, 3) := by decide +kernel
theorem d_M_list_104 : decode cc_M_list 104 = .ok (.istore 5, 2) := by decide +kernel
theorem d_M_list_106 : decode cc_M_list 106 = .ok (.iconst 1, 1) := by decide +kernel
theorem d_M_list_107 : decode cc_M_list 107 = .ok (.istore 6, 2) := by decide +kernel
theorem d_M_list_109 : decode cc_M_list 109 = .ok (.iload 6, 2) := by decide +kernel
theorem d_M_list_111 : decode cc_M_list 111 = .ok (.bipush 8, 2) := by decide +kernel
theorem d_M_list_113 : decode cc_M_list 113 = .ok (.if_icmp .ge 55, 3) := by decide +kernel
theorem d_M_list_116 : decode cc_M_list 116 = .ok (.aload_n 0, 1) := by decide +kernel
theorem d_M_list_117 : decode cc_M_list 117 = .ok (.iload 4, 2) := by decide +kernel
theorem d_M_list_119 : decode cc_M_list 119 = .ok (.iload 6, 2) := by decide +kernel
theorem d_M_list_121 : decode cc_M_list 121 = .ok (.iconst 0, 1) := by decide +kernel
theorem d_M_list_122 : decode cc_M_list 122 = .ok (.invokevirtual 64, 3) := by decide +kernel
theorem d_M_list_125 : decode cc_M_list 125 = .ok (.ifCond .le 35, 3) := by decide +kernel
theorem d_M_list_160 : decode cc_M_list 160 = .ok (.iload_n 3, 1) := by decide +kernel
theorem d_M_list_161 : decode cc_M_list 161 = .ok (.istore_n 3, 1) := by decide +kernel
theorem d_M_list_162 : decode cc_M_list 162 = .ok (.iinc 6 1, 3) := by decide +kernel
theorem d_M_list_165 : decode cc_M_list 165 = .ok (.goto (-56), 3) := by decide +kernel
theorem d_M_list_128 : decode cc_M_list 128 = .ok (.aload_n 0, 1) := by decide +kernel
theorem d_M_list_129 : decode cc_M_list 129 = .ok (.iload 4, 2) := by decide +kernel
theorem d_M_list_131 : decode cc_M_list 131 = .ok (.iload 6, 2) := by decide +kernel
theorem d_M_list_133 : decode cc_M_list 133 = .ok (.iconst 1, 1) := by decide +kernel
theorem d_M_list_134 : decode cc_M_list 134 = .ok (.invokevirtual 64, 3) := by decide +kernel
theorem d_M_list_137 : decode cc_M_list 137 = .ok (.iload 5, 2) := by decide +kernel
theorem d_M_list_139 : decode cc_M_list 139 = .ok (.if_icmp .ne 21, 3) := by decide +kernel
theorem d_M_list_142 : decode cc_M_list 142 = .ok (.iload_n 3, 1) := by decide +kernel
theorem d_M_list_143 : decode cc_M_list 143 = .ok (.iconst 1, 1) := by decide +kernel
theorem d_M_list_144 : decode cc_M_list 144 = .ok (.aload_n 0, 1) := by decide +kernel
theorem d_M_list_145 : decode cc_M_list 145 = .ok (.iload 4, 2) := by decide +kernel
theorem d_M_list_147 : decode cc_M_list 147 = .ok (.iload 6, 2) := by decide +kernel
theorem d_M_list_149 : decode cc_M_list 149 = .ok (.iconst 2, 1) := by decide +kernel
theorem d_M_list_150 : decode cc_M_list 150 = .ok (.invokevirtual 64, 3) := by decide +kernel
theorem d_M_list_153 : decode cc_M_list 153 = .ok (.iconst 1, 1) := by decide +kernel
theorem d_M_list_154 : decode cc_M_list 154 = .ok (.isub, 1) := by decide +kernel
theorem d_M_list_155 : decode cc_M_list 155 = .ok (.ishl, 1) := by decide +kernel
theorem d_M_list_156 : decode cc_M_list 156 = .ok (.ior, 1) := by decide +kernel
theorem d_M_list_157 : decode cc_M_list 157 = .ok (.goto 4, 3) := by decide +kernel
def f_M_list_109 (mar : Int32) (mLb : Nat → Int32) (mUs : Nat → Int32) (mDk : Nat → Int32) (k60 : (Int32 × Int32) → Option (Int32 × Int32)) (y0 : Int32) (y1 : Int32) (y2 : Int32) (y3 : Int32) (y4 : Int32) (k109 : (Int32 × Int32) → Option (Int32 × Int32)) (a : Int32 × Int32) : Option (Int32 × Int32) :=
  if (8 : Int32) ≤ a.2 then (k60 (a.1, y2 + (1 : Int32))) else ((f_M_inode mDk y2 a.2 (0 : Int32)).bind fun x15 => if x15 ≤ 0 then (k109 (a.1, a.2 + (1 : Int32))) else ((f_M_inode mDk y2 a.2 (1 : Int32)).bind fun x17 => if x17 = y3 then ((f_M_inode mDk y2 a.2 (2 : Int32)).bind fun x19 => k109 (a.1 ||| ((1 : Int32) <<< ((x19 - (1 : Int32)) &&& 31)), a.2 + (1 : Int32))) else (k109 (a.1, a.2 + (1 : Int32)))))
set_option maxHeartbeats 4000000 in
set_option maxRecDepth 100000 in
theorem b_M_list_109 {l : Launch} {dC : Nat → ClassId} {dI : Nat → Nat → Nat} {cI cA cL : ClassId} {q_mo q_mlb_ q_mcl_ q_mus_ q_mwr_ q_mdk_ q_mcp_ : Nat} {mar : Int32} {mfu : Int32} {mLb : Nat → Int32} {mCl : Nat → Int32} {mUs : Nat → Int32} {mWr : Nat → Int32} {mDk : Nat → Int32} {mCp : Nat → Int32} {p : Program} {e : Env} {s : State} {m : MethodId} {args : Array Value} {below : List Frame} {meth : Method} {c : Code} (cx : jv_cx p s m args meth c cc_M_list 7 R_Model (some .int) ws_M_list) (hK : va_K (dC, dI) vwCl (jv_ty cI cA cL) s) {A : Nat → Prop} (hA : ∀ q : Nat, s.heap.size ≤ q → A q) {r : Int32 × Int32} {k60 : (Int32 × Int32) → Option (Int32 × Int32)} {y0 : Int32} {y1 : Int32} {y2 : Int32} {y3 : Int32} {y4 : Int32} (hk60 : ∀ (a : Int32 × Int32) (ls : Array Slot) (H : Heap) (locs : List Loc), lv_has ls 7 [(0, .ref q_mo), (1, .int y0), (2, .int y1), (3, .int a.1), (4, .int a.2)] → va_P (dC, dI) vwCl (w_model cI q_mo q_mlb_ q_mcl_ q_mus_ q_mwr_ q_mdk_ q_mcp_ y4 mar mfu mLb mCl mUs mWr mDk mCp) H → va_D A (w_model cI q_mo q_mlb_ q_mcl_ q_mus_ q_mwr_ q_mdk_ q_mcp_ y4 mar mfu mLb mCl mUs mWr mDk mCp) → va_S A s.heap H locs → k60 a = some r → W p l e rm_M_list s m args below meth c H locs 0 0 (MQ below (jv_Qi r.1 (dC, dI) (w_model cI q_mo q_mlb_ q_mcl_ q_mus_ q_mwr_ q_mdk_ q_mcp_ r.2 mar mfu mLb mCl mUs mWr mDk mCp) A) args s 0 0 A) (F0 m 60 ls [])) {k109 : (Int32 × Int32) → Option (Int32 × Int32)} (hk109 : ∀ (a : Int32 × Int32) (ls : Array Slot) (H : Heap) (locs : List Loc), lv_has ls 7 [(0, .ref q_mo), (1, .int y0), (2, .int y1), (3, .int a.1), (4, .int y2), (5, .int y3), (6, .int a.2)] → va_P (dC, dI) vwCl (w_model cI q_mo q_mlb_ q_mcl_ q_mus_ q_mwr_ q_mdk_ q_mcp_ y4 mar mfu mLb mCl mUs mWr mDk mCp) H → va_D A (w_model cI q_mo q_mlb_ q_mcl_ q_mus_ q_mwr_ q_mdk_ q_mcp_ y4 mar mfu mLb mCl mUs mWr mDk mCp) → va_S A s.heap H locs → k109 a = some r → W p l e rm_M_list s m args below meth c H locs 0 0 (MQ below (jv_Qi r.1 (dC, dI) (w_model cI q_mo q_mlb_ q_mcl_ q_mus_ q_mwr_ q_mdk_ q_mcp_ r.2 mar mfu mLb mCl mUs mWr mDk mCp) A) args s 0 0 A) (F0 m 109 ls [])) {a : Int32 × Int32} {ls : Array Slot} (hl : lv_has ls 7 [(0, .ref q_mo), (1, .int y0), (2, .int y1), (3, .int a.1), (4, .int y2), (5, .int y3), (6, .int a.2)]) {H : Heap} {locs : List Loc} (hP : va_P (dC, dI) vwCl (w_model cI q_mo q_mlb_ q_mcl_ q_mus_ q_mwr_ q_mdk_ q_mcp_ y4 mar mfu mLb mCl mUs mWr mDk mCp) H) (hD : va_D A (w_model cI q_mo q_mlb_ q_mcl_ q_mus_ q_mwr_ q_mdk_ q_mcp_ y4 mar mfu mLb mCl mUs mWr mDk mCp)) (hS : va_S A s.heap H locs) (hf : f_M_list_109 mar mLb mUs mDk k60 y0 y1 y2 y3 y4 k109 a = some r) : W p l e rm_M_list s m args below meth c H locs 0 0 (MQ below (jv_Qi r.1 (dC, dI) (w_model cI q_mo q_mlb_ q_mcl_ q_mus_ q_mwr_ q_mdk_ q_mcp_ r.2 mar mfu mLb mCl mUs mWr mDk mCp) A) args s 0 0 A) (F0 m 109 ls []) := by
  unfold f_M_list_109 at hf
  obtain ⟨hx, hb, hml, hown, hts, hr, hlocks⟩ := id cx
  refine lv_iload hx hb d_M_list_109 (lv_at hl 6 rfl) ?_
  refine lv_bipush (v := (8 : Int32)) hx hb d_M_list_111 (by decide) ?_
  refine lv_icmp_ge (tgt := 168) hx hb d_M_list_113 (by decide) (fun hc => ?_) (fun hc => ?_)
  · have hf := jv_it hf hc
    refine lv_iinc (k := 4) (v := y2 + (1 : Int32)) (lv' := [(4, .int (y2 + (1 : Int32))), (0, .ref q_mo), (1, .int y0), (2, .int y1), (3, .int a.1), (5, .int y3), (6, .int a.2)]) hx hb d_M_list_168 hl rfl (jv_inc _) (by decide) rfl (fun ls hl => ?_)
    refine lv_goto (tgt := 60) hx hb d_M_list_171 (by decide) ?_
    exact hk60 (a.1, y2 + (1 : Int32)) _ _ _ (lv_sub hl [1, 2, 3, 4, 0] rfl) hP hD hS hf
  · have hf := jv_if hf hc
    refine lv_aload_n hx hb d_M_list_116 rfl (lv_at hl 0 rfl) ?_
    refine lv_iload hx hb d_M_list_117 (lv_at hl 4 rfl) ?_
    refine lv_iload hx hb d_M_list_119 (lv_at hl 6 rfl) ?_
    refine lv_iconst (v := (0 : Int32)) hx hb d_M_list_121 (by decide) ?_
    obtain ⟨x15, g16, hf⟩ := jv_ob hf
    have hPc := hP.sub (ws' := (w_model cI q_mo q_mlb_ q_mcl_ q_mus_ q_mwr_ q_mdk_ q_mcp_ y4 mar mfu mLb mCl mUs mWr mDk mCp)) [0, 1, 2, 3, 4, 5, 6] rfl
    refine jv_cs (W.runV (As := [.int y2, .int a.2, .int (0 : Int32)]) (rest := []) (b := q_mo) ⟨hx, hb, hml, hown, hts⟩ (c_M_inode l dC dI cI cA cL q_mo q_mlb_ q_mcl_ q_mus_ q_mwr_ q_mdk_ q_mcp_ y4 mar mfu mLb mCl mUs mWr mDk mCp y2 a.2 (0 : Int32) x15 g16) (jv_cwV hts wa_207 wa_194 wa_208 wa_209 wa_210 rfl rfl yd_M_inode ⟨Nat.le_of_ble_eq_true rfl, Nat.le_of_ble_eq_true rfl⟩) (jv_preV hK hPc 0 rfl rfl) rfl rfl hl.1 rfl (lv_room (Nat.le_of_ble_eq_true rfl)) d_M_list_122 ⟨Nat.zero_le _, Nat.zero_le _⟩) ?_
    refine lv_if_le (tgt := 160) hx hb d_M_list_125 (by decide) (fun hc => ?_) (fun hc => ?_)
    · have hf := jv_it hf hc
      refine lv_iload_n hx hb d_M_list_160 rfl (lv_at hl 3 rfl) ?_
      refine lv_istore_n (lv' := [(3, .int a.1), (0, .ref q_mo), (1, .int y0), (2, .int y1), (4, .int y2), (5, .int y3), (6, .int a.2)]) hx hb d_M_list_161 rfl hl (by decide) rfl (fun ls hl => ?_)
      refine lv_iinc (k := 6) (v := a.2 + (1 : Int32)) (lv' := [(6, .int (a.2 + (1 : Int32))), (3, .int a.1), (0, .ref q_mo), (1, .int y0), (2, .int y1), (4, .int y2), (5, .int y3)]) hx hb d_M_list_162 hl rfl (jv_inc _) (by decide) rfl (fun ls hl => ?_)
      refine lv_goto (tgt := 109) hx hb d_M_list_165 (by decide) ?_
      exact hk109 (a.1, a.2 + (1 : Int32)) _ _ _ (lv_sub hl [2, 3, 4, 1, 5, 6, 0] rfl) hP hD hS hf
    · have hf := jv_if hf hc
      refine lv_aload_n hx hb d_M_list_128 rfl (lv_at hl 0 rfl) ?_
      refine lv_iload hx hb d_M_list_129 (lv_at hl 4 rfl) ?_
      refine lv_iload hx hb d_M_list_131 (lv_at hl 6 rfl) ?_
      refine lv_iconst (v := (1 : Int32)) hx hb d_M_list_133 (by decide) ?_
      obtain ⟨x17, g18, hf⟩ := jv_ob hf
      have hPc := hP.sub (ws' := (w_model cI q_mo q_mlb_ q_mcl_ q_mus_ q_mwr_ q_mdk_ q_mcp_ y4 mar mfu mLb mCl mUs mWr mDk mCp)) [0, 1, 2, 3, 4, 5, 6] rfl
      refine jv_cs (W.runV (As := [.int y2, .int a.2, .int (1 : Int32)]) (rest := []) (b := q_mo) ⟨hx, hb, hml, hown, hts⟩ (c_M_inode l dC dI cI cA cL q_mo q_mlb_ q_mcl_ q_mus_ q_mwr_ q_mdk_ q_mcp_ y4 mar mfu mLb mCl mUs mWr mDk mCp y2 a.2 (1 : Int32) x17 g18) (jv_cwV hts wa_207 wa_194 wa_208 wa_209 wa_210 rfl rfl yd_M_inode ⟨Nat.le_of_ble_eq_true rfl, Nat.le_of_ble_eq_true rfl⟩) (jv_preV hK hPc 0 rfl rfl) rfl rfl hl.1 rfl (lv_room (Nat.le_of_ble_eq_true rfl)) d_M_list_134 ⟨Nat.zero_le _, Nat.zero_le _⟩) ?_
      refine lv_iload hx hb d_M_list_137 (lv_at hl 5 rfl) ?_
      refine lv_icmp_ne (tgt := 160) hx hb d_M_list_139 (by decide) (fun hc => ?_) (fun hc => ?_)
      · have hf := jv_if hf hc
        refine lv_iload_n hx hb d_M_list_160 rfl (lv_at hl 3 rfl) ?_
        refine lv_istore_n (lv' := [(3, .int a.1), (0, .ref q_mo), (1, .int y0), (2, .int y1), (4, .int y2), (5, .int y3), (6, .int a.2)]) hx hb d_M_list_161 rfl hl (by decide) rfl (fun ls hl => ?_)
        refine lv_iinc (k := 6) (v := a.2 + (1 : Int32)) (lv' := [(6, .int (a.2 + (1 : Int32))), (3, .int a.1), (0, .ref q_mo), (1, .int y0), (2, .int y1), (4, .int y2), (5, .int y3)]) hx hb d_M_list_162 hl rfl (jv_inc _) (by decide) rfl (fun ls hl => ?_)
        refine lv_goto (tgt := 109) hx hb d_M_list_165 (by decide) ?_
        exact hk109 (a.1, a.2 + (1 : Int32)) _ _ _ (lv_sub hl [2, 3, 4, 1, 5, 6, 0] rfl) hP hD hS hf
      · have hf := jv_it hf hc
        refine lv_iload_n hx hb d_M_list_142 rfl (lv_at hl 3 rfl) ?_
        refine lv_iconst (v := (1 : Int32)) hx hb d_M_list_143 (by decide) ?_
        refine lv_aload_n hx hb d_M_list_144 rfl (lv_at hl 0 rfl) ?_
        refine lv_iload hx hb d_M_list_145 (lv_at hl 4 rfl) ?_
        refine lv_iload hx hb d_M_list_147 (lv_at hl 6 rfl) ?_
        refine lv_iconst (v := (2 : Int32)) hx hb d_M_list_149 (by decide) ?_
        obtain ⟨x19, g20, hf⟩ := jv_ob hf
        have hPc := hP.sub (ws' := (w_model cI q_mo q_mlb_ q_mcl_ q_mus_ q_mwr_ q_mdk_ q_mcp_ y4 mar mfu mLb mCl mUs mWr mDk mCp)) [0, 1, 2, 3, 4, 5, 6] rfl
        refine jv_cs (W.runV (As := [.int y2, .int a.2, .int (2 : Int32)]) (rest := [.int (1 : Int32), .int a.1]) (b := q_mo) ⟨hx, hb, hml, hown, hts⟩ (c_M_inode l dC dI cI cA cL q_mo q_mlb_ q_mcl_ q_mus_ q_mwr_ q_mdk_ q_mcp_ y4 mar mfu mLb mCl mUs mWr mDk mCp y2 a.2 (2 : Int32) x19 g20) (jv_cwV hts wa_207 wa_194 wa_208 wa_209 wa_210 rfl rfl yd_M_inode ⟨Nat.le_of_ble_eq_true rfl, Nat.le_of_ble_eq_true rfl⟩) (jv_preV hK hPc 0 rfl rfl) rfl rfl hl.1 rfl (lv_room (Nat.le_of_ble_eq_true rfl)) d_M_list_150 ⟨Nat.zero_le _, Nat.zero_le _⟩) ?_
        refine lv_iconst (v := (1 : Int32)) hx hb d_M_list_153 (by decide) ?_
        refine lv_isub hx hb d_M_list_154 ?_
        refine lv_ishl hx hb d_M_list_155 ?_
        refine lv_ior hx hb d_M_list_156 ?_
        refine lv_goto (tgt := 161) hx hb d_M_list_157 (by decide) ?_
        refine lv_istore_n (lv' := [(3, .int (a.1 ||| ((1 : Int32) <<< ((x19 - (1 : Int32)) &&& 31)))), (0, .ref q_mo), (1, .int y0), (2, .int y1), (4, .int y2), (5, .int y3), (6, .int a.2)]) hx hb d_M_list_161 rfl hl (by decide) rfl (fun ls hl => ?_)
        refine lv_iinc (k := 6) (v := a.2 + (1 : Int32)) (lv' := [(6, .int (a.2 + (1 : Int32))), (3, .int (a.1 ||| ((1 : Int32) <<< ((x19 - (1 : Int32)) &&& 31)))), (0, .ref q_mo), (1, .int y0), (2, .int y1), (4, .int y2), (5, .int y3)]) hx hb d_M_list_162 hl rfl (jv_inc _) (by decide) rfl (fun ls hl => ?_)
        refine lv_goto (tgt := 109) hx hb d_M_list_165 (by decide) ?_
        exact hk109 (a.1 ||| ((1 : Int32) <<< ((x19 - (1 : Int32)) &&& 31)), a.2 + (1 : Int32)) _ _ _ (lv_sub hl [2, 3, 4, 1, 5, 6, 0] rfl) hP hD hS hf
set_option maxHeartbeats 4000000 in
set_option maxRecDepth 100000 in
theorem l_M_list_109 {l : Launch} {dC : Nat → ClassId} {dI : Nat → Nat → Nat} {cI cA cL : ClassId} {q_mo q_mlb_ q_mcl_ q_mus_ q_mwr_ q_mdk_ q_mcp_ : Nat} {mar : Int32} {mfu : Int32} {mLb : Nat → Int32} {mCl : Nat → Int32} {mUs : Nat → Int32} {mWr : Nat → Int32} {mDk : Nat → Int32} {mCp : Nat → Int32} {p : Program} {e : Env} {s : State} {m : MethodId} {args : Array Value} {below : List Frame} {meth : Method} {c : Code} (cx : jv_cx p s m args meth c cc_M_list 7 R_Model (some .int) ws_M_list) (hK : va_K (dC, dI) vwCl (jv_ty cI cA cL) s) {A : Nat → Prop} (hA : ∀ q : Nat, s.heap.size ≤ q → A q) {r : Int32 × Int32} {k60 : (Int32 × Int32) → Option (Int32 × Int32)} {y0 : Int32} {y1 : Int32} {y2 : Int32} {y3 : Int32} {y4 : Int32} (hk60 : ∀ (a : Int32 × Int32) (ls : Array Slot) (H : Heap) (locs : List Loc), lv_has ls 7 [(0, .ref q_mo), (1, .int y0), (2, .int y1), (3, .int a.1), (4, .int a.2)] → va_P (dC, dI) vwCl (w_model cI q_mo q_mlb_ q_mcl_ q_mus_ q_mwr_ q_mdk_ q_mcp_ y4 mar mfu mLb mCl mUs mWr mDk mCp) H → va_D A (w_model cI q_mo q_mlb_ q_mcl_ q_mus_ q_mwr_ q_mdk_ q_mcp_ y4 mar mfu mLb mCl mUs mWr mDk mCp) → va_S A s.heap H locs → k60 a = some r → W p l e rm_M_list s m args below meth c H locs 0 0 (MQ below (jv_Qi r.1 (dC, dI) (w_model cI q_mo q_mlb_ q_mcl_ q_mus_ q_mwr_ q_mdk_ q_mcp_ r.2 mar mfu mLb mCl mUs mWr mDk mCp) A) args s 0 0 A) (F0 m 60 ls [])) : ∀ n : Nat, ∀ (a : Int32 × Int32) (ls : Array Slot) (H : Heap) (locs : List Loc), lv_has ls 7 [(0, .ref q_mo), (1, .int y0), (2, .int y1), (3, .int a.1), (4, .int y2), (5, .int y3), (6, .int a.2)] → va_P (dC, dI) vwCl (w_model cI q_mo q_mlb_ q_mcl_ q_mus_ q_mwr_ q_mdk_ q_mcp_ y4 mar mfu mLb mCl mUs mWr mDk mCp) H → va_D A (w_model cI q_mo q_mlb_ q_mcl_ q_mus_ q_mwr_ q_mdk_ q_mcp_ y4 mar mfu mLb mCl mUs mWr mDk mCp) → va_S A s.heap H locs → jv_fx (f_M_list_109 mar mLb mUs mDk k60 y0 y1 y2 y3 y4) n a = some r → W p l e rm_M_list s m args below meth c H locs 0 0 (MQ below (jv_Qi r.1 (dC, dI) (w_model cI q_mo q_mlb_ q_mcl_ q_mus_ q_mwr_ q_mdk_ q_mcp_ r.2 mar mfu mLb mCl mUs mWr mDk mCp) A) args s 0 0 A) (F0 m 109 ls []) := by
  intro n
  induction n with
  | zero => intro a ls H locs hl hP hD hS hf; exact jv_no hf
  | succ n ih => intro a ls H locs hl hP hD hS hf; exact b_M_list_109 cx hK hA hk60 ih hl hP hD hS hf
def f_M_list_60 (mar : Int32) (mLb : Nat → Int32) (mUs : Nat → Int32) (mDk : Nat → Int32) (y0 : Int32) (y1 : Int32) (y2 : Int32) (k60 : (Int32 × Int32) → Option (Int32 × Int32)) (a : Int32 × Int32) : Option (Int32 × Int32) :=
  if mar ≤ a.2 then (some (a.1, y2)) else (if y2 = 0 then ((f_M_sees mLb y0 a.2).bind fun x9 => if x9 = 0 then (k60 (a.1, a.2 + (1 : Int32))) else ((f_M_kind mDk a.2 y1).bind fun x11 => if x11 = (1 : Int32) then ((f_M_find mDk a.2 y1).bind fun x13 => jv_fx (f_M_list_109 mar mLb mUs mDk k60 y0 y1 a.2 x13 y2) 300 (a.1, (1 : Int32))) else (k60 (a.1, a.2 + (1 : Int32))))) else (some (a.1, y2)))
set_option maxHeartbeats 4000000 in
set_option maxRecDepth 100000 in
theorem b_M_list_60 {l : Launch} {dC : Nat → ClassId} {dI : Nat → Nat → Nat} {cI cA cL : ClassId} {q_mo q_mlb_ q_mcl_ q_mus_ q_mwr_ q_mdk_ q_mcp_ : Nat} {mar : Int32} {mfu : Int32} {mLb : Nat → Int32} {mCl : Nat → Int32} {mUs : Nat → Int32} {mWr : Nat → Int32} {mDk : Nat → Int32} {mCp : Nat → Int32} {p : Program} {e : Env} {s : State} {m : MethodId} {args : Array Value} {below : List Frame} {meth : Method} {c : Code} (cx : jv_cx p s m args meth c cc_M_list 7 R_Model (some .int) ws_M_list) (hK : va_K (dC, dI) vwCl (jv_ty cI cA cL) s) {A : Nat → Prop} (hA : ∀ q : Nat, s.heap.size ≤ q → A q) {r : Int32 × Int32} {y0 : Int32} {y1 : Int32} {y2 : Int32} {k60 : (Int32 × Int32) → Option (Int32 × Int32)} (hk60 : ∀ (a : Int32 × Int32) (ls : Array Slot) (H : Heap) (locs : List Loc), lv_has ls 7 [(0, .ref q_mo), (1, .int y0), (2, .int y1), (3, .int a.1), (4, .int a.2)] → va_P (dC, dI) vwCl (w_model cI q_mo q_mlb_ q_mcl_ q_mus_ q_mwr_ q_mdk_ q_mcp_ y2 mar mfu mLb mCl mUs mWr mDk mCp) H → va_D A (w_model cI q_mo q_mlb_ q_mcl_ q_mus_ q_mwr_ q_mdk_ q_mcp_ y2 mar mfu mLb mCl mUs mWr mDk mCp) → va_S A s.heap H locs → k60 a = some r → W p l e rm_M_list s m args below meth c H locs 0 0 (MQ below (jv_Qi r.1 (dC, dI) (w_model cI q_mo q_mlb_ q_mcl_ q_mus_ q_mwr_ q_mdk_ q_mcp_ r.2 mar mfu mLb mCl mUs mWr mDk mCp) A) args s 0 0 A) (F0 m 60 ls [])) {a : Int32 × Int32} {ls : Array Slot} (hl : lv_has ls 7 [(0, .ref q_mo), (1, .int y0), (2, .int y1), (3, .int a.1), (4, .int a.2)]) {H : Heap} {locs : List Loc} (hP : va_P (dC, dI) vwCl (w_model cI q_mo q_mlb_ q_mcl_ q_mus_ q_mwr_ q_mdk_ q_mcp_ y2 mar mfu mLb mCl mUs mWr mDk mCp) H) (hD : va_D A (w_model cI q_mo q_mlb_ q_mcl_ q_mus_ q_mwr_ q_mdk_ q_mcp_ y2 mar mfu mLb mCl mUs mWr mDk mCp)) (hS : va_S A s.heap H locs) (hf : f_M_list_60 mar mLb mUs mDk y0 y1 y2 k60 a = some r) : W p l e rm_M_list s m args below meth c H locs 0 0 (MQ below (jv_Qi r.1 (dC, dI) (w_model cI q_mo q_mlb_ q_mcl_ q_mus_ q_mwr_ q_mdk_ q_mcp_ r.2 mar mfu mLb mCl mUs mWr mDk mCp) A) args s 0 0 A) (F0 m 60 ls []) := by
  unfold f_M_list_60 at hf
  obtain ⟨hx, hb, hml, hown, hts, hr, hlocks⟩ := id cx
  refine lv_iload hx hb d_M_list_60 (lv_at hl 4 rfl) ?_
  refine lv_aload_n hx hb d_M_list_62 rfl (lv_at hl 0 rfl) ?_
  refine va_get (D := (dC, dI)) (ci := kModel) (v := .int mar) (C := R_Model) (T := T_Model) (N := 9) hx hb hts (fun w h => List.mem_cons_of_mem _ (in_Model w h)) hown hK hP 0 rfl rfl 1 (by decide) (jv_w hts wa_201) (fun _ h9 => h9) rfl d_M_list_63 ?_
  refine lv_icmp_ge (tgt := 174) hx hb d_M_list_66 (by decide) (fun hc => ?_) (fun hc => ?_)
  · have hf := jv_it hf hc
    refine lv_iload_n hx hb d_M_list_174 rfl (lv_at hl 3 rfl) ?_
    obtain rfl := Option.some.inj hf
    exact W.iret hx hb hr (fun t ht hW => ⟨rfl, by rw [ht]; exact hP, hD, hS.F ht⟩) hS.2.2 d_M_list_175
  · have hf := jv_if hf hc
    refine lv_aload_n hx hb d_M_list_69 rfl (lv_at hl 0 rfl) ?_
    refine va_get (D := (dC, dI)) (ci := kModel) (v := .int y2) (C := R_Model) (T := T_Model) (N := 9) hx hb hts (fun w h => List.mem_cons_of_mem _ (in_Model w h)) hown hK hP 0 rfl rfl 0 (by decide) (jv_w hts wa_200) (fun _ h9 => h9) rfl d_M_list_70 ?_
    refine lv_if_ne (tgt := 174) hx hb d_M_list_73 (by decide) (fun hc => ?_) (fun hc => ?_)
    · have hf := jv_if hf hc
      refine lv_iload_n hx hb d_M_list_174 rfl (lv_at hl 3 rfl) ?_
      obtain rfl := Option.some.inj hf
      exact W.iret hx hb hr (fun t ht hW => ⟨rfl, by rw [ht]; exact hP, hD, hS.F ht⟩) hS.2.2 d_M_list_175
    · have hf := jv_it hf hc
      refine lv_aload_n hx hb d_M_list_76 rfl (lv_at hl 0 rfl) ?_
      refine lv_iload_n hx hb d_M_list_77 rfl (lv_at hl 1 rfl) ?_
      refine lv_iload hx hb d_M_list_78 (lv_at hl 4 rfl) ?_
      obtain ⟨x9, g10, hf⟩ := jv_ob hf
      have hPc := hP.sub (ws' := (w_model cI q_mo q_mlb_ q_mcl_ q_mus_ q_mwr_ q_mdk_ q_mcp_ y2 mar mfu mLb mCl mUs mWr mDk mCp)) [0, 1, 2, 3, 4, 5, 6] rfl
      refine jv_cs (W.runV (As := [.int y0, .int a.2]) (rest := []) (b := q_mo) ⟨hx, hb, hml, hown, hts⟩ (c_M_sees l dC dI cI cA cL q_mo q_mlb_ q_mcl_ q_mus_ q_mwr_ q_mdk_ q_mcp_ y2 mar mfu mLb mCl mUs mWr mDk mCp y0 a.2 x9 g10) (jv_cwV hts wa_219 wa_194 wa_220 wa_221 wa_222 rfl rfl yd_M_sees ⟨Nat.le_of_ble_eq_true rfl, Nat.le_of_ble_eq_true rfl⟩) (jv_preV hK hPc 0 rfl rfl) rfl rfl hl.1 rfl (lv_room (Nat.le_of_ble_eq_true rfl)) d_M_list_80 ⟨Nat.zero_le _, Nat.zero_le _⟩) ?_
      refine lv_if_eq (tgt := 168) hx hb d_M_list_83 (by decide) (fun hc => ?_) (fun hc => ?_)
      · have hf := jv_it hf hc
        refine lv_iinc (k := 4) (v := a.2 + (1 : Int32)) (lv' := [(4, .int (a.2 + (1 : Int32))), (0, .ref q_mo), (1, .int y0), (2, .int y1), (3, .int a.1)]) hx hb d_M_list_168 hl rfl (jv_inc _) (by decide) rfl (fun ls hl => ?_)
        refine lv_goto (tgt := 60) hx hb d_M_list_171 (by decide) ?_
        exact hk60 (a.1, a.2 + (1 : Int32)) _ _ _ (lv_sub hl [1, 2, 3, 4, 0] rfl) hP hD hS hf
      · have hf := jv_if hf hc
        refine lv_aload_n hx hb d_M_list_86 rfl (lv_at hl 0 rfl) ?_
        refine lv_iload hx hb d_M_list_87 (lv_at hl 4 rfl) ?_
        refine lv_iload_n hx hb d_M_list_89 rfl (lv_at hl 2 rfl) ?_
        obtain ⟨x11, g12, hf⟩ := jv_ob hf
        have hPc := hP.sub (ws' := (w_model cI q_mo q_mlb_ q_mcl_ q_mus_ q_mwr_ q_mdk_ q_mcp_ y2 mar mfu mLb mCl mUs mWr mDk mCp)) [0, 1, 2, 3, 4, 5, 6] rfl
        refine jv_cs (W.runV (As := [.int a.2, .int y1]) (rest := []) (b := q_mo) ⟨hx, hb, hml, hown, hts⟩ (c_M_kind l dC dI cI cA cL q_mo q_mlb_ q_mcl_ q_mus_ q_mwr_ q_mdk_ q_mcp_ y2 mar mfu mLb mCl mUs mWr mDk mCp a.2 y1 x11 g12) (jv_cwV hts wa_223 wa_194 wa_224 wa_225 wa_226 rfl rfl yd_M_kind ⟨Nat.le_of_ble_eq_true rfl, Nat.le_of_ble_eq_true rfl⟩) (jv_preV hK hPc 0 rfl rfl) rfl rfl hl.1 rfl (lv_room (Nat.le_of_ble_eq_true rfl)) d_M_list_90 ⟨Nat.zero_le _, Nat.zero_le _⟩) ?_
        refine lv_iconst (v := (1 : Int32)) hx hb d_M_list_93 (by decide) ?_
        refine lv_icmp_ne (tgt := 168) hx hb d_M_list_94 (by decide) (fun hc => ?_) (fun hc => ?_)
        · have hf := jv_if hf hc
          refine lv_iinc (k := 4) (v := a.2 + (1 : Int32)) (lv' := [(4, .int (a.2 + (1 : Int32))), (0, .ref q_mo), (1, .int y0), (2, .int y1), (3, .int a.1)]) hx hb d_M_list_168 hl rfl (jv_inc _) (by decide) rfl (fun ls hl => ?_)
          refine lv_goto (tgt := 60) hx hb d_M_list_171 (by decide) ?_
          exact hk60 (a.1, a.2 + (1 : Int32)) _ _ _ (lv_sub hl [1, 2, 3, 4, 0] rfl) hP hD hS hf
        · have hf := jv_it hf hc
          refine lv_aload_n hx hb d_M_list_97 rfl (lv_at hl 0 rfl) ?_
          refine lv_iload hx hb d_M_list_98 (lv_at hl 4 rfl) ?_
          refine lv_iload_n hx hb d_M_list_100 rfl (lv_at hl 2 rfl) ?_
          obtain ⟨x13, g14, hf⟩ := jv_ob hf
          have hPc := hP.sub (ws' := (w_model cI q_mo q_mlb_ q_mcl_ q_mus_ q_mwr_ q_mdk_ q_mcp_ y2 mar mfu mLb mCl mUs mWr mDk mCp)) [0, 1, 2, 3, 4, 5, 6] rfl
          refine jv_cs (W.runV (As := [.int a.2, .int y1]) (rest := []) (b := q_mo) ⟨hx, hb, hml, hown, hts⟩ (c_M_find l dC dI cI cA cL q_mo q_mlb_ q_mcl_ q_mus_ q_mwr_ q_mdk_ q_mcp_ y2 mar mfu mLb mCl mUs mWr mDk mCp a.2 y1 x13 g14) (jv_cwV hts wa_211 wa_194 wa_212 wa_213 wa_214 rfl rfl yd_M_find ⟨Nat.le_of_ble_eq_true rfl, Nat.le_of_ble_eq_true rfl⟩) (jv_preV hK hPc 0 rfl rfl) rfl rfl hl.1 rfl (lv_room (Nat.le_of_ble_eq_true rfl)) d_M_list_101 ⟨Nat.zero_le _, Nat.zero_le _⟩) ?_
          refine lv_istore (lv' := [(5, .int x13), (0, .ref q_mo), (1, .int y0), (2, .int y1), (3, .int a.1), (4, .int a.2)]) hx hb d_M_list_104 hl (by decide) rfl (fun ls hl => ?_)
          refine lv_iconst (v := (1 : Int32)) hx hb d_M_list_106 (by decide) ?_
          refine lv_istore (lv' := [(6, .int (1 : Int32)), (5, .int x13), (0, .ref q_mo), (1, .int y0), (2, .int y1), (3, .int a.1), (4, .int a.2)]) hx hb d_M_list_107 hl (by decide) rfl (fun ls hl => ?_)
          exact l_M_list_109 (y0 := y0) (y1 := y1) (y2 := a.2) (y3 := x13) (y4 := y2) cx hK hA hk60 300 (a.1, (1 : Int32)) _ _ _ (lv_sub hl [2, 3, 4, 5, 6, 1, 0] rfl) hP hD hS hf
set_option maxHeartbeats 4000000 in
set_option maxRecDepth 100000 in
theorem l_M_list_60 {l : Launch} {dC : Nat → ClassId} {dI : Nat → Nat → Nat} {cI cA cL : ClassId} {q_mo q_mlb_ q_mcl_ q_mus_ q_mwr_ q_mdk_ q_mcp_ : Nat} {mar : Int32} {mfu : Int32} {mLb : Nat → Int32} {mCl : Nat → Int32} {mUs : Nat → Int32} {mWr : Nat → Int32} {mDk : Nat → Int32} {mCp : Nat → Int32} {p : Program} {e : Env} {s : State} {m : MethodId} {args : Array Value} {below : List Frame} {meth : Method} {c : Code} (cx : jv_cx p s m args meth c cc_M_list 7 R_Model (some .int) ws_M_list) (hK : va_K (dC, dI) vwCl (jv_ty cI cA cL) s) {A : Nat → Prop} (hA : ∀ q : Nat, s.heap.size ≤ q → A q) {r : Int32 × Int32} {y0 : Int32} {y1 : Int32} {y2 : Int32} : ∀ n : Nat, ∀ (a : Int32 × Int32) (ls : Array Slot) (H : Heap) (locs : List Loc), lv_has ls 7 [(0, .ref q_mo), (1, .int y0), (2, .int y1), (3, .int a.1), (4, .int a.2)] → va_P (dC, dI) vwCl (w_model cI q_mo q_mlb_ q_mcl_ q_mus_ q_mwr_ q_mdk_ q_mcp_ y2 mar mfu mLb mCl mUs mWr mDk mCp) H → va_D A (w_model cI q_mo q_mlb_ q_mcl_ q_mus_ q_mwr_ q_mdk_ q_mcp_ y2 mar mfu mLb mCl mUs mWr mDk mCp) → va_S A s.heap H locs → jv_fx (f_M_list_60 mar mLb mUs mDk y0 y1 y2) n a = some r → W p l e rm_M_list s m args below meth c H locs 0 0 (MQ below (jv_Qi r.1 (dC, dI) (w_model cI q_mo q_mlb_ q_mcl_ q_mus_ q_mwr_ q_mdk_ q_mcp_ r.2 mar mfu mLb mCl mUs mWr mDk mCp) A) args s 0 0 A) (F0 m 60 ls []) := by
  intro n
  induction n with
  | zero => intro a ls H locs hl hP hD hS hf; exact jv_no hf
  | succ n ih => intro a ls H locs hl hP hD hS hf; exact b_M_list_60 cx hK hA ih hl hP hD hS hf
def f_M_list_0 (mar : Int32) (mLb : Nat → Int32) (mUs : Nat → Int32) (mDk : Nat → Int32) (y0 : Int32) (y1 : Int32) (y2 : Int32) : Option (Int32 × Int32) :=
  (f_M_isSession mUs y0).bind fun x1 => if x1 = 0 then (some ((0 : Int32), (1 : Int32))) else ((f_M_isPath y1).bind fun x3 => if x3 = 0 then (some ((0 : Int32), (1 : Int32))) else ((f_M_visible mar mLb mDk y0 y1 (0 : Int32)).bind fun x5 => if x5 = 0 then (jv_fx (f_M_list_60 mar mLb mUs mDk y0 y1 (2 : Int32)) 300 ((0 : Int32), (0 : Int32))) else ((f_M_visible mar mLb mDk y0 y1 (1 : Int32)).bind fun x7 => if x7 = 0 then (jv_fx (f_M_list_60 mar mLb mUs mDk y0 y1 (3 : Int32)) 300 ((0 : Int32), (0 : Int32))) else (jv_fx (f_M_list_60 mar mLb mUs mDk y0 y1 (0 : Int32)) 300 ((0 : Int32), (0 : Int32))))))
set_option maxHeartbeats 4000000 in
set_option maxRecDepth 100000 in
theorem b_M_list_0 {l : Launch} {dC : Nat → ClassId} {dI : Nat → Nat → Nat} {cI cA cL : ClassId} {q_mo q_mlb_ q_mcl_ q_mus_ q_mwr_ q_mdk_ q_mcp_ : Nat} {mar : Int32} {mfu : Int32} {mLb : Nat → Int32} {mCl : Nat → Int32} {mUs : Nat → Int32} {mWr : Nat → Int32} {mDk : Nat → Int32} {mCp : Nat → Int32} {p : Program} {e : Env} {s : State} {m : MethodId} {args : Array Value} {below : List Frame} {meth : Method} {c : Code} (cx : jv_cx p s m args meth c cc_M_list 7 R_Model (some .int) ws_M_list) (hK : va_K (dC, dI) vwCl (jv_ty cI cA cL) s) {A : Nat → Prop} (hA : ∀ q : Nat, s.heap.size ≤ q → A q) {r : Int32 × Int32} {y0 : Int32} {y1 : Int32} {y2 : Int32} {ls : Array Slot} (hl : lv_has ls 7 [(0, .ref q_mo), (1, .int y0), (2, .int y1)]) {H : Heap} {locs : List Loc} (hP : va_P (dC, dI) vwCl (w_model cI q_mo q_mlb_ q_mcl_ q_mus_ q_mwr_ q_mdk_ q_mcp_ y2 mar mfu mLb mCl mUs mWr mDk mCp) H) (hD : va_D A (w_model cI q_mo q_mlb_ q_mcl_ q_mus_ q_mwr_ q_mdk_ q_mcp_ y2 mar mfu mLb mCl mUs mWr mDk mCp)) (hS : va_S A s.heap H locs) (hf : f_M_list_0 mar mLb mUs mDk y0 y1 y2 = some r) : W p l e rm_M_list s m args below meth c H locs 0 0 (MQ below (jv_Qi r.1 (dC, dI) (w_model cI q_mo q_mlb_ q_mcl_ q_mus_ q_mwr_ q_mdk_ q_mcp_ r.2 mar mfu mLb mCl mUs mWr mDk mCp) A) args s 0 0 A) (F0 m 0 ls []) := by
  unfold f_M_list_0 at hf
  obtain ⟨hx, hb, hml, hown, hts, hr, hlocks⟩ := id cx
  refine lv_aload_n hx hb d_M_list_0 rfl (lv_at hl 0 rfl) ?_
  refine lv_iload_n hx hb d_M_list_1 rfl (lv_at hl 1 rfl) ?_
  obtain ⟨x1, g2, hf⟩ := jv_ob hf
  have hPc := hP.sub (ws' := (w_model cI q_mo q_mlb_ q_mcl_ q_mus_ q_mwr_ q_mdk_ q_mcp_ y2 mar mfu mLb mCl mUs mWr mDk mCp)) [0, 1, 2, 3, 4, 5, 6] rfl
  refine jv_cs (W.runV (As := [.int y0]) (rest := []) (b := q_mo) ⟨hx, hb, hml, hown, hts⟩ (c_M_isSession l dC dI cI cA cL q_mo q_mlb_ q_mcl_ q_mus_ q_mwr_ q_mdk_ q_mcp_ y2 mar mfu mLb mCl mUs mWr mDk mCp y0 x1 g2) (jv_cwV hts wa_227 wa_194 wa_228 wa_229 wa_230 rfl rfl yd_M_isSession ⟨Nat.le_of_ble_eq_true rfl, Nat.le_of_ble_eq_true rfl⟩) (jv_preV hK hPc 0 rfl rfl) rfl rfl hl.1 rfl (lv_room (Nat.le_of_ble_eq_true rfl)) d_M_list_2 ⟨Nat.zero_le _, Nat.zero_le _⟩) ?_
  refine lv_if_eq (tgt := 15) hx hb d_M_list_5 (by decide) (fun hc => ?_) (fun hc => ?_)
  · have hf := jv_it hf hc
    refine lv_aload_n hx hb d_M_list_15 rfl (lv_at hl 0 rfl) ?_
    refine lv_iconst (v := (1 : Int32)) hx hb d_M_list_16 (by decide) ?_
    refine va_put (D := (dC, dI)) (ci := kModel) (v := .int (1 : Int32)) (ty := .int) (C := R_Model) (T := T_Model) (N := 9) hx hb hts (fun w h => List.mem_cons_of_mem _ (in_Model w h)) ty_Model tyok_Model nm_Model hown hK hP hD hS 0 rfl rfl 0 (by decide) (jv_w hts wa_200) (fun _ h9 => h9) rfl (by decide +kernel) rfl rfl (Nat.le_of_ble_eq_true rfl) d_M_list_17 (fun H locs hP hD hS => ?_)
    have hP : va_P (dC, dI) vwCl (w_model cI q_mo q_mlb_ q_mcl_ q_mus_ q_mwr_ q_mdk_ q_mcp_ (1 : Int32) mar mfu mLb mCl mUs mWr mDk mCp) H := hP
    have hD : va_D A (w_model cI q_mo q_mlb_ q_mcl_ q_mus_ q_mwr_ q_mdk_ q_mcp_ (1 : Int32) mar mfu mLb mCl mUs mWr mDk mCp) := hD
    refine lv_iconst (v := (0 : Int32)) hx hb d_M_list_20 (by decide) ?_
    obtain rfl := Option.some.inj hf
    exact W.iret hx hb hr (fun t ht hW => ⟨rfl, by rw [ht]; exact hP, hD, hS.F ht⟩) hS.2.2 d_M_list_21
  · have hf := jv_if hf hc
    refine lv_iload_n hx hb d_M_list_8 rfl (lv_at hl 2 rfl) ?_
    obtain ⟨x3, g4, hf⟩ := jv_ob hf
    refine jv_cs (W.runS (As := [.int y1]) (rest := []) ⟨hx, hb, hml, hown, hts⟩ (c_M_isPath l y1 x3 g4) (jv_cwS hts wa_231 wa_194 wa_232 wa_233 rfl rfl yd_M_isPath ⟨Nat.le_of_ble_eq_true rfl, Nat.le_of_ble_eq_true rfl⟩) jv_pre0 rfl rfl hl.1 rfl (lv_room (Nat.le_of_ble_eq_true rfl)) d_M_list_9 ⟨Nat.zero_le _, Nat.zero_le _⟩) ?_
    refine lv_if_ne (tgt := 22) hx hb d_M_list_12 (by decide) (fun hc => ?_) (fun hc => ?_)
    · have hf := jv_if hf hc
      refine lv_aload_n hx hb d_M_list_22 rfl (lv_at hl 0 rfl) ?_
      refine lv_aload_n hx hb d_M_list_23 rfl (lv_at hl 0 rfl) ?_
      refine lv_iload_n hx hb d_M_list_24 rfl (lv_at hl 1 rfl) ?_
      refine lv_iload_n hx hb d_M_list_25 rfl (lv_at hl 2 rfl) ?_
      refine lv_iconst (v := (0 : Int32)) hx hb d_M_list_26 (by decide) ?_
      obtain ⟨x5, g6, hf⟩ := jv_ob hf
      have hPc := hP.sub (ws' := (w_model cI q_mo q_mlb_ q_mcl_ q_mus_ q_mwr_ q_mdk_ q_mcp_ y2 mar mfu mLb mCl mUs mWr mDk mCp)) [0, 1, 2, 3, 4, 5, 6] rfl
      refine jv_cs (W.runV (As := [.int y0, .int y1, .int (0 : Int32)]) (rest := [.ref q_mo]) (b := q_mo) ⟨hx, hb, hml, hown, hts⟩ (c_M_visible l dC dI cI cA cL q_mo q_mlb_ q_mcl_ q_mus_ q_mwr_ q_mdk_ q_mcp_ y2 mar mfu mLb mCl mUs mWr mDk mCp y0 y1 (0 : Int32) x5 g6) (jv_cwV hts wa_234 wa_194 wa_235 wa_236 wa_237 rfl rfl yd_M_visible ⟨Nat.le_of_ble_eq_true rfl, Nat.le_of_ble_eq_true rfl⟩) (jv_preV hK hPc 0 rfl rfl) rfl rfl hl.1 rfl (lv_room (Nat.le_of_ble_eq_true rfl)) d_M_list_27 ⟨Nat.zero_le _, Nat.zero_le _⟩) ?_
      refine lv_if_ne (tgt := 37) hx hb d_M_list_30 (by decide) (fun hc => ?_) (fun hc => ?_)
      · have hf := jv_if hf hc
        refine lv_aload_n hx hb d_M_list_37 rfl (lv_at hl 0 rfl) ?_
        refine lv_iload_n hx hb d_M_list_38 rfl (lv_at hl 1 rfl) ?_
        refine lv_iload_n hx hb d_M_list_39 rfl (lv_at hl 2 rfl) ?_
        refine lv_iconst (v := (1 : Int32)) hx hb d_M_list_40 (by decide) ?_
        obtain ⟨x7, g8, hf⟩ := jv_ob hf
        have hPc := hP.sub (ws' := (w_model cI q_mo q_mlb_ q_mcl_ q_mus_ q_mwr_ q_mdk_ q_mcp_ y2 mar mfu mLb mCl mUs mWr mDk mCp)) [0, 1, 2, 3, 4, 5, 6] rfl
        refine jv_cs (W.runV (As := [.int y0, .int y1, .int (1 : Int32)]) (rest := [.ref q_mo]) (b := q_mo) ⟨hx, hb, hml, hown, hts⟩ (c_M_visible l dC dI cI cA cL q_mo q_mlb_ q_mcl_ q_mus_ q_mwr_ q_mdk_ q_mcp_ y2 mar mfu mLb mCl mUs mWr mDk mCp y0 y1 (1 : Int32) x7 g8) (jv_cwV hts wa_234 wa_194 wa_235 wa_236 wa_237 rfl rfl yd_M_visible ⟨Nat.le_of_ble_eq_true rfl, Nat.le_of_ble_eq_true rfl⟩) (jv_preV hK hPc 0 rfl rfl) rfl rfl hl.1 rfl (lv_room (Nat.le_of_ble_eq_true rfl)) d_M_list_41 ⟨Nat.zero_le _, Nat.zero_le _⟩) ?_
        refine lv_if_ne (tgt := 51) hx hb d_M_list_44 (by decide) (fun hc => ?_) (fun hc => ?_)
        · have hf := jv_if hf hc
          refine lv_iconst (v := (0 : Int32)) hx hb d_M_list_51 (by decide) ?_
          refine va_put (D := (dC, dI)) (ci := kModel) (v := .int (0 : Int32)) (ty := .int) (C := R_Model) (T := T_Model) (N := 9) hx hb hts (fun w h => List.mem_cons_of_mem _ (in_Model w h)) ty_Model tyok_Model nm_Model hown hK hP hD hS 0 rfl rfl 0 (by decide) (jv_w hts wa_200) (fun _ h9 => h9) rfl (by decide +kernel) rfl rfl (Nat.le_of_ble_eq_true rfl) d_M_list_52 (fun H locs hP hD hS => ?_)
          have hP : va_P (dC, dI) vwCl (w_model cI q_mo q_mlb_ q_mcl_ q_mus_ q_mwr_ q_mdk_ q_mcp_ (0 : Int32) mar mfu mLb mCl mUs mWr mDk mCp) H := hP
          have hD : va_D A (w_model cI q_mo q_mlb_ q_mcl_ q_mus_ q_mwr_ q_mdk_ q_mcp_ (0 : Int32) mar mfu mLb mCl mUs mWr mDk mCp) := hD
          refine lv_iconst (v := (0 : Int32)) hx hb d_M_list_55 (by decide) ?_
          refine lv_istore_n (lv' := [(3, .int (0 : Int32)), (0, .ref q_mo), (1, .int y0), (2, .int y1)]) hx hb d_M_list_56 rfl hl (by decide) rfl (fun ls hl => ?_)
          refine lv_iconst (v := (0 : Int32)) hx hb d_M_list_57 (by decide) ?_
          refine lv_istore (lv' := [(4, .int (0 : Int32)), (3, .int (0 : Int32)), (0, .ref q_mo), (1, .int y0), (2, .int y1)]) hx hb d_M_list_58 hl (by decide) rfl (fun ls hl => ?_)
          exact l_M_list_60 (y0 := y0) (y1 := y1) (y2 := (0 : Int32)) cx hK hA 300 ((0 : Int32), (0 : Int32)) _ _ _ (lv_sub hl [2, 3, 4, 1, 0] rfl) hP hD hS hf
        · have hf := jv_it hf hc
          refine lv_iconst (v := (3 : Int32)) hx hb d_M_list_47 (by decide) ?_
          refine lv_goto (tgt := 52) hx hb d_M_list_48 (by decide) ?_
          refine va_put (D := (dC, dI)) (ci := kModel) (v := .int (3 : Int32)) (ty := .int) (C := R_Model) (T := T_Model) (N := 9) hx hb hts (fun w h => List.mem_cons_of_mem _ (in_Model w h)) ty_Model tyok_Model nm_Model hown hK hP hD hS 0 rfl rfl 0 (by decide) (jv_w hts wa_200) (fun _ h9 => h9) rfl (by decide +kernel) rfl rfl (Nat.le_of_ble_eq_true rfl) d_M_list_52 (fun H locs hP hD hS => ?_)
          have hP : va_P (dC, dI) vwCl (w_model cI q_mo q_mlb_ q_mcl_ q_mus_ q_mwr_ q_mdk_ q_mcp_ (3 : Int32) mar mfu mLb mCl mUs mWr mDk mCp) H := hP
          have hD : va_D A (w_model cI q_mo q_mlb_ q_mcl_ q_mus_ q_mwr_ q_mdk_ q_mcp_ (3 : Int32) mar mfu mLb mCl mUs mWr mDk mCp) := hD
          refine lv_iconst (v := (0 : Int32)) hx hb d_M_list_55 (by decide) ?_
          refine lv_istore_n (lv' := [(3, .int (0 : Int32)), (0, .ref q_mo), (1, .int y0), (2, .int y1)]) hx hb d_M_list_56 rfl hl (by decide) rfl (fun ls hl => ?_)
          refine lv_iconst (v := (0 : Int32)) hx hb d_M_list_57 (by decide) ?_
          refine lv_istore (lv' := [(4, .int (0 : Int32)), (3, .int (0 : Int32)), (0, .ref q_mo), (1, .int y0), (2, .int y1)]) hx hb d_M_list_58 hl (by decide) rfl (fun ls hl => ?_)
          exact l_M_list_60 (y0 := y0) (y1 := y1) (y2 := (3 : Int32)) cx hK hA 300 ((0 : Int32), (0 : Int32)) _ _ _ (lv_sub hl [2, 3, 4, 1, 0] rfl) hP hD hS hf
      · have hf := jv_it hf hc
        refine lv_iconst (v := (2 : Int32)) hx hb d_M_list_33 (by decide) ?_
        refine lv_goto (tgt := 52) hx hb d_M_list_34 (by decide) ?_
        refine va_put (D := (dC, dI)) (ci := kModel) (v := .int (2 : Int32)) (ty := .int) (C := R_Model) (T := T_Model) (N := 9) hx hb hts (fun w h => List.mem_cons_of_mem _ (in_Model w h)) ty_Model tyok_Model nm_Model hown hK hP hD hS 0 rfl rfl 0 (by decide) (jv_w hts wa_200) (fun _ h9 => h9) rfl (by decide +kernel) rfl rfl (Nat.le_of_ble_eq_true rfl) d_M_list_52 (fun H locs hP hD hS => ?_)
        have hP : va_P (dC, dI) vwCl (w_model cI q_mo q_mlb_ q_mcl_ q_mus_ q_mwr_ q_mdk_ q_mcp_ (2 : Int32) mar mfu mLb mCl mUs mWr mDk mCp) H := hP
        have hD : va_D A (w_model cI q_mo q_mlb_ q_mcl_ q_mus_ q_mwr_ q_mdk_ q_mcp_ (2 : Int32) mar mfu mLb mCl mUs mWr mDk mCp) := hD
        refine lv_iconst (v := (0 : Int32)) hx hb d_M_list_55 (by decide) ?_
        refine lv_istore_n (lv' := [(3, .int (0 : Int32)), (0, .ref q_mo), (1, .int y0), (2, .int y1)]) hx hb d_M_list_56 rfl hl (by decide) rfl (fun ls hl => ?_)
        refine lv_iconst (v := (0 : Int32)) hx hb d_M_list_57 (by decide) ?_
        refine lv_istore (lv' := [(4, .int (0 : Int32)), (3, .int (0 : Int32)), (0, .ref q_mo), (1, .int y0), (2, .int y1)]) hx hb d_M_list_58 hl (by decide) rfl (fun ls hl => ?_)
        exact l_M_list_60 (y0 := y0) (y1 := y1) (y2 := (2 : Int32)) cx hK hA 300 ((0 : Int32), (0 : Int32)) _ _ _ (lv_sub hl [2, 3, 4, 1, 0] rfl) hP hD hS hf
    · have hf := jv_it hf hc
      refine lv_aload_n hx hb d_M_list_15 rfl (lv_at hl 0 rfl) ?_
      refine lv_iconst (v := (1 : Int32)) hx hb d_M_list_16 (by decide) ?_
      refine va_put (D := (dC, dI)) (ci := kModel) (v := .int (1 : Int32)) (ty := .int) (C := R_Model) (T := T_Model) (N := 9) hx hb hts (fun w h => List.mem_cons_of_mem _ (in_Model w h)) ty_Model tyok_Model nm_Model hown hK hP hD hS 0 rfl rfl 0 (by decide) (jv_w hts wa_200) (fun _ h9 => h9) rfl (by decide +kernel) rfl rfl (Nat.le_of_ble_eq_true rfl) d_M_list_17 (fun H locs hP hD hS => ?_)
      have hP : va_P (dC, dI) vwCl (w_model cI q_mo q_mlb_ q_mcl_ q_mus_ q_mwr_ q_mdk_ q_mcp_ (1 : Int32) mar mfu mLb mCl mUs mWr mDk mCp) H := hP
      have hD : va_D A (w_model cI q_mo q_mlb_ q_mcl_ q_mus_ q_mwr_ q_mdk_ q_mcp_ (1 : Int32) mar mfu mLb mCl mUs mWr mDk mCp) := hD
      refine lv_iconst (v := (0 : Int32)) hx hb d_M_list_20 (by decide) ?_
      obtain rfl := Option.some.inj hf
      exact W.iret hx hb hr (fun t ht hW => ⟨rfl, by rw [ht]; exact hP, hD, hS.F ht⟩) hS.2.2 d_M_list_21
def f_M_list (mar : Int32) (mLb : Nat → Int32) (mUs : Nat → Int32) (mDk : Nat → Int32) (a0 : Int32) (a1 : Int32) (mth : Int32) : Option (Int32 × Int32) := f_M_list_0 mar mLb mUs mDk a0 a1 mth
set_option maxHeartbeats 4000000 in
set_option maxRecDepth 100000 in
theorem c_M_list (l : Launch) (dC : Nat → ClassId) (dI : Nat → Nat → Nat) (cI cA cL : ClassId) (q_mo q_mlb_ q_mcl_ q_mus_ q_mwr_ q_mdk_ q_mcp_ : Nat) (mth : Int32) (mar : Int32) (mfu : Int32) (mLb : Nat → Int32) (mCl : Nat → Int32) (mUs : Nat → Int32) (mWr : Nat → Int32) (mDk : Nat → Int32) (mCp : Nat → Int32) (a0 : Int32) (a1 : Int32) (sz : Nat) (r : Int32 × Int32) (hf : f_M_list mar mLb mUs mDk a0 a1 mth = some r) : Met l y_M_list ws_M_list rm_M_list (jv_Pw [.ref q_mo, .int a0, .int a1] (dC, dI) (jv_ty cI cA cL) (w_model cI q_mo q_mlb_ q_mcl_ q_mus_ q_mwr_ q_mdk_ q_mcp_ mth mar mfu mLb mCl mUs mWr mDk mCp) sz) (jv_Qi r.1 (dC, dI) (w_model cI q_mo q_mlb_ q_mcl_ q_mus_ q_mwr_ q_mdk_ q_mcp_ r.2 mar mfu mLb mCl mUs mWr mDk mCp) (va_A (w_model cI q_mo q_mlb_ q_mcl_ q_mus_ q_mwr_ q_mdk_ q_mcp_ mth mar mfu mLb mCl mUs mWr mDk mCp) sz)) 0 0 (va_A (w_model cI q_mo q_mlb_ q_mcl_ q_mus_ q_mwr_ q_mdk_ q_mcp_ mth mar mfu mLb mCl mUs mWr mDk mCp) sz) := by
  refine Met.ofW (cc := cc_M_list) (maxL := 7) (ret := (some .int)) (by decide) rfl ?_
  intro p e s m args below meth c s₁ B hml hv
  obtain ⟨rfl, hsz, hP, hK, hD0⟩ := hv
  have cx : jv_cx p s m _ meth c cc_M_list 7 R_Model (some .int) ws_M_list := ⟨B.exec, B.bytes, hml, findClass_of_methodNamed B.named, atoms_spec (ws := ws_M_list) B.pre, B.returns, B.notSynchronized⟩
  subst hsz
  have hD := hD0.self (sz := s.heap.size)
  generalize hAe : va_A (w_model cI q_mo q_mlb_ q_mcl_ q_mus_ q_mwr_ q_mdk_ q_mcp_ mth mar mfu mLb mCl mUs mWr mDk mCp) s.heap.size = A at hD ⊢
  have hA : ∀ q : Nat, s.heap.size ≤ q → A q := fun q h => by rw [← hAe]; exact Or.inr h
  have hS : va_S A s.heap s.heap [] := va_S.rf
  have hl := lv_entry ([.ref q_mo, .int a0, .int a1]) (n := 7) (Nat.le_of_ble_eq_true rfl)
  rw [lg_entry_eq]
  generalize (lg_sl ([.ref q_mo, .int a0, .int a1]) ++ List.replicate (7 - (lg_sl ([.ref q_mo, .int a0, .int a1])).length) Slot.unset).toArray = ls at hl ⊢
  have hl : lv_has ls 7 [(0, .ref q_mo), (1, .int a0), (2, .int a1)] := hl
  exact b_M_list_0 (y0 := a0) (y1 := a1) (y2 := mth) cx hK hA (lv_sub hl [0, 1, 2] rfl) hP hD hS hf
theorem d_M_look_0 : decode cc_M_look 0 = .ok (.aload_n 0, 1) := by decide +kernel
theorem d_M_look_1 : decode cc_M_look 1 = .ok (.aload_n 0, 1) := by decide +kernel
theorem d_M_look_2 : decode cc_M_look 2 = .ok (.iload_n 1, 1) := by decide +kernel
theorem d_M_look_3 : decode cc_M_look 3 = .ok (.invokevirtual 53, 3) := by decide +kernel
theorem d_M_look_6 : decode cc_M_look 6 = .ok (.ifCond .eq 14, 3) := by decide +kernel
theorem d_M_look_20 : decode cc_M_look 20 = .ok (.iconst 1, 1) := by decide +kernel
theorem d_M_look_21 : decode cc_M_look 21 = .ok (.putfield 32, 3) := by decide +kernel
theorem d_M_look_24 : decode cc_M_look 24 = .ok (.iconst 0, 1) := by decide +kernel
theorem d_M_look_25 : decode cc_M_look 25 = .ok (.istore_n 3, 1) := by decide +kernel
theorem d_M_look_26 : decode cc_M_look 26 = .ok (.iconst 0, 1) := by decide +kernel
theorem d_M_look_27 : decode cc_M_look 27 = .ok (.istore 4, 2) := by decide +kernel
theorem d_M_look_9 : decode cc_M_look 9 = .ok (.iload_n 2, 1) := by decide +kernel
theorem d_M_look_10 : decode cc_M_look 10 = .ok (.invokestatic 81, 3) := by decide +kernel
theorem d_M_look_13 : decode cc_M_look 13 = .ok (.ifCond .eq 7, 3) := by decide +kernel
theorem d_M_look_16 : decode cc_M_look 16 = .ok (.iconst 0, 1) := by decide +kernel
theorem d_M_look_17 : decode cc_M_look 17 = .ok (.goto 4, 3) := by decide +kernel
theorem d_M_look_29 : decode cc_M_look 29 = .ok (.iload 4, 2) := by decide +kernel
theorem d_M_look_31 : decode cc_M_look 31 = .ok (.aload_n 0, 1) := by decide +kernel
theorem d_M_look_32 : decode cc_M_look 32 = .ok (.getfield 47, 3) := by decide +kernel
theorem d_M_look_35 : decode cc_M_look 35 = .ok (.if_icmp .ge 45, 3) := by decide +kernel
theorem d_M_look_80 : decode cc_M_look 80 = .ok (.iload_n 3, 1) := by decide +kernel
theorem d_M_look_81 : decode cc_M_look 81 = .ok (.ireturn, 1) := by decide +kernel
theorem d_M_look_38 : decode cc_M_look 38 = .ok (.aload_n 0, 1) := by decide +kernel
theorem d_M_look_39 : decode cc_M_look 39 = .ok (.getfield 32, 3) := by decide +kernel
theorem d_M_look_42 : decode cc_M_look 42 = .ok (.ifCond .ne 38, 3) := by decide +kernel
theorem d_M_look_45 : decode cc_M_look 45 = .ok (.aload_n 0, 1) := by decide +kernel
theorem d_M_look_46 : decode cc_M_look 46 = .ok (.iload_n 1, 1) := by decide +kernel
theorem d_M_look_47 : decode cc_M_look 47 = .ok (.iload 4, 2) := by decide +kernel
theorem d_M_look_49 : decode cc_M_look 49 = .ok (.invokevirtual 71, 3) := by decide +kernel
theorem d_M_look_52 : decode cc_M_look 52 = .ok (.ifCond .eq 20, 3) := by decide +kernel
theorem d_M_look_72 : decode cc_M_look 72 = .ok (.iload_n 3, 1) := by decide +kernel
theorem d_M_look_73 : decode cc_M_look 73 = .ok (.istore_n 3, 1) := by decide +kernel
theorem d_M_look_74 : decode cc_M_look 74 = .ok (.iinc 4 1, 3) := by decide +kernel
theorem d_M_look_77 : decode cc_M_look 77 = .ok (.goto (-48), 3) := by decide +kernel
theorem d_M_look_55 : decode cc_M_look 55 = .ok (.iload_n 3, 1) := by decide +kernel
theorem d_M_look_56 : decode cc_M_look 56 = .ok (.aload_n 0, 1) := by decide +kernel
theorem d_M_look_57 : decode cc_M_look 57 = .ok (.iload 4, 2) := by decide +kernel
theorem d_M_look_59 : decode cc_M_look 59 = .ok (.iload_n 2, 1) := by decide +kernel
theorem d_M_look_60 : decode cc_M_look 60 = .ok (.invokevirtual 74, 3) := by decide +kernel
theorem d_M_look_63 : decode cc_M_look 63 = .ok (.iconst 2, 1) := by decide +kernel
theorem d_M_look_64 : decode cc_M_look 64 = .ok (.iload 4, 2) := by decide +kernel
theorem d_M_look_66 : decode cc_M_look 66 = .ok (.imul, 1) := by decide +kernel
theorem d_M_look_67 : decode cc_M_look 67 = .ok (.ishl, 1) := by decide +kernel
theorem d_M_look_68 : decode cc_M_look 68 = .ok (.ior, 1) := by decide +kernel
theorem d_M_look_69 : decode cc_M_look 69 = .ok (.goto 4, 3) := by decide +kernel
def f_M_look_29 (mar : Int32) (mLb : Nat → Int32) (mUs : Nat → Int32) (mDk : Nat → Int32) (y0 : Int32) (y1 : Int32) (y2 : Int32) (k29 : (Int32 × Int32) → Option (Int32 × Int32)) (a : Int32 × Int32) : Option (Int32 × Int32) :=
  if mar ≤ a.2 then (some (a.1, y2)) else (if y2 = 0 then ((f_M_sees mLb y0 a.2).bind fun x5 => if x5 = 0 then (k29 (a.1, a.2 + (1 : Int32))) else ((f_M_kind mDk a.2 y1).bind fun x7 => k29 (a.1 ||| (x7 <<< (((2 : Int32) * a.2) &&& 31)), a.2 + (1 : Int32)))) else (some (a.1, y2)))
set_option maxHeartbeats 4000000 in
set_option maxRecDepth 100000 in
theorem b_M_look_29 {l : Launch} {dC : Nat → ClassId} {dI : Nat → Nat → Nat} {cI cA cL : ClassId} {q_mo q_mlb_ q_mcl_ q_mus_ q_mwr_ q_mdk_ q_mcp_ : Nat} {mar : Int32} {mfu : Int32} {mLb : Nat → Int32} {mCl : Nat → Int32} {mUs : Nat → Int32} {mWr : Nat → Int32} {mDk : Nat → Int32} {mCp : Nat → Int32} {p : Program} {e : Env} {s : State} {m : MethodId} {args : Array Value} {below : List Frame} {meth : Method} {c : Code} (cx : jv_cx p s m args meth c cc_M_look 5 R_Model (some .int) ws_M_look) (hK : va_K (dC, dI) vwCl (jv_ty cI cA cL) s) {A : Nat → Prop} (hA : ∀ q : Nat, s.heap.size ≤ q → A q) {r : Int32 × Int32} {y0 : Int32} {y1 : Int32} {y2 : Int32} {k29 : (Int32 × Int32) → Option (Int32 × Int32)} (hk29 : ∀ (a : Int32 × Int32) (ls : Array Slot) (H : Heap) (locs : List Loc), lv_has ls 5 [(0, .ref q_mo), (1, .int y0), (2, .int y1), (3, .int a.1), (4, .int a.2)] → va_P (dC, dI) vwCl (w_model cI q_mo q_mlb_ q_mcl_ q_mus_ q_mwr_ q_mdk_ q_mcp_ y2 mar mfu mLb mCl mUs mWr mDk mCp) H → va_D A (w_model cI q_mo q_mlb_ q_mcl_ q_mus_ q_mwr_ q_mdk_ q_mcp_ y2 mar mfu mLb mCl mUs mWr mDk mCp) → va_S A s.heap H locs → k29 a = some r → W p l e rm_M_look s m args below meth c H locs 0 0 (MQ below (jv_Qi r.1 (dC, dI) (w_model cI q_mo q_mlb_ q_mcl_ q_mus_ q_mwr_ q_mdk_ q_mcp_ r.2 mar mfu mLb mCl mUs mWr mDk mCp) A) args s 0 0 A) (F0 m 29 ls [])) {a : Int32 × Int32} {ls : Array Slot} (hl : lv_has ls 5 [(0, .ref q_mo), (1, .int y0), (2, .int y1), (3, .int a.1), (4, .int a.2)]) {H : Heap} {locs : List Loc} (hP : va_P (dC, dI) vwCl (w_model cI q_mo q_mlb_ q_mcl_ q_mus_ q_mwr_ q_mdk_ q_mcp_ y2 mar mfu mLb mCl mUs mWr mDk mCp) H) (hD : va_D A (w_model cI q_mo q_mlb_ q_mcl_ q_mus_ q_mwr_ q_mdk_ q_mcp_ y2 mar mfu mLb mCl mUs mWr mDk mCp)) (hS : va_S A s.heap H locs) (hf : f_M_look_29 mar mLb mUs mDk y0 y1 y2 k29 a = some r) : W p l e rm_M_look s m args below meth c H locs 0 0 (MQ below (jv_Qi r.1 (dC, dI) (w_model cI q_mo q_mlb_ q_mcl_ q_mus_ q_mwr_ q_mdk_ q_mcp_ r.2 mar mfu mLb mCl mUs mWr mDk mCp) A) args s 0 0 A) (F0 m 29 ls []) := by
  unfold f_M_look_29 at hf
  obtain ⟨hx, hb, hml, hown, hts, hr, hlocks⟩ := id cx
  refine lv_iload hx hb d_M_look_29 (lv_at hl 4 rfl) ?_
  refine lv_aload_n hx hb d_M_look_31 rfl (lv_at hl 0 rfl) ?_
  refine va_get (D := (dC, dI)) (ci := kModel) (v := .int mar) (C := R_Model) (T := T_Model) (N := 9) hx hb hts (fun w h => List.mem_cons_of_mem _ (in_Model w h)) hown hK hP 0 rfl rfl 1 (by decide) (jv_w hts wa_201) (fun _ h9 => h9) rfl d_M_look_32 ?_
  refine lv_icmp_ge (tgt := 80) hx hb d_M_look_35 (by decide) (fun hc => ?_) (fun hc => ?_)
  · have hf := jv_it hf hc
    refine lv_iload_n hx hb d_M_look_80 rfl (lv_at hl 3 rfl) ?_
    obtain rfl := Option.some.inj hf
    exact W.iret hx hb hr (fun t ht hW => ⟨rfl, by rw [ht]; exact hP, hD, hS.F ht⟩) hS.2.2 d_M_look_81
  · have hf := jv_if hf hc
    refine lv_aload_n hx hb d_M_look_38 rfl (lv_at hl 0 rfl) ?_
    refine va_get (D := (dC, dI)) (ci := kModel) (v := .int y2) (C := R_Model) (T := T_Model) (N := 9) hx hb hts (fun w h => List.mem_cons_of_mem _ (in_Model w h)) hown hK hP 0 rfl rfl 0 (by decide) (jv_w hts wa_200) (fun _ h9 => h9) rfl d_M_look_39 ?_
    refine lv_if_ne (tgt := 80) hx hb d_M_look_42 (by decide) (fun hc => ?_) (fun hc => ?_)
    · have hf := jv_if hf hc
      refine lv_iload_n hx hb d_M_look_80 rfl (lv_at hl 3 rfl) ?_
      obtain rfl := Option.some.inj hf
      exact W.iret hx hb hr (fun t ht hW => ⟨rfl, by rw [ht]; exact hP, hD, hS.F ht⟩) hS.2.2 d_M_look_81
    · have hf := jv_it hf hc
      refine lv_aload_n hx hb d_M_look_45 rfl (lv_at hl 0 rfl) ?_
      refine lv_iload_n hx hb d_M_look_46 rfl (lv_at hl 1 rfl) ?_
      refine lv_iload hx hb d_M_look_47 (lv_at hl 4 rfl) ?_
      obtain ⟨x5, g6, hf⟩ := jv_ob hf
      have hPc := hP.sub (ws' := (w_model cI q_mo q_mlb_ q_mcl_ q_mus_ q_mwr_ q_mdk_ q_mcp_ y2 mar mfu mLb mCl mUs mWr mDk mCp)) [0, 1, 2, 3, 4, 5, 6] rfl
      refine jv_cs (W.runV (As := [.int y0, .int a.2]) (rest := []) (b := q_mo) ⟨hx, hb, hml, hown, hts⟩ (c_M_sees l dC dI cI cA cL q_mo q_mlb_ q_mcl_ q_mus_ q_mwr_ q_mdk_ q_mcp_ y2 mar mfu mLb mCl mUs mWr mDk mCp y0 a.2 x5 g6) (jv_cwV hts wa_219 wa_194 wa_220 wa_221 wa_222 rfl rfl yd_M_sees ⟨Nat.le_of_ble_eq_true rfl, Nat.le_of_ble_eq_true rfl⟩) (jv_preV hK hPc 0 rfl rfl) rfl rfl hl.1 rfl (lv_room (Nat.le_of_ble_eq_true rfl)) d_M_look_49 ⟨Nat.zero_le _, Nat.zero_le _⟩) ?_
      refine lv_if_eq (tgt := 72) hx hb d_M_look_52 (by decide) (fun hc => ?_) (fun hc => ?_)
      · have hf := jv_it hf hc
        refine lv_iload_n hx hb d_M_look_72 rfl (lv_at hl 3 rfl) ?_
        refine lv_istore_n (lv' := [(3, .int a.1), (0, .ref q_mo), (1, .int y0), (2, .int y1), (4, .int a.2)]) hx hb d_M_look_73 rfl hl (by decide) rfl (fun ls hl => ?_)
        refine lv_iinc (k := 4) (v := a.2 + (1 : Int32)) (lv' := [(4, .int (a.2 + (1 : Int32))), (3, .int a.1), (0, .ref q_mo), (1, .int y0), (2, .int y1)]) hx hb d_M_look_74 hl rfl (jv_inc _) (by decide) rfl (fun ls hl => ?_)
        refine lv_goto (tgt := 29) hx hb d_M_look_77 (by decide) ?_
        exact hk29 (a.1, a.2 + (1 : Int32)) _ _ _ (lv_sub hl [2, 3, 4, 1, 0] rfl) hP hD hS hf
      · have hf := jv_if hf hc
        refine lv_iload_n hx hb d_M_look_55 rfl (lv_at hl 3 rfl) ?_
        refine lv_aload_n hx hb d_M_look_56 rfl (lv_at hl 0 rfl) ?_
        refine lv_iload hx hb d_M_look_57 (lv_at hl 4 rfl) ?_
        refine lv_iload_n hx hb d_M_look_59 rfl (lv_at hl 2 rfl) ?_
        obtain ⟨x7, g8, hf⟩ := jv_ob hf
        have hPc := hP.sub (ws' := (w_model cI q_mo q_mlb_ q_mcl_ q_mus_ q_mwr_ q_mdk_ q_mcp_ y2 mar mfu mLb mCl mUs mWr mDk mCp)) [0, 1, 2, 3, 4, 5, 6] rfl
        refine jv_cs (W.runV (As := [.int a.2, .int y1]) (rest := [.int a.1]) (b := q_mo) ⟨hx, hb, hml, hown, hts⟩ (c_M_kind l dC dI cI cA cL q_mo q_mlb_ q_mcl_ q_mus_ q_mwr_ q_mdk_ q_mcp_ y2 mar mfu mLb mCl mUs mWr mDk mCp a.2 y1 x7 g8) (jv_cwV hts wa_223 wa_194 wa_224 wa_225 wa_226 rfl rfl yd_M_kind ⟨Nat.le_of_ble_eq_true rfl, Nat.le_of_ble_eq_true rfl⟩) (jv_preV hK hPc 0 rfl rfl) rfl rfl hl.1 rfl (lv_room (Nat.le_of_ble_eq_true rfl)) d_M_look_60 ⟨Nat.zero_le _, Nat.zero_le _⟩) ?_
        refine lv_iconst (v := (2 : Int32)) hx hb d_M_look_63 (by decide) ?_
        refine lv_iload hx hb d_M_look_64 (lv_at hl 4 rfl) ?_
        refine lv_imul hx hb d_M_look_66 ?_
        refine lv_ishl hx hb d_M_look_67 ?_
        refine lv_ior hx hb d_M_look_68 ?_
        refine lv_goto (tgt := 73) hx hb d_M_look_69 (by decide) ?_
        refine lv_istore_n (lv' := [(3, .int (a.1 ||| (x7 <<< (((2 : Int32) * a.2) &&& 31)))), (0, .ref q_mo), (1, .int y0), (2, .int y1), (4, .int a.2)]) hx hb d_M_look_73 rfl hl (by decide) rfl (fun ls hl => ?_)
        refine lv_iinc (k := 4) (v := a.2 + (1 : Int32)) (lv' := [(4, .int (a.2 + (1 : Int32))), (3, .int (a.1 ||| (x7 <<< (((2 : Int32) * a.2) &&& 31)))), (0, .ref q_mo), (1, .int y0), (2, .int y1)]) hx hb d_M_look_74 hl rfl (jv_inc _) (by decide) rfl (fun ls hl => ?_)
        refine lv_goto (tgt := 29) hx hb d_M_look_77 (by decide) ?_
        exact hk29 (a.1 ||| (x7 <<< (((2 : Int32) * a.2) &&& 31)), a.2 + (1 : Int32)) _ _ _ (lv_sub hl [2, 3, 4, 1, 0] rfl) hP hD hS hf
set_option maxHeartbeats 4000000 in
set_option maxRecDepth 100000 in
theorem l_M_look_29 {l : Launch} {dC : Nat → ClassId} {dI : Nat → Nat → Nat} {cI cA cL : ClassId} {q_mo q_mlb_ q_mcl_ q_mus_ q_mwr_ q_mdk_ q_mcp_ : Nat} {mar : Int32} {mfu : Int32} {mLb : Nat → Int32} {mCl : Nat → Int32} {mUs : Nat → Int32} {mWr : Nat → Int32} {mDk : Nat → Int32} {mCp : Nat → Int32} {p : Program} {e : Env} {s : State} {m : MethodId} {args : Array Value} {below : List Frame} {meth : Method} {c : Code} (cx : jv_cx p s m args meth c cc_M_look 5 R_Model (some .int) ws_M_look) (hK : va_K (dC, dI) vwCl (jv_ty cI cA cL) s) {A : Nat → Prop} (hA : ∀ q : Nat, s.heap.size ≤ q → A q) {r : Int32 × Int32} {y0 : Int32} {y1 : Int32} {y2 : Int32} : ∀ n : Nat, ∀ (a : Int32 × Int32) (ls : Array Slot) (H : Heap) (locs : List Loc), lv_has ls 5 [(0, .ref q_mo), (1, .int y0), (2, .int y1), (3, .int a.1), (4, .int a.2)] → va_P (dC, dI) vwCl (w_model cI q_mo q_mlb_ q_mcl_ q_mus_ q_mwr_ q_mdk_ q_mcp_ y2 mar mfu mLb mCl mUs mWr mDk mCp) H → va_D A (w_model cI q_mo q_mlb_ q_mcl_ q_mus_ q_mwr_ q_mdk_ q_mcp_ y2 mar mfu mLb mCl mUs mWr mDk mCp) → va_S A s.heap H locs → jv_fx (f_M_look_29 mar mLb mUs mDk y0 y1 y2) n a = some r → W p l e rm_M_look s m args below meth c H locs 0 0 (MQ below (jv_Qi r.1 (dC, dI) (w_model cI q_mo q_mlb_ q_mcl_ q_mus_ q_mwr_ q_mdk_ q_mcp_ r.2 mar mfu mLb mCl mUs mWr mDk mCp) A) args s 0 0 A) (F0 m 29 ls []) := by
  intro n
  induction n with
  | zero => intro a ls H locs hl hP hD hS hf; exact jv_no hf
  | succ n ih => intro a ls H locs hl hP hD hS hf; exact b_M_look_29 cx hK hA ih hl hP hD hS hf
def f_M_look_0 (mar : Int32) (mLb : Nat → Int32) (mUs : Nat → Int32) (mDk : Nat → Int32) (y0 : Int32) (y1 : Int32) (y2 : Int32) : Option (Int32 × Int32) :=
  (f_M_isSession mUs y0).bind fun x1 => if x1 = 0 then (jv_fx (f_M_look_29 mar mLb mUs mDk y0 y1 (1 : Int32)) 300 ((0 : Int32), (0 : Int32))) else ((f_M_isPath y1).bind fun x3 => if x3 = 0 then (jv_fx (f_M_look_29 mar mLb mUs mDk y0 y1 (1 : Int32)) 300 ((0 : Int32), (0 : Int32))) else (jv_fx (f_M_look_29 mar mLb mUs mDk y0 y1 (0 : Int32)) 300 ((0 : Int32), (0 : Int32))))
set_option maxHeartbeats 4000000 in
set_option maxRecDepth 100000 in
theorem b_M_look_0 {l : Launch} {dC : Nat → ClassId} {dI : Nat → Nat → Nat} {cI cA cL : ClassId} {q_mo q_mlb_ q_mcl_ q_mus_ q_mwr_ q_mdk_ q_mcp_ : Nat} {mar : Int32} {mfu : Int32} {mLb : Nat → Int32} {mCl : Nat → Int32} {mUs : Nat → Int32} {mWr : Nat → Int32} {mDk : Nat → Int32} {mCp : Nat → Int32} {p : Program} {e : Env} {s : State} {m : MethodId} {args : Array Value} {below : List Frame} {meth : Method} {c : Code} (cx : jv_cx p s m args meth c cc_M_look 5 R_Model (some .int) ws_M_look) (hK : va_K (dC, dI) vwCl (jv_ty cI cA cL) s) {A : Nat → Prop} (hA : ∀ q : Nat, s.heap.size ≤ q → A q) {r : Int32 × Int32} {y0 : Int32} {y1 : Int32} {y2 : Int32} {ls : Array Slot} (hl : lv_has ls 5 [(0, .ref q_mo), (1, .int y0), (2, .int y1)]) {H : Heap} {locs : List Loc} (hP : va_P (dC, dI) vwCl (w_model cI q_mo q_mlb_ q_mcl_ q_mus_ q_mwr_ q_mdk_ q_mcp_ y2 mar mfu mLb mCl mUs mWr mDk mCp) H) (hD : va_D A (w_model cI q_mo q_mlb_ q_mcl_ q_mus_ q_mwr_ q_mdk_ q_mcp_ y2 mar mfu mLb mCl mUs mWr mDk mCp)) (hS : va_S A s.heap H locs) (hf : f_M_look_0 mar mLb mUs mDk y0 y1 y2 = some r) : W p l e rm_M_look s m args below meth c H locs 0 0 (MQ below (jv_Qi r.1 (dC, dI) (w_model cI q_mo q_mlb_ q_mcl_ q_mus_ q_mwr_ q_mdk_ q_mcp_ r.2 mar mfu mLb mCl mUs mWr mDk mCp) A) args s 0 0 A) (F0 m 0 ls []) := by
  unfold f_M_look_0 at hf
  obtain ⟨hx, hb, hml, hown, hts, hr, hlocks⟩ := id cx
  refine lv_aload_n hx hb d_M_look_0 rfl (lv_at hl 0 rfl) ?_
  refine lv_aload_n hx hb d_M_look_1 rfl (lv_at hl 0 rfl) ?_
  refine lv_iload_n hx hb d_M_look_2 rfl (lv_at hl 1 rfl) ?_
  obtain ⟨x1, g2, hf⟩ := jv_ob hf
  have hPc := hP.sub (ws' := (w_model cI q_mo q_mlb_ q_mcl_ q_mus_ q_mwr_ q_mdk_ q_mcp_ y2 mar mfu mLb mCl mUs mWr mDk mCp)) [0, 1, 2, 3, 4, 5, 6] rfl
  refine jv_cs (W.runV (As := [.int y0]) (rest := [.ref q_mo]) (b := q_mo) ⟨hx, hb, hml, hown, hts⟩ (c_M_isSession l dC dI cI cA cL q_mo q_mlb_ q_mcl_ q_mus_ q_mwr_ q_mdk_ q_mcp_ y2 mar mfu mLb mCl mUs mWr mDk mCp y0 x1 g2) (jv_cwV hts wa_227 wa_194 wa_228 wa_229 wa_230 rfl rfl yd_M_isSession ⟨Nat.le_of_ble_eq_true rfl, Nat.le_of_ble_eq_true rfl⟩) (jv_preV hK hPc 0 rfl rfl) rfl rfl hl.1 rfl (lv_room (Nat.le_of_ble_eq_true rfl)) d_M_look_3 ⟨Nat.zero_le _, Nat.zero_le _⟩) ?_
  refine lv_if_eq (tgt := 20) hx hb d_M_look_6 (by decide) (fun hc => ?_) (fun hc => ?_)
  · have hf := jv_it hf hc
    refine lv_iconst (v := (1 : Int32)) hx hb d_M_look_20 (by decide) ?_
    refine va_put (D := (dC, dI)) (ci := kModel) (v := .int (1 : Int32)) (ty := .int) (C := R_Model) (T := T_Model) (N := 9) hx hb hts (fun w h => List.mem_cons_of_mem _ (in_Model w h)) ty_Model tyok_Model nm_Model hown hK hP hD hS 0 rfl rfl 0 (by decide) (jv_w hts wa_200) (fun _ h9 => h9) rfl (by decide +kernel) rfl rfl (Nat.le_of_ble_eq_true rfl) d_M_look_21 (fun H locs hP hD hS => ?_)
    have hP : va_P (dC, dI) vwCl (w_model cI q_mo q_mlb_ q_mcl_ q_mus_ q_mwr_ q_mdk_ q_mcp_ (1 : Int32) mar mfu mLb mCl mUs mWr mDk mCp) H := hP
    have hD : va_D A (w_model cI q_mo q_mlb_ q_mcl_ q_mus_ q_mwr_ q_mdk_ q_mcp_ (1 : Int32) mar mfu mLb mCl mUs mWr mDk mCp) := hD
    refine lv_iconst (v := (0 : Int32)) hx hb d_M_look_24 (by decide) ?_
    refine lv_istore_n (lv' := [(3, .int (0 : Int32)), (0, .ref q_mo), (1, .int y0), (2, .int y1)]) hx hb d_M_look_25 rfl hl (by decide) rfl (fun ls hl => ?_)
    refine lv_iconst (v := (0 : Int32)) hx hb d_M_look_26 (by decide) ?_
    refine lv_istore (lv' := [(4, .int (0 : Int32)), (3, .int (0 : Int32)), (0, .ref q_mo), (1, .int y0), (2, .int y1)]) hx hb d_M_look_27 hl (by decide) rfl (fun ls hl => ?_)
    exact l_M_look_29 (y0 := y0) (y1 := y1) (y2 := (1 : Int32)) cx hK hA 300 ((0 : Int32), (0 : Int32)) _ _ _ (lv_sub hl [2, 3, 4, 1, 0] rfl) hP hD hS hf
  · have hf := jv_if hf hc
    refine lv_iload_n hx hb d_M_look_9 rfl (lv_at hl 2 rfl) ?_
    obtain ⟨x3, g4, hf⟩ := jv_ob hf
    refine jv_cs (W.runS (As := [.int y1]) (rest := [.ref q_mo]) ⟨hx, hb, hml, hown, hts⟩ (c_M_isPath l y1 x3 g4) (jv_cwS hts wa_231 wa_194 wa_232 wa_233 rfl rfl yd_M_isPath ⟨Nat.le_of_ble_eq_true rfl, Nat.le_of_ble_eq_true rfl⟩) jv_pre0 rfl rfl hl.1 rfl (lv_room (Nat.le_of_ble_eq_true rfl)) d_M_look_10 ⟨Nat.zero_le _, Nat.zero_le _⟩) ?_
    refine lv_if_eq (tgt := 20) hx hb d_M_look_13 (by decide) (fun hc => ?_) (fun hc => ?_)
    · have hf := jv_it hf hc
      refine lv_iconst (v := (1 : Int32)) hx hb d_M_look_20 (by decide) ?_
      refine va_put (D := (dC, dI)) (ci := kModel) (v := .int (1 : Int32)) (ty := .int) (C := R_Model) (T := T_Model) (N := 9) hx hb hts (fun w h => List.mem_cons_of_mem _ (in_Model w h)) ty_Model tyok_Model nm_Model hown hK hP hD hS 0 rfl rfl 0 (by decide) (jv_w hts wa_200) (fun _ h9 => h9) rfl (by decide +kernel) rfl rfl (Nat.le_of_ble_eq_true rfl) d_M_look_21 (fun H locs hP hD hS => ?_)
      have hP : va_P (dC, dI) vwCl (w_model cI q_mo q_mlb_ q_mcl_ q_mus_ q_mwr_ q_mdk_ q_mcp_ (1 : Int32) mar mfu mLb mCl mUs mWr mDk mCp) H := hP
      have hD : va_D A (w_model cI q_mo q_mlb_ q_mcl_ q_mus_ q_mwr_ q_mdk_ q_mcp_ (1 : Int32) mar mfu mLb mCl mUs mWr mDk mCp) := hD
      refine lv_iconst (v := (0 : Int32)) hx hb d_M_look_24 (by decide) ?_
      refine lv_istore_n (lv' := [(3, .int (0 : Int32)), (0, .ref q_mo), (1, .int y0), (2, .int y1)]) hx hb d_M_look_25 rfl hl (by decide) rfl (fun ls hl => ?_)
      refine lv_iconst (v := (0 : Int32)) hx hb d_M_look_26 (by decide) ?_
      refine lv_istore (lv' := [(4, .int (0 : Int32)), (3, .int (0 : Int32)), (0, .ref q_mo), (1, .int y0), (2, .int y1)]) hx hb d_M_look_27 hl (by decide) rfl (fun ls hl => ?_)
      exact l_M_look_29 (y0 := y0) (y1 := y1) (y2 := (1 : Int32)) cx hK hA 300 ((0 : Int32), (0 : Int32)) _ _ _ (lv_sub hl [2, 3, 4, 1, 0] rfl) hP hD hS hf
    · have hf := jv_if hf hc
      refine lv_iconst (v := (0 : Int32)) hx hb d_M_look_16 (by decide) ?_
      refine lv_goto (tgt := 21) hx hb d_M_look_17 (by decide) ?_
      refine va_put (D := (dC, dI)) (ci := kModel) (v := .int (0 : Int32)) (ty := .int) (C := R_Model) (T := T_Model) (N := 9) hx hb hts (fun w h => List.mem_cons_of_mem _ (in_Model w h)) ty_Model tyok_Model nm_Model hown hK hP hD hS 0 rfl rfl 0 (by decide) (jv_w hts wa_200) (fun _ h9 => h9) rfl (by decide +kernel) rfl rfl (Nat.le_of_ble_eq_true rfl) d_M_look_21 (fun H locs hP hD hS => ?_)
      have hP : va_P (dC, dI) vwCl (w_model cI q_mo q_mlb_ q_mcl_ q_mus_ q_mwr_ q_mdk_ q_mcp_ (0 : Int32) mar mfu mLb mCl mUs mWr mDk mCp) H := hP
      have hD : va_D A (w_model cI q_mo q_mlb_ q_mcl_ q_mus_ q_mwr_ q_mdk_ q_mcp_ (0 : Int32) mar mfu mLb mCl mUs mWr mDk mCp) := hD
      refine lv_iconst (v := (0 : Int32)) hx hb d_M_look_24 (by decide) ?_
      refine lv_istore_n (lv' := [(3, .int (0 : Int32)), (0, .ref q_mo), (1, .int y0), (2, .int y1)]) hx hb d_M_look_25 rfl hl (by decide) rfl (fun ls hl => ?_)
      refine lv_iconst (v := (0 : Int32)) hx hb d_M_look_26 (by decide) ?_
      refine lv_istore (lv' := [(4, .int (0 : Int32)), (3, .int (0 : Int32)), (0, .ref q_mo), (1, .int y0), (2, .int y1)]) hx hb d_M_look_27 hl (by decide) rfl (fun ls hl => ?_)
      exact l_M_look_29 (y0 := y0) (y1 := y1) (y2 := (0 : Int32)) cx hK hA 300 ((0 : Int32), (0 : Int32)) _ _ _ (lv_sub hl [2, 3, 4, 1, 0] rfl) hP hD hS hf
def f_M_look (mar : Int32) (mLb : Nat → Int32) (mUs : Nat → Int32) (mDk : Nat → Int32) (a0 : Int32) (a1 : Int32) (mth : Int32) : Option (Int32 × Int32) := f_M_look_0 mar mLb mUs mDk a0 a1 mth
set_option maxHeartbeats 4000000 in
set_option maxRecDepth 100000 in
theorem c_M_look (l : Launch) (dC : Nat → ClassId) (dI : Nat → Nat → Nat) (cI cA cL : ClassId) (q_mo q_mlb_ q_mcl_ q_mus_ q_mwr_ q_mdk_ q_mcp_ : Nat) (mth : Int32) (mar : Int32) (mfu : Int32) (mLb : Nat → Int32) (mCl : Nat → Int32) (mUs : Nat → Int32) (mWr : Nat → Int32) (mDk : Nat → Int32) (mCp : Nat → Int32) (a0 : Int32) (a1 : Int32) (sz : Nat) (r : Int32 × Int32) (hf : f_M_look mar mLb mUs mDk a0 a1 mth = some r) : Met l y_M_look ws_M_look rm_M_look (jv_Pw [.ref q_mo, .int a0, .int a1] (dC, dI) (jv_ty cI cA cL) (w_model cI q_mo q_mlb_ q_mcl_ q_mus_ q_mwr_ q_mdk_ q_mcp_ mth mar mfu mLb mCl mUs mWr mDk mCp) sz) (jv_Qi r.1 (dC, dI) (w_model cI q_mo q_mlb_ q_mcl_ q_mus_ q_mwr_ q_mdk_ q_mcp_ r.2 mar mfu mLb mCl mUs mWr mDk mCp) (va_A (w_model cI q_mo q_mlb_ q_mcl_ q_mus_ q_mwr_ q_mdk_ q_mcp_ mth mar mfu mLb mCl mUs mWr mDk mCp) sz)) 0 0 (va_A (w_model cI q_mo q_mlb_ q_mcl_ q_mus_ q_mwr_ q_mdk_ q_mcp_ mth mar mfu mLb mCl mUs mWr mDk mCp) sz) := by
  refine Met.ofW (cc := cc_M_look) (maxL := 5) (ret := (some .int)) (by decide) rfl ?_
  intro p e s m args below meth c s₁ B hml hv
  obtain ⟨rfl, hsz, hP, hK, hD0⟩ := hv
  have cx : jv_cx p s m _ meth c cc_M_look 5 R_Model (some .int) ws_M_look := ⟨B.exec, B.bytes, hml, findClass_of_methodNamed B.named, atoms_spec (ws := ws_M_look) B.pre, B.returns, B.notSynchronized⟩
  subst hsz
  have hD := hD0.self (sz := s.heap.size)
  generalize hAe : va_A (w_model cI q_mo q_mlb_ q_mcl_ q_mus_ q_mwr_ q_mdk_ q_mcp_ mth mar mfu mLb mCl mUs mWr mDk mCp) s.heap.size = A at hD ⊢
  have hA : ∀ q : Nat, s.heap.size ≤ q → A q := fun q h => by rw [← hAe]; exact Or.inr h
  have hS : va_S A s.heap s.heap [] := va_S.rf
  have hl := lv_entry ([.ref q_mo, .int a0, .int a1]) (n := 5) (Nat.le_of_ble_eq_true rfl)
  rw [lg_entry_eq]
  generalize (lg_sl ([.ref q_mo, .int a0, .int a1]) ++ List.replicate (5 - (lg_sl ([.ref q_mo, .int a0, .int a1])).length) Slot.unset).toArray = ls at hl ⊢
  have hl : lv_has ls 5 [(0, .ref q_mo), (1, .int a0), (2, .int a1)] := hl
  exact b_M_look_0 (y0 := a0) (y1 := a1) (y2 := mth) cx hK hA (lv_sub hl [0, 1, 2] rfl) hP hD hS hf
theorem d_M_disk_0 : decode cc_M_disk 0 = .ok (.aload_n 0, 1) := by decide +kernel
theorem d_M_disk_1 : decode cc_M_disk 1 = .ok (.aload_n 0, 1) := by decide +kernel
theorem d_M_disk_2 : decode cc_M_disk 2 = .ok (.iload_n 1, 1) := by decide +kernel
theorem d_M_disk_3 : decode cc_M_disk 3 = .ok (.invokevirtual 50, 3) := by decide +kernel
theorem d_M_disk_6 : decode cc_M_disk 6 = .ok (.ifCond .eq 23, 3) := by decide +kernel
theorem d_M_disk_29 : decode cc_M_disk 29 = .ok (.iconst 1, 1) := by decide +kernel
theorem d_M_disk_30 : decode cc_M_disk 30 = .ok (.goto 4, 3) := by decide +kernel
theorem d_M_disk_9 : decode cc_M_disk 9 = .ok (.iload_n 2, 1) := by decide +kernel
theorem d_M_disk_10 : decode cc_M_disk 10 = .ok (.ifCond .lt 19, 3) := by decide +kernel
theorem d_M_disk_13 : decode cc_M_disk 13 = .ok (.iload_n 2, 1) := by decide +kernel
theorem d_M_disk_14 : decode cc_M_disk 14 = .ok (.bipush 28, 2) := by decide +kernel
theorem d_M_disk_16 : decode cc_M_disk 16 = .ok (.if_icmp .gt 13, 3) := by decide +kernel
theorem d_M_disk_19 : decode cc_M_disk 19 = .ok (.iload_n 3, 1) := by decide +kernel
theorem d_M_disk_20 : decode cc_M_disk 20 = .ok (.ifCond .lt 9, 3) := by decide +kernel
theorem d_M_disk_23 : decode cc_M_disk 23 = .ok (.iload_n 3, 1) := by decide +kernel
theorem d_M_disk_24 : decode cc_M_disk 24 = .ok (.bipush 7, 2) := by decide +kernel
theorem d_M_disk_26 : decode cc_M_disk 26 = .ok (.if_icmp .le 7, 3) := by decide +kernel
theorem d_M_disk_33 : decode cc_M_disk 33 = .ok (.iconst 0, 1) := by decide +kernel
theorem d_M_disk_34 : decode cc_M_disk 34 = .ok (.putfield 32, 3) := by decide +kernel
theorem d_M_disk_37 : decode cc_M_disk 37 = .ok (.aload_n 0, 1) := by decide +kernel
theorem d_M_disk_38 : decode cc_M_disk 38 = .ok (.getfield 32, 3) := by decide +kernel
theorem d_M_disk_41 : decode cc_M_disk 41 = .ok (.ifCond .le 7, 3) := by decide +kernel
theorem d_M_disk_48 : decode cc_M_disk 48 = .ok (.aload_n 0, 1) := by decide +kernel
theorem d_M_disk_49 : decode cc_M_disk 49 = .ok (.getfield 22, 3) := by decide +kernel
theorem d_M_disk_52 : decode cc_M_disk 52 = .ok (.sipush 232, 3) := by decide +kernel
theorem d_M_disk_55 : decode cc_M_disk 55 = .ok (.iload_n 1, 1) := by decide +kernel
theorem d_M_disk_56 : decode cc_M_disk 56 = .ok (.imul, 1) := by decide +kernel
theorem d_M_disk_57 : decode cc_M_disk 57 = .ok (.bipush 8, 2) := by decide +kernel
theorem d_M_disk_59 : decode cc_M_disk 59 = .ok (.iload_n 2, 1) := by decide +kernel
theorem d_M_disk_60 : decode cc_M_disk 60 = .ok (.imul, 1) := by decide +kernel
theorem d_M_disk_61 : decode cc_M_disk 61 = .ok (.iadd, 1) := by decide +kernel
theorem d_M_disk_62 : decode cc_M_disk 62 = .ok (.iload_n 3, 1) := by decide +kernel
theorem d_M_disk_63 : decode cc_M_disk 63 = .ok (.iadd, 1) := by decide +kernel
theorem d_M_disk_64 : decode cc_M_disk 64 = .ok (.iaload, 1) := by decide +kernel
theorem d_M_disk_65 : decode cc_M_disk 65 = .ok (.ireturn, 1) := by decide +kernel
theorem d_M_disk_44 : decode cc_M_disk 44 = .ok (.iconst 0, 1) := by decide +kernel
theorem d_M_disk_45 : decode cc_M_disk 45 = .ok (.goto 20, 3) := by decide +kernel
def f_M_disk_34 (mar : Int32) (mDk : Nat → Int32) (y0 : Int32) (y1 : Int32) (y2 : Int32) (y3 : Int32) (y4 : Int32) : Option (Int32 × Int32) :=
  if y3 ≤ 0 then ((jv_ga mDk 1392 ((((232 : Int32) * y0) + ((8 : Int32) * y1)) + y2)).bind fun x3 => some (x3, y3)) else (some ((0 : Int32), y3))
set_option maxHeartbeats 4000000 in
set_option maxRecDepth 100000 in
theorem b_M_disk_34 {l : Launch} {dC : Nat → ClassId} {dI : Nat → Nat → Nat} {cI cA cL : ClassId} {q_mo q_mlb_ q_mcl_ q_mus_ q_mwr_ q_mdk_ q_mcp_ : Nat} {mar : Int32} {mfu : Int32} {mLb : Nat → Int32} {mCl : Nat → Int32} {mUs : Nat → Int32} {mWr : Nat → Int32} {mDk : Nat → Int32} {mCp : Nat → Int32} {p : Program} {e : Env} {s : State} {m : MethodId} {args : Array Value} {below : List Frame} {meth : Method} {c : Code} (cx : jv_cx p s m args meth c cc_M_disk 4 R_Model (some .int) ws_M_disk) (hK : va_K (dC, dI) vwCl (jv_ty cI cA cL) s) {A : Nat → Prop} (hA : ∀ q : Nat, s.heap.size ≤ q → A q) {r : Int32 × Int32} {y0 : Int32} {y1 : Int32} {y2 : Int32} {y3 : Int32} {y4 : Int32} {ls : Array Slot} (hl : lv_has ls 4 [(0, .ref q_mo), (1, .int y0), (2, .int y1), (3, .int y2)]) {H : Heap} {locs : List Loc} (hP : va_P (dC, dI) vwCl (w_model cI q_mo q_mlb_ q_mcl_ q_mus_ q_mwr_ q_mdk_ q_mcp_ y4 mar mfu mLb mCl mUs mWr mDk mCp) H) (hD : va_D A (w_model cI q_mo q_mlb_ q_mcl_ q_mus_ q_mwr_ q_mdk_ q_mcp_ y4 mar mfu mLb mCl mUs mWr mDk mCp)) (hS : va_S A s.heap H locs) (hf : f_M_disk_34 mar mDk y0 y1 y2 y3 y4 = some r) : W p l e rm_M_disk s m args below meth c H locs 0 0 (MQ below (jv_Qi r.1 (dC, dI) (w_model cI q_mo q_mlb_ q_mcl_ q_mus_ q_mwr_ q_mdk_ q_mcp_ r.2 mar mfu mLb mCl mUs mWr mDk mCp) A) args s 0 0 A) (F0 m 34 ls [.int y3, .ref q_mo]) := by
  unfold f_M_disk_34 at hf
  obtain ⟨hx, hb, hml, hown, hts, hr, hlocks⟩ := id cx
  refine va_put (D := (dC, dI)) (ci := kModel) (v := .int y3) (ty := .int) (C := R_Model) (T := T_Model) (N := 9) hx hb hts (fun w h => List.mem_cons_of_mem _ (in_Model w h)) ty_Model tyok_Model nm_Model hown hK hP hD hS 0 rfl rfl 0 (by decide) (jv_w hts wa_200) (fun _ h9 => h9) rfl (by decide +kernel) rfl rfl (Nat.le_of_ble_eq_true rfl) d_M_disk_34 (fun H locs hP hD hS => ?_)
  have hP : va_P (dC, dI) vwCl (w_model cI q_mo q_mlb_ q_mcl_ q_mus_ q_mwr_ q_mdk_ q_mcp_ y3 mar mfu mLb mCl mUs mWr mDk mCp) H := hP
  have hD : va_D A (w_model cI q_mo q_mlb_ q_mcl_ q_mus_ q_mwr_ q_mdk_ q_mcp_ y3 mar mfu mLb mCl mUs mWr mDk mCp) := hD
  refine lv_aload_n hx hb d_M_disk_37 rfl (lv_at hl 0 rfl) ?_
  refine va_get (D := (dC, dI)) (ci := kModel) (v := .int y3) (C := R_Model) (T := T_Model) (N := 9) hx hb hts (fun w h => List.mem_cons_of_mem _ (in_Model w h)) hown hK hP 0 rfl rfl 0 (by decide) (jv_w hts wa_200) (fun _ h9 => h9) rfl d_M_disk_38 ?_
  refine lv_if_le (tgt := 48) hx hb d_M_disk_41 (by decide) (fun hc => ?_) (fun hc => ?_)
  · have hf := jv_it hf hc
    refine lv_aload_n hx hb d_M_disk_48 rfl (lv_at hl 0 rfl) ?_
    refine va_get (D := (dC, dI)) (ci := kModel) (v := .ref q_mdk_) (C := R_Model) (T := T_Model) (N := 9) hx hb hts (fun w h => List.mem_cons_of_mem _ (in_Model w h)) hown hK hP 0 rfl rfl 6 (by decide) (jv_w hts wa_203) (fun _ h9 => h9) rfl d_M_disk_49 ?_
    refine lv_sipush (v := (232 : Int32)) hx hb d_M_disk_52 (by decide) ?_
    refine lv_iload_n hx hb d_M_disk_55 rfl (lv_at hl 1 rfl) ?_
    refine lv_imul hx hb d_M_disk_56 ?_
    refine lv_bipush (v := (8 : Int32)) hx hb d_M_disk_57 (by decide) ?_
    refine lv_iload_n hx hb d_M_disk_59 rfl (lv_at hl 2 rfl) ?_
    refine lv_imul hx hb d_M_disk_60 ?_
    refine lv_iadd hx hb d_M_disk_61 ?_
    refine lv_iload_n hx hb d_M_disk_62 rfl (lv_at hl 3 rfl) ?_
    refine lv_iadd hx hb d_M_disk_63 ?_
    obtain ⟨x3, g4, hf⟩ := jv_ob hf
    refine jv_iald hx hb hK hP 5 0 rfl rfl g4 d_M_disk_64 ?_
    obtain rfl := Option.some.inj hf
    exact W.iret hx hb hr (fun t ht hW => ⟨rfl, by rw [ht]; exact hP, hD, hS.F ht⟩) hS.2.2 d_M_disk_65
  · have hf := jv_if hf hc
    refine lv_iconst (v := (0 : Int32)) hx hb d_M_disk_44 (by decide) ?_
    refine lv_goto (tgt := 65) hx hb d_M_disk_45 (by decide) ?_
    obtain rfl := Option.some.inj hf
    exact W.iret hx hb hr (fun t ht hW => ⟨rfl, by rw [ht]; exact hP, hD, hS.F ht⟩) hS.2.2 d_M_disk_65
def f_M_disk_0 (mar : Int32) (mDk : Nat → Int32) (y0 : Int32) (y1 : Int32) (y2 : Int32) (y3 : Int32) : Option (Int32 × Int32) :=
  (f_M_isArea mar y0).bind fun x1 => if x1 = 0 then (f_M_disk_34 mar mDk y0 y1 y2 (1 : Int32) y3) else (if y1 < 0 then (f_M_disk_34 mar mDk y0 y1 y2 (1 : Int32) y3) else (if (28 : Int32) < y1 then (f_M_disk_34 mar mDk y0 y1 y2 (1 : Int32) y3) else (if y2 < 0 then (f_M_disk_34 mar mDk y0 y1 y2 (1 : Int32) y3) else (if y2 ≤ (7 : Int32) then (f_M_disk_34 mar mDk y0 y1 y2 (0 : Int32) y3) else (f_M_disk_34 mar mDk y0 y1 y2 (1 : Int32) y3)))))
set_option maxHeartbeats 4000000 in
set_option maxRecDepth 100000 in
theorem b_M_disk_0 {l : Launch} {dC : Nat → ClassId} {dI : Nat → Nat → Nat} {cI cA cL : ClassId} {q_mo q_mlb_ q_mcl_ q_mus_ q_mwr_ q_mdk_ q_mcp_ : Nat} {mar : Int32} {mfu : Int32} {mLb : Nat → Int32} {mCl : Nat → Int32} {mUs : Nat → Int32} {mWr : Nat → Int32} {mDk : Nat → Int32} {mCp : Nat → Int32} {p : Program} {e : Env} {s : State} {m : MethodId} {args : Array Value} {below : List Frame} {meth : Method} {c : Code} (cx : jv_cx p s m args meth c cc_M_disk 4 R_Model (some .int) ws_M_disk) (hK : va_K (dC, dI) vwCl (jv_ty cI cA cL) s) {A : Nat → Prop} (hA : ∀ q : Nat, s.heap.size ≤ q → A q) {r : Int32 × Int32} {y0 : Int32} {y1 : Int32} {y2 : Int32} {y3 : Int32} {ls : Array Slot} (hl : lv_has ls 4 [(0, .ref q_mo), (1, .int y0), (2, .int y1), (3, .int y2)]) {H : Heap} {locs : List Loc} (hP : va_P (dC, dI) vwCl (w_model cI q_mo q_mlb_ q_mcl_ q_mus_ q_mwr_ q_mdk_ q_mcp_ y3 mar mfu mLb mCl mUs mWr mDk mCp) H) (hD : va_D A (w_model cI q_mo q_mlb_ q_mcl_ q_mus_ q_mwr_ q_mdk_ q_mcp_ y3 mar mfu mLb mCl mUs mWr mDk mCp)) (hS : va_S A s.heap H locs) (hf : f_M_disk_0 mar mDk y0 y1 y2 y3 = some r) : W p l e rm_M_disk s m args below meth c H locs 0 0 (MQ below (jv_Qi r.1 (dC, dI) (w_model cI q_mo q_mlb_ q_mcl_ q_mus_ q_mwr_ q_mdk_ q_mcp_ r.2 mar mfu mLb mCl mUs mWr mDk mCp) A) args s 0 0 A) (F0 m 0 ls []) := by
  unfold f_M_disk_0 at hf
  obtain ⟨hx, hb, hml, hown, hts, hr, hlocks⟩ := id cx
  refine lv_aload_n hx hb d_M_disk_0 rfl (lv_at hl 0 rfl) ?_
  refine lv_aload_n hx hb d_M_disk_1 rfl (lv_at hl 0 rfl) ?_
  refine lv_iload_n hx hb d_M_disk_2 rfl (lv_at hl 1 rfl) ?_
  obtain ⟨x1, g2, hf⟩ := jv_ob hf
  have hPc := hP.sub (ws' := (w_model cI q_mo q_mlb_ q_mcl_ q_mus_ q_mwr_ q_mdk_ q_mcp_ y3 mar mfu mLb mCl mUs mWr mDk mCp)) [0, 1, 2, 3, 4, 5, 6] rfl
  refine jv_cs (W.runV (As := [.int y0]) (rest := [.ref q_mo]) (b := q_mo) ⟨hx, hb, hml, hown, hts⟩ (c_M_isArea l dC dI cI cA cL q_mo q_mlb_ q_mcl_ q_mus_ q_mwr_ q_mdk_ q_mcp_ y3 mar mfu mLb mCl mUs mWr mDk mCp y0 x1 g2) (jv_cwV hts wa_239 wa_194 wa_240 wa_241 wa_242 rfl rfl yd_M_isArea ⟨Nat.le_of_ble_eq_true rfl, Nat.le_of_ble_eq_true rfl⟩) (jv_preV hK hPc 0 rfl rfl) rfl rfl hl.1 rfl (lv_room (Nat.le_of_ble_eq_true rfl)) d_M_disk_3 ⟨Nat.zero_le _, Nat.zero_le _⟩) ?_
  refine lv_if_eq (tgt := 29) hx hb d_M_disk_6 (by decide) (fun hc => ?_) (fun hc => ?_)
  · have hf := jv_it hf hc
    refine lv_iconst (v := (1 : Int32)) hx hb d_M_disk_29 (by decide) ?_
    refine lv_goto (tgt := 34) hx hb d_M_disk_30 (by decide) ?_
    exact b_M_disk_34 (y0 := y0) (y1 := y1) (y2 := y2) (y3 := (1 : Int32)) (y4 := y3) cx hK hA (lv_sub hl [0, 1, 2, 3] rfl) hP hD hS hf
  · have hf := jv_if hf hc
    refine lv_iload_n hx hb d_M_disk_9 rfl (lv_at hl 2 rfl) ?_
    refine lv_if_lt (tgt := 29) hx hb d_M_disk_10 (by decide) (fun hc => ?_) (fun hc => ?_)
    · have hf := jv_it hf hc
      refine lv_iconst (v := (1 : Int32)) hx hb d_M_disk_29 (by decide) ?_
      refine lv_goto (tgt := 34) hx hb d_M_disk_30 (by decide) ?_
      exact b_M_disk_34 (y0 := y0) (y1 := y1) (y2 := y2) (y3 := (1 : Int32)) (y4 := y3) cx hK hA (lv_sub hl [0, 1, 2, 3] rfl) hP hD hS hf
    · have hf := jv_if hf hc
      refine lv_iload_n hx hb d_M_disk_13 rfl (lv_at hl 2 rfl) ?_
      refine lv_bipush (v := (28 : Int32)) hx hb d_M_disk_14 (by decide) ?_
      refine lv_icmp_gt (tgt := 29) hx hb d_M_disk_16 (by decide) (fun hc => ?_) (fun hc => ?_)
      · have hf := jv_it hf hc
        refine lv_iconst (v := (1 : Int32)) hx hb d_M_disk_29 (by decide) ?_
        refine lv_goto (tgt := 34) hx hb d_M_disk_30 (by decide) ?_
        exact b_M_disk_34 (y0 := y0) (y1 := y1) (y2 := y2) (y3 := (1 : Int32)) (y4 := y3) cx hK hA (lv_sub hl [0, 1, 2, 3] rfl) hP hD hS hf
      · have hf := jv_if hf hc
        refine lv_iload_n hx hb d_M_disk_19 rfl (lv_at hl 3 rfl) ?_
        refine lv_if_lt (tgt := 29) hx hb d_M_disk_20 (by decide) (fun hc => ?_) (fun hc => ?_)
        · have hf := jv_it hf hc
          refine lv_iconst (v := (1 : Int32)) hx hb d_M_disk_29 (by decide) ?_
          refine lv_goto (tgt := 34) hx hb d_M_disk_30 (by decide) ?_
          exact b_M_disk_34 (y0 := y0) (y1 := y1) (y2 := y2) (y3 := (1 : Int32)) (y4 := y3) cx hK hA (lv_sub hl [0, 1, 2, 3] rfl) hP hD hS hf
        · have hf := jv_if hf hc
          refine lv_iload_n hx hb d_M_disk_23 rfl (lv_at hl 3 rfl) ?_
          refine lv_bipush (v := (7 : Int32)) hx hb d_M_disk_24 (by decide) ?_
          refine lv_icmp_le (tgt := 33) hx hb d_M_disk_26 (by decide) (fun hc => ?_) (fun hc => ?_)
          · have hf := jv_it hf hc
            refine lv_iconst (v := (0 : Int32)) hx hb d_M_disk_33 (by decide) ?_
            exact b_M_disk_34 (y0 := y0) (y1 := y1) (y2 := y2) (y3 := (0 : Int32)) (y4 := y3) cx hK hA (lv_sub hl [0, 1, 2, 3] rfl) hP hD hS hf
          · have hf := jv_if hf hc
            refine lv_iconst (v := (1 : Int32)) hx hb d_M_disk_29 (by decide) ?_
            refine lv_goto (tgt := 34) hx hb d_M_disk_30 (by decide) ?_
            exact b_M_disk_34 (y0 := y0) (y1 := y1) (y2 := y2) (y3 := (1 : Int32)) (y4 := y3) cx hK hA (lv_sub hl [0, 1, 2, 3] rfl) hP hD hS hf
def f_M_disk (mar : Int32) (mDk : Nat → Int32) (a0 : Int32) (a1 : Int32) (a2 : Int32) (mth : Int32) : Option (Int32 × Int32) := f_M_disk_0 mar mDk a0 a1 a2 mth
set_option maxHeartbeats 4000000 in
set_option maxRecDepth 100000 in
theorem c_M_disk (l : Launch) (dC : Nat → ClassId) (dI : Nat → Nat → Nat) (cI cA cL : ClassId) (q_mo q_mlb_ q_mcl_ q_mus_ q_mwr_ q_mdk_ q_mcp_ : Nat) (mth : Int32) (mar : Int32) (mfu : Int32) (mLb : Nat → Int32) (mCl : Nat → Int32) (mUs : Nat → Int32) (mWr : Nat → Int32) (mDk : Nat → Int32) (mCp : Nat → Int32) (a0 : Int32) (a1 : Int32) (a2 : Int32) (sz : Nat) (r : Int32 × Int32) (hf : f_M_disk mar mDk a0 a1 a2 mth = some r) : Met l y_M_disk ws_M_disk rm_M_disk (jv_Pw [.ref q_mo, .int a0, .int a1, .int a2] (dC, dI) (jv_ty cI cA cL) (w_model cI q_mo q_mlb_ q_mcl_ q_mus_ q_mwr_ q_mdk_ q_mcp_ mth mar mfu mLb mCl mUs mWr mDk mCp) sz) (jv_Qi r.1 (dC, dI) (w_model cI q_mo q_mlb_ q_mcl_ q_mus_ q_mwr_ q_mdk_ q_mcp_ r.2 mar mfu mLb mCl mUs mWr mDk mCp) (va_A (w_model cI q_mo q_mlb_ q_mcl_ q_mus_ q_mwr_ q_mdk_ q_mcp_ mth mar mfu mLb mCl mUs mWr mDk mCp) sz)) 0 0 (va_A (w_model cI q_mo q_mlb_ q_mcl_ q_mus_ q_mwr_ q_mdk_ q_mcp_ mth mar mfu mLb mCl mUs mWr mDk mCp) sz) := by
  refine Met.ofW (cc := cc_M_disk) (maxL := 4) (ret := (some .int)) (by decide) rfl ?_
  intro p e s m args below meth c s₁ B hml hv
  obtain ⟨rfl, hsz, hP, hK, hD0⟩ := hv
  have cx : jv_cx p s m _ meth c cc_M_disk 4 R_Model (some .int) ws_M_disk := ⟨B.exec, B.bytes, hml, findClass_of_methodNamed B.named, atoms_spec (ws := ws_M_disk) B.pre, B.returns, B.notSynchronized⟩
  subst hsz
  have hD := hD0.self (sz := s.heap.size)
  generalize hAe : va_A (w_model cI q_mo q_mlb_ q_mcl_ q_mus_ q_mwr_ q_mdk_ q_mcp_ mth mar mfu mLb mCl mUs mWr mDk mCp) s.heap.size = A at hD ⊢
  have hA : ∀ q : Nat, s.heap.size ≤ q → A q := fun q h => by rw [← hAe]; exact Or.inr h
  have hS : va_S A s.heap s.heap [] := va_S.rf
  have hl := lv_entry ([.ref q_mo, .int a0, .int a1, .int a2]) (n := 4) (Nat.le_of_ble_eq_true rfl)
  rw [lg_entry_eq]
  generalize (lg_sl ([.ref q_mo, .int a0, .int a1, .int a2]) ++ List.replicate (4 - (lg_sl ([.ref q_mo, .int a0, .int a1, .int a2])).length) Slot.unset).toArray = ls at hl ⊢
  have hl : lv_has ls 4 [(0, .ref q_mo), (1, .int a0), (2, .int a1), (3, .int a2)] := hl
  exact b_M_disk_0 (y0 := a0) (y1 := a1) (y2 := a2) (y3 := mth) cx hK hA (lv_sub hl [0, 1, 2, 3] rfl) hP hD hS hf
theorem d_M_about_0 : decode cc_M_about 0 = .ok (.aload_n 0, 1) := by decide +kernel
theorem d_M_about_1 : decode cc_M_about 1 = .ok (.iconst 0, 1) := by decide +kernel
theorem d_M_about_2 : decode cc_M_about 2 = .ok (.putfield 32, 3) := by decide +kernel
theorem d_M_about_5 : decode cc_M_about 5 = .ok (.aload_n 0, 1) := by decide +kernel
theorem d_M_about_6 : decode cc_M_about 6 = .ok (.iload_n 1, 1) := by decide +kernel
theorem d_M_about_7 : decode cc_M_about 7 = .ok (.invokevirtual 50, 3) := by decide +kernel
theorem d_M_about_10 : decode cc_M_about 10 = .ok (.ifCond .ne 5, 3) := by decide +kernel
theorem d_M_about_15 : decode cc_M_about 15 = .ok (.iload_n 2, 1) := by decide +kernel
theorem d_M_about_16 : decode cc_M_about 16 = .ok (.tableswitch 105 0 4 #[36, 43, 49, 55, 62], 36) := by decide +kernel
theorem d_M_about_52 : decode cc_M_about 52 = .ok (.aload_n 0, 1) := by decide +kernel
theorem d_M_about_53 : decode cc_M_about 53 = .ok (.getfield 7, 3) := by decide +kernel
theorem d_M_about_56 : decode cc_M_about 56 = .ok (.iload_n 1, 1) := by decide +kernel
theorem d_M_about_57 : decode cc_M_about 57 = .ok (.iaload, 1) := by decide +kernel
theorem d_M_about_58 : decode cc_M_about 58 = .ok (.ireturn, 1) := by decide +kernel
theorem d_M_about_59 : decode cc_M_about 59 = .ok (.aload_n 0, 1) := by decide +kernel
theorem d_M_about_60 : decode cc_M_about 60 = .ok (.iload_n 1, 1) := by decide +kernel
theorem d_M_about_61 : decode cc_M_about 61 = .ok (.invokevirtual 104, 3) := by decide +kernel
theorem d_M_about_64 : decode cc_M_about 64 = .ok (.ireturn, 1) := by decide +kernel
theorem d_M_about_65 : decode cc_M_about 65 = .ok (.aload_n 0, 1) := by decide +kernel
theorem d_M_about_66 : decode cc_M_about 66 = .ok (.iload_n 1, 1) := by decide +kernel
theorem d_M_about_67 : decode cc_M_about 67 = .ok (.invokevirtual 88, 3) := by decide +kernel
theorem d_M_about_70 : decode cc_M_about 70 = .ok (.ireturn, 1) := by decide +kernel
theorem d_M_about_71 : decode cc_M_about 71 = .ok (.aload_n 0, 1) := by decide +kernel
theorem d_M_about_72 : decode cc_M_about 72 = .ok (.getfield 19, 3) := by decide +kernel
theorem d_M_about_75 : decode cc_M_about 75 = .ok (.iload_n 1, 1) := by decide +kernel
theorem d_M_about_76 : decode cc_M_about 76 = .ok (.iaload, 1) := by decide +kernel
theorem d_M_about_77 : decode cc_M_about 77 = .ok (.ireturn, 1) := by decide +kernel
theorem d_M_about_78 : decode cc_M_about 78 = .ok (.iconst 0, 1) := by decide +kernel
theorem d_M_about_79 : decode cc_M_about 79 = .ok (.istore_n 3, 1) := by decide +kernel
theorem d_M_about_80 : decode cc_M_about 80 = .ok (.iconst 4, 1) := by decide +kernel
theorem d_M_about_81 : decode cc_M_about 81 = .ok (.iload_n 1, 1) := by decide +kernel
theorem d_M_about_82 : decode cc_M_about 82 = .ok (.imul, 1) := by decide +kernel
theorem d_M_about_83 : decode cc_M_about 83 = .ok (.istore 4, 2) := by decide +kernel
theorem d_M_about_121 : decode cc_M_about 121 = .ok (.iconst (-1), 1) := by decide +kernel
theorem d_M_about_122 : decode cc_M_about 122 = .ok (.ireturn, 1) := by decide +kernel
theorem d_M_about_13 : decode cc_M_about 13 = .ok (.iconst (-1), 1) := by decide +kernel
theorem d_M_about_14 : decode cc_M_about 14 = .ok (.ireturn, 1) := by decide +kernel
theorem d_M_about_85 : decode cc_M_about 85 = .ok (.iload 4, 2) := by decide +kernel
theorem d_M_about_87 : decode cc_M_about 87 = .ok (.iconst 4, 1) := by decide +kernel
theorem d_M_about_88 : decode cc_M_about 88 = .ok (.iload_n 1, 1) := by decide +kernel
theorem d_M_about_89 : decode cc_M_about 89 = .ok (.imul, 1) := by decide +kernel
theorem d_M_about_90 : decode cc_M_about 90 = .ok (.iconst 4, 1) := by decide +kernel
theorem d_M_about_91 : decode cc_M_about 91 = .ok (.iadd, 1) := by decide +kernel
theorem d_M_about_92 : decode cc_M_about 92 = .ok (.if_icmp .ge 27, 3) := by decide +kernel
theorem d_M_about_119 : decode cc_M_about 119 = .ok (.iload_n 3, 1) := by decide +kernel
theorem d_M_about_120 : decode cc_M_about 120 = .ok (.ireturn, 1) := by decide +kernel
theorem d_M_about_95 : decode cc_M_about 95 = .ok (.iload_n 3, 1) := by decide +kernel
theorem d_M_about_96 : decode cc_M_about 96 = .ok (.aload_n 0, 1) := by decide +kernel
theorem d_M_about_97 : decode cc_M_about 97 = .ok (.getfield 16, 3) := by decide +kernel
theorem d_M_about_100 : decode cc_M_about 100 = .ok (.iload 4, 2) := by decide +kernel
theorem d_M_about_102 : decode cc_M_about 102 = .ok (.iaload, 1) := by decide +kernel
theorem d_M_about_103 : decode cc_M_about 103 = .ok (.ifCond .le 7, 3) := by decide +kernel
theorem d_M_about_110 : decode cc_M_about 110 = .ok (.iconst 0, 1) := by decide +kernel
theorem d_M_about_111 : decode cc_M_about 111 = .ok (.iadd, 1) := by decide +kernel
theorem d_M_about_112 : decode cc_M_about 112 = .ok (.istore_n 3, 1) := by decide +kernel
theorem d_M_about_113 : decode cc_M_about 113 = .ok (.iinc 4 1, 3) := by decide +kernel
theorem d_M_about_116 : decode cc_M_about 116 = .ok (.goto (-31), 3) := by decide +kernel
theorem d_M_about_106 : decode cc_M_about 106 = .ok (.iconst 1, 1) := by decide +kernel
theorem d_M_about_107 : decode cc_M_about 107 = .ok (.goto 4, 3) := by decide +kernel
def f_M_about_85 (mar : Int32) (mLb : Nat → Int32) (mUs : Nat → Int32) (mWr : Nat → Int32) (mDk : Nat → Int32) (y0 : Int32) (y1 : Int32) (k85 : (Int32 × Int32) → Option (Int32 × Int32)) (a : Int32 × Int32) : Option (Int32 × Int32) :=
  if (((4 : Int32) * y0) + (4 : Int32)) ≤ a.2 then (some (a.1, y1)) else ((jv_ga mUs 24 a.2).bind fun x11 => if x11 ≤ 0 then (k85 (a.1 + (0 : Int32), a.2 + (1 : Int32))) else (k85 (a.1 + (1 : Int32), a.2 + (1 : Int32))))
set_option maxHeartbeats 4000000 in
set_option maxRecDepth 100000 in
theorem b_M_about_85 {l : Launch} {dC : Nat → ClassId} {dI : Nat → Nat → Nat} {cI cA cL : ClassId} {q_mo q_mlb_ q_mcl_ q_mus_ q_mwr_ q_mdk_ q_mcp_ : Nat} {mar : Int32} {mfu : Int32} {mLb : Nat → Int32} {mCl : Nat → Int32} {mUs : Nat → Int32} {mWr : Nat → Int32} {mDk : Nat → Int32} {mCp : Nat → Int32} {p : Program} {e : Env} {s : State} {m : MethodId} {args : Array Value} {below : List Frame} {meth : Method} {c : Code} (cx : jv_cx p s m args meth c cc_M_about 5 R_Model (some .int) ws_M_about) (hK : va_K (dC, dI) vwCl (jv_ty cI cA cL) s) {A : Nat → Prop} (hA : ∀ q : Nat, s.heap.size ≤ q → A q) {r : Int32 × Int32} {y0 : Int32} {y1 : Int32} {k85 : (Int32 × Int32) → Option (Int32 × Int32)} (hk85 : ∀ (a : Int32 × Int32) (ls : Array Slot) (H : Heap) (locs : List Loc), lv_has ls 5 [(0, .ref q_mo), (1, .int y0), (3, .int a.1), (4, .int a.2)] → va_P (dC, dI) vwCl (w_model cI q_mo q_mlb_ q_mcl_ q_mus_ q_mwr_ q_mdk_ q_mcp_ y1 mar mfu mLb mCl mUs mWr mDk mCp) H → va_D A (w_model cI q_mo q_mlb_ q_mcl_ q_mus_ q_mwr_ q_mdk_ q_mcp_ y1 mar mfu mLb mCl mUs mWr mDk mCp) → va_S A s.heap H locs → k85 a = some r → W p l e rm_M_about s m args below meth c H locs 0 0 (MQ below (jv_Qi r.1 (dC, dI) (w_model cI q_mo q_mlb_ q_mcl_ q_mus_ q_mwr_ q_mdk_ q_mcp_ r.2 mar mfu mLb mCl mUs mWr mDk mCp) A) args s 0 0 A) (F0 m 85 ls [])) {a : Int32 × Int32} {ls : Array Slot} (hl : lv_has ls 5 [(0, .ref q_mo), (1, .int y0), (3, .int a.1), (4, .int a.2)]) {H : Heap} {locs : List Loc} (hP : va_P (dC, dI) vwCl (w_model cI q_mo q_mlb_ q_mcl_ q_mus_ q_mwr_ q_mdk_ q_mcp_ y1 mar mfu mLb mCl mUs mWr mDk mCp) H) (hD : va_D A (w_model cI q_mo q_mlb_ q_mcl_ q_mus_ q_mwr_ q_mdk_ q_mcp_ y1 mar mfu mLb mCl mUs mWr mDk mCp)) (hS : va_S A s.heap H locs) (hf : f_M_about_85 mar mLb mUs mWr mDk y0 y1 k85 a = some r) : W p l e rm_M_about s m args below meth c H locs 0 0 (MQ below (jv_Qi r.1 (dC, dI) (w_model cI q_mo q_mlb_ q_mcl_ q_mus_ q_mwr_ q_mdk_ q_mcp_ r.2 mar mfu mLb mCl mUs mWr mDk mCp) A) args s 0 0 A) (F0 m 85 ls []) := by
  unfold f_M_about_85 at hf
  obtain ⟨hx, hb, hml, hown, hts, hr, hlocks⟩ := id cx
  refine lv_iload hx hb d_M_about_85 (lv_at hl 3 rfl) ?_
  refine lv_iconst (v := (4 : Int32)) hx hb d_M_about_87 (by decide) ?_
  refine lv_iload_n hx hb d_M_about_88 rfl (lv_at hl 1 rfl) ?_
  refine lv_imul hx hb d_M_about_89 ?_
  refine lv_iconst (v := (4 : Int32)) hx hb d_M_about_90 (by decide) ?_
  refine lv_iadd hx hb d_M_about_91 ?_
  refine lv_icmp_ge (tgt := 119) hx hb d_M_about_92 (by decide) (fun hc => ?_) (fun hc => ?_)
  · have hf := jv_it hf hc
    refine lv_iload_n hx hb d_M_about_119 rfl (lv_at hl 2 rfl) ?_
    obtain rfl := Option.some.inj hf
    exact W.iret hx hb hr (fun t ht hW => ⟨rfl, by rw [ht]; exact hP, hD, hS.F ht⟩) hS.2.2 d_M_about_120
  · have hf := jv_if hf hc
    refine lv_iload_n hx hb d_M_about_95 rfl (lv_at hl 2 rfl) ?_
    refine lv_aload_n hx hb d_M_about_96 rfl (lv_at hl 0 rfl) ?_
    refine va_get (D := (dC, dI)) (ci := kModel) (v := .ref q_mus_) (C := R_Model) (T := T_Model) (N := 9) hx hb hts (fun w h => List.mem_cons_of_mem _ (in_Model w h)) hown hK hP 0 rfl rfl 4 (by decide) (jv_w hts wa_202) (fun _ h9 => h9) rfl d_M_about_97 ?_
    refine lv_iload hx hb d_M_about_100 (lv_at hl 3 rfl) ?_
    obtain ⟨x11, g12, hf⟩ := jv_ob hf
    refine jv_iald hx hb hK hP 3 0 rfl rfl g12 d_M_about_102 ?_
    refine lv_if_le (tgt := 110) hx hb d_M_about_103 (by decide) (fun hc => ?_) (fun hc => ?_)
    · have hf := jv_it hf hc
      refine lv_iconst (v := (0 : Int32)) hx hb d_M_about_110 (by decide) ?_
      refine lv_iadd hx hb d_M_about_111 ?_
      refine lv_istore_n (lv' := [(3, .int (a.1 + (0 : Int32))), (0, .ref q_mo), (1, .int y0), (4, .int a.2)]) hx hb d_M_about_112 rfl hl (by decide) rfl (fun ls hl => ?_)
      refine lv_iinc (k := 3) (v := a.2 + (1 : Int32)) (lv' := [(4, .int (a.2 + (1 : Int32))), (3, .int (a.1 + (0 : Int32))), (0, .ref q_mo), (1, .int y0)]) hx hb d_M_about_113 hl rfl (jv_inc _) (by decide) rfl (fun ls hl => ?_)
      refine lv_goto (tgt := 85) hx hb d_M_about_116 (by decide) ?_
      exact hk85 (a.1 + (0 : Int32), a.2 + (1 : Int32)) _ _ _ (lv_sub hl [2, 3, 1, 0] rfl) hP hD hS hf
    · have hf := jv_if hf hc
      refine lv_iconst (v := (1 : Int32)) hx hb d_M_about_106 (by decide) ?_
      refine lv_goto (tgt := 111) hx hb d_M_about_107 (by decide) ?_
      refine lv_iadd hx hb d_M_about_111 ?_
      refine lv_istore_n (lv' := [(3, .int (a.1 + (1 : Int32))), (0, .ref q_mo), (1, .int y0), (4, .int a.2)]) hx hb d_M_about_112 rfl hl (by decide) rfl (fun ls hl => ?_)
      refine lv_iinc (k := 3) (v := a.2 + (1 : Int32)) (lv' := [(4, .int (a.2 + (1 : Int32))), (3, .int (a.1 + (1 : Int32))), (0, .ref q_mo), (1, .int y0)]) hx hb d_M_about_113 hl rfl (jv_inc _) (by decide) rfl (fun ls hl => ?_)
      refine lv_goto (tgt := 85) hx hb d_M_about_116 (by decide) ?_
      exact hk85 (a.1 + (1 : Int32), a.2 + (1 : Int32)) _ _ _ (lv_sub hl [2, 3, 1, 0] rfl) hP hD hS hf
set_option maxHeartbeats 4000000 in
set_option maxRecDepth 100000 in
theorem l_M_about_85 {l : Launch} {dC : Nat → ClassId} {dI : Nat → Nat → Nat} {cI cA cL : ClassId} {q_mo q_mlb_ q_mcl_ q_mus_ q_mwr_ q_mdk_ q_mcp_ : Nat} {mar : Int32} {mfu : Int32} {mLb : Nat → Int32} {mCl : Nat → Int32} {mUs : Nat → Int32} {mWr : Nat → Int32} {mDk : Nat → Int32} {mCp : Nat → Int32} {p : Program} {e : Env} {s : State} {m : MethodId} {args : Array Value} {below : List Frame} {meth : Method} {c : Code} (cx : jv_cx p s m args meth c cc_M_about 5 R_Model (some .int) ws_M_about) (hK : va_K (dC, dI) vwCl (jv_ty cI cA cL) s) {A : Nat → Prop} (hA : ∀ q : Nat, s.heap.size ≤ q → A q) {r : Int32 × Int32} {y0 : Int32} {y1 : Int32} : ∀ n : Nat, ∀ (a : Int32 × Int32) (ls : Array Slot) (H : Heap) (locs : List Loc), lv_has ls 5 [(0, .ref q_mo), (1, .int y0), (3, .int a.1), (4, .int a.2)] → va_P (dC, dI) vwCl (w_model cI q_mo q_mlb_ q_mcl_ q_mus_ q_mwr_ q_mdk_ q_mcp_ y1 mar mfu mLb mCl mUs mWr mDk mCp) H → va_D A (w_model cI q_mo q_mlb_ q_mcl_ q_mus_ q_mwr_ q_mdk_ q_mcp_ y1 mar mfu mLb mCl mUs mWr mDk mCp) → va_S A s.heap H locs → jv_fx (f_M_about_85 mar mLb mUs mWr mDk y0 y1) n a = some r → W p l e rm_M_about s m args below meth c H locs 0 0 (MQ below (jv_Qi r.1 (dC, dI) (w_model cI q_mo q_mlb_ q_mcl_ q_mus_ q_mwr_ q_mdk_ q_mcp_ r.2 mar mfu mLb mCl mUs mWr mDk mCp) A) args s 0 0 A) (F0 m 85 ls []) := by
  intro n
  induction n with
  | zero => intro a ls H locs hl hP hD hS hf; exact jv_no hf
  | succ n ih => intro a ls H locs hl hP hD hS hf; exact b_M_about_85 cx hK hA ih hl hP hD hS hf
def f_M_about_0 (mar : Int32) (mLb : Nat → Int32) (mUs : Nat → Int32) (mWr : Nat → Int32) (mDk : Nat → Int32) (y0 : Int32) (y1 : Int32) (y2 : Int32) : Option (Int32 × Int32) :=
  (f_M_isArea mar y0).bind fun x1 => if x1 = 0 then (some ((-1 : Int32), (0 : Int32))) else (if y1 = (0 : Int32) then ((jv_ga mLb 6 y0).bind fun x3 => some (x3, (0 : Int32))) else if y1 = (1 : Int32) then ((f_M_freeBlocks mDk y0).bind fun x5 => some (x5, (0 : Int32))) else if y1 = (2 : Int32) then ((f_M_freeInodes mDk y0).bind fun x7 => some (x7, (0 : Int32))) else if y1 = (3 : Int32) then ((jv_ga mWr 6 y0).bind fun x9 => some (x9, (0 : Int32))) else if y1 = (4 : Int32) then (jv_fx (f_M_about_85 mar mLb mUs mWr mDk y0 (0 : Int32)) 300 ((0 : Int32), (4 : Int32) * y0)) else (some ((-1 : Int32), (0 : Int32))))
set_option maxHeartbeats 4000000 in
set_option maxRecDepth 100000 in
theorem b_M_about_0 {l : Launch} {dC : Nat → ClassId} {dI : Nat → Nat → Nat} {cI cA cL : ClassId} {q_mo q_mlb_ q_mcl_ q_mus_ q_mwr_ q_mdk_ q_mcp_ : Nat} {mar : Int32} {mfu : Int32} {mLb : Nat → Int32} {mCl : Nat → Int32} {mUs : Nat → Int32} {mWr : Nat → Int32} {mDk : Nat → Int32} {mCp : Nat → Int32} {p : Program} {e : Env} {s : State} {m : MethodId} {args : Array Value} {below : List Frame} {meth : Method} {c : Code} (cx : jv_cx p s m args meth c cc_M_about 5 R_Model (some .int) ws_M_about) (hK : va_K (dC, dI) vwCl (jv_ty cI cA cL) s) {A : Nat → Prop} (hA : ∀ q : Nat, s.heap.size ≤ q → A q) {r : Int32 × Int32} {y0 : Int32} {y1 : Int32} {y2 : Int32} {ls : Array Slot} (hl : lv_has ls 5 [(0, .ref q_mo), (1, .int y0), (2, .int y1)]) {H : Heap} {locs : List Loc} (hP : va_P (dC, dI) vwCl (w_model cI q_mo q_mlb_ q_mcl_ q_mus_ q_mwr_ q_mdk_ q_mcp_ y2 mar mfu mLb mCl mUs mWr mDk mCp) H) (hD : va_D A (w_model cI q_mo q_mlb_ q_mcl_ q_mus_ q_mwr_ q_mdk_ q_mcp_ y2 mar mfu mLb mCl mUs mWr mDk mCp)) (hS : va_S A s.heap H locs) (hf : f_M_about_0 mar mLb mUs mWr mDk y0 y1 y2 = some r) : W p l e rm_M_about s m args below meth c H locs 0 0 (MQ below (jv_Qi r.1 (dC, dI) (w_model cI q_mo q_mlb_ q_mcl_ q_mus_ q_mwr_ q_mdk_ q_mcp_ r.2 mar mfu mLb mCl mUs mWr mDk mCp) A) args s 0 0 A) (F0 m 0 ls []) := by
  unfold f_M_about_0 at hf
  obtain ⟨hx, hb, hml, hown, hts, hr, hlocks⟩ := id cx
  refine lv_aload_n hx hb d_M_about_0 rfl (lv_at hl 0 rfl) ?_
  refine lv_iconst (v := (0 : Int32)) hx hb d_M_about_1 (by decide) ?_
  refine va_put (D := (dC, dI)) (ci := kModel) (v := .int (0 : Int32)) (ty := .int) (C := R_Model) (T := T_Model) (N := 9) hx hb hts (fun w h => List.mem_cons_of_mem _ (in_Model w h)) ty_Model tyok_Model nm_Model hown hK hP hD hS 0 rfl rfl 0 (by decide) (jv_w hts wa_200) (fun _ h9 => h9) rfl (by decide +kernel) rfl rfl (Nat.le_of_ble_eq_true rfl) d_M_about_2 (fun H locs hP hD hS => ?_)
  have hP : va_P (dC, dI) vwCl (w_model cI q_mo q_mlb_ q_mcl_ q_mus_ q_mwr_ q_mdk_ q_mcp_ (0 : Int32) mar mfu mLb mCl mUs mWr mDk mCp) H := hP
  have hD : va_D A (w_model cI q_mo q_mlb_ q_mcl_ q_mus_ q_mwr_ q_mdk_ q_mcp_ (0 : Int32) mar mfu mLb mCl mUs mWr mDk mCp) := hD
  refine lv_aload_n hx hb d_M_about_5 rfl (lv_at hl 0 rfl) ?_
  refine lv_iload_n hx hb d_M_about_6 rfl (lv_at hl 1 rfl) ?_
  obtain ⟨x1, g2, hf⟩ := jv_ob hf
  have hPc := hP.sub (ws' := (w_model cI q_mo q_mlb_ q_mcl_ q_mus_ q_mwr_ q_mdk_ q_mcp_ (0 : Int32) mar mfu mLb mCl mUs mWr mDk mCp)) [0, 1, 2, 3, 4, 5, 6] rfl
  refine jv_cs (W.runV (As := [.int y0]) (rest := []) (b := q_mo) ⟨hx, hb, hml, hown, hts⟩ (c_M_isArea l dC dI cI cA cL q_mo q_mlb_ q_mcl_ q_mus_ q_mwr_ q_mdk_ q_mcp_ (0 : Int32) mar mfu mLb mCl mUs mWr mDk mCp y0 x1 g2) (jv_cwV hts wa_239 wa_194 wa_240 wa_241 wa_242 rfl rfl yd_M_isArea ⟨Nat.le_of_ble_eq_true rfl, Nat.le_of_ble_eq_true rfl⟩) (jv_preV hK hPc 0 rfl rfl) rfl rfl hl.1 rfl (lv_room (Nat.le_of_ble_eq_true rfl)) d_M_about_7 ⟨Nat.zero_le _, Nat.zero_le _⟩) ?_
  refine lv_if_ne (tgt := 15) hx hb d_M_about_10 (by decide) (fun hc => ?_) (fun hc => ?_)
  · have hf := jv_if hf hc
    refine lv_iload_n hx hb d_M_about_15 rfl (lv_at hl 2 rfl) ?_
    by_cases hc0 : y1 = (0 : Int32)
    · have hf := jv_it hf hc0
      refine lv_tableIn (off := 36) (tgt := 52) hx hb d_M_about_16 (by rw [hc0]; decide) (by rw [hc0]; decide) (by rw [hc0]; rfl) (by decide) ?_
      refine lv_aload_n hx hb d_M_about_52 rfl (lv_at hl 0 rfl) ?_
      refine va_get (D := (dC, dI)) (ci := kModel) (v := .ref q_mlb_) (C := R_Model) (T := T_Model) (N := 9) hx hb hts (fun w h => List.mem_cons_of_mem _ (in_Model w h)) hown hK hP 0 rfl rfl 2 (by decide) (jv_w hts wa_215) (fun _ h9 => h9) rfl d_M_about_53 ?_
      refine lv_iload_n hx hb d_M_about_56 rfl (lv_at hl 1 rfl) ?_
      obtain ⟨x3, g4, hf⟩ := jv_ob hf
      refine jv_iald hx hb hK hP 1 0 rfl rfl g4 d_M_about_57 ?_
      obtain rfl := Option.some.inj hf
      exact W.iret hx hb hr (fun t ht hW => ⟨rfl, by rw [ht]; exact hP, hD, hS.F ht⟩) hS.2.2 d_M_about_58
    have hf := jv_if hf hc0
    have nhc0 := lv_neT hc0 (a := 0) (by decide)
    by_cases hc1 : y1 = (1 : Int32)
    · have hf := jv_it hf hc1
      refine lv_tableIn (off := 43) (tgt := 59) hx hb d_M_about_16 (by rw [hc1]; decide) (by rw [hc1]; decide) (by rw [hc1]; rfl) (by decide) ?_
      refine lv_aload_n hx hb d_M_about_59 rfl (lv_at hl 0 rfl) ?_
      refine lv_iload_n hx hb d_M_about_60 rfl (lv_at hl 1 rfl) ?_
      obtain ⟨x5, g6, hf⟩ := jv_ob hf
      have hPc := hP.sub (ws' := (w_model cI q_mo q_mlb_ q_mcl_ q_mus_ q_mwr_ q_mdk_ q_mcp_ (0 : Int32) mar mfu mLb mCl mUs mWr mDk mCp)) [0, 1, 2, 3, 4, 5, 6] rfl
      refine jv_cs (W.runV (As := [.int y0]) (rest := []) (b := q_mo) ⟨hx, hb, hml, hown, hts⟩ (c_M_freeBlocks l dC dI cI cA cL q_mo q_mlb_ q_mcl_ q_mus_ q_mwr_ q_mdk_ q_mcp_ (0 : Int32) mar mfu mLb mCl mUs mWr mDk mCp y0 x5 g6) (jv_cwV hts wa_273 wa_194 wa_274 wa_275 wa_276 rfl rfl yd_M_freeBlocks ⟨Nat.le_of_ble_eq_true rfl, Nat.le_of_ble_eq_true rfl⟩) (jv_preV hK hPc 0 rfl rfl) rfl rfl hl.1 rfl (lv_room (Nat.le_of_ble_eq_true rfl)) d_M_about_61 ⟨Nat.zero_le _, Nat.zero_le _⟩) ?_
      obtain rfl := Option.some.inj hf
      exact W.iret hx hb hr (fun t ht hW => ⟨rfl, by rw [ht]; exact hP, hD, hS.F ht⟩) hS.2.2 d_M_about_64
    have hf := jv_if hf hc1
    have nhc1 := lv_neT hc1 (a := 1) (by decide)
    by_cases hc2 : y1 = (2 : Int32)
    · have hf := jv_it hf hc2
      refine lv_tableIn (off := 49) (tgt := 65) hx hb d_M_about_16 (by rw [hc2]; decide) (by rw [hc2]; decide) (by rw [hc2]; rfl) (by decide) ?_
      refine lv_aload_n hx hb d_M_about_65 rfl (lv_at hl 0 rfl) ?_
      refine lv_iload_n hx hb d_M_about_66 rfl (lv_at hl 1 rfl) ?_
      obtain ⟨x7, g8, hf⟩ := jv_ob hf
      have hPc := hP.sub (ws' := (w_model cI q_mo q_mlb_ q_mcl_ q_mus_ q_mwr_ q_mdk_ q_mcp_ (0 : Int32) mar mfu mLb mCl mUs mWr mDk mCp)) [0, 1, 2, 3, 4, 5, 6] rfl
      refine jv_cs (W.runV (As := [.int y0]) (rest := []) (b := q_mo) ⟨hx, hb, hml, hown, hts⟩ (c_M_freeInodes l dC dI cI cA cL q_mo q_mlb_ q_mcl_ q_mus_ q_mwr_ q_mdk_ q_mcp_ (0 : Int32) mar mfu mLb mCl mUs mWr mDk mCp y0 x7 g8) (jv_cwV hts wa_253 wa_194 wa_254 wa_255 wa_256 rfl rfl yd_M_freeInodes ⟨Nat.le_of_ble_eq_true rfl, Nat.le_of_ble_eq_true rfl⟩) (jv_preV hK hPc 0 rfl rfl) rfl rfl hl.1 rfl (lv_room (Nat.le_of_ble_eq_true rfl)) d_M_about_67 ⟨Nat.zero_le _, Nat.zero_le _⟩) ?_
      obtain rfl := Option.some.inj hf
      exact W.iret hx hb hr (fun t ht hW => ⟨rfl, by rw [ht]; exact hP, hD, hS.F ht⟩) hS.2.2 d_M_about_70
    have hf := jv_if hf hc2
    have nhc2 := lv_neT hc2 (a := 2) (by decide)
    by_cases hc3 : y1 = (3 : Int32)
    · have hf := jv_it hf hc3
      refine lv_tableIn (off := 55) (tgt := 71) hx hb d_M_about_16 (by rw [hc3]; decide) (by rw [hc3]; decide) (by rw [hc3]; rfl) (by decide) ?_
      refine lv_aload_n hx hb d_M_about_71 rfl (lv_at hl 0 rfl) ?_
      refine va_get (D := (dC, dI)) (ci := kModel) (v := .ref q_mwr_) (C := R_Model) (T := T_Model) (N := 9) hx hb hts (fun w h => List.mem_cons_of_mem _ (in_Model w h)) hown hK hP 0 rfl rfl 5 (by decide) (jv_w hts wa_248) (fun _ h9 => h9) rfl d_M_about_72 ?_
      refine lv_iload_n hx hb d_M_about_75 rfl (lv_at hl 1 rfl) ?_
      obtain ⟨x9, g10, hf⟩ := jv_ob hf
      refine jv_iald hx hb hK hP 4 0 rfl rfl g10 d_M_about_76 ?_
      obtain rfl := Option.some.inj hf
      exact W.iret hx hb hr (fun t ht hW => ⟨rfl, by rw [ht]; exact hP, hD, hS.F ht⟩) hS.2.2 d_M_about_77
    have hf := jv_if hf hc3
    have nhc3 := lv_neT hc3 (a := 3) (by decide)
    by_cases hc4 : y1 = (4 : Int32)
    · have hf := jv_it hf hc4
      refine lv_tableIn (off := 62) (tgt := 78) hx hb d_M_about_16 (by rw [hc4]; decide) (by rw [hc4]; decide) (by rw [hc4]; rfl) (by decide) ?_
      refine lv_iconst (v := (0 : Int32)) hx hb d_M_about_78 (by decide) ?_
      refine lv_istore_n (lv' := [(3, .int (0 : Int32)), (0, .ref q_mo), (1, .int y0), (2, .int y1)]) hx hb d_M_about_79 rfl hl (by decide) rfl (fun ls hl => ?_)
      refine lv_iconst (v := (4 : Int32)) hx hb d_M_about_80 (by decide) ?_
      refine lv_iload_n hx hb d_M_about_81 rfl (lv_at hl 2 rfl) ?_
      refine lv_imul hx hb d_M_about_82 ?_
      refine lv_istore (lv' := [(4, .int ((4 : Int32) * y0)), (3, .int (0 : Int32)), (0, .ref q_mo), (1, .int y0), (2, .int y1)]) hx hb d_M_about_83 hl (by decide) rfl (fun ls hl => ?_)
      exact l_M_about_85 (y0 := y0) (y1 := (0 : Int32)) cx hK hA 300 ((0 : Int32), (4 : Int32) * y0) _ _ _ (lv_sub hl [2, 3, 1, 0] rfl) hP hD hS hf
    have hf := jv_if hf hc4
    have nhc4 := lv_neT hc4 (a := 4) (by decide)
    refine lv_tableOut (tgt := 121) hx hb d_M_about_16 (by omega) (by decide) ?_
    refine lv_iconst (v := (-1 : Int32)) hx hb d_M_about_121 (by decide) ?_
    obtain rfl := Option.some.inj hf
    exact W.iret hx hb hr (fun t ht hW => ⟨rfl, by rw [ht]; exact hP, hD, hS.F ht⟩) hS.2.2 d_M_about_122
  · have hf := jv_it hf hc
    refine lv_iconst (v := (-1 : Int32)) hx hb d_M_about_13 (by decide) ?_
    obtain rfl := Option.some.inj hf
    exact W.iret hx hb hr (fun t ht hW => ⟨rfl, by rw [ht]; exact hP, hD, hS.F ht⟩) hS.2.2 d_M_about_14
def f_M_about (mar : Int32) (mLb : Nat → Int32) (mUs : Nat → Int32) (mWr : Nat → Int32) (mDk : Nat → Int32) (a0 : Int32) (a1 : Int32) (mth : Int32) : Option (Int32 × Int32) := f_M_about_0 mar mLb mUs mWr mDk a0 a1 mth
set_option maxHeartbeats 4000000 in
set_option maxRecDepth 100000 in
theorem c_M_about (l : Launch) (dC : Nat → ClassId) (dI : Nat → Nat → Nat) (cI cA cL : ClassId) (q_mo q_mlb_ q_mcl_ q_mus_ q_mwr_ q_mdk_ q_mcp_ : Nat) (mth : Int32) (mar : Int32) (mfu : Int32) (mLb : Nat → Int32) (mCl : Nat → Int32) (mUs : Nat → Int32) (mWr : Nat → Int32) (mDk : Nat → Int32) (mCp : Nat → Int32) (a0 : Int32) (a1 : Int32) (sz : Nat) (r : Int32 × Int32) (hf : f_M_about mar mLb mUs mWr mDk a0 a1 mth = some r) : Met l y_M_about ws_M_about rm_M_about (jv_Pw [.ref q_mo, .int a0, .int a1] (dC, dI) (jv_ty cI cA cL) (w_model cI q_mo q_mlb_ q_mcl_ q_mus_ q_mwr_ q_mdk_ q_mcp_ mth mar mfu mLb mCl mUs mWr mDk mCp) sz) (jv_Qi r.1 (dC, dI) (w_model cI q_mo q_mlb_ q_mcl_ q_mus_ q_mwr_ q_mdk_ q_mcp_ r.2 mar mfu mLb mCl mUs mWr mDk mCp) (va_A (w_model cI q_mo q_mlb_ q_mcl_ q_mus_ q_mwr_ q_mdk_ q_mcp_ mth mar mfu mLb mCl mUs mWr mDk mCp) sz)) 0 0 (va_A (w_model cI q_mo q_mlb_ q_mcl_ q_mus_ q_mwr_ q_mdk_ q_mcp_ mth mar mfu mLb mCl mUs mWr mDk mCp) sz) := by
  refine Met.ofW (cc := cc_M_about) (maxL := 5) (ret := (some .int)) (by decide) rfl ?_
  intro p e s m args below meth c s₁ B hml hv
  obtain ⟨rfl, hsz, hP, hK, hD0⟩ := hv
  have cx : jv_cx p s m _ meth c cc_M_about 5 R_Model (some .int) ws_M_about := ⟨B.exec, B.bytes, hml, findClass_of_methodNamed B.named, atoms_spec (ws := ws_M_about) B.pre, B.returns, B.notSynchronized⟩
  subst hsz
  have hD := hD0.self (sz := s.heap.size)
  generalize hAe : va_A (w_model cI q_mo q_mlb_ q_mcl_ q_mus_ q_mwr_ q_mdk_ q_mcp_ mth mar mfu mLb mCl mUs mWr mDk mCp) s.heap.size = A at hD ⊢
  have hA : ∀ q : Nat, s.heap.size ≤ q → A q := fun q h => by rw [← hAe]; exact Or.inr h
  have hS : va_S A s.heap s.heap [] := va_S.rf
  have hl := lv_entry ([.ref q_mo, .int a0, .int a1]) (n := 5) (Nat.le_of_ble_eq_true rfl)
  rw [lg_entry_eq]
  generalize (lg_sl ([.ref q_mo, .int a0, .int a1]) ++ List.replicate (5 - (lg_sl ([.ref q_mo, .int a0, .int a1])).length) Slot.unset).toArray = ls at hl ⊢
  have hl : lv_has ls 5 [(0, .ref q_mo), (1, .int a0), (2, .int a1)] := hl
  exact b_M_about_0 (y0 := a0) (y1 := a1) (y2 := mth) cx hK hA (lv_sub hl [0, 1, 2] rfl) hP hD hS hf
theorem d_M_user_0 : decode cc_M_user 0 = .ok (.aload_n 0, 1) := by decide +kernel
theorem d_M_user_1 : decode cc_M_user 1 = .ok (.iconst 0, 1) := by decide +kernel
theorem d_M_user_2 : decode cc_M_user 2 = .ok (.putfield 32, 3) := by decide +kernel
theorem d_M_user_5 : decode cc_M_user 5 = .ok (.aload_n 0, 1) := by decide +kernel
theorem d_M_user_6 : decode cc_M_user 6 = .ok (.iload_n 1, 1) := by decide +kernel
theorem d_M_user_7 : decode cc_M_user 7 = .ok (.invokevirtual 53, 3) := by decide +kernel
theorem d_M_user_10 : decode cc_M_user 10 = .ok (.ifCond .eq 14, 3) := by decide +kernel
theorem d_M_user_24 : decode cc_M_user 24 = .ok (.iconst (-1), 1) := by decide +kernel
theorem d_M_user_25 : decode cc_M_user 25 = .ok (.ireturn, 1) := by decide +kernel
theorem d_M_user_13 : decode cc_M_user 13 = .ok (.aload_n 0, 1) := by decide +kernel
theorem d_M_user_14 : decode cc_M_user 14 = .ok (.getfield 16, 3) := by decide +kernel
theorem d_M_user_17 : decode cc_M_user 17 = .ok (.iload_n 1, 1) := by decide +kernel
theorem d_M_user_18 : decode cc_M_user 18 = .ok (.iaload, 1) := by decide +kernel
theorem d_M_user_19 : decode cc_M_user 19 = .ok (.iconst 1, 1) := by decide +kernel
theorem d_M_user_20 : decode cc_M_user 20 = .ok (.isub, 1) := by decide +kernel
theorem d_M_user_21 : decode cc_M_user 21 = .ok (.goto 4, 3) := by decide +kernel
def f_M_user_0 (mUs : Nat → Int32) (y0 : Int32) (y1 : Int32) : Option (Int32 × Int32) :=
  (f_M_isSession mUs y0).bind fun x1 => if x1 = 0 then (some ((-1 : Int32), (0 : Int32))) else ((jv_ga mUs 24 y0).bind fun x3 => some (x3 - (1 : Int32), (0 : Int32)))
set_option maxHeartbeats 4000000 in
set_option maxRecDepth 100000 in
theorem b_M_user_0 {l : Launch} {dC : Nat → ClassId} {dI : Nat → Nat → Nat} {cI cA cL : ClassId} {q_mo q_mlb_ q_mcl_ q_mus_ q_mwr_ q_mdk_ q_mcp_ : Nat} {mar : Int32} {mfu : Int32} {mLb : Nat → Int32} {mCl : Nat → Int32} {mUs : Nat → Int32} {mWr : Nat → Int32} {mDk : Nat → Int32} {mCp : Nat → Int32} {p : Program} {e : Env} {s : State} {m : MethodId} {args : Array Value} {below : List Frame} {meth : Method} {c : Code} (cx : jv_cx p s m args meth c cc_M_user 2 R_Model (some .int) ws_M_user) (hK : va_K (dC, dI) vwCl (jv_ty cI cA cL) s) {A : Nat → Prop} (hA : ∀ q : Nat, s.heap.size ≤ q → A q) {r : Int32 × Int32} {y0 : Int32} {y1 : Int32} {ls : Array Slot} (hl : lv_has ls 2 [(0, .ref q_mo), (1, .int y0)]) {H : Heap} {locs : List Loc} (hP : va_P (dC, dI) vwCl (w_model cI q_mo q_mlb_ q_mcl_ q_mus_ q_mwr_ q_mdk_ q_mcp_ y1 mar mfu mLb mCl mUs mWr mDk mCp) H) (hD : va_D A (w_model cI q_mo q_mlb_ q_mcl_ q_mus_ q_mwr_ q_mdk_ q_mcp_ y1 mar mfu mLb mCl mUs mWr mDk mCp)) (hS : va_S A s.heap H locs) (hf : f_M_user_0 mUs y0 y1 = some r) : W p l e rm_M_user s m args below meth c H locs 0 0 (MQ below (jv_Qi r.1 (dC, dI) (w_model cI q_mo q_mlb_ q_mcl_ q_mus_ q_mwr_ q_mdk_ q_mcp_ r.2 mar mfu mLb mCl mUs mWr mDk mCp) A) args s 0 0 A) (F0 m 0 ls []) := by
  unfold f_M_user_0 at hf
  obtain ⟨hx, hb, hml, hown, hts, hr, hlocks⟩ := id cx
  refine lv_aload_n hx hb d_M_user_0 rfl (lv_at hl 0 rfl) ?_
  refine lv_iconst (v := (0 : Int32)) hx hb d_M_user_1 (by decide) ?_
  refine va_put (D := (dC, dI)) (ci := kModel) (v := .int (0 : Int32)) (ty := .int) (C := R_Model) (T := T_Model) (N := 9) hx hb hts (fun w h => List.mem_cons_of_mem _ (in_Model w h)) ty_Model tyok_Model nm_Model hown hK hP hD hS 0 rfl rfl 0 (by decide) (jv_w hts wa_200) (fun _ h9 => h9) rfl (by decide +kernel) rfl rfl (Nat.le_of_ble_eq_true rfl) d_M_user_2 (fun H locs hP hD hS => ?_)
  have hP : va_P (dC, dI) vwCl (w_model cI q_mo q_mlb_ q_mcl_ q_mus_ q_mwr_ q_mdk_ q_mcp_ (0 : Int32) mar mfu mLb mCl mUs mWr mDk mCp) H := hP
  have hD : va_D A (w_model cI q_mo q_mlb_ q_mcl_ q_mus_ q_mwr_ q_mdk_ q_mcp_ (0 : Int32) mar mfu mLb mCl mUs mWr mDk mCp) := hD
  refine lv_aload_n hx hb d_M_user_5 rfl (lv_at hl 0 rfl) ?_
  refine lv_iload_n hx hb d_M_user_6 rfl (lv_at hl 1 rfl) ?_
  obtain ⟨x1, g2, hf⟩ := jv_ob hf
  have hPc := hP.sub (ws' := (w_model cI q_mo q_mlb_ q_mcl_ q_mus_ q_mwr_ q_mdk_ q_mcp_ (0 : Int32) mar mfu mLb mCl mUs mWr mDk mCp)) [0, 1, 2, 3, 4, 5, 6] rfl
  refine jv_cs (W.runV (As := [.int y0]) (rest := []) (b := q_mo) ⟨hx, hb, hml, hown, hts⟩ (c_M_isSession l dC dI cI cA cL q_mo q_mlb_ q_mcl_ q_mus_ q_mwr_ q_mdk_ q_mcp_ (0 : Int32) mar mfu mLb mCl mUs mWr mDk mCp y0 x1 g2) (jv_cwV hts wa_227 wa_194 wa_228 wa_229 wa_230 rfl rfl yd_M_isSession ⟨Nat.le_of_ble_eq_true rfl, Nat.le_of_ble_eq_true rfl⟩) (jv_preV hK hPc 0 rfl rfl) rfl rfl hl.1 rfl (lv_room (Nat.le_of_ble_eq_true rfl)) d_M_user_7 ⟨Nat.zero_le _, Nat.zero_le _⟩) ?_
  refine lv_if_eq (tgt := 24) hx hb d_M_user_10 (by decide) (fun hc => ?_) (fun hc => ?_)
  · have hf := jv_it hf hc
    refine lv_iconst (v := (-1 : Int32)) hx hb d_M_user_24 (by decide) ?_
    obtain rfl := Option.some.inj hf
    exact W.iret hx hb hr (fun t ht hW => ⟨rfl, by rw [ht]; exact hP, hD, hS.F ht⟩) hS.2.2 d_M_user_25
  · have hf := jv_if hf hc
    refine lv_aload_n hx hb d_M_user_13 rfl (lv_at hl 0 rfl) ?_
    refine va_get (D := (dC, dI)) (ci := kModel) (v := .ref q_mus_) (C := R_Model) (T := T_Model) (N := 9) hx hb hts (fun w h => List.mem_cons_of_mem _ (in_Model w h)) hown hK hP 0 rfl rfl 4 (by decide) (jv_w hts wa_202) (fun _ h9 => h9) rfl d_M_user_14 ?_
    refine lv_iload_n hx hb d_M_user_17 rfl (lv_at hl 1 rfl) ?_
    obtain ⟨x3, g4, hf⟩ := jv_ob hf
    refine jv_iald hx hb hK hP 3 0 rfl rfl g4 d_M_user_18 ?_
    refine lv_iconst (v := (1 : Int32)) hx hb d_M_user_19 (by decide) ?_
    refine lv_isub hx hb d_M_user_20 ?_
    refine lv_goto (tgt := 25) hx hb d_M_user_21 (by decide) ?_
    obtain rfl := Option.some.inj hf
    exact W.iret hx hb hr (fun t ht hW => ⟨rfl, by rw [ht]; exact hP, hD, hS.F ht⟩) hS.2.2 d_M_user_25
def f_M_user (mUs : Nat → Int32) (a0 : Int32) (mth : Int32) : Option (Int32 × Int32) := f_M_user_0 mUs a0 mth
set_option maxHeartbeats 4000000 in
set_option maxRecDepth 100000 in
theorem c_M_user (l : Launch) (dC : Nat → ClassId) (dI : Nat → Nat → Nat) (cI cA cL : ClassId) (q_mo q_mlb_ q_mcl_ q_mus_ q_mwr_ q_mdk_ q_mcp_ : Nat) (mth : Int32) (mar : Int32) (mfu : Int32) (mLb : Nat → Int32) (mCl : Nat → Int32) (mUs : Nat → Int32) (mWr : Nat → Int32) (mDk : Nat → Int32) (mCp : Nat → Int32) (a0 : Int32) (sz : Nat) (r : Int32 × Int32) (hf : f_M_user mUs a0 mth = some r) : Met l y_M_user ws_M_user rm_M_user (jv_Pw [.ref q_mo, .int a0] (dC, dI) (jv_ty cI cA cL) (w_model cI q_mo q_mlb_ q_mcl_ q_mus_ q_mwr_ q_mdk_ q_mcp_ mth mar mfu mLb mCl mUs mWr mDk mCp) sz) (jv_Qi r.1 (dC, dI) (w_model cI q_mo q_mlb_ q_mcl_ q_mus_ q_mwr_ q_mdk_ q_mcp_ r.2 mar mfu mLb mCl mUs mWr mDk mCp) (va_A (w_model cI q_mo q_mlb_ q_mcl_ q_mus_ q_mwr_ q_mdk_ q_mcp_ mth mar mfu mLb mCl mUs mWr mDk mCp) sz)) 0 0 (va_A (w_model cI q_mo q_mlb_ q_mcl_ q_mus_ q_mwr_ q_mdk_ q_mcp_ mth mar mfu mLb mCl mUs mWr mDk mCp) sz) := by
  refine Met.ofW (cc := cc_M_user) (maxL := 2) (ret := (some .int)) (by decide) rfl ?_
  intro p e s m args below meth c s₁ B hml hv
  obtain ⟨rfl, hsz, hP, hK, hD0⟩ := hv
  have cx : jv_cx p s m _ meth c cc_M_user 2 R_Model (some .int) ws_M_user := ⟨B.exec, B.bytes, hml, findClass_of_methodNamed B.named, atoms_spec (ws := ws_M_user) B.pre, B.returns, B.notSynchronized⟩
  subst hsz
  have hD := hD0.self (sz := s.heap.size)
  generalize hAe : va_A (w_model cI q_mo q_mlb_ q_mcl_ q_mus_ q_mwr_ q_mdk_ q_mcp_ mth mar mfu mLb mCl mUs mWr mDk mCp) s.heap.size = A at hD ⊢
  have hA : ∀ q : Nat, s.heap.size ≤ q → A q := fun q h => by rw [← hAe]; exact Or.inr h
  have hS : va_S A s.heap s.heap [] := va_S.rf
  have hl := lv_entry ([.ref q_mo, .int a0]) (n := 2) (Nat.le_of_ble_eq_true rfl)
  rw [lg_entry_eq]
  generalize (lg_sl ([.ref q_mo, .int a0]) ++ List.replicate (2 - (lg_sl ([.ref q_mo, .int a0])).length) Slot.unset).toArray = ls at hl ⊢
  have hl : lv_has ls 2 [(0, .ref q_mo), (1, .int a0)] := hl
  exact b_M_user_0 (y0 := a0) (y1 := mth) cx hK hA (lv_sub hl [0, 1] rfl) hP hD hS hf
theorem d_M_fuse_0 : decode cc_M_fuse 0 = .ok (.aload_n 0, 1) := by decide +kernel
theorem d_M_fuse_1 : decode cc_M_fuse 1 = .ok (.iconst 0, 1) := by decide +kernel
theorem d_M_fuse_2 : decode cc_M_fuse 2 = .ok (.putfield 32, 3) := by decide +kernel
theorem d_M_fuse_5 : decode cc_M_fuse 5 = .ok (.aload_n 0, 1) := by decide +kernel
theorem d_M_fuse_6 : decode cc_M_fuse 6 = .ok (.getfield 28, 3) := by decide +kernel
theorem d_M_fuse_9 : decode cc_M_fuse 9 = .ok (.ireturn, 1) := by decide +kernel
def f_M_fuse_0 (mfu : Int32) (y0 : Int32) : Option (Int32 × Int32) :=
  some (mfu, (0 : Int32))
set_option maxHeartbeats 4000000 in
set_option maxRecDepth 100000 in
theorem b_M_fuse_0 {l : Launch} {dC : Nat → ClassId} {dI : Nat → Nat → Nat} {cI cA cL : ClassId} {q_mo q_mlb_ q_mcl_ q_mus_ q_mwr_ q_mdk_ q_mcp_ : Nat} {mar : Int32} {mfu : Int32} {mLb : Nat → Int32} {mCl : Nat → Int32} {mUs : Nat → Int32} {mWr : Nat → Int32} {mDk : Nat → Int32} {mCp : Nat → Int32} {p : Program} {e : Env} {s : State} {m : MethodId} {args : Array Value} {below : List Frame} {meth : Method} {c : Code} (cx : jv_cx p s m args meth c cc_M_fuse 1 R_Model (some .int) ws_M_fuse) (hK : va_K (dC, dI) vwCl (jv_ty cI cA cL) s) {A : Nat → Prop} (hA : ∀ q : Nat, s.heap.size ≤ q → A q) {r : Int32 × Int32} {y0 : Int32} {ls : Array Slot} (hl : lv_has ls 1 [(0, .ref q_mo)]) {H : Heap} {locs : List Loc} (hP : va_P (dC, dI) vwCl (w_model cI q_mo q_mlb_ q_mcl_ q_mus_ q_mwr_ q_mdk_ q_mcp_ y0 mar mfu mLb mCl mUs mWr mDk mCp) H) (hD : va_D A (w_model cI q_mo q_mlb_ q_mcl_ q_mus_ q_mwr_ q_mdk_ q_mcp_ y0 mar mfu mLb mCl mUs mWr mDk mCp)) (hS : va_S A s.heap H locs) (hf : f_M_fuse_0 mfu y0 = some r) : W p l e rm_M_fuse s m args below meth c H locs 0 0 (MQ below (jv_Qi r.1 (dC, dI) (w_model cI q_mo q_mlb_ q_mcl_ q_mus_ q_mwr_ q_mdk_ q_mcp_ r.2 mar mfu mLb mCl mUs mWr mDk mCp) A) args s 0 0 A) (F0 m 0 ls []) := by
  unfold f_M_fuse_0 at hf
  obtain ⟨hx, hb, hml, hown, hts, hr, hlocks⟩ := id cx
  refine lv_aload_n hx hb d_M_fuse_0 rfl (lv_at hl 0 rfl) ?_
  refine lv_iconst (v := (0 : Int32)) hx hb d_M_fuse_1 (by decide) ?_
  refine va_put (D := (dC, dI)) (ci := kModel) (v := .int (0 : Int32)) (ty := .int) (C := R_Model) (T := T_Model) (N := 9) hx hb hts (fun w h => List.mem_cons_of_mem _ (in_Model w h)) ty_Model tyok_Model nm_Model hown hK hP hD hS 0 rfl rfl 0 (by decide) (jv_w hts wa_200) (fun _ h9 => h9) rfl (by decide +kernel) rfl rfl (Nat.le_of_ble_eq_true rfl) d_M_fuse_2 (fun H locs hP hD hS => ?_)
  have hP : va_P (dC, dI) vwCl (w_model cI q_mo q_mlb_ q_mcl_ q_mus_ q_mwr_ q_mdk_ q_mcp_ (0 : Int32) mar mfu mLb mCl mUs mWr mDk mCp) H := hP
  have hD : va_D A (w_model cI q_mo q_mlb_ q_mcl_ q_mus_ q_mwr_ q_mdk_ q_mcp_ (0 : Int32) mar mfu mLb mCl mUs mWr mDk mCp) := hD
  refine lv_aload_n hx hb d_M_fuse_5 rfl (lv_at hl 0 rfl) ?_
  refine va_get (D := (dC, dI)) (ci := kModel) (v := .int mfu) (C := R_Model) (T := T_Model) (N := 9) hx hb hts (fun w h => List.mem_cons_of_mem _ (in_Model w h)) hown hK hP 0 rfl rfl 8 (by decide) (jv_w hts wa_247) (fun _ h9 => h9) rfl d_M_fuse_6 ?_
  obtain rfl := Option.some.inj hf
  exact W.iret hx hb hr (fun t ht hW => ⟨rfl, by rw [ht]; exact hP, hD, hS.F ht⟩) hS.2.2 d_M_fuse_9
def f_M_fuse (mfu : Int32) (mth : Int32) : Option (Int32 × Int32) := f_M_fuse_0 mfu mth
set_option maxHeartbeats 4000000 in
set_option maxRecDepth 100000 in
theorem c_M_fuse (l : Launch) (dC : Nat → ClassId) (dI : Nat → Nat → Nat) (cI cA cL : ClassId) (q_mo q_mlb_ q_mcl_ q_mus_ q_mwr_ q_mdk_ q_mcp_ : Nat) (mth : Int32) (mar : Int32) (mfu : Int32) (mLb : Nat → Int32) (mCl : Nat → Int32) (mUs : Nat → Int32) (mWr : Nat → Int32) (mDk : Nat → Int32) (mCp : Nat → Int32) (sz : Nat) (r : Int32 × Int32) (hf : f_M_fuse mfu mth = some r) : Met l y_M_fuse ws_M_fuse rm_M_fuse (jv_Pw [.ref q_mo] (dC, dI) (jv_ty cI cA cL) (w_model cI q_mo q_mlb_ q_mcl_ q_mus_ q_mwr_ q_mdk_ q_mcp_ mth mar mfu mLb mCl mUs mWr mDk mCp) sz) (jv_Qi r.1 (dC, dI) (w_model cI q_mo q_mlb_ q_mcl_ q_mus_ q_mwr_ q_mdk_ q_mcp_ r.2 mar mfu mLb mCl mUs mWr mDk mCp) (va_A (w_model cI q_mo q_mlb_ q_mcl_ q_mus_ q_mwr_ q_mdk_ q_mcp_ mth mar mfu mLb mCl mUs mWr mDk mCp) sz)) 0 0 (va_A (w_model cI q_mo q_mlb_ q_mcl_ q_mus_ q_mwr_ q_mdk_ q_mcp_ mth mar mfu mLb mCl mUs mWr mDk mCp) sz) := by
  refine Met.ofW (cc := cc_M_fuse) (maxL := 1) (ret := (some .int)) (by decide) rfl ?_
  intro p e s m args below meth c s₁ B hml hv
  obtain ⟨rfl, hsz, hP, hK, hD0⟩ := hv
  have cx : jv_cx p s m _ meth c cc_M_fuse 1 R_Model (some .int) ws_M_fuse := ⟨B.exec, B.bytes, hml, findClass_of_methodNamed B.named, atoms_spec (ws := ws_M_fuse) B.pre, B.returns, B.notSynchronized⟩
  subst hsz
  have hD := hD0.self (sz := s.heap.size)
  generalize hAe : va_A (w_model cI q_mo q_mlb_ q_mcl_ q_mus_ q_mwr_ q_mdk_ q_mcp_ mth mar mfu mLb mCl mUs mWr mDk mCp) s.heap.size = A at hD ⊢
  have hA : ∀ q : Nat, s.heap.size ≤ q → A q := fun q h => by rw [← hAe]; exact Or.inr h
  have hS : va_S A s.heap s.heap [] := va_S.rf
  have hl := lv_entry ([.ref q_mo]) (n := 1) (Nat.le_of_ble_eq_true rfl)
  rw [lg_entry_eq]
  generalize (lg_sl ([.ref q_mo]) ++ List.replicate (1 - (lg_sl ([.ref q_mo])).length) Slot.unset).toArray = ls at hl ⊢
  have hl : lv_has ls 1 [(0, .ref q_mo)] := hl
  exact b_M_fuse_0 (y0 := mth) cx hK hA (lv_sub hl [0] rfl) hP hD hS hf
theorem d_M_crash_0 : decode cc_M_crash 0 = .ok (.aload_n 0, 1) := by decide +kernel
theorem d_M_crash_1 : decode cc_M_crash 1 = .ok (.iconst 0, 1) := by decide +kernel
theorem d_M_crash_2 : decode cc_M_crash 2 = .ok (.putfield 32, 3) := by decide +kernel
theorem d_M_crash_5 : decode cc_M_crash 5 = .ok (.aload_n 0, 1) := by decide +kernel
theorem d_M_crash_6 : decode cc_M_crash 6 = .ok (.invokevirtual 77, 3) := by decide +kernel
theorem d_M_crash_9 : decode cc_M_crash 9 = .ok (.ireturn, 1) := by decide +kernel
def f_M_crash_0 (y0 : Int32) (y1 : Int32) (y2 : Nat → Int32) : Option (Int32 × Int32 × Int32 × (Nat → Int32)) :=
  (f_M_crashNow y1 y2).bind fun x1 => some (x1.1, (0 : Int32), x1.2.1, x1.2.2)
set_option maxHeartbeats 4000000 in
set_option maxRecDepth 100000 in
theorem b_M_crash_0 {l : Launch} {dC : Nat → ClassId} {dI : Nat → Nat → Nat} {cI cA cL : ClassId} {q_mo q_mlb_ q_mcl_ q_mus_ q_mwr_ q_mdk_ q_mcp_ : Nat} {mar : Int32} {mLb : Nat → Int32} {mCl : Nat → Int32} {mWr : Nat → Int32} {mDk : Nat → Int32} {mCp : Nat → Int32} {p : Program} {e : Env} {s : State} {m : MethodId} {args : Array Value} {below : List Frame} {meth : Method} {c : Code} (cx : jv_cx p s m args meth c cc_M_crash 1 R_Model (some .int) ws_M_crash) (hK : va_K (dC, dI) vwCl (jv_ty cI cA cL) s) {A : Nat → Prop} (hA : ∀ q : Nat, s.heap.size ≤ q → A q) {r : Int32 × Int32 × Int32 × (Nat → Int32)} {y0 : Int32} {y1 : Int32} {y2 : Nat → Int32} {ls : Array Slot} (hl : lv_has ls 1 [(0, .ref q_mo)]) {H : Heap} {locs : List Loc} (hP : va_P (dC, dI) vwCl (w_model cI q_mo q_mlb_ q_mcl_ q_mus_ q_mwr_ q_mdk_ q_mcp_ y0 mar y1 mLb mCl y2 mWr mDk mCp) H) (hD : va_D A (w_model cI q_mo q_mlb_ q_mcl_ q_mus_ q_mwr_ q_mdk_ q_mcp_ y0 mar y1 mLb mCl y2 mWr mDk mCp)) (hS : va_S A s.heap H locs) (hf : f_M_crash_0 y0 y1 y2 = some r) : W p l e rm_M_crash s m args below meth c H locs 0 0 (MQ below (jv_Qi r.1 (dC, dI) (w_model cI q_mo q_mlb_ q_mcl_ q_mus_ q_mwr_ q_mdk_ q_mcp_ r.2.1 mar r.2.2.1 mLb mCl r.2.2.2 mWr mDk mCp) A) args s 0 0 A) (F0 m 0 ls []) := by
  unfold f_M_crash_0 at hf
  obtain ⟨hx, hb, hml, hown, hts, hr, hlocks⟩ := id cx
  refine lv_aload_n hx hb d_M_crash_0 rfl (lv_at hl 0 rfl) ?_
  refine lv_iconst (v := (0 : Int32)) hx hb d_M_crash_1 (by decide) ?_
  refine va_put (D := (dC, dI)) (ci := kModel) (v := .int (0 : Int32)) (ty := .int) (C := R_Model) (T := T_Model) (N := 9) hx hb hts (fun w h => List.mem_cons_of_mem _ (in_Model w h)) ty_Model tyok_Model nm_Model hown hK hP hD hS 0 rfl rfl 0 (by decide) (jv_w hts wa_200) (fun _ h9 => h9) rfl (by decide +kernel) rfl rfl (Nat.le_of_ble_eq_true rfl) d_M_crash_2 (fun H locs hP hD hS => ?_)
  have hP : va_P (dC, dI) vwCl (w_model cI q_mo q_mlb_ q_mcl_ q_mus_ q_mwr_ q_mdk_ q_mcp_ (0 : Int32) mar y1 mLb mCl y2 mWr mDk mCp) H := hP
  have hD : va_D A (w_model cI q_mo q_mlb_ q_mcl_ q_mus_ q_mwr_ q_mdk_ q_mcp_ (0 : Int32) mar y1 mLb mCl y2 mWr mDk mCp) := hD
  refine lv_aload_n hx hb d_M_crash_5 rfl (lv_at hl 0 rfl) ?_
  obtain ⟨x1, g2, hf⟩ := jv_ob hf
  have hPc := hP.sub (ws' := (w_model cI q_mo q_mlb_ q_mcl_ q_mus_ q_mwr_ q_mdk_ q_mcp_ (0 : Int32) mar y1 mLb mCl y2 mWr mDk mCp)) [0, 1, 2, 3, 4, 5, 6] rfl
  have hDc := hD.sub (ws' := (w_model cI q_mo q_mlb_ q_mcl_ q_mus_ q_mwr_ q_mdk_ q_mcp_ (0 : Int32) mar y1 mLb mCl y2 mWr mDk mCp)) [0, 1, 2, 3, 4, 5, 6] (by decide) rfl
  have hFc := va_free (wc := (w_model cI q_mo q_mlb_ q_mcl_ q_mus_ q_mwr_ q_mdk_ q_mcp_ (0 : Int32) mar y1 mLb mCl y2 mWr mDk mCp)) hD hS hA [0, 1, 2, 3, 4, 5, 6] rfl
  refine jv_cwi (va_runV (As := []) (rest := []) (b := q_mo) ⟨hx, hb, hml, hown, hts⟩ (c_M_crashNow l dC dI cI cA cL q_mo q_mlb_ q_mcl_ q_mus_ q_mwr_ q_mdk_ q_mcp_ (0 : Int32) mar y1 mLb mCl y2 mWr mDk mCp H.size x1 g2) (jv_cwV hts wa_249 wa_194 wa_250 wa_251 wa_252 rfl rfl yd_M_crashNow ⟨Nat.le_of_ble_eq_true rfl, Nat.le_of_ble_eq_true rfl⟩) (jv_preVW hK hPc hDc 0 rfl rfl) rfl rfl hl.1 rfl (lv_room (Nat.le_of_ble_eq_true rfl)) d_M_crash_6 ⟨Nat.zero_le _, Nat.zero_le _⟩) hS hFc (fun H1 locs hP1 hD1 hk1 hS => ?_)
  have hP : va_P (dC, dI) vwCl (w_model cI q_mo q_mlb_ q_mcl_ q_mus_ q_mwr_ q_mdk_ q_mcp_ (0 : Int32) mar x1.2.1 mLb mCl x1.2.2 mWr mDk mCp) H1 := hP1.sub [0, 1, 2, 3, 4, 5, 6] rfl
  have hD : va_D A (w_model cI q_mo q_mlb_ q_mcl_ q_mus_ q_mwr_ q_mdk_ q_mcp_ (0 : Int32) mar x1.2.1 mLb mCl x1.2.2 mWr mDk mCp) := (hD1.weaken (fun _ q _ h => hFc q.1 h)).sub [0, 1, 2, 3, 4, 5, 6] (by decide) rfl
  generalize H1 = H at hP hS ⊢
  obtain rfl := Option.some.inj hf
  exact W.iret hx hb hr (fun t ht hW => ⟨rfl, by rw [ht]; exact hP, hD, hS.F ht⟩) hS.2.2 d_M_crash_9
def f_M_crash (mth : Int32) (mfu : Int32) (mUs : Nat → Int32) : Option (Int32 × Int32 × Int32 × (Nat → Int32)) := f_M_crash_0 mth mfu mUs
set_option maxHeartbeats 4000000 in
set_option maxRecDepth 100000 in
theorem c_M_crash (l : Launch) (dC : Nat → ClassId) (dI : Nat → Nat → Nat) (cI cA cL : ClassId) (q_mo q_mlb_ q_mcl_ q_mus_ q_mwr_ q_mdk_ q_mcp_ : Nat) (mth : Int32) (mar : Int32) (mfu : Int32) (mLb : Nat → Int32) (mCl : Nat → Int32) (mUs : Nat → Int32) (mWr : Nat → Int32) (mDk : Nat → Int32) (mCp : Nat → Int32) (sz : Nat) (r : Int32 × Int32 × Int32 × (Nat → Int32)) (hf : f_M_crash mth mfu mUs = some r) : Met l y_M_crash ws_M_crash rm_M_crash (jv_Pw [.ref q_mo] (dC, dI) (jv_ty cI cA cL) (w_model cI q_mo q_mlb_ q_mcl_ q_mus_ q_mwr_ q_mdk_ q_mcp_ mth mar mfu mLb mCl mUs mWr mDk mCp) sz) (jv_Qi r.1 (dC, dI) (w_model cI q_mo q_mlb_ q_mcl_ q_mus_ q_mwr_ q_mdk_ q_mcp_ r.2.1 mar r.2.2.1 mLb mCl r.2.2.2 mWr mDk mCp) (va_A (w_model cI q_mo q_mlb_ q_mcl_ q_mus_ q_mwr_ q_mdk_ q_mcp_ mth mar mfu mLb mCl mUs mWr mDk mCp) sz)) 0 0 (va_A (w_model cI q_mo q_mlb_ q_mcl_ q_mus_ q_mwr_ q_mdk_ q_mcp_ mth mar mfu mLb mCl mUs mWr mDk mCp) sz) := by
  refine Met.ofW (cc := cc_M_crash) (maxL := 1) (ret := (some .int)) (by decide) rfl ?_
  intro p e s m args below meth c s₁ B hml hv
  obtain ⟨rfl, hsz, hP, hK, hD0⟩ := hv
  have cx : jv_cx p s m _ meth c cc_M_crash 1 R_Model (some .int) ws_M_crash := ⟨B.exec, B.bytes, hml, findClass_of_methodNamed B.named, atoms_spec (ws := ws_M_crash) B.pre, B.returns, B.notSynchronized⟩
  subst hsz
  have hD := hD0.self (sz := s.heap.size)
  generalize hAe : va_A (w_model cI q_mo q_mlb_ q_mcl_ q_mus_ q_mwr_ q_mdk_ q_mcp_ mth mar mfu mLb mCl mUs mWr mDk mCp) s.heap.size = A at hD ⊢
  have hA : ∀ q : Nat, s.heap.size ≤ q → A q := fun q h => by rw [← hAe]; exact Or.inr h
  have hS : va_S A s.heap s.heap [] := va_S.rf
  have hl := lv_entry ([.ref q_mo]) (n := 1) (Nat.le_of_ble_eq_true rfl)
  rw [lg_entry_eq]
  generalize (lg_sl ([.ref q_mo]) ++ List.replicate (1 - (lg_sl ([.ref q_mo])).length) Slot.unset).toArray = ls at hl ⊢
  have hl : lv_has ls 1 [(0, .ref q_mo)] := hl
  exact b_M_crash_0 (y0 := mth) (y1 := mfu) (y2 := mUs) cx hK hA (lv_sub hl [0] rfl) hP hD hS hf
theorem d_M_tear_0 : decode cc_M_tear 0 = .ok (.aload_n 0, 1) := by decide +kernel
theorem d_M_tear_1 : decode cc_M_tear 1 = .ok (.iload_n 1, 1) := by decide +kernel
theorem d_M_tear_2 : decode cc_M_tear 2 = .ok (.ifCond .lt 10, 3) := by decide +kernel
theorem d_M_tear_12 : decode cc_M_tear 12 = .ok (.iconst 1, 1) := by decide +kernel
theorem d_M_tear_13 : decode cc_M_tear 13 = .ok (.goto 4, 3) := by decide +kernel
theorem d_M_tear_17 : decode cc_M_tear 17 = .ok (.putfield 32, 3) := by decide +kernel
theorem d_M_tear_20 : decode cc_M_tear 20 = .ok (.aload_n 0, 1) := by decide +kernel
theorem d_M_tear_21 : decode cc_M_tear 21 = .ok (.getfield 32, 3) := by decide +kernel
theorem d_M_tear_24 : decode cc_M_tear 24 = .ok (.ifCond .le 5, 3) := by decide +kernel
theorem d_M_tear_29 : decode cc_M_tear 29 = .ok (.aload_n 0, 1) := by decide +kernel
theorem d_M_tear_30 : decode cc_M_tear 30 = .ok (.iload_n 1, 1) := by decide +kernel
theorem d_M_tear_31 : decode cc_M_tear 31 = .ok (.putfield 28, 3) := by decide +kernel
theorem d_M_tear_34 : decode cc_M_tear 34 = .ok (.iconst 1, 1) := by decide +kernel
theorem d_M_tear_35 : decode cc_M_tear 35 = .ok (.ireturn, 1) := by decide +kernel
theorem d_M_tear_27 : decode cc_M_tear 27 = .ok (.iconst 0, 1) := by decide +kernel
theorem d_M_tear_28 : decode cc_M_tear 28 = .ok (.ireturn, 1) := by decide +kernel
theorem d_M_tear_5 : decode cc_M_tear 5 = .ok (.iload_n 1, 1) := by decide +kernel
theorem d_M_tear_6 : decode cc_M_tear 6 = .ok (.sipush 1000, 3) := by decide +kernel
theorem d_M_tear_9 : decode cc_M_tear 9 = .ok (.if_icmp .le 7, 3) := by decide +kernel
theorem d_M_tear_16 : decode cc_M_tear 16 = .ok (.iconst 0, 1) := by decide +kernel
def f_M_tear_0 (y0 : Int32) (y1 : Int32) (y2 : Int32) : Option (Int32 × Int32 × Int32) :=
  if y0 < 0 then (if (1 : Int32) ≤ 0 then (some ((1 : Int32), (1 : Int32), y0)) else (some ((0 : Int32), (1 : Int32), y2))) else (if y0 ≤ (1000 : Int32) then (if (0 : Int32) ≤ 0 then (some ((1 : Int32), (0 : Int32), y0)) else (some ((0 : Int32), (0 : Int32), y2))) else (if (1 : Int32) ≤ 0 then (some ((1 : Int32), (1 : Int32), y0)) else (some ((0 : Int32), (1 : Int32), y2))))
set_option maxHeartbeats 4000000 in
set_option maxRecDepth 100000 in
theorem b_M_tear_0 {l : Launch} {dC : Nat → ClassId} {dI : Nat → Nat → Nat} {cI cA cL : ClassId} {q_mo q_mlb_ q_mcl_ q_mus_ q_mwr_ q_mdk_ q_mcp_ : Nat} {mar : Int32} {mLb : Nat → Int32} {mCl : Nat → Int32} {mUs : Nat → Int32} {mWr : Nat → Int32} {mDk : Nat → Int32} {mCp : Nat → Int32} {p : Program} {e : Env} {s : State} {m : MethodId} {args : Array Value} {below : List Frame} {meth : Method} {c : Code} (cx : jv_cx p s m args meth c cc_M_tear 2 R_Model (some .boolean) ws_M_tear) (hK : va_K (dC, dI) vwCl (jv_ty cI cA cL) s) {A : Nat → Prop} (hA : ∀ q : Nat, s.heap.size ≤ q → A q) {r : Int32 × Int32 × Int32} {y0 : Int32} {y1 : Int32} {y2 : Int32} {ls : Array Slot} (hl : lv_has ls 2 [(0, .ref q_mo), (1, .int y0)]) {H : Heap} {locs : List Loc} (hP : va_P (dC, dI) vwCl (w_model cI q_mo q_mlb_ q_mcl_ q_mus_ q_mwr_ q_mdk_ q_mcp_ y1 mar y2 mLb mCl mUs mWr mDk mCp) H) (hD : va_D A (w_model cI q_mo q_mlb_ q_mcl_ q_mus_ q_mwr_ q_mdk_ q_mcp_ y1 mar y2 mLb mCl mUs mWr mDk mCp)) (hS : va_S A s.heap H locs) (hf : f_M_tear_0 y0 y1 y2 = some r) : W p l e rm_M_tear s m args below meth c H locs 0 0 (MQ below (jv_Qi r.1 (dC, dI) (w_model cI q_mo q_mlb_ q_mcl_ q_mus_ q_mwr_ q_mdk_ q_mcp_ r.2.1 mar r.2.2 mLb mCl mUs mWr mDk mCp) A) args s 0 0 A) (F0 m 0 ls []) := by
  unfold f_M_tear_0 at hf
  obtain ⟨hx, hb, hml, hown, hts, hr, hlocks⟩ := id cx
  refine lv_aload_n hx hb d_M_tear_0 rfl (lv_at hl 0 rfl) ?_
  refine lv_iload_n hx hb d_M_tear_1 rfl (lv_at hl 1 rfl) ?_
  refine lv_if_lt (tgt := 12) hx hb d_M_tear_2 (by decide) (fun hc => ?_) (fun hc => ?_)
  · have hf := jv_it hf hc
    refine lv_iconst (v := (1 : Int32)) hx hb d_M_tear_12 (by decide) ?_
    refine lv_goto (tgt := 17) hx hb d_M_tear_13 (by decide) ?_
    refine va_put (D := (dC, dI)) (ci := kModel) (v := .int (1 : Int32)) (ty := .int) (C := R_Model) (T := T_Model) (N := 9) hx hb hts (fun w h => List.mem_cons_of_mem _ (in_Model w h)) ty_Model tyok_Model nm_Model hown hK hP hD hS 0 rfl rfl 0 (by decide) (jv_w hts wa_200) (fun _ h9 => h9) rfl (by decide +kernel) rfl rfl (Nat.le_of_ble_eq_true rfl) d_M_tear_17 (fun H locs hP hD hS => ?_)
    have hP : va_P (dC, dI) vwCl (w_model cI q_mo q_mlb_ q_mcl_ q_mus_ q_mwr_ q_mdk_ q_mcp_ (1 : Int32) mar y2 mLb mCl mUs mWr mDk mCp) H := hP
    have hD : va_D A (w_model cI q_mo q_mlb_ q_mcl_ q_mus_ q_mwr_ q_mdk_ q_mcp_ (1 : Int32) mar y2 mLb mCl mUs mWr mDk mCp) := hD
    refine lv_aload_n hx hb d_M_tear_20 rfl (lv_at hl 0 rfl) ?_
    refine va_get (D := (dC, dI)) (ci := kModel) (v := .int (1 : Int32)) (C := R_Model) (T := T_Model) (N := 9) hx hb hts (fun w h => List.mem_cons_of_mem _ (in_Model w h)) hown hK hP 0 rfl rfl 0 (by decide) (jv_w hts wa_200) (fun _ h9 => h9) rfl d_M_tear_21 ?_
    refine lv_if_le (tgt := 29) hx hb d_M_tear_24 (by decide) (fun hc => ?_) (fun hc => ?_)
    · have hf := jv_it hf hc
      refine lv_aload_n hx hb d_M_tear_29 rfl (lv_at hl 0 rfl) ?_
      refine lv_iload_n hx hb d_M_tear_30 rfl (lv_at hl 1 rfl) ?_
      refine va_put (D := (dC, dI)) (ci := kModel) (v := .int y0) (ty := .int) (C := R_Model) (T := T_Model) (N := 9) hx hb hts (fun w h => List.mem_cons_of_mem _ (in_Model w h)) ty_Model tyok_Model nm_Model hown hK hP hD hS 0 rfl rfl 8 (by decide) (jv_w hts wa_247) (fun _ h9 => h9) rfl (by decide +kernel) rfl rfl (Nat.le_of_ble_eq_true rfl) d_M_tear_31 (fun H locs hP hD hS => ?_)
      have hP : va_P (dC, dI) vwCl (w_model cI q_mo q_mlb_ q_mcl_ q_mus_ q_mwr_ q_mdk_ q_mcp_ (1 : Int32) mar y0 mLb mCl mUs mWr mDk mCp) H := hP
      have hD : va_D A (w_model cI q_mo q_mlb_ q_mcl_ q_mus_ q_mwr_ q_mdk_ q_mcp_ (1 : Int32) mar y0 mLb mCl mUs mWr mDk mCp) := hD
      refine lv_iconst (v := (1 : Int32)) hx hb d_M_tear_34 (by decide) ?_
      obtain rfl := Option.some.inj hf
      exact W.zret hx hb hr rfl (fun t ht hW => ⟨rfl, by rw [ht]; exact hP, hD, hS.F ht⟩) hS.2.2 d_M_tear_35
    · have hf := jv_if hf hc
      refine lv_iconst (v := (0 : Int32)) hx hb d_M_tear_27 (by decide) ?_
      obtain rfl := Option.some.inj hf
      exact W.zret hx hb hr rfl (fun t ht hW => ⟨rfl, by rw [ht]; exact hP, hD, hS.F ht⟩) hS.2.2 d_M_tear_28
  · have hf := jv_if hf hc
    refine lv_iload_n hx hb d_M_tear_5 rfl (lv_at hl 1 rfl) ?_
    refine lv_sipush (v := (1000 : Int32)) hx hb d_M_tear_6 (by decide) ?_
    refine lv_icmp_le (tgt := 16) hx hb d_M_tear_9 (by decide) (fun hc => ?_) (fun hc => ?_)
    · have hf := jv_it hf hc
      refine lv_iconst (v := (0 : Int32)) hx hb d_M_tear_16 (by decide) ?_
      refine va_put (D := (dC, dI)) (ci := kModel) (v := .int (0 : Int32)) (ty := .int) (C := R_Model) (T := T_Model) (N := 9) hx hb hts (fun w h => List.mem_cons_of_mem _ (in_Model w h)) ty_Model tyok_Model nm_Model hown hK hP hD hS 0 rfl rfl 0 (by decide) (jv_w hts wa_200) (fun _ h9 => h9) rfl (by decide +kernel) rfl rfl (Nat.le_of_ble_eq_true rfl) d_M_tear_17 (fun H locs hP hD hS => ?_)
      have hP : va_P (dC, dI) vwCl (w_model cI q_mo q_mlb_ q_mcl_ q_mus_ q_mwr_ q_mdk_ q_mcp_ (0 : Int32) mar y2 mLb mCl mUs mWr mDk mCp) H := hP
      have hD : va_D A (w_model cI q_mo q_mlb_ q_mcl_ q_mus_ q_mwr_ q_mdk_ q_mcp_ (0 : Int32) mar y2 mLb mCl mUs mWr mDk mCp) := hD
      refine lv_aload_n hx hb d_M_tear_20 rfl (lv_at hl 0 rfl) ?_
      refine va_get (D := (dC, dI)) (ci := kModel) (v := .int (0 : Int32)) (C := R_Model) (T := T_Model) (N := 9) hx hb hts (fun w h => List.mem_cons_of_mem _ (in_Model w h)) hown hK hP 0 rfl rfl 0 (by decide) (jv_w hts wa_200) (fun _ h9 => h9) rfl d_M_tear_21 ?_
      refine lv_if_le (tgt := 29) hx hb d_M_tear_24 (by decide) (fun hc => ?_) (fun hc => ?_)
      · have hf := jv_it hf hc
        refine lv_aload_n hx hb d_M_tear_29 rfl (lv_at hl 0 rfl) ?_
        refine lv_iload_n hx hb d_M_tear_30 rfl (lv_at hl 1 rfl) ?_
        refine va_put (D := (dC, dI)) (ci := kModel) (v := .int y0) (ty := .int) (C := R_Model) (T := T_Model) (N := 9) hx hb hts (fun w h => List.mem_cons_of_mem _ (in_Model w h)) ty_Model tyok_Model nm_Model hown hK hP hD hS 0 rfl rfl 8 (by decide) (jv_w hts wa_247) (fun _ h9 => h9) rfl (by decide +kernel) rfl rfl (Nat.le_of_ble_eq_true rfl) d_M_tear_31 (fun H locs hP hD hS => ?_)
        have hP : va_P (dC, dI) vwCl (w_model cI q_mo q_mlb_ q_mcl_ q_mus_ q_mwr_ q_mdk_ q_mcp_ (0 : Int32) mar y0 mLb mCl mUs mWr mDk mCp) H := hP
        have hD : va_D A (w_model cI q_mo q_mlb_ q_mcl_ q_mus_ q_mwr_ q_mdk_ q_mcp_ (0 : Int32) mar y0 mLb mCl mUs mWr mDk mCp) := hD
        refine lv_iconst (v := (1 : Int32)) hx hb d_M_tear_34 (by decide) ?_
        obtain rfl := Option.some.inj hf
        exact W.zret hx hb hr rfl (fun t ht hW => ⟨rfl, by rw [ht]; exact hP, hD, hS.F ht⟩) hS.2.2 d_M_tear_35
      · have hf := jv_if hf hc
        refine lv_iconst (v := (0 : Int32)) hx hb d_M_tear_27 (by decide) ?_
        obtain rfl := Option.some.inj hf
        exact W.zret hx hb hr rfl (fun t ht hW => ⟨rfl, by rw [ht]; exact hP, hD, hS.F ht⟩) hS.2.2 d_M_tear_28
    · have hf := jv_if hf hc
      refine lv_iconst (v := (1 : Int32)) hx hb d_M_tear_12 (by decide) ?_
      refine lv_goto (tgt := 17) hx hb d_M_tear_13 (by decide) ?_
      refine va_put (D := (dC, dI)) (ci := kModel) (v := .int (1 : Int32)) (ty := .int) (C := R_Model) (T := T_Model) (N := 9) hx hb hts (fun w h => List.mem_cons_of_mem _ (in_Model w h)) ty_Model tyok_Model nm_Model hown hK hP hD hS 0 rfl rfl 0 (by decide) (jv_w hts wa_200) (fun _ h9 => h9) rfl (by decide +kernel) rfl rfl (Nat.le_of_ble_eq_true rfl) d_M_tear_17 (fun H locs hP hD hS => ?_)
      have hP : va_P (dC, dI) vwCl (w_model cI q_mo q_mlb_ q_mcl_ q_mus_ q_mwr_ q_mdk_ q_mcp_ (1 : Int32) mar y2 mLb mCl mUs mWr mDk mCp) H := hP
      have hD : va_D A (w_model cI q_mo q_mlb_ q_mcl_ q_mus_ q_mwr_ q_mdk_ q_mcp_ (1 : Int32) mar y2 mLb mCl mUs mWr mDk mCp) := hD
      refine lv_aload_n hx hb d_M_tear_20 rfl (lv_at hl 0 rfl) ?_
      refine va_get (D := (dC, dI)) (ci := kModel) (v := .int (1 : Int32)) (C := R_Model) (T := T_Model) (N := 9) hx hb hts (fun w h => List.mem_cons_of_mem _ (in_Model w h)) hown hK hP 0 rfl rfl 0 (by decide) (jv_w hts wa_200) (fun _ h9 => h9) rfl d_M_tear_21 ?_
      refine lv_if_le (tgt := 29) hx hb d_M_tear_24 (by decide) (fun hc => ?_) (fun hc => ?_)
      · have hf := jv_it hf hc
        refine lv_aload_n hx hb d_M_tear_29 rfl (lv_at hl 0 rfl) ?_
        refine lv_iload_n hx hb d_M_tear_30 rfl (lv_at hl 1 rfl) ?_
        refine va_put (D := (dC, dI)) (ci := kModel) (v := .int y0) (ty := .int) (C := R_Model) (T := T_Model) (N := 9) hx hb hts (fun w h => List.mem_cons_of_mem _ (in_Model w h)) ty_Model tyok_Model nm_Model hown hK hP hD hS 0 rfl rfl 8 (by decide) (jv_w hts wa_247) (fun _ h9 => h9) rfl (by decide +kernel) rfl rfl (Nat.le_of_ble_eq_true rfl) d_M_tear_31 (fun H locs hP hD hS => ?_)
        have hP : va_P (dC, dI) vwCl (w_model cI q_mo q_mlb_ q_mcl_ q_mus_ q_mwr_ q_mdk_ q_mcp_ (1 : Int32) mar y0 mLb mCl mUs mWr mDk mCp) H := hP
        have hD : va_D A (w_model cI q_mo q_mlb_ q_mcl_ q_mus_ q_mwr_ q_mdk_ q_mcp_ (1 : Int32) mar y0 mLb mCl mUs mWr mDk mCp) := hD
        refine lv_iconst (v := (1 : Int32)) hx hb d_M_tear_34 (by decide) ?_
        obtain rfl := Option.some.inj hf
        exact W.zret hx hb hr rfl (fun t ht hW => ⟨rfl, by rw [ht]; exact hP, hD, hS.F ht⟩) hS.2.2 d_M_tear_35
      · have hf := jv_if hf hc
        refine lv_iconst (v := (0 : Int32)) hx hb d_M_tear_27 (by decide) ?_
        obtain rfl := Option.some.inj hf
        exact W.zret hx hb hr rfl (fun t ht hW => ⟨rfl, by rw [ht]; exact hP, hD, hS.F ht⟩) hS.2.2 d_M_tear_28
def f_M_tear (a0 : Int32) (mth : Int32) (mfu : Int32) : Option (Int32 × Int32 × Int32) := f_M_tear_0 a0 mth mfu
set_option maxHeartbeats 4000000 in
set_option maxRecDepth 100000 in
theorem c_M_tear (l : Launch) (dC : Nat → ClassId) (dI : Nat → Nat → Nat) (cI cA cL : ClassId) (q_mo q_mlb_ q_mcl_ q_mus_ q_mwr_ q_mdk_ q_mcp_ : Nat) (mth : Int32) (mar : Int32) (mfu : Int32) (mLb : Nat → Int32) (mCl : Nat → Int32) (mUs : Nat → Int32) (mWr : Nat → Int32) (mDk : Nat → Int32) (mCp : Nat → Int32) (a0 : Int32) (sz : Nat) (r : Int32 × Int32 × Int32) (hf : f_M_tear a0 mth mfu = some r) : Met l y_M_tear ws_M_tear rm_M_tear (jv_Pw [.ref q_mo, .int a0] (dC, dI) (jv_ty cI cA cL) (w_model cI q_mo q_mlb_ q_mcl_ q_mus_ q_mwr_ q_mdk_ q_mcp_ mth mar mfu mLb mCl mUs mWr mDk mCp) sz) (jv_Qi r.1 (dC, dI) (w_model cI q_mo q_mlb_ q_mcl_ q_mus_ q_mwr_ q_mdk_ q_mcp_ r.2.1 mar r.2.2 mLb mCl mUs mWr mDk mCp) (va_A (w_model cI q_mo q_mlb_ q_mcl_ q_mus_ q_mwr_ q_mdk_ q_mcp_ mth mar mfu mLb mCl mUs mWr mDk mCp) sz)) 0 0 (va_A (w_model cI q_mo q_mlb_ q_mcl_ q_mus_ q_mwr_ q_mdk_ q_mcp_ mth mar mfu mLb mCl mUs mWr mDk mCp) sz) := by
  refine Met.ofW (cc := cc_M_tear) (maxL := 2) (ret := (some .boolean)) (by decide) rfl ?_
  intro p e s m args below meth c s₁ B hml hv
  obtain ⟨rfl, hsz, hP, hK, hD0⟩ := hv
  have cx : jv_cx p s m _ meth c cc_M_tear 2 R_Model (some .boolean) ws_M_tear := ⟨B.exec, B.bytes, hml, findClass_of_methodNamed B.named, atoms_spec (ws := ws_M_tear) B.pre, B.returns, B.notSynchronized⟩
  subst hsz
  have hD := hD0.self (sz := s.heap.size)
  generalize hAe : va_A (w_model cI q_mo q_mlb_ q_mcl_ q_mus_ q_mwr_ q_mdk_ q_mcp_ mth mar mfu mLb mCl mUs mWr mDk mCp) s.heap.size = A at hD ⊢
  have hA : ∀ q : Nat, s.heap.size ≤ q → A q := fun q h => by rw [← hAe]; exact Or.inr h
  have hS : va_S A s.heap s.heap [] := va_S.rf
  have hl := lv_entry ([.ref q_mo, .int a0]) (n := 2) (Nat.le_of_ble_eq_true rfl)
  rw [lg_entry_eq]
  generalize (lg_sl ([.ref q_mo, .int a0]) ++ List.replicate (2 - (lg_sl ([.ref q_mo, .int a0])).length) Slot.unset).toArray = ls at hl ⊢
  have hl : lv_has ls 2 [(0, .ref q_mo), (1, .int a0)] := hl
  exact b_M_tear_0 (y0 := a0) (y1 := mth) (y2 := mfu) cx hK hA (lv_sub hl [0, 1] rfl) hP hD hS hf
