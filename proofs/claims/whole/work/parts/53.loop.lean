theorem jv_li {L k : Nat} (hL : L ≤ 2560) (hk : k ≤ 2565) (h : ¬ (Int32.ofNat L - 5 < nI k)) : k + 5 ≤ L := by
  have h1 : (Int32.ofNat L).toInt = (L : Int) := nI_toInt (n := L) (by omega)
  have h2 : (5 : Int32).toInt = 5 := by decide
  rw [Int32.lt_iff_toInt_lt, nI_toInt (n := k) (by omega), Int32.toInt_sub, h1, h2, Int.bmod_eq_of_le (by omega) (by omega)] at h
  omega
theorem jv_inc5 (k : Nat) : nI k + Int32.ofInt 5 = nI (k + 5) := by
  rw [show Int32.ofInt 5 = (5 : Int32) by decide]
  exact nI_add k 5
def jv_step (st : jv_st) (o p1 p2 p3 p4 : Int32) : Option jv_st :=
  if o = (0 : Int32) then (s_0 st.1 st.2.1 st.2.2 p1) else if o = (1 : Int32) then (s_1 st.1 st.2.1 st.2.2 p1 p2) else if o = (2 : Int32) then (s_2 st.1 st.2.1 st.2.2 p1 p2) else if o = (3 : Int32) then (s_3 st.1 st.2.1 st.2.2 p1 p2) else if o = (4 : Int32) then (s_4 st.1 st.2.1 st.2.2 p1) else if o = (5 : Int32) then (s_5 st.1 st.2.1 st.2.2 p1 p2 p3) else if o = (6 : Int32) then (s_6 st.1 st.2.1 st.2.2 p1 p2 p3 p4) else if o = (7 : Int32) then (s_7 st.1 st.2.1 st.2.2 p1 p2 p3) else if o = (8 : Int32) then (s_8 st.1 st.2.1 st.2.2 p1 p2) else if o = (9 : Int32) then (s_9 st.1 st.2.1 st.2.2 p1 p2 p3) else if o = (10 : Int32) then (s_10 st.1 st.2.1 st.2.2 p1 p2 p3 p4) else if o = (11 : Int32) then (s_11 st.1 st.2.1 st.2.2 p1 p2) else if o = (12 : Int32) then (s_12 st.1 st.2.1 st.2.2 p1 p2) else if o = (13 : Int32) then (s_13 st.1 st.2.1 st.2.2 p1 p2 p3) else if o = (14 : Int32) then (s_14 st.1 st.2.1 st.2.2) else if o = (15 : Int32) then (s_15 st.1 st.2.1 st.2.2 p1) else if o = (16 : Int32) then (s_16 st.1 st.2.1 st.2.2 p1 p2 p3) else if o = (17 : Int32) then (s_17 st.1 st.2.1 st.2.2 p1 p2) else if o = (18 : Int32) then (s_18 st.1 st.2.1 st.2.2 p1) else if o = (19 : Int32) then (s_19 st.1 st.2.1 st.2.2) else some st
theorem d_law_23 : decode cc_law 23 = .ok (.iload 4, 2) := by decide +kernel
theorem d_law_25 : decode cc_law 25 = .ok (.aload_n 0, 1) := by decide +kernel
theorem d_law_26 : decode cc_law 26 = .ok (.arraylength, 1) := by decide +kernel
theorem d_law_27 : decode cc_law 27 = .ok (.iconst 5, 1) := by decide +kernel
theorem d_law_28 : decode cc_law 28 = .ok (.isub, 1) := by decide +kernel
theorem d_law_29 : decode cc_law 29 = .ok (.if_icmp .gt 1378, 3) := by decide +kernel
theorem d_law_1401 : decode cc_law 1401 = .ok (.iinc 4 5, 3) := by decide +kernel
theorem d_law_1404 : decode cc_law 1404 = .ok (.goto (-1381), 3) := by decide +kernel
theorem d_law_32 : decode cc_law 32 = .ok (.aload_n 0, 1) := by decide +kernel
theorem d_law_33 : decode cc_law 33 = .ok (.iload 4, 2) := by decide +kernel
theorem d_law_35 : decode cc_law 35 = .ok (.iaload, 1) := by decide +kernel
theorem d_law_36 : decode cc_law 36 = .ok (.bipush 31, 2) := by decide +kernel
theorem d_law_38 : decode cc_law 38 = .ok (.iand, 1) := by decide +kernel
theorem d_law_39 : decode cc_law 39 = .ok (.tableswitch 1362 0 19 #[93, 149, 224, 299, 367, 423, 503, 595, 675, 743, 823, 915, 983, 1051, 1131, 1144, 1207, 1287, 1324, 1349], 93) := by decide +kernel
set_option maxHeartbeats 4000000 in
set_option maxRecDepth 100000 in
theorem jv_loop {l : Launch} {dC : Nat → ClassId} {dI : Nat → Nat → Nat} {cI cA cL : ClassId} {q_mo q_mlb_ q_mcl_ q_mus_ q_mwr_ q_mdk_ q_mcp_ q_out q_va q_aa q_cl q_fu : Nat} {p : Program} {e : Env} {s : State} {m : MethodId} {below : List Frame} {meth : Method} {c : Code} {b L : Nat} {xs : Nat → Int32} (hl9 : l.stackTraces = false) (hx : p.tables.exec = Jvm.exec) (hb : c.code = code) (hml : c.maxLocals = 7) (hown : s.vm.findClass R_Law = some m.cls) (hts : ∀ w ∈ Cond.tt :: jv_LT, w.before #[Value.ref b] s = true) (hX : va_X b L xs s s.heap) (hbl : b < s.heap.size) (hK : va_K (dC, dI) vwCl (jv_ty cI cA cL) s) (hTc : jv_tc s) {A : Nat → Prop} (hA : ∀ q : Nat, s.heap.size ≤ q → A q) (hAn : ∀ q : Nat, A q → s.heap.size ≤ q) {Z : State → Prop} (hL : L ≤ 2560) {J : jv_st → Prop} (hJ : ∀ (st : jv_st) (o p1 p2 p3 p4 : Int32), J st → ∃ r, jv_step st o p1 p2 p3 p4 = some r ∧ J r) (KE : ∀ (H : Heap) (locs : List Loc) (ls : Array Slot) (cells slots : Nat), va_S A s.heap H locs → cells ≤ room_1.cells → slots ≤ room_1.slots → W p l e room_1 s m #[Value.ref b] below meth c H locs cells slots Z (F0 m 1407 ls [])) : ∀ (n k : Nat) (Q : Nat → Nat → Nat) (st : jv_st) (H : Heap) (locs : List Loc) (ls : Array Slot) (cells slots : Nat), L < k + 5 * n + 5 → k ≤ L → cells + 8 * n ≤ room_1.cells → slots + 713 * n ≤ room_1.slots → J st → lv_has ls 7 [(0, .ref b), (1, .ref q_va), (2, .ref q_mo), (3, .ref q_out), (4, .int (nI k))] → va_P (dC, dI) vwCl ((w_model cI q_mo q_mlb_ q_mcl_ q_mus_ q_mwr_ q_mdk_ q_mcp_ st.2.2.1 st.2.2.2.1 st.2.2.2.2.1 st.2.2.2.2.2.1 st.2.2.2.2.2.2.1 st.2.2.2.2.2.2.2.1 st.2.2.2.2.2.2.2.2.1 st.2.2.2.2.2.2.2.2.2.1 st.2.2.2.2.2.2.2.2.2.2) ++ (w_lo cI cA cL q_out q_va q_aa q_cl q_fu Q st.1 st.2.1)) H → va_D A ((w_model cI q_mo q_mlb_ q_mcl_ q_mus_ q_mwr_ q_mdk_ q_mcp_ st.2.2.1 st.2.2.2.1 st.2.2.2.2.1 st.2.2.2.2.2.1 st.2.2.2.2.2.2.1 st.2.2.2.2.2.2.2.1 st.2.2.2.2.2.2.2.2.1 st.2.2.2.2.2.2.2.2.2.1 st.2.2.2.2.2.2.2.2.2.2) ++ (w_lo cI cA cL q_out q_va q_aa q_cl q_fu Q st.1 st.2.1)) → va_S A s.heap H locs → W p l e room_1 s m #[Value.ref b] below meth c H locs cells slots Z (F0 m 23 ls []) := by
  intro n
  induction n with
  | zero =>
    intro k Q st H locs ls cells slots hn hk hc hsl hj hl hP hD hS
    have hbA : ¬ A b := fun h => absurd (hAn b h) (by omega)
    refine lv_iload hx hb d_law_23 (lv_at hl 4 rfl) ?_
    refine lv_aload_n hx hb d_law_25 rfl (lv_at hl 0 rfl) ?_
    refine va_slen hx hb hX hbl hbA hS d_law_26 ?_
    refine lv_iconst (v := (5 : Int32)) hx hb d_law_27 (by decide) ?_
    refine lv_isub hx hb d_law_28 ?_
    refine lv_icmp_gt (tgt := 1407) hx hb d_law_29 (by decide) (fun _ => KE H locs ls cells slots hS (by omega) (by omega)) (fun h9 => ?_)
    have hk5 := jv_li hL (by omega) h9
    omega
  | succ n ih =>
    intro k Q st H locs ls cells slots hn hk hc hsl hj hl hP hD hS
    have hbA : ¬ A b := fun h => absurd (hAn b h) (by omega)
    refine lv_iload hx hb d_law_23 (lv_at hl 4 rfl) ?_
    refine lv_aload_n hx hb d_law_25 rfl (lv_at hl 0 rfl) ?_
    refine va_slen hx hb hX hbl hbA hS d_law_26 ?_
    refine lv_iconst (v := (5 : Int32)) hx hb d_law_27 (by decide) ?_
    refine lv_isub hx hb d_law_28 ?_
    refine lv_icmp_gt (tgt := 1407) hx hb d_law_29 (by decide) (fun _ => KE H locs ls cells slots hS (by omega) (by omega)) (fun h9 => ?_)
    have hk5 := jv_li hL (by omega) h9
    have hi0 : vp_in (nI k) L := nI_in (by omega) (by omega)
    have hi1 : vp_in (nI k + (1 : Int32)) L := by rw [show nI k + (1 : Int32) = nI (k + 1) from nI_add k 1]; exact nI_in (by omega) (by omega)
    have hi2 : vp_in (nI k + (2 : Int32)) L := by rw [show nI k + (2 : Int32) = nI (k + 2) from nI_add k 2]; exact nI_in (by omega) (by omega)
    have hi3 : vp_in (nI k + (3 : Int32)) L := by rw [show nI k + (3 : Int32) = nI (k + 3) from nI_add k 3]; exact nI_in (by omega) (by omega)
    have hi4 : vp_in (nI k + (4 : Int32)) L := by rw [show nI k + (4 : Int32) = nI (k + 4) from nI_add k 4]; exact nI_in (by omega) (by omega)
    obtain ⟨r, hs, hjr⟩ := hJ st (xs (nI k).toNatClampNeg &&& 31) (xs (nI k + (1 : Int32)).toNatClampNeg) (xs (nI k + (2 : Int32)).toNatClampNeg) (xs (nI k + (3 : Int32)).toNatClampNeg) (xs (nI k + (4 : Int32)).toNatClampNeg) hj
    have KK : ∀ (Q : Nat → Nat → Nat) (H : Heap) (locs : List Loc) (ls : Array Slot), lv_has ls 7 [(0, .ref b), (1, .ref q_va), (2, .ref q_mo), (3, .ref q_out), (4, .int (nI k))] → va_P (dC, dI) vwCl ((w_model cI q_mo q_mlb_ q_mcl_ q_mus_ q_mwr_ q_mdk_ q_mcp_ r.2.2.1 r.2.2.2.1 r.2.2.2.2.1 r.2.2.2.2.2.1 r.2.2.2.2.2.2.1 r.2.2.2.2.2.2.2.1 r.2.2.2.2.2.2.2.2.1 r.2.2.2.2.2.2.2.2.2.1 r.2.2.2.2.2.2.2.2.2.2) ++ (w_lo cI cA cL q_out q_va q_aa q_cl q_fu Q r.1 r.2.1)) H → va_D A ((w_model cI q_mo q_mlb_ q_mcl_ q_mus_ q_mwr_ q_mdk_ q_mcp_ r.2.2.1 r.2.2.2.1 r.2.2.2.2.1 r.2.2.2.2.2.1 r.2.2.2.2.2.2.1 r.2.2.2.2.2.2.2.1 r.2.2.2.2.2.2.2.2.1 r.2.2.2.2.2.2.2.2.2.1 r.2.2.2.2.2.2.2.2.2.2) ++ (w_lo cI cA cL q_out q_va q_aa q_cl q_fu Q r.1 r.2.1)) → va_S A s.heap H locs → W p l e room_1 s m #[Value.ref b] below meth c H locs (cells + 8) (slots + 713) Z (F0 m 1401 ls []) := by
      intro Q H locs ls hl hP hD hS
      refine lv_iinc (k := 4) (v := nI (k + 5)) (lv' := [(4, .int (nI (k + 5))), (0, .ref b), (1, .ref q_va), (2, .ref q_mo), (3, .ref q_out)]) hx hb d_law_1401 hl rfl (jv_inc5 k) (by decide) rfl (fun ls hl => ?_)
      refine lv_goto (tgt := 23) hx hb d_law_1404 (by decide) ?_
      exact ih (k + 5) Q r H locs ls (cells + 8) (slots + 713) (by omega) (by omega) (by omega) (by omega) hjr (lv_sub hl [1, 2, 3, 4, 0] rfl) hP hD hS
    refine lv_aload_n hx hb d_law_32 rfl (lv_at hl 0 rfl) ?_
    refine lv_iload hx hb d_law_33 (lv_at hl 4 rfl) ?_
    refine va_sld hx hb hX hbl hbA hS hi0 d_law_35 ?_
    refine lv_bipush (v := (31 : Int32)) hx hb d_law_36 (by decide) ?_
    refine lv_iand hx hb d_law_38 ?_
    generalize xs (nI k).toNatClampNeg &&& 31 = o at hs ⊢
    unfold jv_step at hs
    by_cases hc0 : o = (0 : Int32)
    · have hf := jv_it hs hc0
      refine lv_tableIn (off := 93) (tgt := 132) hx hb d_law_39 (by rw [hc0]; decide) (by rw [hc0]; decide) (by rw [hc0]; rfl) (by decide) ?_
      exact b_law_0 (S := st.1) (vO := st.2.1) (M := st.2.2) (i := nI k) hl9 hx hb hml hown hts hX hbl hK hTc hA hAn hi1 (by omega) (by omega) hl hP hD hS hf KK
    have hs := jv_if hs hc0
    have nhc0 := lv_neT hc0 (a := 0) (by decide)
    by_cases hc1 : o = (1 : Int32)
    · have hf := jv_it hs hc1
      refine lv_tableIn (off := 149) (tgt := 188) hx hb d_law_39 (by rw [hc1]; decide) (by rw [hc1]; decide) (by rw [hc1]; rfl) (by decide) ?_
      exact b_law_1 (S := st.1) (vO := st.2.1) (M := st.2.2) (i := nI k) hl9 hx hb hml hown hts hX hbl hK hTc hA hAn hi1 hi2 (by omega) (by omega) hl hP hD hS hf KK
    have hs := jv_if hs hc1
    have nhc1 := lv_neT hc1 (a := 1) (by decide)
    by_cases hc2 : o = (2 : Int32)
    · have hf := jv_it hs hc2
      refine lv_tableIn (off := 224) (tgt := 263) hx hb d_law_39 (by rw [hc2]; decide) (by rw [hc2]; decide) (by rw [hc2]; rfl) (by decide) ?_
      exact b_law_2 (S := st.1) (vO := st.2.1) (M := st.2.2) (i := nI k) hl9 hx hb hml hown hts hX hbl hK hTc hA hAn hi1 hi2 (by omega) (by omega) hl hP hD hS hf KK
    have hs := jv_if hs hc2
    have nhc2 := lv_neT hc2 (a := 2) (by decide)
    by_cases hc3 : o = (3 : Int32)
    · have hf := jv_it hs hc3
      refine lv_tableIn (off := 299) (tgt := 338) hx hb d_law_39 (by rw [hc3]; decide) (by rw [hc3]; decide) (by rw [hc3]; rfl) (by decide) ?_
      exact b_law_3 (S := st.1) (vO := st.2.1) (M := st.2.2) (i := nI k) hl9 hx hb hml hown hts hX hbl hK hTc hA hAn hi1 hi2 (by omega) (by omega) hl hP hD hS hf KK
    have hs := jv_if hs hc3
    have nhc3 := lv_neT hc3 (a := 3) (by decide)
    by_cases hc4 : o = (4 : Int32)
    · have hf := jv_it hs hc4
      refine lv_tableIn (off := 367) (tgt := 406) hx hb d_law_39 (by rw [hc4]; decide) (by rw [hc4]; decide) (by rw [hc4]; rfl) (by decide) ?_
      exact b_law_4 (S := st.1) (vO := st.2.1) (M := st.2.2) (i := nI k) hl9 hx hb hml hown hts hX hbl hK hTc hA hAn hi1 (by omega) (by omega) hl hP hD hS hf KK
    have hs := jv_if hs hc4
    have nhc4 := lv_neT hc4 (a := 4) (by decide)
    by_cases hc5 : o = (5 : Int32)
    · have hf := jv_it hs hc5
      refine lv_tableIn (off := 423) (tgt := 462) hx hb d_law_39 (by rw [hc5]; decide) (by rw [hc5]; decide) (by rw [hc5]; rfl) (by decide) ?_
      exact b_law_5 (S := st.1) (vO := st.2.1) (M := st.2.2) (i := nI k) hl9 hx hb hml hown hts hX hbl hK hTc hA hAn hi1 hi2 hi3 (by omega) (by omega) hl hP hD hS hf KK
    have hs := jv_if hs hc5
    have nhc5 := lv_neT hc5 (a := 5) (by decide)
    by_cases hc6 : o = (6 : Int32)
    · have hf := jv_it hs hc6
      refine lv_tableIn (off := 503) (tgt := 542) hx hb d_law_39 (by rw [hc6]; decide) (by rw [hc6]; decide) (by rw [hc6]; rfl) (by decide) ?_
      exact b_law_6 (S := st.1) (vO := st.2.1) (M := st.2.2) (i := nI k) hl9 hx hb hml hown hts hX hbl hK hTc hA hAn hi1 hi2 hi3 hi4 (by omega) (by omega) hl hP hD hS hf KK
    have hs := jv_if hs hc6
    have nhc6 := lv_neT hc6 (a := 6) (by decide)
    by_cases hc7 : o = (7 : Int32)
    · have hf := jv_it hs hc7
      refine lv_tableIn (off := 595) (tgt := 634) hx hb d_law_39 (by rw [hc7]; decide) (by rw [hc7]; decide) (by rw [hc7]; rfl) (by decide) ?_
      exact b_law_7 (S := st.1) (vO := st.2.1) (M := st.2.2) (i := nI k) hl9 hx hb hml hown hts hX hbl hK hTc hA hAn hi1 hi2 hi3 (by omega) (by omega) hl hP hD hS hf KK
    have hs := jv_if hs hc7
    have nhc7 := lv_neT hc7 (a := 7) (by decide)
    by_cases hc8 : o = (8 : Int32)
    · have hf := jv_it hs hc8
      refine lv_tableIn (off := 675) (tgt := 714) hx hb d_law_39 (by rw [hc8]; decide) (by rw [hc8]; decide) (by rw [hc8]; rfl) (by decide) ?_
      exact b_law_8 (S := st.1) (vO := st.2.1) (M := st.2.2) (i := nI k) hl9 hx hb hml hown hts hX hbl hK hTc hA hAn hi1 hi2 (by omega) (by omega) hl hP hD hS hf KK
    have hs := jv_if hs hc8
    have nhc8 := lv_neT hc8 (a := 8) (by decide)
    by_cases hc9 : o = (9 : Int32)
    · have hf := jv_it hs hc9
      refine lv_tableIn (off := 743) (tgt := 782) hx hb d_law_39 (by rw [hc9]; decide) (by rw [hc9]; decide) (by rw [hc9]; rfl) (by decide) ?_
      exact b_law_9 (S := st.1) (vO := st.2.1) (M := st.2.2) (i := nI k) hl9 hx hb hml hown hts hX hbl hK hTc hA hAn hi1 hi2 hi3 (by omega) (by omega) hl hP hD hS hf KK
    have hs := jv_if hs hc9
    have nhc9 := lv_neT hc9 (a := 9) (by decide)
    by_cases hc10 : o = (10 : Int32)
    · have hf := jv_it hs hc10
      refine lv_tableIn (off := 823) (tgt := 862) hx hb d_law_39 (by rw [hc10]; decide) (by rw [hc10]; decide) (by rw [hc10]; rfl) (by decide) ?_
      exact b_law_10 (S := st.1) (vO := st.2.1) (M := st.2.2) (i := nI k) hl9 hx hb hml hown hts hX hbl hK hTc hA hAn hi1 hi2 hi3 hi4 (by omega) (by omega) hl hP hD hS hf KK
    have hs := jv_if hs hc10
    have nhc10 := lv_neT hc10 (a := 10) (by decide)
    by_cases hc11 : o = (11 : Int32)
    · have hf := jv_it hs hc11
      refine lv_tableIn (off := 915) (tgt := 954) hx hb d_law_39 (by rw [hc11]; decide) (by rw [hc11]; decide) (by rw [hc11]; rfl) (by decide) ?_
      exact b_law_11 (S := st.1) (vO := st.2.1) (M := st.2.2) (i := nI k) hl9 hx hb hml hown hts hX hbl hK hTc hA hAn hi1 hi2 (by omega) (by omega) hl hP hD hS hf KK
    have hs := jv_if hs hc11
    have nhc11 := lv_neT hc11 (a := 11) (by decide)
    by_cases hc12 : o = (12 : Int32)
    · have hf := jv_it hs hc12
      refine lv_tableIn (off := 983) (tgt := 1022) hx hb d_law_39 (by rw [hc12]; decide) (by rw [hc12]; decide) (by rw [hc12]; rfl) (by decide) ?_
      exact b_law_12 (S := st.1) (vO := st.2.1) (M := st.2.2) (i := nI k) hl9 hx hb hml hown hts hX hbl hK hTc hA hAn hi1 hi2 (by omega) (by omega) hl hP hD hS hf KK
    have hs := jv_if hs hc12
    have nhc12 := lv_neT hc12 (a := 12) (by decide)
    by_cases hc13 : o = (13 : Int32)
    · have hf := jv_it hs hc13
      refine lv_tableIn (off := 1051) (tgt := 1090) hx hb d_law_39 (by rw [hc13]; decide) (by rw [hc13]; decide) (by rw [hc13]; rfl) (by decide) ?_
      exact b_law_13 (S := st.1) (vO := st.2.1) (M := st.2.2) (i := nI k) hl9 hx hb hml hown hts hX hbl hK hTc hA hAn hi1 hi2 hi3 (by omega) (by omega) hl hP hD hS hf KK
    have hs := jv_if hs hc13
    have nhc13 := lv_neT hc13 (a := 13) (by decide)
    by_cases hc14 : o = (14 : Int32)
    · have hf := jv_it hs hc14
      refine lv_tableIn (off := 1131) (tgt := 1170) hx hb d_law_39 (by rw [hc14]; decide) (by rw [hc14]; decide) (by rw [hc14]; rfl) (by decide) ?_
      exact b_law_14 (S := st.1) (vO := st.2.1) (M := st.2.2) (i := nI k) hl9 hx hb hml hown hts hX hbl hK hTc hA hAn (by omega) (by omega) hl hP hD hS hf KK
    have hs := jv_if hs hc14
    have nhc14 := lv_neT hc14 (a := 14) (by decide)
    by_cases hc15 : o = (15 : Int32)
    · have hf := jv_it hs hc15
      refine lv_tableIn (off := 1144) (tgt := 1183) hx hb d_law_39 (by rw [hc15]; decide) (by rw [hc15]; decide) (by rw [hc15]; rfl) (by decide) ?_
      exact b_law_15 (S := st.1) (vO := st.2.1) (M := st.2.2) (i := nI k) hl9 hx hb hml hown hts hX hbl hK hTc hA hAn hi1 (by omega) (by omega) hl hP hD hS hf KK
    have hs := jv_if hs hc15
    have nhc15 := lv_neT hc15 (a := 15) (by decide)
    by_cases hc16 : o = (16 : Int32)
    · have hf := jv_it hs hc16
      refine lv_tableIn (off := 1207) (tgt := 1246) hx hb d_law_39 (by rw [hc16]; decide) (by rw [hc16]; decide) (by rw [hc16]; rfl) (by decide) ?_
      exact b_law_16 (S := st.1) (vO := st.2.1) (M := st.2.2) (i := nI k) hl9 hx hb hml hown hts hX hbl hK hTc hA hAn hi1 hi2 hi3 (by omega) (by omega) hl hP hD hS hf KK
    have hs := jv_if hs hc16
    have nhc16 := lv_neT hc16 (a := 16) (by decide)
    by_cases hc17 : o = (17 : Int32)
    · have hf := jv_it hs hc17
      refine lv_tableIn (off := 1287) (tgt := 1326) hx hb d_law_39 (by rw [hc17]; decide) (by rw [hc17]; decide) (by rw [hc17]; rfl) (by decide) ?_
      exact b_law_17 (S := st.1) (vO := st.2.1) (M := st.2.2) (i := nI k) hl9 hx hb hml hown hts hX hbl hK hTc hA hAn hi1 hi2 (by omega) (by omega) hl hP hD hS hf KK
    have hs := jv_if hs hc17
    have nhc17 := lv_neT hc17 (a := 17) (by decide)
    by_cases hc18 : o = (18 : Int32)
    · have hf := jv_it hs hc18
      refine lv_tableIn (off := 1324) (tgt := 1363) hx hb d_law_39 (by rw [hc18]; decide) (by rw [hc18]; decide) (by rw [hc18]; rfl) (by decide) ?_
      exact b_law_18 (S := st.1) (vO := st.2.1) (M := st.2.2) (i := nI k) hl9 hx hb hml hown hts hX hbl hK hTc hA hAn hi1 (by omega) (by omega) hl hP hD hS hf KK
    have hs := jv_if hs hc18
    have nhc18 := lv_neT hc18 (a := 18) (by decide)
    by_cases hc19 : o = (19 : Int32)
    · have hf := jv_it hs hc19
      refine lv_tableIn (off := 1349) (tgt := 1388) hx hb d_law_39 (by rw [hc19]; decide) (by rw [hc19]; decide) (by rw [hc19]; rfl) (by decide) ?_
      exact b_law_19 (S := st.1) (vO := st.2.1) (M := st.2.2) (i := nI k) hl9 hx hb hml hown hts hX hbl hK hTc hA hAn (by omega) (by omega) hl hP hD hS hf KK
    have hs := jv_if hs hc19
    have nhc19 := lv_neT hc19 (a := 19) (by decide)
    refine lv_tableOut (tgt := 1401) hx hb d_law_39 (by omega) (by decide) ?_
    cases Option.some.inj hs
    refine W.widen (k := cells + 8) (n := slots + 713) (Nat.le_add_right _ _) (Nat.le_add_right _ _) ?_
    exact KK Q H locs ls hl hP hD hS
