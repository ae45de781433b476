def jv_strs : List (Nat × String) := [(254, "an argument is not as the document says"), (45, "no more areas, or this label has one"), (73, "the clearance is not enough for this area"), (99, "the parent is not visible"), (113, "a file is on the way"), (119, "the area has this path"), (209, "the path is not visible"), (260, "the path is not in the session's area"), (265, "it is a directory"), (155, "the file is shorter than that"), (163, "the directory is not empty"), (172, "the area has something there"), (180, "the new parent is no directory in this area, or is moved itself"), (188, "something would be too deep"), (267, "the area may not flow to the session"), (269, "nothing is there"), (203, "the file has no such word"), (211, "it is a file")]
/-! What a throw needs of the start beside the good words: two statics of Throwable, words on members, String constants. -/
def jv_ng : List Cond := lw_tbl.filter (fun w => w.faceAtom && w.onTables)
def jv_th (U : State) : Prop := (vx_Zq Bundle.tN "UNASSIGNED_STACK" Bundle.steD (fun _ => False) U U.heap ∧ vx_Zq Bundle.tN "SUPPRESSED_SENTINEL" Bundle.listD (fun _ => False) U U.heap) ∧ (∀ w ∈ jv_ng, w.before #[] U = true) ∧ ∀ q ∈ jv_strs, ∃ a, vk_R "LabelVault" q.1 q.2 a U
theorem jv_th.to {s U : State} (hW : s.WarmedH U.vm) (hk : ∀ q : Nat, q < s.heap.size → U.heap[q]? = s.heap[q]?) (h : jv_th s) : jv_th U := by
  refine ⟨⟨vx_Zq.kept (vx_Zq.moved hW.alike h.1.1) (fun a ha _ => hk a ha), vx_Zq.kept (vx_Zq.moved hW.alike h.1.2) (fun a ha _ => hk a ha)⟩, fun w hw => ?_, fun q hq => ?_⟩
  · have h1 := List.mem_filter.mp hw
    have h2 : w.faceAtom = true ∧ w.onTables = true := by simpa using h1.2
    exact va_tabs h2.2 (rfl : (s.setVm U.vm).vm = U.vm) (Cond.faceAtom_setVm hW.alike w h2.1 (h.2.1 w hw))
  · obtain ⟨a, ha⟩ := h.2.2 q hq
    exact ⟨a, ha.warm hW⟩
theorem jv_th.moved {s U : State} (hW : s.WarmedH U.vm) (hH : U.heap = s.heap) (h : jv_th s) : jv_th U := h.to hW (fun q _ => by rw [hH])
theorem jv_th.calling {U : State} {g : JFrame} {mk : MethodId} {a : Array Value} (h : jv_th U) : jv_th (U.calling g mk a) := h.moved (U := U.calling g mk a) (State.WarmedH.refl U) rfl
theorem jv_own {args : Array Value} {s : State} {c0 : Cond} {ic : Nat} {X : String} {names : List String} (hts : ∀ w ∈ c0 :: jv_LT, w.before args s = true) (hT : jv_th s) (oa : ∀ w ∈ (Bundle.ownAtoms "LabelVault" ic X names).filter vx_no, w ∈ jv_LT ∨ w ∈ jv_ng) : ∀ a ∈ Bundle.ownAtoms "LabelVault" ic X names, a.before args s = true :=
  vx_own (fun w hw => (oa w hw).elim (jv_w hts) (fun h => by
    have h1 := List.mem_filter.mp h
    have h2 : w.faceAtom = true ∧ w.onTables = true := by simpa using h1.2
    exact va_tabs h2.2 rfl (hT.2.1 w h))) (vx_isRefq hT.1.1.1) (vx_isRefq hT.1.2.1) hT.1.1.2.word hT.1.2.2.word
def jv_P0t (av : List Value) : Array Value → State → Prop := va_Pc av jv_th
def jv_Prt (av : List Value) (D : va_G) (tys : List (ClassId × FieldType)) (ws : va_W) : Array Value → State → Prop := va_Pc av (fun U => va_P D vwCl ws U.heap ∧ va_K D vwCl tys U ∧ jv_th U)
def jv_Pwt (av : List Value) (D : va_G) (tys : List (ClassId × FieldType)) (ws : va_W) (sz : Nat) : Array Value → State → Prop := va_Pc av (fun U => U.heap.size = sz ∧ va_P D vwCl ws U.heap ∧ va_K D vwCl tys U ∧ va_D (fun _ => True) ws ∧ jv_th U)
section JV3
variable {p : Program} {l : Launch} {e : Env} {R : Room} {s : State} {m : MethodId} {args : Array Value} {below : List Frame} {meth : Method} {c : Code} {H : Heap} {locs : List Loc} {cells slots : Nat} {Q : State → Prop}
variable {cc : ByteArray} {pc : Nat} {ls : Array Slot} {rest : List Value} {D : va_G} {cl : List vw_C} {A : Nat → Prop} {a : Nat} {tys : List (ClassId × FieldType)} {ws : va_W} {H0 : Heap}
theorem jv_pre0t {As : List Value} (hT : jv_th s) : PreS s s.heap (jv_P0t As) As := ⟨fun _ _ _ _ q => ⟨q.1, q.2.calling⟩, fun U hU hW => ⟨rfl, hT.moved hW hU⟩⟩
theorem jv_preSt {As : List Value} (hT : jv_th s) (hK : va_K D vwCl tys s) (hP : va_P D vwCl ws s.heap) : PreS s s.heap (jv_Prt As D tys ws) As :=
  ⟨fun a U g mk q => ⟨q.1, q.2.1, va_K.moved (u := U) (U := U.calling g mk a) (Vm.Alike.refl U.vm) q.2.2.1, q.2.2.2.calling⟩, fun U hU hW => ⟨rfl, by rw [hU]; exact hP, va_K.moved hW.alike hK, hT.moved hW hU⟩⟩
theorem jv_preVt {As : List Value} {b ci : Nat} {fs : List Value} {r : vw_C} (hT : jv_th s) (hK : va_K D vwCl tys s) (hP : va_P D vwCl ws s.heap) (q0 : Nat) (he : ws[q0]? = some (b, .inr (ci, fs))) (hc : vwCl[ci]? = some r) : PreV s s.heap r.1 b (jv_Prt (.ref b :: As) D tys ws) As :=
  ⟨(jv_preSt (As := .ref b :: As) hT hK hP).1, va_recv hK hP hc he, (jv_preSt (As := .ref b :: As) hT hK hP).2⟩
theorem jv_ldcw (hexec : p.tables.exec = Jvm.exec) (hb : c.code = cc) {own tx : String} {index q : Nat} (hown : s.vm.findClass own = some m.cls) (hZ : vk_R own index tx q s) (hdg : decode cc pc = .ok (.ldc_w index, 3))
    (kk : W p l e R s m args below meth c H locs cells slots Q (F0 m (pc + 3) ls (.ref q :: rest))) : W p l e R s m args below meth c H locs cells slots Q (F0 m pc ls rest) := by
  intro T hT X
  obtain ⟨t, a1, b1⟩ := kk T hT X
  refine ⟨t, ?_, b1⟩
  obtain ⟨k, cf, i, a', hk, hcf, hcp, -, hr, hev'⟩ := Cond.stringRef_spec hown hZ.1
  cases hZ.2.symm.trans hev'
  obtain ⟨k', hk', he⟩ := X.warmed.alike.2.2 _ _ hk
  have hr' : k'.resolved[index]? = some (some (.string q)) := by
    rcases X.warmed.entry hk hk' index with h | ⟨h, -⟩
    · rw [h]; exact hr
    · rw [hr] at h; cases h
  jvm_step X.here [hexec, hb, hdg, Op.ldc_w.wp_string (e := e) (s := T) (f := F0 m pc ls rest) X.here.top hk' (by rw [he]; exact hcf) hcp hr']
  exact a1
end JV3
