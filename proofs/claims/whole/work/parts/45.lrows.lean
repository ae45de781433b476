/-! The law's wrappers: a call in a try. -/
abbrev jv_vs : Type := Nat × (Nat → Int32) × Int32 × (Nat → jv_ar)
/-- answer of the wrapper, the vault behind it, the cell out -/
abbrev jv_lr : Type := Int32 × jv_vs × (Nat → Int64)
abbrev w_lo (cI cA cL : ClassId) (q_out q_va q_aa q_cl q_fu : Nat) (Q : Nat → Nat → Nat) (S : jv_vs) (vO : Nat → Int64) : va_W :=
  (q_out, .inl (cL, 1, .inr (.inl vO))) :: w_vault cI cA q_va q_aa q_cl q_fu Q S.1 S.2.1 S.2.2.1 S.2.2.2
def jv_ncs : List (String × String) := [("java/lang/IllegalArgumentException", "java/lang/IllegalStateException"), ("java/lang/IllegalArgumentException", "java/util/NoSuchElementException"), ("java/lang/IllegalArgumentException", "java/lang/UnsupportedOperationException"), ("java/lang/IllegalArgumentException", "java/lang/IndexOutOfBoundsException"),
  ("java/lang/IllegalStateException", "java/lang/IllegalArgumentException"), ("java/lang/IllegalStateException", "java/util/NoSuchElementException"), ("java/lang/IllegalStateException", "java/lang/UnsupportedOperationException"), ("java/lang/IllegalStateException", "java/lang/IndexOutOfBoundsException"),
  ("java/util/NoSuchElementException", "java/lang/IllegalArgumentException"), ("java/util/NoSuchElementException", "java/lang/IllegalStateException"), ("java/util/NoSuchElementException", "java/lang/UnsupportedOperationException"), ("java/util/NoSuchElementException", "java/lang/IndexOutOfBoundsException"),
  ("java/lang/UnsupportedOperationException", "java/lang/IllegalArgumentException"), ("java/lang/UnsupportedOperationException", "java/lang/IllegalStateException"), ("java/lang/UnsupportedOperationException", "java/util/NoSuchElementException"), ("java/lang/UnsupportedOperationException", "java/lang/IndexOutOfBoundsException"),
  ("java/lang/IndexOutOfBoundsException", "java/lang/IllegalArgumentException"), ("java/lang/IndexOutOfBoundsException", "java/lang/IllegalStateException"), ("java/lang/IndexOutOfBoundsException", "java/util/NoSuchElementException"), ("java/lang/IndexOutOfBoundsException", "java/lang/UnsupportedOperationException")]
def jv_tc (U : State) : Prop := jv_th U ∧ ∀ q ∈ jv_ncs, va_Nc q.1 q.2 U
theorem jv_tc.to {s U : State} (hW : s.WarmedH U.vm) (hk : ∀ q : Nat, q < s.heap.size → U.heap[q]? = s.heap[q]?) (h : jv_tc s) : jv_tc U := ⟨h.1.to hW hk, fun q hq => (h.2 q hq).moved hW.alike⟩
theorem jv_tc.calling {U : State} {g : JFrame} {mk : MethodId} {a : Array Value} (h : jv_tc U) : jv_tc (U.calling g mk a) := h.to (U := U.calling g mk a) (State.WarmedH.refl U) (fun _ _ => rfl)
def jv_Plw (av : List Value) (D : va_G) (tys : List (ClassId × FieldType)) (ws : va_W) (sz : Nat) : Array Value → State → Prop := va_Pc av (fun U => U.heap.size = sz ∧ va_P D vwCl ws U.heap ∧ va_K D vwCl tys U ∧ va_D (fun _ => True) ws ∧ jv_tc U)
def jv_Qlw (v : Int32) (D : va_G) (cI cA cL : ClassId) (q_out q_va q_aa q_cl q_fu : Nat) (S : jv_vs) (vO : Nat → Int64) (A : Nat → Prop) : Array Value → State → Outcome → State → Prop := fun _ st oc t =>
  oc = .returned (some (.int v)) ∧ (∃ Q : Nat → Nat → Nat, va_P D vwCl (w_lo cI cA cL q_out q_va q_aa q_cl q_fu Q S vO) t.heap ∧ va_D A (w_lo cI cA cL q_out q_va q_aa q_cl q_fu Q S vO)) ∧ va_F A st t
theorem jv_PT {D : va_G} {cl : List vw_C} {o : Nat × va_E} {V : va_W} {H : Heap} (h : va_P D cl (o :: V) H) : va_P D cl V H := jv_Pm.mpr (fun q hq => jv_Pm.mp h q (List.mem_cons_of_mem _ hq))
theorem jv_DT {A : Nat → Prop} {o : Nat × va_E} {V : va_W} (h : va_D A (o :: V)) : va_D A V := h.by (fun k => k + 1) (fun _ _ hk => hk) (fun _ _ _ _ e => Nat.succ.inj e)
/-- the cell o beside a vault that a callee has changed -/
theorem jv_joinO {D : va_G} {cl : List vw_C} {A : Nat → Prop} {o : Nat × va_E} {V V1 : va_W} {H H1 : Heap} (hP : va_P D cl (o :: V) H) (hD : va_D A (o :: V)) (hF : ∀ q, va_A V H.size q → A q) (hk : ∀ q : Nat, q < H.size → ¬ va_A V H.size q → H1[q]? = H[q]?) (hP1 : va_P D cl V1 H1) (hD1 : va_D (va_A V H.size) V1) : va_P D cl (o :: V1) H1 ∧ va_D A (o :: V1) := by
  have h0 := hP 0 o rfl
  have hno : ¬ va_A V H.size o.1 := by
    intro h
    rcases h with ⟨k, e, h⟩ | h
    · have := hD.1 0 (k + 1) o (o.1, e) rfl h rfl
      omega
    · exact absurd h0.lt (by omega)
  refine ⟨fun k q hq => ?_, fun i k p q hi hq e => ?_, fun k q hq => ?_⟩
  · cases k with
    | zero =>
      cases Option.some.inj hq
      exact h0.kept (hk o.1 h0.lt hno)
    | succ k => exact hP1 k q hq
  · cases i with
    | zero =>
      cases k with
      | zero => rfl
      | succ k =>
        cases Option.some.inj hi
        exact absurd (e ▸ hD1.2 k q hq) hno
    | succ i =>
      cases k with
      | zero =>
        cases Option.some.inj hq
        exact absurd (e ▸ hD1.2 i p hi) hno
      | succ k => rw [hD1.1 i k p q hi hq e]
  · cases k with
    | zero => exact hD.2 0 q hq
    | succ k => exact hF _ (hD1.2 k q hq)
def jv_pass (own E : String) (args : Array Value) (s : State) (pre : List ExceptionTableEntry) : Prop := ∀ z ∈ pre, z.catchType ≠ 0 ∧ ∃ nm : String, (Cond.classLink own z.catchType nm).before args s = true ∧ va_Nc E nm s
theorem jv_pn {own E : String} {args : Array Value} {s : State} : jv_pass own E args s [] := fun z h => by cases h
theorem jv_pc {own E nm : String} {args : Array Value} {s : State} {z : ExceptionTableEntry} {pre : List ExceptionTableEntry} (h0 : z.catchType ≠ 0) (hl : (Cond.classLink own z.catchType nm).before args s = true) (hn : va_Nc E nm s) (h : jv_pass own E args s pre) : jv_pass own E args s (z :: pre) := fun y hy => by
  rcases List.mem_cons.mp hy with rfl | hy
  · exact ⟨h0, nm, hl, hn⟩
  · exact h y hy
theorem jv_table {p : Program} {l : Launch} {y : MethodName} {S : Spec} {cc bytes : ByteArray} {maxL maxL' : Nat} {ret ret' : Option FieldType} {e : Env} {s s₁ : State} {m : MethodId} {args : Array Value} {below : List Frame} {meth : Method} {c : Code} {hh : List (Nat × Nat × Nat × Nat)}
    (B : BodyLoose p l y S cc maxL ret e s m args below meth c s₁) (h : (Cond.codeWith y bytes maxL' ret' hh).before args s = true) : c.exceptionTable.toList = tableOf hh := by
  obtain ⟨m9, meth9, c9, hn9, h1, h2, -, -, h6, -⟩ := Cond.codeWith_spec h
  cases Option.some.inj (hn9.symm.trans B.named)
  cases Option.some.inj (h1.symm.trans B.method)
  cases Option.some.inj (h2.symm.trans (Stand.of_body B).code)
  rw [← h6, table_eq]
section JVL
variable {p : Program} {l : Launch} {e : Env} {R : Room} {s : State} {m : MethodId} {args : Array Value} {below : List Frame} {meth : Method} {c : Code} {H H0 : Heap} {locs : List Loc} {cells slots : Nat} {Q : State → Prop}
variable {cc : ByteArray} {pc : Nat} {ls : Array Slot} {rest : List Value} {D : va_G} {A : Nat → Prop} {tys : List (ClassId × FieldType)} {ws : va_W}
theorem jv_catch {own name E : String} {x : Nat} {st : List Value} (hown : s.vm.findClass own = some m.cls) (pre : List ExceptionTableEntry) (z : ExceptionTableEntry) (suf : List ExceptionTableEntry) (hsplit : c.exceptionTable.toList = pre ++ z :: suf)
    (hpass : jv_pass own E args s pre) (hcv : covers z pc = true) (h0 : z.catchType ≠ 0)
    (hlink : (Cond.classLink own z.catchType name).before args s = true) (hcast : (Cond.castable E name).before args s = true) (hob : jv_ob9 s H0 H x E)
    (kk : W p l e R s m args below meth c H locs cells slots Q (F0 m z.handlerPc ls [.ref x])) : jv_WT p l e R s m args below meth c H locs cells slots Q (F0 m pc ls st) x := by
  obtain ⟨-, ⟨ce, hcell, hcl, hv⟩, -, -⟩ := hob
  intro T hT X
  have hpl : e.platform.magicAccessors = ({} : Platform).magicAccessors := by rw [X.admits.platform]
  obtain ⟨c3, c4, hc3, hc4, hasg⟩ := Cond.castable_spec hcast
  cases Option.some.inj (hc3.symm.trans hcl)
  obtain ⟨c5, hc5, hcl5⟩ := Cond.classLink_spec hown hlink e.platform hpl
  cases Option.some.inj (hc4.symm.trans hc5)
  obtain ⟨vm', X', st9⟩ := X.thenCaughtThrough x (g := F0 m pc ls st) rfl (Steps.refl _) (by rw [hT]; exact hcell) (by rw [hv]; rfl) (by obtain ⟨k9, h9, -⟩ := Vm.findClass_spec hcl; exact ⟨k9, h9⟩) pre z suf hsplit
    (fun y hy => by
      obtain ⟨hz0, nm, hl1, hn1⟩ := hpass y hy
      obtain ⟨c6, hc6, hcl6⟩ := Cond.classLink_spec hown hl1 e.platform hpl
      obtain ⟨a8, b8, h1, h2, h3⟩ := hn1
      cases Option.some.inj (h1.symm.trans hcl)
      cases Option.some.inj (h2.symm.trans hc6)
      exact Or.inr ⟨hz0, _, hcl6, h3⟩) hcv (Or.inr ⟨h0, c4, hcl5, hasg⟩)
  obtain ⟨t, a1, b1⟩ := kk (T.setVm vm') hT X'
  exact ⟨t, st9.trans a1, b1⟩
theorem jv_preVWt {As : List Value} {b ci : Nat} {fs : List Value} {r : vw_C} (hT : jv_th s) (hK : va_K D vwCl tys s) (hP : va_P D vwCl ws s.heap) (hD : va_D A ws) (q0 : Nat) (he : ws[q0]? = some (b, .inr (ci, fs))) (hc : vwCl[ci]? = some r) : PreV s s.heap r.1 b (jv_Pwt (.ref b :: As) D tys ws s.heap.size) As :=
  ⟨fun a U g mk q => ⟨q.1, q.2.1, q.2.2.1, va_K.moved (u := U) (U := U.calling g mk a) (Vm.Alike.refl U.vm) q.2.2.2.1, q.2.2.2.2.1, q.2.2.2.2.2.calling⟩, va_recv hK hP hc he, fun U hU hW => ⟨rfl, by rw [hU], by rw [hU]; exact hP, va_K.moved hW.alike hK, hD.weaken (fun _ _ _ _ => trivial), hT.moved hW hU⟩⟩
theorem jv_cast {E : String} (hT : jv_th s) (h : Cond.castable E E ∈ jv_ng) : (Cond.castable E E).before args s = true := by
  have h1 := List.mem_filter.mp h
  have h2 : (Cond.castable E E).faceAtom = true ∧ (Cond.castable E E).onTables = true := by simpa using h1.2
  exact va_tabs h2.2 rfl (hT.2.1 _ h)
theorem jv_cwa {v : Int32} {cI cA : ClassId} {q_va q_aa q_cl q_fu : Nat} {Q9 : Nat → Nat → Nat} {n n' mc ms : Nat} {vC : Nat → Int32} {vat : Int32} {ars' : Nat → jv_ar} {A0 A1 : Nat → Prop} {av : Array Value} {st0 : List Value} (hr : va_Run p l e R s m args below meth c H locs cells slots mc ms (F0 m pc ls st0) rest (jv_Qar v D cI cA q_va q_aa q_cl q_fu Q9 n n' vC vat ars' A1 av) A1) (hS : va_S A0 H0 H locs) (hF : ∀ q, A1 q → A0 q)
    (kk : ∀ (Q8 : Nat → Nat → Nat) (H1 : Heap) (locs1 : List Loc), va_P D vwCl (w_vault cI cA q_va q_aa q_cl q_fu Q8 n' vC vat ars') H1 → va_D A1 (w_vault cI cA q_va q_aa q_cl q_fu Q8 n' vC vat ars') → (∀ q : Nat, q < H.size → ¬ A1 q → H1[q]? = H[q]?) → va_S A0 H0 H1 locs1 → W p l e R s m args below meth c H1 locs1 (cells + mc) (slots + ms) Q (F0 m (pc + 3) ls (.int v :: rest))) : W p l e R s m args below meth c H locs cells slots Q (F0 m pc ls st0) := by
  intro T hT X
  obtain ⟨v', st₀, t, T', L, h0, X', hL, e1, e2, ⟨hv, ⟨q8, hP1, hD1⟩, hz, hk⟩, st⟩ := hr T hT X
  cases hv
  rw [h0] at hz hk
  obtain ⟨t2, a1, b1⟩ := kk (va_up Q9 n q8) T'.heap (locs ++ L) (by rw [e1]; exact hP1) hD1 (fun q h1 h2 => by rw [e1]; exact hk q h1 h2)
    ⟨Nat.le_trans hS.1 (by rw [e1]; exact hz), fun q h1 h2 => by rw [e1, hk q (Nat.lt_of_lt_of_le h1 hS.1) (fun z => h2 (hF q z))]; exact hS.2.1 q h1 h2, fun q hq => by
      rcases List.mem_append.mp hq with h | h
      · exact hS.2.2 q h
      · exact hF _ (hL q h)⟩ T' rfl X'
  exact ⟨t2, st t2 a1, b1⟩
end JVL
theorem ce_1 : Cond.castable (jv_en 1) (jv_en 1) ∈ jv_ng := by decide +kernel
theorem ce_2 : Cond.castable (jv_en 2) (jv_en 2) ∈ jv_ng := by decide +kernel
theorem ce_3 : Cond.castable (jv_en 3) (jv_en 3) ∈ jv_ng := by decide +kernel
theorem ce_4 : Cond.castable (jv_en 4) (jv_en 4) ∈ jv_ng := by decide +kernel
theorem ce_5 : Cond.castable (jv_en 5) (jv_en 5) ∈ jv_ng := by decide +kernel
