/-! Rows for constructors. -/
def jv_Qn (B : Heap → Prop) (A : Nat → Prop) : Array Value → State → Outcome → State → Prop := fun _ st oc t => oc = .returned none ∧ B t.heap ∧ va_F A st t
theorem jv_cI {D : va_G} {cl : List vw_C} {cI cA cL c9 : ClassId} {s : State} (h : va_K D cl (jv_ty cI cA cL ++ [(c9, .int)]) s) : cI = c9 := by
  have h1 := (h.2 0 (cI, .int) rfl).2
  have h2 := (h.2 3 (c9, .int) rfl).2
  exact Option.some.inj (h1.symm.trans h2)
theorem jv_cL {D : va_G} {cl : List vw_C} {cI cA cL c9 : ClassId} {s : State} (h : va_K D cl (jv_ty cI cA cL ++ [(c9, .long)]) s) : cL = c9 := by
  have h1 := (h.2 2 (cL, .long) rfl).2
  have h2 := (h.2 3 (c9, .long) rfl).2
  exact Option.some.inj (h1.symm.trans h2)
theorem jv_cA {D : va_G} {cl : List vw_C} {cI cA cL c9 : ClassId} {s : State} (h : va_K D cl (jv_ty cI cA cL ++ [(c9, .object "LabelVault$Area")]) s) : cA = c9 := by
  obtain ⟨k1, p1, -, -, -, h1⟩ := (h.2 1 (cA, .object "LabelVault$Area") rfl).2
  obtain ⟨k2, p2, -, -, -, h2⟩ := (h.2 3 (c9, .object "LabelVault$Area") rfl).2
  exact Option.some.inj (h1.symm.trans h2)
section JVC
variable {p : Program} {l : Launch} {e : Env} {R : Room} {s : State} {m : MethodId} {args : Array Value} {below : List Frame} {meth : Method} {c : Code} {H : Heap} {locs : List Loc} {cells slots : Nat} {Q : State → Prop}
variable {cc : ByteArray} {pc : Nat} {ls : Array Slot} {rest : List Value} {D : va_G} {A : Nat → Prop} {a : Nat} {ws : va_W} {H0 : Heap}
theorem jv_cwI {c0 : Cond} {own : String} {index n maxL mc ms : Nat} {y : MethodName} {bytes : ByteArray} {rm : Room} (hts : ∀ w ∈ c0 :: jv_LT, w.before args s = true) (h1 : Cond.code y bytes maxL none ∈ jv_LT) (h2 : Cond.initialized y.cls ∈ jv_LT) (h3 : Cond.methodLink own index y ∈ jv_LT) (h4 : Cond.instanceMethod y ∈ jv_LT) (hrc : rm.cells = mc) (hrs : rm.slots = ms)
    (hd : y.cls ≠ "java/lang/invoke/MethodHandle" ∧ y.cls ≠ "java/lang/invoke/VarHandle" ∧ (parseMethodDescriptor y.desc).map (fun d => d.parameters.length) = some n) (hR : rm.frames + 1 ≤ R.frames ∧ 8 + (maxL + 11) + rm.locals ≤ R.locals) (hn : y.name = "<init>" := by rfl) : CallB R s args own index y bytes maxL none (Cond.code y bytes maxL none :: jv_LT) rm mc ms n ∧ y.name = "<init>" ∧ (Cond.instanceMethod y).before args s = true :=
  ⟨jv_cb hts h1 h2 h3 hrc hrs hd hR, hn, jv_w hts h4⟩
theorem jv_cwIN {c0 : Cond} {own host : String} {index n maxL mc ms : Nat} {y : MethodName} {bytes : ByteArray} {rm : Room} (hts : ∀ w ∈ c0 :: jv_LT, w.before args s = true) (h1 : Cond.code y bytes maxL none ∈ jv_LT) (h2 : Cond.initialized y.cls ∈ jv_LT) (h4 : Cond.instanceMethod y ∈ jv_LT) (hN : va_Nw (.methodLinkNest own index y host) s) (hrc : rm.cells = mc) (hrs : rm.slots = ms)
    (hd : y.cls ≠ "java/lang/invoke/MethodHandle" ∧ y.cls ≠ "java/lang/invoke/VarHandle" ∧ (parseMethodDescriptor y.desc).map (fun d => d.parameters.length) = some n) (hR : rm.frames + 1 ≤ R.frames ∧ 8 + (maxL + 11) + rm.locals ≤ R.locals) (hn : y.name = "<init>" := by rfl) : va_CN R s args own index y host bytes maxL none (Cond.code y bytes maxL none :: jv_LT) rm mc ms n ∧ y.name = "<init>" ∧ (Cond.instanceMethod y).before args s = true :=
  ⟨va_cnB n hts (fun w hw => by
    have hm : w ∈ jv_LT := by
      rcases List.mem_cons.mp hw with h | h
      · rw [h]; exact h1
      · exact h
    exact ⟨List.mem_cons_of_mem _ hm, good_of_word (List.mem_filter.mp hm).2⟩) rfl hrc hrs hN (jv_w hts h2) hd hR, hn, jv_w hts h4⟩
theorem jv_cwn {B : Heap → Prop} {mc ms : Nat} {A0 A1 : Nat → Prop} {av : Array Value} {st0 : List Value} (hr : va_Run p l e R s m args below meth c H locs cells slots mc ms (F0 m pc ls st0) rest (jv_Qn B A1 av) A1) (hS : va_S A0 H0 H locs) (hF : ∀ q, A1 q → A0 q)
    (kk : ∀ (H1 : Heap) (locs1 : List Loc), B H1 → H.size ≤ H1.size → (∀ q : Nat, q < H.size → ¬ A1 q → H1[q]? = H[q]?) → va_S A0 H0 H1 locs1 → W p l e R s m args below meth c H1 locs1 (cells + mc) (slots + ms) Q (F0 m (pc + 3) ls rest)) : W p l e R s m args below meth c H locs cells slots Q (F0 m pc ls st0) := by
  intro T hT X
  obtain ⟨v', st₀, t, T', L, h0, X', hL, e1, e2, ⟨hv, hB, hz, hk⟩, st⟩ := hr T hT X
  cases hv
  rw [h0] at hz hk
  obtain ⟨t2, a1, b1⟩ := kk T'.heap (locs ++ L) (by rw [e1]; exact hB) (by rw [e1]; exact hz) (fun q h1 h2 => by rw [e1]; exact hk q h1 h2)
    ⟨Nat.le_trans hS.1 (by rw [e1]; exact hz), fun q h1 h2 => by rw [e1, hk q (Nat.lt_of_lt_of_le h1 hS.1) (fun z => h2 (hF q z))]; exact hS.2.1 q h1 h2, fun q hq => by
      rcases List.mem_append.mp hq with h | h
      · exact hS.2.2 q h
      · exact hF _ (hL q h)⟩ T' rfl X'
  exact ⟨t2, st t2 a1, b1⟩
end JVC
