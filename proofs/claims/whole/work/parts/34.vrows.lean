/-! Rows of the vault's own methods. -/
def jv_se {α β : Type} (x : Nat ⊕ α) (f : α → Option (Nat ⊕ β)) : Option (Nat ⊕ β) := match x with
  | .inl k => some (.inl k)
  | .inr v => f v
theorem jv_ci {α β : Type} {k : Nat} {f : α → Option (Nat ⊕ β)} {r : β} {P : Prop} (h : jv_se (.inl k) f = some (.inr r)) : P := by
  cases (show (some (.inl k) : Option (Nat ⊕ β)) = some (.inr r) from h)
theorem jv_sl {α β : Type} {k k2 : Nat} {f : α → Option (Nat ⊕ β)} (h : jv_se (.inl k) f = some (.inl k2)) : k = k2 :=
  Sum.inl.inj (Option.some.inj (show (some (.inl k) : Option (Nat ⊕ β)) = some (.inl k2) from h))
theorem jv_sr {α β : Type} {v : α} {f : α → Option (Nat ⊕ β)} {r : Nat ⊕ β} (h : jv_se (.inr v) f = some r) : f v = some r := h
def jv_lt {α β : Type} (x : α) (f : α → Option β) : Option β := f x
theorem jv_le {α β : Type} {x : α} {f : α → Option β} {r : β} (h : jv_lt x f = some r) : ∃ a, a = x ∧ f a = some r := ⟨x, rfl, h⟩
def jv_en : Nat → String
  | 1 => "java/lang/IllegalArgumentException"
  | 2 => "java/lang/IllegalStateException"
  | 3 => "java/util/NoSuchElementException"
  | 4 => "java/lang/UnsupportedOperationException"
  | _ => "java/lang/IndexOutOfBoundsException"
/-- a method that answers nothing and changes nothing -/
def jv_Rv : Array Value → State → Outcome → State → Prop := fun _ st o t => o = .returned none ∧ t.heap = st.heap
section JV2
variable {p : Program} {l : Launch} {e : Env} {R : Room} {s : State} {m : MethodId} {args : Array Value} {below : List Frame} {meth : Method} {c : Code} {H : Heap} {locs : List Loc} {cells slots : Nat} {Q : State → Prop}
variable {cc : ByteArray} {pc : Nat} {ls : Array Slot} {rest : List Value} {D : va_G} {cl : List vw_C} {A : Nat → Prop} {a : Nat} {tys : List (ClassId × FieldType)} {ws : va_W} {H0 : Heap}
theorem jv_csr {r : Value} {av : Array Value} {st0 : List Value} (hr : CallRun p l e R s m args below meth c H locs cells slots 0 0 (F0 m pc ls st0) rest (k2_QcV r av) (fun _ => False))
    (kk : W p l e R s m args below meth c H locs cells slots Q (F0 m (pc + 3) ls (r :: rest))) : W p l e R s m args below meth c H locs cells slots Q (F0 m pc ls st0) := W.callV hr kk
theorem jv_csv {av : Array Value} {st0 : List Value} (hr : CallRun p l e R s m args below meth c H locs cells slots 0 0 (F0 m pc ls st0) rest (jv_Rv av) (fun _ => False))
    (kk : W p l e R s m args below meth c H locs cells slots Q (F0 m (pc + 3) ls rest)) : W p l e R s m args below meth c H locs cells slots Q (F0 m pc ls st0) := by
  intro T hT X
  obtain ⟨v, st₀, t, T', L, h0, X', hL, e1, ⟨hv, hh⟩, st⟩ := hr T hT X
  cases hv
  obtain ⟨t2, a1, b1⟩ := kk T' (by rw [e1, hh, h0]) (Stand.forget X' (fun q h => (hL q h).elim))
  exact ⟨t2, st t2 a1, b1⟩
theorem jv_aald {cI cA cL : ClassId} {q_va q_aa q_cl q_fu : Nat} {Q9 : Nat → Nat → Nat} {vn : Nat} {vC : Nat → Int32} {vat : Int32} {ars : Nat → jv_ar} {i : Int32} {j : Nat} (hexec : p.tables.exec = Jvm.exec) (hb : c.code = cc) (hK : va_K D vwCl (jv_ty cI cA cL) s) (hP : va_P D vwCl (w_vault cI cA q_va q_aa q_cl q_fu Q9 vn vC vat ars) H) (g : jv_gi 6 i = some j) (hdg : decode cc pc = .ok (.aaload, 1))
    (ky : j < vn → W p l e R s m args below meth c H locs cells slots Q (F0 m (pc + 1) ls (.ref (Q9 j 0) :: rest))) (kn : ¬ j < vn → W p l e R s m args below meth c H locs cells slots Q (F0 m (pc + 1) ls (.null :: rest))) : W p l e R s m args below meth c H locs cells slots Q (F0 m pc ls (.int i :: .ref q_aa :: rest)) := by
  obtain ⟨h1, h2⟩ := jv_inI g
  subst h2
  refine va_aldq (cA := cA) (C := "LabelVault$Area") hexec hb hK hP 1 1 rfl rfl h1 hdg ?_
  by_cases hj : i.toNatClampNeg < vn
  · rw [if_pos hj]
    exact ky hj
  · rw [if_neg hj]
    exact kn hj
theorem jv_fr {A0 : Nat → Prop} {ws : va_W} (hD : va_D A0 ws) (hS : va_S A0 H0 H locs) (hA : ∀ q, H0.size ≤ q → A0 q) : ∀ q, va_A ws H.size q → A0 q := by
  intro q h
  rcases h with ⟨k, e, h⟩ | h
  · exact hD.2 k (q, e) h
  · exact hA q (Nat.le_trans hS.1 h)
end JV2
