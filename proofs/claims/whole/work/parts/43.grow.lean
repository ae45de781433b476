/-! area(): the vault's world grows by an area's eight cells. -/
theorem jv_PL {D : va_G} {cl : List vw_C} {X Y : va_W} {H : Heap} (h : va_P D cl (X ++ Y) H) : va_P D cl X H := jv_Pm.mpr (fun q hq => jv_Pm.mp h q (List.mem_append_left _ hq))
theorem jv_DL {A : Nat → Prop} {X Y : va_W} (h : va_D A (X ++ Y)) : va_D A X := h.by (fun k => k) (fun k q hk => by
  rw [List.getElem?_append_left (List.getElem?_eq_some_iff.mp hk).1]
  exact hk) (fun _ _ _ _ e => e)
theorem w_areas_up (cI : ClassId) (Q : Nat → Nat → Nat) (ars : Nat → jv_ar) (n : Nat) (q : Nat → Nat) (x : jv_ar) : ∀ k : Nat, k ≤ n → w_areas cI (va_up Q n q) k (va_up ars n x) = w_areas cI Q k ars
  | 0, _ => rfl
  | k + 1, h => by
    rw [w_areas_s, w_areas_s, w_areas_up cI Q ars n q x k (by omega), va_up_ne _ _ (show k ≠ n by omega), va_up_ne _ _ (show k ≠ n by omega)]
theorem jv_wgrow {cI cA : ClassId} {q_va q_aa q_cl q_fu : Nat} {Q : Nat → Nat → Nat} {n : Nat} {vC : Nat → Int32} {vat : Int32} {ars : Nat → jv_ar} (hj : (nI n).toNatClampNeg = n) (q : Nat → Nat) (x : jv_ar) :
    ((q_va, .inr (kVault, [.ref q_aa, .int (nI n + 1), .ref q_cl, .ref q_fu])) :: (q_aa, .inl (cA, 6, .inr (.inr (.inr (.inr (va_up (fun j => if j < n then some (Q j 0) else none) (nI n).toNatClampNeg (some (q 0)))))))) :: (q_cl, .inl (cI, 4, .inl vC)) :: (q_fu, .inr (kFuse, [.int vat])) :: (w_areas cI Q n ars ++ w_area8 cI q x) : va_W)
      = w_vault cI cA q_va q_aa q_cl q_fu (va_up Q n q) (n + 1) vC vat (va_up ars n x) := by
  have e1 : va_up (fun j => if j < n then some (Q j 0) else none) (nI n).toNatClampNeg (some (q 0)) = fun j => if j < n + 1 then some (va_up Q n q j 0) else none := by
    funext j
    rw [hj]
    by_cases h : j = n
    · subst h
      rw [va_up_self, va_up_self, if_pos (Nat.lt_succ_self _)]
    · rw [va_up_ne _ _ h, va_up_ne _ _ h]
      by_cases h2 : j < n
      · rw [if_pos h2, if_pos (by omega)]
      · rw [if_neg h2, if_neg (by omega)]
  have e2 : w_areas cI (va_up Q n q) (n + 1) (va_up ars n x) = w_areas cI Q n ars ++ w_area8 cI q x := by
    rw [w_areas_s, w_areas_up cI Q ars n q x n (Nat.le_refl _), va_up_self, va_up_self]
  rw [e1]
  show _ = (q_va, _) :: (q_aa, _) :: (q_cl, _) :: (q_fu, _) :: w_areas cI (va_up Q n q) (n + 1) (va_up ars n x)
  rw [e2, nI_succ]
def jv_Qar (v : Int32) (D : va_G) (cI cA : ClassId) (q_va q_aa q_cl q_fu : Nat) (Q : Nat → Nat → Nat) (n n' : Nat) (vC : Nat → Int32) (vat : Int32) (ars' : Nat → jv_ar) (A : Nat → Prop) : Array Value → State → Outcome → State → Prop := fun _ st oc t =>
  oc = .returned (some (.int v)) ∧ (∃ q : Nat → Nat, va_P D vwCl (w_vault cI cA q_va q_aa q_cl q_fu (va_up Q n q) n' vC vat ars') t.heap ∧ va_D A (w_vault cI cA q_va q_aa q_cl q_fu (va_up Q n q) n' vC vat ars')) ∧ va_F A st t
def jv_q8 (q0 q1 q2 q3 q4 q5 q6 q7 : Nat) : Nat → Nat
  | 0 => q0
  | 1 => q1
  | 2 => q2
  | 3 => q3
  | 4 => q4
  | 5 => q5
  | 6 => q6
  | _ => q7
abbrev jv_F1 : Nat → Int32 := upd (fun _ => (0 : Int32)) ((8 : Int32)).toNatClampNeg (1 : Int32)
