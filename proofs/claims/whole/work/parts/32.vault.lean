/-! The vault's world: its own four cells, and eight cells for each area. -/
/-- label, users, places, draft, journal, journaled, marked, writes -/
abbrev jv_ar : Type := Int32 × (Nat → Int32) × (Nat → Int32) × (Nat → Int32) × (Nat → Int32) × Int32 × Int32 × Int32
abbrev w_area8 (cI : ClassId) (q : Nat → Nat) (x : jv_ar) : va_W := [(q 0, .inr (kArea, [.int x.1, .ref (q 1), .ref (q 2), .ref (q 6), .ref (q 7)])), (q 1, .inl (cI, 4, .inl x.2.1)),
  (q 2, .inr (kDisk, [.ref (q 3), .ref (q 4), .ref (q 5), .int x.2.2.2.2.2.1, .int x.2.2.2.2.2.2.1, .int x.2.2.2.2.2.2.2])), (q 3, .inl (cI, 232, .inl x.2.2.1)), (q 4, .inl (cI, 232, .inl x.2.2.2.1)), (q 5, .inl (cI, 232, .inl x.2.2.2.2.1)),
  (q 6, .inr (kTree, [.ref (q 2)])), (q 7, .inr (kCont, [.ref (q 2)]))]
abbrev w_focus (cI : ClassId) (q_fu : Nat) (Q : Nat → Nat → Nat) (j : Nat) (vat : Int32) (x : jv_ar) : va_W := (q_fu, .inr (kFuse, [.int vat])) :: w_area8 cI (Q j) x
def w_areas (cI : ClassId) (Q : Nat → Nat → Nat) (n : Nat) (ars : Nat → jv_ar) : va_W := (List.range n).flatMap (fun a => w_area8 cI (Q a) (ars a))
abbrev w_vault (cI cA : ClassId) (q_va q_aa q_cl q_fu : Nat) (Q : Nat → Nat → Nat) (vn : Nat) (vC : Nat → Int32) (vat : Int32) (ars : Nat → jv_ar) : va_W :=
  (q_va, .inr (kVault, [.ref q_aa, .int (nI vn), .ref q_cl, .ref q_fu])) :: (q_aa, .inl (cA, 6, .inr (.inr (.inr (.inr (fun j => if j < vn then some (Q j 0) else none)))))) :: (q_cl, .inl (cI, 4, .inl vC)) :: (q_fu, .inr (kFuse, [.int vat])) :: w_areas cI Q vn ars
theorem jv_Pm {D : va_G} {cl : List vw_C} {ws : va_W} {H : Heap} : va_P D cl ws H ↔ ∀ q ∈ ws, va_at D cl q H :=
  ⟨fun h q hq => by
    obtain ⟨k, hk⟩ := List.getElem?_of_mem hq
    exact h k q hk, fun h k q hk => h q (List.mem_of_getElem? hk)⟩
theorem w_areas_s (cI : ClassId) (Q : Nat → Nat → Nat) (n : Nat) (ars : Nat → jv_ar) : w_areas cI Q (n + 1) ars = w_areas cI Q n ars ++ w_area8 cI (Q n) (ars n) := by
  unfold w_areas
  rw [List.range_succ, List.flatMap_append, List.flatMap_cons, List.flatMap_nil, List.append_nil]
theorem w_areas_len (cI : ClassId) (Q : Nat → Nat → Nat) (ars : Nat → jv_ar) : ∀ n : Nat, (w_areas cI Q n ars).length = 8 * n
  | 0 => rfl
  | n + 1 => by
    rw [w_areas_s, List.length_append, w_areas_len cI Q ars n]
    rfl
theorem w_areas_at (cI : ClassId) (Q : Nat → Nat → Nat) (ars : Nat → jv_ar) {a k : Nat} (hk : k < 8) : ∀ n : Nat, a < n → (w_areas cI Q n ars)[8 * a + k]? = (w_area8 cI (Q a) (ars a))[k]?
  | 0, h => absurd h (Nat.not_lt_zero _)
  | n + 1, h => by
    rw [w_areas_s]
    by_cases ha : a < n
    · rw [List.getElem?_append_left (by rw [w_areas_len]; omega)]
      exact w_areas_at cI Q ars hk n ha
    · have : a = n := by omega
      subst this
      rw [List.getElem?_append_right (by rw [w_areas_len]; omega), w_areas_len]
      rw [show 8 * a + k - 8 * a = k by omega]
theorem w_areas_back {cI : ClassId} {Q : Nat → Nat → Nat} {ars : Nat → jv_ar} {n i : Nat} {q : Nat × va_E} (h : (w_areas cI Q n ars)[i]? = some q) : ∃ a k, a < n ∧ k < 8 ∧ i = 8 * a + k ∧ (w_area8 cI (Q a) (ars a))[k]? = some q := by
  have hi : i < 8 * n := by
    rw [← w_areas_len cI Q ars n]
    exact (List.getElem?_eq_some_iff.mp h).1
  refine ⟨i / 8, i % 8, by omega, by omega, by omega, ?_⟩
  rw [← w_areas_at cI Q ars (show i % 8 < 8 by omega) n (by omega), show 8 * (i / 8) + i % 8 = i by omega]
  exact h
section JVV
variable {D : va_G} {cl : List vw_C} {A : Nat → Prop} {H H1 : Heap} {cI cA : ClassId} {q_va q_aa q_cl q_fu : Nat} {Q : Nat → Nat → Nat} {vn : Nat} {vC : Nat → Int32} {vat vat' : Int32} {ars : Nat → jv_ar} {x' : jv_ar} {j : Nat}
theorem jv_wv {a k : Nat} (hk : k < 8) (ha : a < vn) : (w_vault cI cA q_va q_aa q_cl q_fu Q vn vC vat ars)[4 + (8 * a + k)]? = (w_area8 cI (Q a) (ars a))[k]? := by
  rw [show 4 + (8 * a + k) = 8 * a + k + 1 + 1 + 1 + 1 by omega]
  exact w_areas_at cI Q ars hk vn ha
/-- which place of the vault's world a place of the focus is -/
def jv_fi (j k : Nat) : Nat := if k = 0 then 3 else 4 + (8 * j + (k - 1))
theorem jv_fw (hj : j < vn) (k : Nat) (q : Nat × va_E) (h : (w_focus cI q_fu Q j vat (ars j))[k]? = some q) : (w_vault cI cA q_va q_aa q_cl q_fu Q vn vC vat ars)[jv_fi j k]? = some q := by
  cases k with
  | zero => exact h
  | succ k =>
    have hk : k < 8 := by
      have h9 : k + 1 < 9 := (List.getElem?_eq_some_iff.mp h).1
      omega
    show (w_vault cI cA q_va q_aa q_cl q_fu Q vn vC vat ars)[4 + (8 * j + (k + 1 - 1))]? = some q
    rw [show k + 1 - 1 = k by omega, jv_wv hk hj]
    exact h
theorem jv_open (hP : va_P D cl (w_vault cI cA q_va q_aa q_cl q_fu Q vn vC vat ars) H) (hj : j < vn) : va_P D cl (w_focus cI q_fu Q j vat (ars j)) H := hP.by (jv_fi j) (jv_fw hj)
theorem jv_openD (hD : va_D A (w_vault cI cA q_va q_aa q_cl q_fu Q vn vC vat ars)) (hj : j < vn) : va_D A (w_focus cI q_fu Q j vat (ars j)) :=
  hD.by (jv_fi j) (jv_fw hj) (fun i k hi hk h => by
    have h1 : i < 9 := by simpa using hi
    have h2 : k < 9 := by simpa using hk
    unfold jv_fi at h
    split at h <;> split at h <;> omega)
theorem jv_Dsame {ws ws' : va_W} (h : ws'.map Prod.fst = ws.map Prod.fst) (hD : va_D A ws) : va_D A ws' := by
  have key : ∀ (k : Nat) (q : Nat × va_E), ws'[k]? = some q → ∃ q0, ws[k]? = some q0 ∧ q0.1 = q.1 := by
    intro k q hk
    have h1 : (ws'.map Prod.fst)[k]? = some q.1 := by rw [List.getElem?_map, hk]; rfl
    rw [h, List.getElem?_map] at h1
    cases h2 : ws[k]? with
    | none => rw [h2] at h1; cases h1
    | some q0 => rw [h2] at h1; exact ⟨q0, rfl, Option.some.inj h1⟩
  refine ⟨fun i k p q hi hk e => ?_, fun k q hk => ?_⟩
  · obtain ⟨p0, h1, h2⟩ := key i p hi
    obtain ⟨q0, h3, h4⟩ := key k q hk
    exact hD.1 i k p0 q0 h1 h3 (h2.trans (e.trans h4.symm))
  · obtain ⟨q0, h1, h2⟩ := key k q hk
    rw [← h2]
    exact hD.2 k q0 h1
theorem w_areas_fst (cI : ClassId) (Q : Nat → Nat → Nat) (ars ars' : Nat → jv_ar) : ∀ n : Nat, (w_areas cI Q n ars').map Prod.fst = (w_areas cI Q n ars).map Prod.fst
  | 0 => rfl
  | n + 1 => by
    rw [w_areas_s, w_areas_s, List.map_append, List.map_append, w_areas_fst cI Q ars ars' n]
    rfl
/-- what a callee on a part of the focus leaves alone is all that is outside the focus -/
theorem jv_out {ws wc : va_W} (is : List Nat) (hC : is.map (fun i => ws[i]?) = wc.map some) (hk : ∀ q : Nat, q < H.size → ¬ va_A wc H.size q → H1[q]? = H[q]?) : ∀ q : Nat, q < H.size → (∀ (k : Nat) (p : Nat × va_E), ws[k]? = some p → p.1 ≠ q) → H1[q]? = H[q]? := by
  intro q hq hn
  refine hk q hq (fun h => ?_)
  rcases h with ⟨k, e, h⟩ | h
  · have h1 : (is.map (fun i => ws[i]?))[k]? = some (some (q, e)) := by rw [hC, List.getElem?_map, h]; rfl
    rw [List.getElem?_map] at h1
    cases hi : is[k]? with
    | none => rw [hi] at h1; cases h1
    | some i =>
      rw [hi] at h1
      exact hn i (q, e) (Option.some.inj h1) rfl
  · omega
theorem jv_close (hP : va_P D cl (w_vault cI cA q_va q_aa q_cl q_fu Q vn vC vat ars) H) (hD : va_D A (w_vault cI cA q_va q_aa q_cl q_fu Q vn vC vat ars)) (hj : j < vn)
    (hk : ∀ q : Nat, q < H.size → (∀ (k : Nat) (p : Nat × va_E), (w_focus cI q_fu Q j vat (ars j))[k]? = some p → p.1 ≠ q) → H1[q]? = H[q]?) (hPk : va_P D cl (w_focus cI q_fu Q j vat' x') H1) :
    va_P D cl (w_vault cI cA q_va q_aa q_cl q_fu Q vn vC vat' (va_up ars j x')) H1 ∧ va_D A (w_vault cI cA q_va q_aa q_cl q_fu Q vn vC vat' (va_up ars j x')) := by
  have far : ∀ (i : Nat) (q : Nat × va_E), (w_vault cI cA q_va q_aa q_cl q_fu Q vn vC vat ars)[i]? = some q → i ≠ 3 → (i < 4 + 8 * j ∨ 4 + 8 * j + 8 ≤ i) → va_at D cl q H1 := by
    intro i q hi h3 ho
    refine (hP i q hi).kept (hk q.1 (hP i q hi).lt (fun k p hp e => ?_))
    have h1 := jv_fw (cI := cI) (cA := cA) (q_va := q_va) (q_aa := q_aa) (q_cl := q_cl) (q_fu := q_fu) (Q := Q) (vn := vn) (vC := vC) (vat := vat) (ars := ars) hj k p hp
    have h2 := hD.1 _ _ p q h1 hi e
    have hk9 : k < 9 := (List.getElem?_eq_some_iff.mp hp).1
    unfold jv_fi at h2
    split at h2 <;> omega
  refine ⟨fun i q hi => ?_, jv_Dsame ?_ hD⟩
  · match i, hi with
    | 0, hi => exact far 0 q hi (by omega) (by omega)
    | 1, hi => exact far 1 q hi (by omega) (by omega)
    | 2, hi => exact far 2 q hi (by omega) (by omega)
    | 3, hi => exact hPk 0 q hi
    | i + 4, hi =>
      obtain ⟨a, k, ha, hk8, rfl, hq⟩ := w_areas_back (show (w_areas cI Q vn (va_up ars j x'))[i]? = some q from hi)
      by_cases haj : a = j
      · subst haj
        rw [va_up_self] at hq
        exact hPk (k + 1) q hq
      · rw [va_up_ne _ _ haj] at hq
        refine far (4 + (8 * a + k)) q (by rw [jv_wv hk8 ha]; exact hq) (by omega) (by omega)
  · show q_va :: q_aa :: q_cl :: q_fu :: (w_areas cI Q vn (va_up ars j x')).map Prod.fst = q_va :: q_aa :: q_cl :: q_fu :: (w_areas cI Q vn ars).map Prod.fst
    rw [w_areas_fst]
end JVV
def jv_gi (n : Nat) (i : Int32) : Option Nat := if i < 0 ∨ n ≤ i.toNatClampNeg then none else some i.toNatClampNeg
theorem jv_inI {n : Nat} {i : Int32} {j : Nat} (g : jv_gi n i = some j) : vp_in i n ∧ i.toNatClampNeg = j := by
  unfold jv_gi at g
  by_cases h : i < 0 ∨ n ≤ i.toNatClampNeg
  · rw [if_pos h] at g
    cases g
  · rw [if_neg h] at g
    exact ⟨h, Option.some.inj g⟩
