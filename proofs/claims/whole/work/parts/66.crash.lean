/-! crash: what the reference's loop over its sessions gives. -/
def pcnt (g : Nat → Int32) : Nat → Nat → Nat
  | _, 0 => 0
  | i, d + 1 => (if g i ≤ 0 then 0 else 1) + pcnt g (i + 1) d
theorem pcnt_upd (g : Nat → Int32) (k : Nat) (v : Int32) : ∀ d i, k < i → pcnt (upd g k v) i d = pcnt g i d
  | 0, _, _ => rfl
  | d + 1, i, h => by
    unfold pcnt
    rw [q_updN (by omega), pcnt_upd g k v d (i + 1) (by omega)]
def pzero (g : Nat → Int32) (i n : Nat) : Nat → Int32 := fun j => if i ≤ j ∧ j < n then 0 else g j
theorem q_crashN (y : Int32) : ∀ d i, i + d = 24 → ∀ f, d < f → ∀ (c : Int32) (g : Nat → Int32), jv_fx (f_M_crashNow_4 y) f (c, nI i, g) = some (c + nI (pcnt g i d), (-1 : Int32), pzero g i 24) := by
  intro d
  induction d with
  | zero =>
    intro i hi f hf c g
    obtain ⟨f, rfl⟩ : ∃ f', f = f' + 1 := ⟨f - 1, by omega⟩
    rw [jv_fx_s]
    unfold f_M_crashNow_4
    have h4 : ((24 : Int32) ≤ nI i) = (24 ≤ i) := q_le (a := 24) (by omega) (by omega)
    simp only [h4, if_pos (show 24 ≤ i by omega)]
    have e : pzero g i 24 = g := by
      funext j
      unfold pzero
      rw [if_neg (by omega)]
    rw [e, show pcnt g i 0 = 0 from rfl, show nI 0 = (0 : Int32) from rfl, Int32.add_zero]
  | succ d ih =>
    intro i hi f hf c g
    obtain ⟨f, rfl⟩ : ∃ f', f = f' + 1 := ⟨f - 1, by omega⟩
    rw [jv_fx_s]
    unfold f_M_crashNow_4
    have h4 : ((24 : Int32) ≤ nI i) = (24 ≤ i) := q_le (a := 24) (by omega) (by omega)
    simp only [h4, if_neg (show ¬ 24 ≤ i by omega)]
    rw [q_ga (n := 24) (k := i) (by omega) (by omega), q_sa (n := 24) (k := i) (by omega) (by omega)]
    simp only [Option.bind_some, nI_1]
    have e : pzero (upd g i 0) (i + 1) 24 = pzero g i 24 := by
      funext j
      unfold pzero
      by_cases h : i + 1 ≤ j ∧ j < 24
      · rw [if_pos h, if_pos (by omega)]
      · rw [if_neg h]
        by_cases h2 : j = i
        · subst h2
          rw [q_updS, if_pos (by omega)]
        · rw [q_updN h2, if_neg (by omega)]
    have ihh := fun c => ih (i + 1) (by omega) f (by omega) c (upd g i 0)
    unfold f_M_crashNow_4 at ihh
    rw [ihh, ihh, e, pcnt_upd g i 0 d (i + 1) (by omega)]
    by_cases h : g i ≤ 0
    · rw [if_pos h, show pcnt g i (d + 1) = 0 + pcnt g (i + 1) d by show (if g i ≤ 0 then 0 else 1) + _ = _; rw [if_pos h], Nat.zero_add, Int32.add_zero]
    · rw [if_neg h, show pcnt g i (d + 1) = 1 + pcnt g (i + 1) d by show (if g i ≤ 0 then 0 else 1) + _ = _; rw [if_neg h], Int32.add_assoc, show (1 : Int32) = nI 1 from rfl, nI_add]
theorem q_crashM (m1 y : Int32) (g : Nat → Int32) : f_M_crash m1 y g = some (nI (pcnt g 0 24), 0, -1, pzero g 0 24) := by
  unfold f_M_crash f_M_crash_0 f_M_crashNow f_M_crashNow_0
  have h := q_crashN y 24 0 rfl 300 (by omega) 0 g
  rw [show nI 0 = (0 : Int32) from rfl, Int32.zero_add] at h
  rw [h]
  rfl
