theorem q_fillN (v : Int32) : ∀ d i, i + d = 4 → ∀ f, d < f → ∀ g : Nat → Int32, ∃ r, jv_fx (f_J_fill_5 v (4 : Int32)) f (nI i, g) = some r ∧ ∀ j, r j = if i ≤ j ∧ j < 4 then v else g j := by
  intro d
  induction d with
  | zero =>
    intro i hi f hf g
    obtain ⟨f, rfl⟩ : ∃ f', f = f' + 1 := ⟨f - 1, by omega⟩
    rw [jv_fx_s]
    unfold f_J_fill_5
    have h4 : ((4 : Int32) ≤ nI i) = (4 ≤ i) := q_le (a := 4) (by omega) (by omega)
    simp only [h4, if_pos (show 4 ≤ i by omega)]
    exact ⟨g, rfl, fun j => by rw [if_neg (by omega)]⟩
  | succ d ih =>
    intro i hi f hf g
    obtain ⟨f, rfl⟩ : ∃ f', f = f' + 1 := ⟨f - 1, by omega⟩
    obtain ⟨r, h1, h2⟩ := ih (i + 1) (by omega) f (by omega) (upd g i v)
    rw [jv_fx_s]
    unfold f_J_fill_5
    unfold f_J_fill_5 at h1
    have h4 : ((4 : Int32) ≤ nI i) = (4 ≤ i) := q_le (a := 4) (by omega) (by omega)
    simp only [h4, if_neg (show ¬ 4 ≤ i by omega)]
    rw [q_sa (n := 4) (k := i) (by omega) (by omega)]
    simp only [Option.bind_some, nI_1]
    refine ⟨r, h1, fun j => ?_⟩
    rw [h2 j]
    by_cases h : i + 1 ≤ j ∧ j < 4
    · rw [if_pos h, if_pos (by omega)]
    · rw [if_neg h]
      by_cases h3 : j = i
      · subst h3
        rw [q_updS, if_pos (by omega)]
      · rw [q_updN h3, if_neg (by omega)]
theorem q_fill (v : Int32) (g : Nat → Int32) : ∃ r, f_J_fill v g = some r ∧ ∀ j, j < 4 → r j = v := by
  obtain ⟨r, h1, h2⟩ := q_fillN v 4 0 rfl 300 (by omega) g
  refine ⟨r, h1, fun j hj => ?_⟩
  rw [h2 j, if_pos (by omega)]
theorem q_cntN {U mUs : Nat → Int32} {a : Nat} (hu : ∀ i, i < 4 → ∃ u, u ≤ 4 ∧ mUs (4 * a + i) = nI u ∧ U i = nI u - 1) : ∀ d i, i + d = 4 → ∀ f, d < f → ∀ c : Int32, jv_fx (f_A_countSessions_4 U) f (c, nI i) = some (c + nI (pcnt mUs (4 * a + i) d)) := by
  intro d
  induction d with
  | zero =>
    intro i hi f hf c
    obtain ⟨f, rfl⟩ : ∃ f', f = f' + 1 := ⟨f - 1, by omega⟩
    rw [jv_fx_s]
    unfold f_A_countSessions_4
    have h4 : ((4 : Int32) ≤ nI i) = (4 ≤ i) := q_le (a := 4) (by omega) (by omega)
    simp only [h4, if_pos (show 4 ≤ i by omega)]
    rw [show pcnt mUs (4 * a + i) 0 = 0 from rfl, show nI 0 = (0 : Int32) from rfl, Int32.add_zero]
  | succ d ih =>
    intro i hi f hf c
    obtain ⟨f, rfl⟩ : ∃ f', f = f' + 1 := ⟨f - 1, by omega⟩
    obtain ⟨u, hu4, e1, e2⟩ := hu i (by omega)
    have ihh := fun c => ih (i + 1) (by omega) f (by omega) c
    rw [jv_fx_s]
    unfold f_A_countSessions_4
    unfold f_A_countSessions_4 at ihh
    have h4 : ((4 : Int32) ≤ nI i) = (4 ≤ i) := q_le (a := 4) (by omega) (by omega)
    simp only [h4, if_neg (show ¬ 4 ≤ i by omega)]
    rw [q_ga (n := 4) (k := i) (by omega) (by omega)]
    simp only [Option.bind_some, nI_1, e2]
    rw [ihh, ihh, show 4 * a + (i + 1) = 4 * a + i + 1 by omega]
    by_cases h0 : u = 0
    · subst h0
      rw [if_pos (show nI 0 - 1 = (-1 : Int32) by decide), show pcnt mUs (4 * a + i) (d + 1) = 0 + pcnt mUs (4 * a + i + 1) d by show (if mUs (4 * a + i) ≤ 0 then 0 else 1) + _ = _; rw [e1, if_pos (show nI 0 ≤ 0 by decide)], Nat.zero_add]
    · rw [if_neg (fun z => h0 ((q_um1 u (by omega)).mp z)), show pcnt mUs (4 * a + i) (d + 1) = 1 + pcnt mUs (4 * a + i + 1) d by show (if mUs (4 * a + i) ≤ 0 then 0 else 1) + _ = _; rw [e1, if_neg (nI_nle (by omega) (by omega))], Int32.add_assoc, show (1 : Int32) = nI 1 from rfl, nI_add]
theorem q_cnt {U mUs : Nat → Int32} {a : Nat} (hu : ∀ i, i < 4 → ∃ u, u ≤ 4 ∧ mUs (4 * a + i) = nI u ∧ U i = nI u - 1) : f_A_countSessions U = some (nI (pcnt mUs (4 * a) 4)) := by
  unfold f_A_countSessions f_A_countSessions_0
  have h := q_cntN hu 4 0 rfl 300 (by omega) 0
  rw [show nI 0 = (0 : Int32) from rfl, Int32.zero_add] at h
  exact h
