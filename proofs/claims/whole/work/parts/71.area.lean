theorem q_hasL {n : Nat} (hn : n ≤ 6) {ars : Nat → jv_ar} {x : Int32} : ∀ d i, i + d = 6 → ∀ f, d < f →
    (jv_fx (f_V_hasLabel_2 n ars x) f (nI i) = some 1 ∧ ∃ a, i ≤ a ∧ a < n ∧ (ars a).1 = x) ∨ (jv_fx (f_V_hasLabel_2 n ars x) f (nI i) = some 0 ∧ ∀ a, i ≤ a → a < n → (ars a).1 ≠ x) := by
  intro d
  induction d with
  | zero =>
    intro i hi f hf
    obtain ⟨f, rfl⟩ : ∃ f', f = f' + 1 := ⟨f - 1, by omega⟩
    rw [jv_fx_s]
    unfold f_V_hasLabel_2
    have h6 : ((6 : Int32) ≤ nI i) = (6 ≤ i) := q_le (a := 6) (by omega) (by omega)
    simp only [h6, if_pos (show 6 ≤ i by omega)]
    exact Or.inr ⟨trivial, fun a h1 h2 => by omega⟩
  | succ d ih =>
    intro i hi f hf
    obtain ⟨f, rfl⟩ : ∃ f', f = f' + 1 := ⟨f - 1, by omega⟩
    have h6 : ((6 : Int32) ≤ nI i) = (6 ≤ i) := q_le (a := 6) (by omega) (by omega)
    have step : jv_fx (f_V_hasLabel_2 n ars x) (f + 1) (nI i) = if i < n then (if (ars i).1 = x then some 1 else jv_fx (f_V_hasLabel_2 n ars x) f (nI (i + 1))) else jv_fx (f_V_hasLabel_2 n ars x) f (nI (i + 1)) := by
      rw [jv_fx_s]
      generalize jv_fx (f_V_hasLabel_2 n ars x) f = kk
      unfold f_V_hasLabel_2
      simp only [h6, if_neg (show ¬ 6 ≤ i by omega), q_gi (n := 6) (k := i) (by omega) (by omega), Option.bind_some, nI_1]
      by_cases h : i < n
      · simp only [if_pos h]
      · simp only [if_neg h]
    rw [step]
    by_cases h : i < n
    · rw [if_pos h]
      by_cases h2 : (ars i).1 = x
      · rw [if_pos h2]
        exact Or.inl ⟨rfl, i, Nat.le_refl _, h, h2⟩
      · rw [if_neg h2]
        rcases ih (i + 1) (by omega) f (by omega) with ⟨e, a, h3, h4, h5⟩ | ⟨e, h3⟩
        · exact Or.inl ⟨e, a, by omega, h4, h5⟩
        · refine Or.inr ⟨e, fun a h4 h5 => ?_⟩
          by_cases h7 : a = i
          · subst h7; exact h2
          · exact h3 a (by omega) h5
    · rw [if_neg h]
      rcases ih (i + 1) (by omega) f (by omega) with ⟨e, a, h3, h4, h5⟩ | ⟨e, h3⟩
      · exact Or.inl ⟨e, a, by omega, h4, h5⟩
      · exact Or.inr ⟨e, fun a h4 h5 => by omega⟩
theorem q_areaM {n : Nat} (hn : n ≤ 6) {mLb mDk : Nat → Int32} {x y : Int32} : ∀ d i, i + d = n → ∀ f, d < f → ∀ b : Int32, (b = 0 ∨ b = 1) → ∃ b' : Int32, (b' = 0 ∨ b' = 1) ∧ (b' = 0 ↔ (b = 0 ∧ ∀ a, i ≤ a → a < n → mLb a ≠ x)) ∧
    jv_fx (f_M_area_17 x y (nI n) mLb mDk) f (b, nI i) = ((f_M_isLabel x).bind fun x1 => if x1 = 0 then (f_M_area_72 x (1 : Int32) y (nI n) mLb mDk) else (if b' = 0 then (f_M_area_72 x (0 : Int32) y (nI n) mLb mDk) else (f_M_area_72 x (2 : Int32) y (nI n) mLb mDk))) := by
  intro d
  induction d with
  | zero =>
    intro i hi f hf b hb
    obtain ⟨f, rfl⟩ : ∃ f', f = f' + 1 := ⟨f - 1, by omega⟩
    refine ⟨b, hb, ⟨fun h => ⟨h, fun a h1 h2 => by omega⟩, fun h => h.1⟩, ?_⟩
    rw [jv_fx_s]
    unfold f_M_area_17
    simp only [q_le (a := n) (b := i) (by omega) (by omega), if_pos (show n ≤ i by omega)]
  | succ d ih =>
    intro i hi f hf b hb
    obtain ⟨f, rfl⟩ : ∃ f', f = f' + 1 := ⟨f - 1, by omega⟩
    have step : jv_fx (f_M_area_17 x y (nI n) mLb mDk) (f + 1) (b, nI i) = jv_fx (f_M_area_17 x y (nI n) mLb mDk) f ((if b = 0 then (if mLb i = x then 1 else 0) else 1), nI (i + 1)) := by
      rw [jv_fx_s]
      generalize jv_fx (f_M_area_17 x y (nI n) mLb mDk) f = kk
      unfold f_M_area_17
      simp only [q_le (a := n) (b := i) (by omega) (by omega), if_neg (show ¬ n ≤ i by omega), q_ga (f := mLb) (n := 6) (k := i) (by omega) (by omega), Option.bind_some, nI_1]
      by_cases h : b = 0
      · simp only [if_pos h]
        by_cases h2 : mLb i = x
        · simp only [if_pos h2]
        · simp only [if_neg h2]
      · simp only [if_neg h]
    rw [step]
    obtain ⟨b', h1, h2, h3⟩ := ih (i + 1) (by omega) f (by omega) (if b = 0 then (if mLb i = x then 1 else 0) else 1) (by
      by_cases h : b = 0
      · rw [if_pos h]
        by_cases h2 : mLb i = x
        · rw [if_pos h2]; exact Or.inr rfl
        · rw [if_neg h2]; exact Or.inl rfl
      · rw [if_neg h]; exact Or.inr rfl)
    refine ⟨b', h1, h2.trans ⟨fun h => ?_, fun h => ?_⟩, h3⟩
    · obtain ⟨g1, g2⟩ := h
      by_cases h : b = 0
      · rw [if_pos h] at g1
        by_cases h4 : mLb i = x
        · rw [if_pos h4] at g1
          exact absurd g1 (by decide)
        · refine ⟨h, fun a a1 a2 => ?_⟩
          by_cases h7 : a = i
          · subst h7; exact h4
          · exact g2 a (by omega) a2
      · rw [if_neg h] at g1
        exact absurd g1 (by decide)
    · rw [if_pos h.1, if_neg (h.2 i (Nat.le_refl _) (by omega))]
      exact ⟨rfl, fun a a1 a2 => h.2 a (by omega) a2⟩
