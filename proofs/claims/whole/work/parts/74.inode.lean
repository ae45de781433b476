theorem q_iw {D : Nat → Int32} {i w : Nat} (hi : i < 8) (hw : w < 8) : f_D_inodeWord D (nI i) (nI w) = some (D (8 + 8 * i + w)) := by
  unfold f_D_inodeWord f_D_inodeWord_0
  have e : ((1 : Int32) + nI i) * (8 : Int32) + nI w = nI (8 + 8 * i + w) := by
    rw [show (1 : Int32) = nI 1 from rfl, show (8 : Int32) = nI 8 from rfl, nI_add, q_mul, nI_add]
    congr 1
    omega
  rw [e, q_ga (n := 232) (by omega) (by omega)]
  rfl
theorem q_mi {mDk : Nat → Int32} {a i w : Nat} (ha : a < 6) (hi : i < 8) (hw : w < 8) : f_M_inode mDk (nI a) (nI i) (nI w) = some (mDk (232 * a + (8 + 8 * i + w))) := by
  unfold f_M_inode f_M_inode_0
  have e : (232 : Int32) * nI a + (8 : Int32) + (8 : Int32) * nI i + nI w = nI (232 * a + (8 + 8 * i + w)) := by
    rw [show (232 : Int32) = nI 232 from rfl, show (8 : Int32) = nI 8 from rfl, q_mul, q_mul, nI_add, nI_add, nI_add]
    congr 1
    omega
  rw [e, q_ga (n := 1392) (by omega) (by omega)]
  rfl
theorem q_freeN {D mDk : Nat → Int32} {a : Nat} (ha : a < 6) (hD : ∀ w, w < 232 → D w = mDk (232 * a + w)) : ∀ d i, i + d = 8 → ∀ f g, d < f → d < g → ∀ c : Int32, ∃ r, jv_fx (f_T_countFree_4 D) f (c, nI i) = some r ∧ jv_fx (f_M_freeInodes_4 mDk (nI a)) g (c, nI i) = some r := by
  intro d
  induction d with
  | zero =>
    intro i hi f g hf hg c
    obtain ⟨f, rfl⟩ : ∃ f', f = f' + 1 := ⟨f - 1, by omega⟩
    obtain ⟨g, rfl⟩ : ∃ g', g = g' + 1 := ⟨g - 1, by omega⟩
    have h8 : ((8 : Int32) ≤ nI i) = (8 ≤ i) := q_le (a := 8) (by omega) (by omega)
    rw [jv_fx_s, jv_fx_s]
    unfold f_T_countFree_4 f_M_freeInodes_4
    simp only [h8, if_pos (show 8 ≤ i by omega)]
    exact ⟨c, rfl, rfl⟩
  | succ d ih =>
    intro i hi f g hf hg c
    obtain ⟨f, rfl⟩ : ∃ f', f = f' + 1 := ⟨f - 1, by omega⟩
    obtain ⟨g, rfl⟩ : ∃ g', g = g' + 1 := ⟨g - 1, by omega⟩
    have h8 : ((8 : Int32) ≤ nI i) = (8 ≤ i) := q_le (a := 8) (by omega) (by omega)
    have k1 : f_T_kindOf D (nI i) = some (D (8 + 8 * i)) := by
      unfold f_T_kindOf f_T_kindOf_0
      rw [show (0 : Int32) = nI 0 from rfl, q_iw (by omega) (by omega)]
      rfl
    have k2 : f_M_inode mDk (nI a) (nI i) (0 : Int32) = some (D (8 + 8 * i)) := by
      rw [show (0 : Int32) = nI 0 from rfl, q_mi ha (by omega) (by omega), hD (8 + 8 * i) (by omega)]
      rfl
    rw [jv_fx_s, jv_fx_s]
    have i1 := ih (i + 1) (by omega) f g (by omega) (by omega)
    generalize jv_fx (f_T_countFree_4 D) f = kf at i1 ⊢
    generalize jv_fx (f_M_freeInodes_4 mDk (nI a)) g = kg at i1 ⊢
    unfold f_T_countFree_4 f_M_freeInodes_4
    simp only [h8, if_neg (show ¬ 8 ≤ i by omega), k1, k2, Option.bind_some, nI_1, Int32.add_zero]
    by_cases h : D (8 + 8 * i) = 0
    · simp only [if_pos h]
      exact i1 _
    · simp only [if_neg h]
      exact i1 _
