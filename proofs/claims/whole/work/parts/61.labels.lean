/-! Labels: the class's masks and the reference's shifts say the same. -/
theorem pb_z (v : Int32) : v = 0 ↔ ∀ i, i < 32 → bt v i = false := ⟨fun h i _ => by rw [h]; exact b_0 i, fun h => b_ext (fun i hi => by rw [h i hi, b_0])⟩
theorem b_sshr2 (x : Int32) {i : Nat} (hi : i < 32) : bt (x >>> ((2 : Int32) &&& 31)) i = if 2 + i < 32 then bt x (2 + i) else bt x 31 := b_sshr 2 (by omega) x hi
theorem b_sshr5 (x : Int32) {i : Nat} (hi : i < 32) : bt (x >>> ((5 : Int32) &&& 31)) i = if 5 + i < 32 then bt x (5 + i) else bt x 31 := b_sshr 5 (by omega) x hi
theorem b_sshr7 (x : Int32) {i : Nat} (hi : i < 32) : bt (x >>> ((7 : Int32) &&& 31)) i = if 7 + i < 32 then bt x (7 + i) else bt x 31 := b_sshr 7 (by omega) x hi
theorem pb_28 : ∀ i, i < 32 → bt 28 i = (decide (i = 2) || decide (i = 3) || decide (i = 4)) := by decide +kernel
theorem pb_7 : ∀ i, i < 32 → bt 7 i = (decide (i = 0) || decide (i = 1) || decide (i = 2)) := by decide +kernel
theorem pb_384 : ∀ i, i < 32 → bt 384 i = (decide (i = 7) || decide (i = 8)) := by decide +kernel
theorem pb_3 : ∀ i, i < 32 → bt 3 i = (decide (i = 0) || decide (i = 1)) := by decide +kernel
theorem pb_am2 (a b : Int32) : ((a >>> ((2 : Int32) &&& 31)) &&& 7) &&& ((b >>> ((2 : Int32) &&& 31)) ^^^ (-1)) = 0 ↔ (a &&& (b ^^^ (-1))) &&& 28 = 0 := by
  rw [pb_z, pb_z]
  constructor
  · intro h i hi
    rw [b_and, b_and, b_xor, pb_28 i hi, b_m1 i hi]
    by_cases hc : 2 ≤ i ∧ i ≤ 4
    · have h1 := h (i - 2) (by omega)
      rw [b_and, b_and, b_xor, b_sshr2 a (by omega), b_sshr2 b (by omega), if_pos (by omega), if_pos (by omega), show 2 + (i - 2) = i by omega, b_m1 _ (by omega), pb_7 _ (by omega), show (decide (i - 2 = 0) || decide (i - 2 = 1) || decide (i - 2 = 2)) = true by simp; omega] at h1
      rw [Bool.and_true] at h1
      rw [h1, Bool.false_and]
    · rw [show (decide (i = 2) || decide (i = 3) || decide (i = 4)) = false by simp; omega, Bool.and_false]
  · intro h i hi
    rw [b_and, b_and, b_xor, pb_7 i hi, b_m1 i hi]
    by_cases hc : i ≤ 2
    · have h1 := h (2 + i) (by omega)
      rw [b_and, b_and, b_xor, pb_28 _ (by omega), b_m1 _ (by omega), show (decide (2 + i = 2) || decide (2 + i = 3) || decide (2 + i = 4)) = true by simp; omega, Bool.and_true] at h1
      rw [b_sshr2 a hi, b_sshr2 b hi, if_pos (by omega), if_pos (by omega), show (decide (i = 0) || decide (i = 1) || decide (i = 2)) = true by simp; omega, Bool.and_true]
      exact h1
    · rw [show (decide (i = 0) || decide (i = 1) || decide (i = 2)) = false by simp; omega, Bool.and_false, Bool.false_and]
theorem pb_am7 (a b : Int32) : ((a >>> ((7 : Int32) &&& 31)) &&& 3) &&& ((b >>> ((7 : Int32) &&& 31)) ^^^ (-1)) = 0 ↔ (a &&& (b ^^^ (-1))) &&& 384 = 0 := by
  rw [pb_z, pb_z]
  constructor
  · intro h i hi
    rw [b_and, b_and, b_xor, pb_384 i hi, b_m1 i hi]
    by_cases hc : 7 ≤ i ∧ i ≤ 8
    · have h1 := h (i - 7) (by omega)
      rw [b_and, b_and, b_xor, b_sshr7 a (by omega), b_sshr7 b (by omega), if_pos (by omega), if_pos (by omega), show 7 + (i - 7) = i by omega, b_m1 _ (by omega), pb_3 _ (by omega), show (decide (i - 7 = 0) || decide (i - 7 = 1)) = true by simp; omega] at h1
      rw [Bool.and_true] at h1
      rw [h1, Bool.false_and]
    · rw [show (decide (i = 7) || decide (i = 8)) = false by simp; omega, Bool.and_false]
  · intro h i hi
    rw [b_and, b_and, b_xor, pb_3 i hi, b_m1 i hi]
    by_cases hc : i ≤ 1
    · have h1 := h (7 + i) (by omega)
      rw [b_and, b_and, b_xor, pb_384 _ (by omega), b_m1 _ (by omega), show (decide (7 + i = 7) || decide (7 + i = 8)) = true by simp; omega, Bool.and_true] at h1
      rw [b_sshr7 a hi, b_sshr7 b hi, if_pos (by omega), if_pos (by omega), show (decide (i = 0) || decide (i = 1)) = true by simp; omega, Bool.and_true]
      exact h1
    · rw [show (decide (i = 0) || decide (i = 1)) = false by simp; omega, Bool.and_false, Bool.false_and]
def pb_two (p q : Bool) (x y : Int32) : Int32 := (if p then x else 0) ||| (if q then y else 0)
theorem pb_t96 : ∀ p q : Bool, ∀ i, i < 32 → bt (pb_two p q 32 64) i = ((decide (i = 5) && p) || (decide (i = 6) && q)) := by decide +kernel
theorem pb_t3 : ∀ p q : Bool, ∀ i, i < 32 → bt (pb_two p q 1 2) i = ((decide (i = 0) && p) || (decide (i = 1) && q)) := by decide +kernel
theorem pb_96 : ∀ i, i < 32 → bt 96 i = (decide (i = 5) || decide (i = 6)) := by decide +kernel
theorem pb_m96 (a : Int32) : a &&& 96 = pb_two (bt a 5) (bt a 6) 32 64 := b_ext (fun i hi => by
  rw [b_and, pb_96 i hi, pb_t96 _ _ i hi]
  by_cases h5 : i = 5
  · subst h5; simp
  · by_cases h6 : i = 6
    · subst h6; simp
    · simp [h5, h6])
theorem pb_m3 (a : Int32) : (a >>> ((5 : Int32) &&& 31)) &&& 3 = pb_two (bt a 5) (bt a 6) 1 2 := b_ext (fun i hi => by
  rw [b_and, pb_3 i hi, pb_t3 _ _ i hi, b_sshr5 a hi]
  by_cases h5 : i = 0
  · subst h5; simp
  · by_cases h6 : i = 1
    · subst h6; simp
    · simp [h5, h6])
theorem pb_lt4 : ∀ p q p' q' : Bool, (pb_two p q 32 64 < pb_two p' q' 32 64) ↔ (pb_two p q 1 2 < pb_two p' q' 1 2) := by decide +kernel
theorem pb_int (a b : Int32) : (a &&& 96 < b &&& 96) ↔ ((a >>> ((5 : Int32) &&& 31)) &&& 3 < (b >>> ((5 : Int32) &&& 31)) &&& 3) := by
  rw [pb_m96, pb_m96, pb_m3, pb_m3]
  exact pb_lt4 _ _ _ _
theorem pc_511 : (511 : Int32).toInt = 511 := by decide
theorem pc_512 : (512 : Int32).toInt = 512 := by decide
theorem pl_lab (a : Int32) : f_L_isLabel a = f_M_isLabel a := by
  unfold f_L_isLabel f_L_isLabel_0 f_M_isLabel f_M_isLabel_0
  have h : (512 : Int32) ≤ a ↔ 511 < a := by
    rw [Int32.le_iff_toInt_le, Int32.lt_iff_toInt_lt, pc_511, pc_512]
    omega
  simp only [h]
theorem pl_labv (a : Int32) : f_M_isLabel a = some 0 ∨ f_M_isLabel a = some 1 := by
  unfold f_M_isLabel f_M_isLabel_0
  split
  · exact Or.inl rfl
  · split
    · exact Or.inl rfl
    · exact Or.inr rfl
theorem p10 : ((1 : Int32) = 0) = False := by decide
theorem pl_flow (a b : Int32) : f_L_mayFlow a b = f_M_flow a b := by
  unfold f_L_mayFlow f_L_mayFlow_0 f_L_isSecrecyWithin f_L_isSecrecyWithin_0 f_L_isIntegrityWithin f_L_isIntegrityWithin_0 f_M_flow f_M_flow_0 f_M_among f_M_among_0
  have e1 := pb_am2 a b
  have e2 := pb_am7 b a
  have e3 := pb_int a b
  simp only [e1, e2, ← e3]
  by_cases h1 : b &&& 3 < a &&& 3 <;> by_cases h2 : (a &&& (b ^^^ (-1))) &&& 28 = 0 <;> by_cases h3 : a &&& 96 < b &&& 96 <;> by_cases h4 : (b &&& (a ^^^ (-1))) &&& 384 = 0 <;> simp only [h1, h2, h3, h4, if_true, if_false, Option.bind_some, p10]
theorem pl_flowv (a b : Int32) : f_M_flow a b = some 0 ∨ f_M_flow a b = some 1 := by
  unfold f_M_flow f_M_flow_0 f_M_among f_M_among_0
  repeat' first | (split; exact Or.inl rfl) | exact Or.inl rfl | exact Or.inr rfl | split | simp only [Option.bind_some]

/-! Four of the law's cases that need no disk. -/
theorem p01 : ((0 : Int32) = 1) = False := by decide
theorem pj_1 (S : jv_vs) (vO : Nat → Int64) (M : jv_ms) (p1 p2 : Int32) : ∃ (vO' : Nat → Int64) (t : Int32), s_1 S vO M p1 p2 = some (S, vO', t, M.2) := by
  unfold s_1 l_flows f_V_flows f_V_flows_0 f_M_flows f_M_flows_0 f_M_flows_20 f_V_demand f_V_demand_0 f_M_thrown f_M_thrown_0
  rw [pl_lab, pl_lab, pl_flow]
  rcases pl_labv p1 with h1 | h1 <;> rcases pl_labv p2 with h2 | h2 <;> rcases pl_flowv p1 p2 with h3 | h3 <;> simp only [h1, h2, h3, Option.bind_some, if_true, if_false, p10, jv_se, true_or, or_true] <;> exact ⟨_, _, rfl⟩
theorem pj_19 (S : jv_vs) (vO : Nat → Int64) (M : jv_ms) (h : S.2.2.1 = M.2.2.1) : ∃ t : Int32, s_19 S vO M = some (S, vO, t, M.2) := by
  unfold s_19 f_V_fuse f_V_fuse_0 f_M_fuse f_M_fuse_0
  simp only [Option.bind_some, h, if_true]
  exact ⟨_, rfl⟩
theorem p_10 : ((1 : Int32) ≤ 0) = False := by decide
theorem p_00 : ((0 : Int32) ≤ 0) = True := by decide
theorem pj_15 (S : jv_vs) (vO : Nat → Int64) (M : jv_ms) (p1 : Int32) (h : S.2.2.1 = M.2.2.1) (hv : S.2.2.1 = -1 ∨ (0 ≤ S.2.2.1 ∧ S.2.2.1 ≤ 1000)) : ∃ (vO' : Nat → Int64) (t w : Int32), s_15 S vO M p1 = some ((S.1, S.2.1, w, S.2.2.2), vO', t, M.2.1, w, M.2.2.2) ∧ (w = -1 ∨ (0 ≤ w ∧ w ≤ 1000)) := by
  obtain ⟨vn, vC, vat, ars⟩ := S
  obtain ⟨m1, m2, m3, m4⟩ := M
  have h : vat = m3 := h
  subst h
  unfold s_15 l_tear f_V_tear f_V_tear_0 f_M_tear f_M_tear_0 f_V_demand f_V_demand_0 f_M_thrown f_M_thrown_0
  have e : (1000 : Int32) < p1 ↔ ¬ p1 ≤ 1000 := by
    rw [Int32.lt_iff_toInt_lt, Int32.le_iff_toInt_le]
    omega
  by_cases h1 : p1 < 0
  · simp only [h1, if_true, if_false, Option.bind_some, p10, p_10, p_00, jv_se]
    exact ⟨_, _, vat, rfl, hv⟩
  · by_cases h2 : p1 ≤ 1000
    · simp only [h1, e, h2, not_true_eq_false, if_true, if_false, Option.bind_some, p10, p_10, p_00, jv_se]
      refine ⟨_, _, p1, rfl, Or.inr ⟨?_, h2⟩⟩
      rw [Int32.lt_iff_toInt_lt] at h1
      rw [Int32.le_iff_toInt_le]
      omega
    · simp only [h1, e, h2, not_false_eq_true, if_true, if_false, Option.bind_some, p10, p_10, p_00, jv_se]
      exact ⟨_, _, vat, rfl, hv⟩

theorem pj_in4 {a : Int32} (h0 : ¬ a < 0) (h3 : ¬ (3 : Int32) < a) : ¬ (a < 0 ∨ 4 ≤ a.toNatClampNeg) := by
  intro h
  rcases h with h | h
  · exact h0 h
  · refine h3 ?_
    rw [Int32.lt_iff_toInt_lt] at h0 ⊢
    have h1 : (a.toNatClampNeg : Int) = max a.toInt 0 := by
      unfold Int32.toNatClampNeg
      omega
    have h2 : (3 : Int32).toInt = 3 := by decide
    have h4 : (0 : Int32).toInt = 0 := by decide
    omega
theorem pj_2 (S : jv_vs) (vO : Nat → Int64) (M : jv_ms) (p1 p2 : Int32) (h : S.2.1 = M.2.2.2.2.1) : ∃ (vO' : Nat → Int64) (t : Int32) (C : Nat → Int32), s_2 S vO M p1 p2 = some ((S.1, C, S.2.2), vO', t, M.2.1, M.2.2.1, M.2.2.2.1, C, M.2.2.2.2.2) := by
  obtain ⟨vn, vC, vat, ars⟩ := S
  obtain ⟨m1, m2, m3, m4, m5, m6⟩ := M
  have h : vC = m5 := h
  subst h
  unfold s_2 l_clear f_V_clear f_V_clear_0 f_V_isUser f_V_isUser_0 f_M_clear f_M_clear_0 f_M_clear_17 f_V_demand f_V_demand_0 f_M_thrown f_M_thrown_0
  rw [pl_lab]
  have e : (4 : Int32) ≤ p1 ↔ (3 : Int32) < p1 := by
    rw [Int32.le_iff_toInt_le, Int32.lt_iff_toInt_lt, show (4 : Int32).toInt = 4 by decide, show (3 : Int32).toInt = 3 by decide]
    omega
  by_cases h1 : p1 < 0
  · simp only [h1, if_true, if_false, Option.bind_some, p10, p_10, p_00, jv_se]
    exact ⟨_, _, vC, rfl⟩
  · by_cases h2 : (3 : Int32) < p1
    · simp only [h1, e, h2, if_true, if_false, Option.bind_some, p10, p_10, p_00, jv_se]
      exact ⟨_, _, vC, rfl⟩
    · rcases pl_labv p2 with h3 | h3
      · simp only [h1, e, h2, h3, if_true, if_false, Option.bind_some, p10, p_10, p_00, jv_se]
        exact ⟨_, _, vC, rfl⟩
      · have h4 : jv_sa vC 4 p1 p2 = some (upd vC p1.toNatClampNeg p2) := by
          unfold jv_sa
          rw [if_neg (pj_in4 h1 h2)]
        simp only [h1, e, h2, h3, h4, if_true, if_false, Option.bind_some, p10, p_10, p_00, jv_se]
        exact ⟨_, _, _, rfl⟩
