/-! Ints that are not negative, as numbers. -/
theorem q_nn (p : Int32) : p < 0 ∨ ∃ k, k < 2 ^ 31 ∧ p = nI k := by
  by_cases h : p < 0
  · exact Or.inl h
  · refine Or.inr ⟨p.toInt.toNat, ?_, ?_⟩
    · have := Int32.toInt_lt p
      rw [Int32.lt_iff_toInt_lt, Int32.toInt_zero] at h
      omega
    · rw [Int32.lt_iff_toInt_lt, Int32.toInt_zero] at h
      have h1 := Int32.toInt_lt p
      apply Int32.toInt_inj.mp
      rw [nI_toInt (by omega)]
      omega
theorem q_ga {f : Nat → Int32} {n k : Nat} (h : k < n) (hn : n < 2 ^ 31) : jv_ga f n (nI k) = some (f k) := by
  unfold jv_ga
  rw [if_neg (nI_in h hn), nI_clamp (by omega)]
theorem q_sa {f : Nat → Int32} {n k : Nat} {v : Int32} (h : k < n) (hn : n < 2 ^ 31) : jv_sa f n (nI k) v = some (upd f k v) := by
  unfold jv_sa
  rw [if_neg (nI_in h hn), nI_clamp (by omega)]
theorem q_gi {n k : Nat} (h : k < n) (hn : n < 2 ^ 31) : jv_gi n (nI k) = some k := by
  unfold jv_gi
  rw [if_neg (nI_in h hn), nI_clamp (by omega)]
theorem q_mul (a b : Nat) : nI a * nI b = nI (a * b) := (Int32.ofNat_mul a b).symm
theorem q_sub {a b : Nat} (h : b ≤ a) (ha : a < 2 ^ 31) : nI a - nI b = nI (a - b) := by
  apply Int32.toInt_inj.mp
  rw [Int32.toInt_sub, nI_toInt ha, nI_toInt (n := b) (by omega), nI_toInt (n := a - b) (by omega), Int.bmod_eq_of_le (by omega) (by omega)]
  omega
theorem q_div {a b : Nat} (hb : 0 < b) (ha : a < 2 ^ 31) (hb2 : b < 2 ^ 31) : nI a / nI b = nI (a / b) := by
  have h1 : a / b ≤ a := Nat.div_le_self a b
  apply Int32.toInt_inj.mp
  rw [Int32.toInt_div, nI_toInt ha, nI_toInt hb2, nI_toInt (n := a / b) (by omega)]
  have h2 : Int.tdiv (a : Int) (b : Int) = ((a / b : Nat) : Int) := by
    rw [Int.tdiv_eq_ediv_of_nonneg (by omega)]
    rfl
  rw [h2]
  clear h2
  generalize a / b = q at h1 ⊢
  rw [Int.bmod_eq_of_le (by omega) (by omega)]
theorem q_mod {a b : Nat} (hb : 0 < b) (ha : a < 2 ^ 31) (hb2 : b < 2 ^ 31) : nI a - nI a / nI b * nI b = nI (a % b) := by
  have h3 := Nat.div_mul_le_self a b
  rw [q_div hb ha hb2, q_mul, q_sub h3 ha]
  congr 1
  have := Nat.div_add_mod a b
  rw [Nat.mul_comm] at this
  omega
theorem q_lt0 {k : Nat} (h : k < 2 ^ 31) : (nI k < 0) = False := eq_false (nI_pos h)
theorem q_le {a b : Nat} (ha : a < 2 ^ 31) (hb : b < 2 ^ 31) : (nI a ≤ nI b) = (a ≤ b) := propext (nI_leI ha hb)
theorem q_lt {a b : Nat} (ha : a < 2 ^ 31) (hb : b < 2 ^ 31) : (nI a < nI b) = (a < b) := propext (nI_ltI ha hb)
theorem q_eq {a b : Nat} (ha : a < 2 ^ 31) (hb : b < 2 ^ 31) : (nI a = nI b) = (a = b) := propext (nI_eq ha hb)
theorem q_hasArea {n : Nat} (hn : n ≤ 6) (p : Int32) : f_V_hasArea n p = f_M_isArea (nI n) p := by
  unfold f_V_hasArea f_V_hasArea_0 f_M_isArea f_M_isArea_0
  rcases q_nn p with h | ⟨k, hk, rfl⟩
  · simp only [h, if_true]
  · have h6 : ((6 : Int32) ≤ nI k) = (6 ≤ k) := q_le (a := 6) (by omega) hk
    simp only [q_lt0 hk, h6, q_le (a := n) (by omega) hk, if_false]
    by_cases h1 : 6 ≤ k
    · rw [if_pos h1, if_pos (by omega)]
    · rw [if_neg h1, q_gi (by omega) (by omega)]
      by_cases h2 : n ≤ k
      · rw [if_pos h2]
        show (if k < n then _ else _) = _
        rw [if_neg (by omega)]
      · rw [if_neg h2]
        show (if k < n then _ else _) = _
        rw [if_pos (by omega)]
theorem q_isAreav {n : Nat} (hn : n ≤ 6) (p : Int32) : (f_M_isArea (nI n) p = some 0) ∨ (f_M_isArea (nI n) p = some 1 ∧ ∃ k, k < n ∧ p = nI k) := by
  unfold f_M_isArea f_M_isArea_0
  rcases q_nn p with h | ⟨k, hk, rfl⟩
  · simp only [h, if_true]
    exact Or.inl trivial
  · simp only [q_lt0 hk, q_le (a := n) (by omega) hk, if_false]
    by_cases h2 : n ≤ k
    · rw [if_pos h2]; exact Or.inl rfl
    · rw [if_neg h2]; exact Or.inr ⟨rfl, k, by omega, rfl⟩
