/-! Sessions: the users' arrays of the areas against the reference's one array. -/
def pU (n : Nat) (ars : Nat → jv_ar) (mUs : Nat → Int32) : Prop := (∀ a i, a < n → i < 4 → ∃ u, u ≤ 4 ∧ mUs (4 * a + i) = nI u ∧ (ars a).2.1 i = nI u - 1) ∧ ∀ j, 4 * n ≤ j → j < 24 → mUs j = 0
theorem q_area1 {n k : Nat} (hn : n ≤ 6) (h : k < n) : f_V_hasArea n (nI k) = some 1 := by
  rw [q_hasArea hn]
  rcases q_isAreav hn (nI k) with h1 | h1
  · unfold f_M_isArea f_M_isArea_0 at h1
    simp only [q_lt0 (k := k) (by omega), q_le (a := n) (b := k) (by omega) (by omega), if_false, if_neg (show ¬ n ≤ k by omega)] at h1
    cases h1
  · exact h1.1
theorem q_area0 {n k : Nat} (hn : n ≤ 6) (hk : k < 2 ^ 31) (h : n ≤ k) : f_V_hasArea n (nI k) = some 0 := by
  rw [q_hasArea hn]
  unfold f_M_isArea f_M_isArea_0
  simp only [q_lt0 (k := k) hk, q_le (a := n) (b := k) (by omega) hk, if_false, if_pos h]
theorem q_d4 {k : Nat} (hk : k < 2 ^ 31) : nI k / 4 = nI (k / 4) := q_div (b := 4) (by omega) hk (by omega)
theorem q_m4 {k : Nat} (hk : k < 2 ^ 31) : nI k - nI k / 4 * 4 = nI (k % 4) := q_mod (b := 4) (by omega) hk (by omega)
theorem q_um1 : ∀ u, u < 5 → ((nI u - 1 = (-1 : Int32)) ↔ u = 0) := by decide +kernel
theorem q_sess {n : Nat} {ars : Nat → jv_ar} {mUs : Nat → Int32} (hn : n ≤ 6) (hU : pU n ars mUs) (p : Int32) : (f_V_hasSession n ars p = some 0 ∧ f_M_isSession mUs p = some 0) ∨
    (f_V_hasSession n ars p = some 1 ∧ f_M_isSession mUs p = some 1 ∧ ∃ a i u, a < n ∧ i < 4 ∧ 1 ≤ u ∧ u ≤ 4 ∧ p = nI (4 * a + i) ∧ mUs (4 * a + i) = nI u ∧ (ars a).2.1 i = nI u - 1) := by
  unfold f_V_hasSession f_V_hasSession_0 f_M_isSession f_M_isSession_0
  rcases q_nn p with h | ⟨k, hk, rfl⟩
  · simp only [h, if_true]
    exact Or.inl ⟨trivial, trivial⟩
  · have h24 : ((24 : Int32) ≤ nI k) = (24 ≤ k) := q_le (a := 24) (by omega) hk
    simp only [q_lt0 hk, h24, if_false, q_d4 hk]
    have hm := q_m4 hk
    rw [q_d4 hk] at hm
    rw [hm]
    by_cases h4 : k < 4 * n
    · obtain ⟨u, hu4, e1, e2⟩ := hU.1 (k / 4) (k % 4) (by omega) (by omega)
      have ek : 4 * (k / 4) + k % 4 = k := by omega
      rw [ek] at e1
      rw [if_neg (show ¬ 24 ≤ k by omega), q_ga (n := 24) (by omega) (by omega), q_area1 hn (show k / 4 < n by omega), q_gi (n := 6) (k := k / 4) (by omega) (by omega)]
      simp only [Option.bind_some, p10, if_false, if_pos (show k / 4 < n by omega), e1]
      rw [q_ga (n := 4) (k := k % 4) (by omega) (by omega)]
      simp only [Option.bind_some, e2]
      by_cases h0 : u = 0
      · subst h0
        rw [if_pos (show nI 0 - 1 = (-1 : Int32) by decide), if_pos (show nI 0 ≤ 0 by decide)]
        exact Or.inl ⟨rfl, rfl⟩
      · rw [if_neg (fun z => h0 ((q_um1 u (by omega)).mp z)), if_neg (nI_nle (by omega) (by omega))]
        exact Or.inr ⟨rfl, rfl, k / 4, k % 4, u, by omega, by omega, by omega, hu4, by rw [ek], by rw [ek]; exact e1, e2⟩
    · rw [q_area0 hn (show k / 4 < 2 ^ 31 by omega) (show n ≤ k / 4 by omega)]
      simp only [Option.bind_some, if_true]
      refine Or.inl ⟨trivial, ?_⟩
      by_cases h3 : 24 ≤ k
      · rw [if_pos h3]
      · rw [if_neg h3, q_ga (n := 24) (by omega) (by omega), hU.2 k (by omega) (by omega)]
        rfl
theorem pj_18 (S : jv_vs) (vO : Nat → Int64) (M : jv_ms) (p1 : Int32) (hn : S.1 ≤ 6) (hU : pU S.1 S.2.2.2 M.2.2.2.2.2.1) : ∃ t : Int32, s_18 S vO M p1 = some (S, vO, t, M.2) := by
  unfold s_18 f_V_user f_V_user_0 f_M_user f_M_user_0
  rcases q_sess hn hU p1 with ⟨h1, h2⟩ | ⟨h1, h2, a, i, u, ha, hi, hu1, hu4, rfl, e1, e2⟩
  · simp only [h1, h2, Option.bind_some, if_true]
    exact ⟨_, rfl⟩
  · have hk : 4 * a + i < 2 ^ 31 := by omega
    have hm := q_m4 hk
    rw [q_d4 hk, show (4 * a + i) / 4 = a by omega, show (4 * a + i) % 4 = i by omega] at hm
    simp only [h1, h2, Option.bind_some, p10, if_false, q_d4 hk, show (4 * a + i) / 4 = a by omega, hm]
    rw [q_gi (n := 6) (k := a) (by omega) (by omega), q_ga (n := 24) (k := 4 * a + i) (by omega) (by omega)]
    simp only [Option.bind_some, if_pos ha]
    rw [q_ga (n := 4) (k := i) (by omega) (by omega)]
    simp only [Option.bind_some, e1, e2, if_true]
    exact ⟨_, rfl⟩
