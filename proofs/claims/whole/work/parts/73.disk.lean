theorem pj_16 (S : jv_vs) (vO : Nat → Int64) (M : jv_ms) (p1 p2 p3 : Int32) (hn : S.1 ≤ 6) (hmar : M.2.1 = nI S.1) (hPl : ∀ a, a < S.1 → ∀ w, w < 232 → (S.2.2.2 a).2.2.1 w = M.2.2.2.2.2.2.2.1 (232 * a + w)) : ∃ (vO' : Nat → Int64) (t : Int32), s_16 S vO M p1 p2 p3 = some (S, vO', t, M.2) := by
  obtain ⟨n, vC, vat, ars⟩ := S
  obtain ⟨m1, m2, m3, mLb, m5, mUs, mWr, mDk, mCp⟩ := M
  have hn2 : n ≤ 6 := hn
  have hm2 : m2 = nI n := hmar
  have hP2 : ∀ a, a < n → ∀ w, w < 232 → (ars a).2.2.1 w = mDk (232 * a + w) := hPl
  clear hPl hmar hn
  subst hm2
  have d0 : f_V_demand 0 = some (.inl 1) := rfl
  have d1 : f_V_demand 1 = some (.inr ()) := rfl
  unfold s_16 l_disk f_V_disk f_V_disk_0 f_M_disk f_M_disk_0 f_M_disk_34 f_M_thrown f_M_thrown_0
  rcases q_areaN hn2 p1 with ⟨g1, g2⟩ | ⟨a, ha, rfl, g1, g2⟩
  · simp only [g1, g2, Option.bind_some, jv_se, if_true, p_10, p10, if_false]
    exact ⟨_, _, rfl⟩
  · simp only [g1, g2, Option.bind_some, jv_se, if_pos ha, p10, if_false]
    rcases q_nn p2 with h | ⟨k2, hk2, rfl⟩
    · simp only [h, if_true, d0, Option.bind_some, jv_se, p_10, if_false, p10]
      exact ⟨_, _, rfl⟩
    · have e1 : ((29 : Int32) ≤ nI k2) = (29 ≤ k2) := q_le (a := 29) (by omega) hk2
      have e2 : ((28 : Int32) < nI k2) = (28 < k2) := q_lt (a := 28) (by omega) hk2
      simp only [q_lt0 hk2, if_false, e1, e2]
      by_cases h2 : 29 ≤ k2
      · simp only [if_pos h2, if_pos (show 28 < k2 by omega), d0, Option.bind_some, jv_se, p_10, if_false, p10, if_true]
        exact ⟨_, _, rfl⟩
      · simp only [if_neg h2, if_neg (show ¬ 28 < k2 by omega)]
        rcases q_nn p3 with h | ⟨k3, hk3, rfl⟩
        · simp only [h, if_true, d0, Option.bind_some, jv_se, p_10, if_false, p10]
          exact ⟨_, _, rfl⟩
        · have e3 : ((8 : Int32) ≤ nI k3) = (8 ≤ k3) := q_le (a := 8) (by omega) hk3
          have e4 : (nI k3 ≤ (7 : Int32)) = (k3 ≤ 7) := q_le (b := 7) hk3 (by omega)
          simp only [q_lt0 hk3, if_false, e3, e4]
          by_cases h3 : 8 ≤ k3
          · simp only [if_pos h3, if_neg (show ¬ k3 ≤ 7 by omega), d0, Option.bind_some, jv_se, p_10, if_false, p10, if_true]
            exact ⟨_, _, rfl⟩
          · have ev : nI k2 * (8 : Int32) + nI k3 = nI (k2 * 8 + k3) := by rw [show (8 : Int32) = nI 8 from rfl, q_mul, nI_add]
            have em : (232 : Int32) * nI a + (8 : Int32) * nI k2 + nI k3 = nI (232 * a + (k2 * 8 + k3)) := by
              rw [show (232 : Int32) = nI 232 from rfl, show (8 : Int32) = nI 8 from rfl, q_mul, q_mul, nI_add, nI_add]
              congr 1
              omega
            unfold f_D_wordInPlace f_D_wordInPlace_0
            simp only [if_neg h3, if_pos (show k3 ≤ 7 by omega), d1, Option.bind_some, jv_se, p_00, if_true, ev, em, q_ga (f := (ars a).2.2.1) (n := 232) (k := k2 * 8 + k3) (by omega) (by omega), q_ga (f := mDk) (n := 1392) (k := 232 * a + (k2 * 8 + k3)) (by omega) (by omega), hP2 a ha (k2 * 8 + k3) (by omega), q_out]
            exact ⟨_, _, rfl⟩
