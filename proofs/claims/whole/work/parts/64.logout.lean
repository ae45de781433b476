theorem q_out (f : Nat → Int64) (v : Int64) : vp_updL f 0 v (0 : Int32).toNatClampNeg = v := by
  rw [show (0 : Int32).toNatClampNeg = 0 by decide]
  simp [vp_updL]
theorem q_updS {f : Nat → Int32} {k : Nat} {v : Int32} : upd f k v k = v := by simp [upd]
theorem q_updN {f : Nat → Int32} {k j : Nat} {v : Int32} (h : j ≠ k) : upd f k v j = f j := by simp [upd, h]
/-- one session's user is set, in both -/
theorem pU.set {n : Nat} {ars : Nat → jv_ar} {mUs : Nat → Int32} (hU : pU n ars mUs) {a i u : Nat} (ha : a < n) (hn : n ≤ 6) (hi : i < 4) (hu : u ≤ 4) {x : jv_ar} (hx : x.2.1 = upd (ars a).2.1 i (nI u - 1)) : pU n (va_up ars a x) (upd mUs (4 * a + i) (nI u)) := by
  refine ⟨fun b j hb hj => ?_, fun j h1 h2 => ?_⟩
  · by_cases h : b = a
    · subst h
      rw [va_up_self, hx]
      by_cases h2 : j = i
      · subst h2
        exact ⟨u, hu, q_updS, q_updS⟩
      · rw [q_updN (by omega), q_updN h2]
        exact hU.1 b j hb hj
    · rw [va_up_ne _ _ h, q_updN (by omega)]
      exact hU.1 b j hb hj
  · rw [q_updN (by omega)]
    exact hU.2 j h1 h2
theorem pj_4 (S : jv_vs) (vO : Nat → Int64) (M : jv_ms) (p1 : Int32) (hn : S.1 ≤ 6) (hU : pU S.1 S.2.2.2 M.2.2.2.2.2.1) : ∃ (vO' : Nat → Int64) (t : Int32) (ars' : Nat → jv_ar) (mUs' : Nat → Int32), s_4 S vO M p1 = some ((S.1, S.2.1, S.2.2.1, ars'), vO', t, M.2.1, M.2.2.1, M.2.2.2.1, M.2.2.2.2.1, mUs', M.2.2.2.2.2.2) ∧ pU S.1 ars' mUs' ∧ ∀ b, (ars' b).1 = (S.2.2.2 b).1 ∧ (ars' b).2.2 = (S.2.2.2 b).2.2 := by
  obtain ⟨n, vC, vat, ars⟩ := S
  obtain ⟨m1, m2, m3, m4, m5, mUs, m7⟩ := M
  have hn : n ≤ 6 := hn
  have hU : pU n ars mUs := hU
  unfold s_4 l_logout f_V_logout f_V_logout_0 f_V_areaOf f_V_areaOf_0 f_A_dismiss f_A_dismiss_0 f_M_logout f_M_logout_0 f_M_logout_14 f_M_thrown f_M_thrown_0 f_V_demand f_V_demand_0
  rcases q_sess hn hU p1 with ⟨h1, h2⟩ | ⟨h1, h2, a, i, u, ha, hi, hu1, hu4, rfl, e1, e2⟩
  · simp only [h1, h2, Option.bind_some, if_true, jv_se, p_10, p10, if_false]
    exact ⟨_, _, ars, mUs, rfl, hU, fun b => ⟨rfl, rfl⟩⟩
  · have hk : 4 * a + i < 2 ^ 31 := by omega
    have hm := q_m4 hk
    rw [q_d4 hk, show (4 * a + i) / 4 = a by omega, show (4 * a + i) % 4 = i by omega] at hm
    simp only [h1, h2, Option.bind_some, p10, if_false, jv_se, p_00, if_true, q_d4 hk, show (4 * a + i) / 4 = a by omega, hm]
    rw [q_gi (n := 6) (k := a) (by omega) (by omega), q_ga (n := 24) (k := 4 * a + i) (by omega) (by omega), q_sa (n := 24) (k := 4 * a + i) (by omega) (by omega)]
    simp only [Option.bind_some, if_pos ha]
    rw [q_ga (n := 4) (k := i) (by omega) (by omega), q_sa (n := 4) (k := i) (by omega) (by omega)]
    simp only [Option.bind_some, e1, e2, jv_lt, if_true, q_out]
    refine ⟨_, _, _, _, rfl, pU.set (u := 0) hU ha hn hi (by omega) rfl, fun b => ?_⟩
    by_cases h : b = a
    · subst h
      rw [va_up_self]
      exact ⟨rfl, rfl⟩
    · rw [va_up_ne _ _ h]
      exact ⟨rfl, rfl⟩
