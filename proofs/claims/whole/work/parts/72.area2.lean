theorem pj_0 (S : jv_vs) (vO : Nat → Int64) (M : jv_ms) (p1 : Int32) (hn : S.1 ≤ 6) (hmar : M.2.1 = nI S.1) (hLb : ∀ a, a < S.1 → (S.2.2.2 a).1 = M.2.2.2.1 a) :
    (∃ (vO' : Nat → Int64) (t : Int32), s_0 S vO M p1 = some (S, vO', t, M.2)) ∨ (S.1 < 6 ∧ ∃ (vO' : Nat → Int64) (t : Int32) (rF : Nat → Int32), (∀ j, j < 4 → rF j = -1) ∧ s_0 S vO M p1 = some ((S.1 + 1, S.2.1, S.2.2.1, va_up S.2.2.2 S.1 (p1, rF, jv_F1, jv_F1, (fun _ => (0 : Int32)), (0 : Int32), (0 : Int32), (0 : Int32))), vO', t, nI (S.1 + 1), M.2.2.1, upd M.2.2.2.1 S.1 p1, M.2.2.2.2.1, M.2.2.2.2.2.1, M.2.2.2.2.2.2.1, upd M.2.2.2.2.2.2.2.1 (232 * S.1 + 8) 1, M.2.2.2.2.2.2.2.2)) := by
  obtain ⟨n, vC, vat, ars⟩ := S
  obtain ⟨m1, m2, m3, mLb, m5, mUs, mWr, mDk, mCp⟩ := M
  have hn2 : n ≤ 6 := hn
  have hm2 : m2 = nI n := hmar
  have hLb2 : ∀ a, a < n → (ars a).1 = mLb a := hLb
  clear hLb hmar hn
  subst hm2
  have d0 : f_V_demand 0 = some (.inl 1) := rfl
  have d1 : f_V_demand 1 = some (.inr ()) := rfl
  have h66 : ((6 : Int32) ≤ nI n) = (6 ≤ n) := q_le (a := 6) (by omega) (by omega)
  have h6e : (nI n = (6 : Int32)) = (n = 6) := q_eq (b := 6) (by omega) (by omega)
  obtain ⟨b0, hb0, hbe⟩ : ∃ b0 : Int32, (b0 = 0 ∨ b0 = 1) ∧ (b0 = 0 ↔ n ≠ 6) ∧ f_M_area p1 m1 (nI n) mLb mDk = jv_fx (f_M_area_17 p1 m1 (nI n) mLb mDk) 300 (b0, nI 0) := by
    unfold f_M_area f_M_area_0
    by_cases h : n = 6
    · exact ⟨1, Or.inr rfl, ⟨fun z => absurd z (by decide), fun z => absurd h z⟩, by simp only [h6e, if_pos h]; rfl⟩
    · exact ⟨0, Or.inl rfl, ⟨fun _ => h, fun _ => rfl⟩, by simp only [h6e, if_neg h]; rfl⟩
  obtain ⟨b', hb1, hb2, hb3⟩ := q_areaM hn2 (mLb := mLb) (mDk := mDk) (x := p1) (y := m1) n 0 (by omega) 300 (by omega) b0 hb0
  unfold s_0 l_area f_V_area f_V_area_0 f_M_thrown f_M_thrown_0
  rw [hbe.2, hb3, pl_lab]
  rcases pl_labv p1 with hl | hl
  · unfold f_M_area_72
    simp only [hl, Option.bind_some, if_true, d0, jv_se, p_10, p10, if_false]
    exact Or.inl ⟨_, _, rfl⟩
  · simp only [hl, Option.bind_some, p10, if_false, d1, jv_se, h66]
    by_cases hfull : 6 ≤ n
    · have hb' : ¬ b' = 0 := fun z => (hbe.1.mp (hb2.mp z).1) (by omega)
      unfold f_M_area_72
      simp only [if_pos hfull, if_neg hb', p_20, if_false, Option.bind_some, p_21, p_2z, if_true]
      exact Or.inl ⟨_, _, rfl⟩
    · rw [if_neg hfull]
      have hLl : f_V_hasLabel n ars p1 = jv_fx (f_V_hasLabel_2 n ars p1) 300 (nI 0) := rfl
      rw [hLl]
      rcases q_hasL hn2 (ars := ars) (x := p1) 6 0 rfl 300 (by omega) with ⟨e, a, h3, h4, h5⟩ | ⟨e, h3⟩
      · have hb' : ¬ b' = 0 := fun z => (hb2.mp z).2 a (by omega) h4 (by rw [← hLb2 a h4]; exact h5)
        unfold f_M_area_72
        simp only [e, if_neg hb', p10, p_20, if_false, Option.bind_some, p_21, p_2z, if_true]
        exact Or.inl ⟨_, _, rfl⟩
      · have hb' : b' = 0 := hb2.mpr ⟨hbe.1.mpr (by omega), fun a h1 h2 => by rw [← hLb2 a h2]; exact h3 a (Nat.zero_le _) h2⟩
        obtain ⟨rF, f1, f2⟩ := q_fill (-1) (fun _ => (0 : Int32))
        have hx8 : (232 : Int32) * nI n + 8 = nI (232 * n + 8) := by
          rw [show (232 : Int32) = nI 232 from rfl, q_mul, show (8 : Int32) = nI 8 from rfl, nI_add]
        unfold f_M_area_72
        simp only [e, if_pos hb', p_00, if_true, Option.bind_some, f1, q_gi (n := 6) (k := n) (by omega) (by omega), hx8, q_sa (f := mLb) (n := 6) (k := n) (by omega) (by omega), q_sa (f := mDk) (n := 1392) (k := 232 * n + 8) (by omega) (by omega), nI_1, nI_pred, q_out]
        exact Or.inr ⟨by omega, _, _, rF, f2, rfl⟩
