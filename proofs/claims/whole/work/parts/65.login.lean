theorem pl_within {X : Type} (x c : Int32) : ∃ w : Int32, (w = 0 ∨ w = 1) ∧ f_L_isWithin x c = some w ∧ ∀ F : Int32 → Option X, (if (c &&& (3 : Int32)) < (x &&& (3 : Int32)) then F 0 else (if ((c >>> ((5 : Int32) &&& 31)) &&& (3 : Int32)) < ((x >>> ((5 : Int32) &&& 31)) &&& (3 : Int32)) then F 0 else ((f_M_among x c (2 : Int32) (7 : Int32)).bind fun x7 => if x7 = 0 then F 0 else ((f_M_among x c (7 : Int32) (3 : Int32)).bind fun x9 => if x9 = 0 then F 0 else F 1)))) = F w := by
  unfold f_L_isWithin f_L_isWithin_0 f_L_isSecrecyWithin f_L_isSecrecyWithin_0 f_L_isIntegrityWithin f_L_isIntegrityWithin_0 f_M_among f_M_among_0
  have e1 := pb_am2 x c
  have e2 := pb_am7 x c
  have e3 := pb_int c x
  simp only [e1, e2, ← e3]
  by_cases h1 : c &&& 3 < x &&& 3 <;> by_cases h2 : (x &&& (c ^^^ (-1))) &&& 28 = 0 <;> by_cases h3 : c &&& 96 < x &&& 96 <;> by_cases h4 : (x &&& (c ^^^ (-1))) &&& 384 = 0 <;> simp only [h1, h2, h3, h4, if_true, if_false, Option.bind_some, p10] <;> first | exact ⟨0, Or.inl rfl, rfl, fun _ => rfl⟩ | exact ⟨1, Or.inr rfl, rfl, fun _ => rfl⟩
theorem q_admit {U : Nat → Int32} {mUs : Nat → Int32} {mar : Int32} {mLb mCl : Nat → Int32} {a : Nat} (ha : a < 6) {v t : Int32} (hu : ∀ i, i < 4 → ∃ u, u ≤ 4 ∧ mUs (4 * a + i) = nI u ∧ U i = nI u - 1) : ∀ d i, i + d = 4 → ∀ f g, d < f → d < g →
    (jv_fx (f_A_admit_2 v U) f (nI i) = some (-1, U) ∧ jv_fx (f_M_login_122 mar mLb mCl v (nI a) t mUs) g (nI (4 * a + i)) = some (-2, t, mUs)) ∨
    ∃ j, j < 4 ∧ jv_fx (f_A_admit_2 v U) f (nI i) = some (nI j, upd U j v) ∧ jv_fx (f_M_login_122 mar mLb mCl v (nI a) t mUs) g (nI (4 * a + i)) = some (nI (4 * a + j), t, upd mUs (4 * a + j) (v + 1)) := by
  intro d
  have hm : (4 : Int32) * nI a + 4 = nI (4 * a + 4) := by
    rw [show (4 : Int32) = nI 4 from rfl, q_mul, nI_add]
  induction d with
  | zero =>
    intro i hi f g hf hg
    obtain ⟨f, rfl⟩ : ∃ f', f = f' + 1 := ⟨f - 1, by omega⟩
    obtain ⟨g, rfl⟩ : ∃ g', g = g' + 1 := ⟨g - 1, by omega⟩
    rw [jv_fx_s, jv_fx_s]
    unfold f_A_admit_2 f_M_login_122
    have h4 : ((4 : Int32) ≤ nI i) = (4 ≤ i) := q_le (a := 4) (by omega) (by omega)
    rw [hm]
    simp only [h4, q_le (a := 4 * a + 4) (b := 4 * a + i) (by omega) (by omega), if_pos (show 4 ≤ i by omega), if_pos (show 4 * a + 4 ≤ 4 * a + i by omega)]
    exact Or.inl ⟨trivial, trivial⟩
  | succ d ih =>
    intro i hi f g hf hg
    obtain ⟨f, rfl⟩ : ∃ f', f = f' + 1 := ⟨f - 1, by omega⟩
    obtain ⟨g, rfl⟩ : ∃ g', g = g' + 1 := ⟨g - 1, by omega⟩
    obtain ⟨u, hu4, e1, e2⟩ := hu i (by omega)
    rcases ih (i + 1) (by omega) f g (by omega) (by omega) with hI | hI
    all_goals
      rw [jv_fx_s, jv_fx_s]
      unfold f_A_admit_2 f_M_login_122
      unfold f_A_admit_2 f_M_login_122 at hI
      have h4 : ((4 : Int32) ≤ nI i) = (4 ≤ i) := q_le (a := 4) (by omega) (by omega)
      rw [hm] at hI ⊢
      simp only [h4, q_le (a := 4 * a + 4) (b := 4 * a + i) (by omega) (by omega), if_neg (show ¬ 4 ≤ i by omega), if_neg (show ¬ 4 * a + 4 ≤ 4 * a + i by omega)]
      rw [q_ga (n := 4) (k := i) (by omega) (by omega), q_ga (n := 24) (k := 4 * a + i) (by omega) (by omega), q_sa (n := 4) (k := i) (by omega) (by omega), q_sa (n := 24) (k := 4 * a + i) (by omega) (by omega)]
      simp only [Option.bind_some, e1, e2, nI_1]
      by_cases h0 : u = 0
      · subst h0
        rw [if_pos (show nI 0 - 1 = (-1 : Int32) by decide), if_pos (show nI 0 = (0 : Int32) by decide)]
        exact Or.inr ⟨i, by omega, rfl, rfl⟩
      · rw [if_neg (fun z => h0 ((q_um1 u (by omega)).mp z)), if_neg (nI_ne0 (by omega) (by omega))]
        first | exact Or.inl hI | exact Or.inr hI
theorem q_areaN {n : Nat} (hn : n ≤ 6) (p : Int32) : (f_V_areaNumbered n p = some (.inl 1) ∧ f_M_isArea (nI n) p = some 0) ∨ (∃ a, a < n ∧ p = nI a ∧ f_V_areaNumbered n p = some (.inr a) ∧ f_M_isArea (nI n) p = some 1) := by
  unfold f_V_areaNumbered f_V_areaNumbered_0 f_V_demand f_V_demand_0
  rw [q_hasArea hn]
  rcases q_isAreav hn p with h | ⟨h, a, ha, rfl⟩
  · simp only [h, Option.bind_some, if_true, jv_se]
    exact Or.inl ⟨trivial, trivial⟩
  · refine Or.inr ⟨a, ha, rfl, ?_, h⟩
    simp only [h, Option.bind_some, p10, if_false, jv_se]
    rw [q_gi (n := 6) (k := a) (by omega) (by omega)]
    simp only [Option.bind_some, if_pos ha]
theorem p_20 : ((2 : Int32) ≤ 0) = False := by decide
theorem p_21 : ((2 : Nat) = 1) = False := by decide
theorem p_2z : ((2 : Int32) = 0) = False := by decide
theorem pj_3 (S : jv_vs) (vO : Nat → Int64) (M : jv_ms) (p1 p2 : Int32) (hn : S.1 ≤ 6) (hmar : M.2.1 = nI S.1) (hC : S.2.1 = M.2.2.2.2.1) (hLb : ∀ a, a < S.1 → (S.2.2.2 a).1 = M.2.2.2.1 a) (hU : pU S.1 S.2.2.2 M.2.2.2.2.2.1) : ∃ (vO' : Nat → Int64) (t : Int32) (ars' : Nat → jv_ar) (mUs' : Nat → Int32), s_3 S vO M p1 p2 = some ((S.1, S.2.1, S.2.2.1, ars'), vO', t, M.2.1, M.2.2.1, M.2.2.2.1, M.2.2.2.2.1, mUs', M.2.2.2.2.2.2) ∧ pU S.1 ars' mUs' ∧ ∀ b, (ars' b).1 = (S.2.2.2 b).1 ∧ (ars' b).2.2 = (S.2.2.2 b).2.2 := by
  obtain ⟨n, vC, vat, ars⟩ := S
  obtain ⟨m1, m2, m3, mLb, m5, mUs, m7⟩ := M
  have hn2 : n ≤ 6 := hn
  have hmar : m2 = nI n := hmar
  have hC : vC = m5 := hC
  have hLb2 : ∀ a, a < n → (ars a).1 = mLb a := hLb
  have hU2 : pU n ars mUs := hU
  subst hmar
  subst hC
  unfold s_3 l_login f_V_login f_V_login_0 f_V_isUser f_V_isUser_0 f_M_login f_M_login_0 f_M_thrown f_M_thrown_0
  have e : (4 : Int32) ≤ p1 ↔ (3 : Int32) < p1 := by
    rw [Int32.le_iff_toInt_le, Int32.lt_iff_toInt_lt, show (4 : Int32).toInt = 4 by decide, show (3 : Int32).toInt = 3 by decide]
    omega
  have d0 : f_V_demand 0 = some (.inl 1) := rfl
  have d1 : f_V_demand 1 = some (.inr ()) := rfl
  by_cases h1 : p1 < 0
  · simp only [h1, if_true, Option.bind_some, d0, jv_se, p10, if_false]
    exact ⟨_, _, ars, mUs, rfl, hU2, fun b => ⟨rfl, rfl⟩⟩
  · by_cases h2 : (3 : Int32) < p1
    · simp only [h1, e, h2, if_true, Option.bind_some, d0, jv_se, p10, if_false]
      exact ⟨_, _, ars, mUs, rfl, hU2, fun b => ⟨rfl, rfl⟩⟩
    · rcases q_areaN hn2 p2 with ⟨g1, g2⟩ | ⟨a, ha, rfl, g1, g2⟩
      · simp only [h1, e, h2, if_true, Option.bind_some, d1, jv_se, p10, if_false, g1, g2]
        exact ⟨_, _, ars, mUs, rfl, hU2, fun b => ⟨rfl, rfl⟩⟩
      · obtain ⟨k, hk, rfl⟩ : ∃ k, k < 4 ∧ p1 = nI k := by
          rcases q_nn p1 with h | ⟨k, hk, rfl⟩
          · exact absurd h h1
          · refine ⟨k, ?_, rfl⟩
            have h3 : ((3 : Int32) < nI k) = (3 < k) := q_lt (a := 3) (by omega) hk
            rw [h3] at h2
            omega
        obtain ⟨w, hw, w1, w2⟩ := pl_within (X := Int32 × Int32 × (Nat → Int32)) ((ars a).1) (vC k)
        simp only [h1, e, h2, if_true, Option.bind_some, d1, jv_se, p10, if_false, g1, g2, if_pos ha]
        rw [q_ga (n := 4) (k := k) (by omega) (by omega), q_ga (n := 6) (k := a) (by omega) (by omega), ← hLb2 a ha]
        simp only [Option.bind_some, w1]
        rw [w2 (fun z => f_M_login_92 (nI n) mLb vC (nI k) (nI a) z m1 mUs)]
        unfold f_M_login_92
        rcases hw with rfl | rfl
        · simp only [if_true, p_20, if_false, Option.bind_some, p_21, p_2z]
          exact ⟨_, _, ars, mUs, rfl, hU2, fun b => ⟨rfl, rfl⟩⟩
        · simp only [p10, p_00, if_true, if_false]
          have hz := q_admit (mar := nI n) (mLb := mLb) (mCl := vC) (v := nI k) (t := 0) (a := a) (by omega) (fun i hi => hU2.1 a i ha hi) 4 0 rfl 300 300 (by omega) (by omega)
          unfold f_A_admit f_A_admit_0
          rw [show (4 : Int32) * nI a = nI (4 * a + 0) from q_mul 4 a]
          rw [show (nI 0 : Int32) = 0 from rfl] at hz
          have same : ∀ (x : jv_ar), x.1 = (ars a).1 → x.2.2 = (ars a).2.2 → ∀ b, ((va_up ars a x) b).1 = (ars b).1 ∧ ((va_up ars a x) b).2.2 = (ars b).2.2 := by
            intro x x1 x2 b
            by_cases h : b = a
            · subst h
              rw [va_up_self]
              exact ⟨x1, x2⟩
            · rw [va_up_ne _ _ h]
              exact ⟨rfl, rfl⟩
          rcases hz with ⟨z1, z2⟩ | ⟨j, hj, z1, z2⟩
          · rw [z1, z2]
            simp only [Option.bind_some, jv_lt, if_true, q_out]
            refine ⟨_, _, _, mUs, rfl, ⟨fun b i hb hi => ?_, hU2.2⟩, same _ rfl rfl⟩
            by_cases h : b = a
            · subst h
              rw [va_up_self]
              exact hU2.1 b i hb hi
            · rw [va_up_ne _ _ h]
              exact hU2.1 b i hb hi
          · rw [z1, z2]
            have hne : (nI j = (-1 : Int32)) = False := eq_false (fun z => by
              have h9 : ¬ nI j < 0 := nI_pos (by omega)
              rw [z] at h9
              exact h9 (by decide))
            simp only [Option.bind_some, jv_lt, hne, if_false, if_true, q_out, nI_add, show 4 * a + 0 + j = 4 * a + j by omega]
            refine ⟨_, _, _, _, rfl, ?_, same _ rfl rfl⟩
            rw [show nI k + 1 = nI (k + 1) from nI_1 k]
            refine pU.set (u := k + 1) hU2 ha hn2 hj (by omega) ?_
            show upd (ars a).2.1 j (nI k) = upd (ars a).2.1 j (nI (k + 1) - 1)
            rw [nI_pred]
