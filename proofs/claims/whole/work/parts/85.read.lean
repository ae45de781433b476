/-! size and read -/
theorem q_sz {D : Nat → Int32} {i : Nat} (hi : i < 8) : f_C_sizeOf D (nI i) = some (D (8 + 8 * i + 3)) := by
  unfold f_C_sizeOf f_C_sizeOf_0
  rw [show (3 : Int32) = nI 3 from rfl, q_iw hi (by omega)]
  rfl
theorem q_rf {n : Nat} {ars : Nat → jv_ar} {mLb mDk : Nat → Int32} (K : Sk n ars mLb mDk) {b s : Nat} (hb : b < n) (hs : s < 4) {r : List Nat} (h : gpt r) {a : Nat} (ha : a < n) {mUs : Nat → Int32} (h1 : f_M_isSession mUs (nI (4 * b + s)) = some 1) (h2 : f_M_isPath (nI (enc r)) = some 1) (h3 : f_M_isArea (nI n) (nI a) = some 1) :
    (∃ e : Nat, (e = 2 ∨ e = 3 ∨ e = 4) ∧ f_V_readableFile ars b a (nI (enc r)) = some (.inl e) ∧ f_M_unreadable (nI n) mLb mUs mDk (nI (4 * b + s)) (nI (enc r)) (nI a) = some (nI e)) ∨
    (∃ i, i < 8 ∧ Fnd (ars a).2.2.2.1 r i ∧ kd (ars a).2.2.2.1 i = 2 ∧ f_V_readableFile ars b a (nI (enc r)) = some (.inr (nI i)) ∧ f_M_unreadable (nI n) mLb mUs mDk (nI (4 * b + s)) (nI (enc r)) (nI a) = some 0 ∧ f_M_find mDk (nI a) (nI (enc r)) = some (nI i)) := by
  have hn := K.hn
  obtain ⟨o, o1, o0, o2, o3⟩ := q_sees hn K.lb hb hs ha
  obtain ⟨v, v1, v2, v3⟩ := q_kd (a := a) (by omega) (K.dr a ha) (K.ti a ha) h
  obtain ⟨w, w1, w2, w3⟩ := q_mf (a := a) (by omega) (K.dr a ha) (K.ti a ha) h
  unfold f_V_readableFile f_V_readableFile_0 f_M_unreadable f_M_unreadable_0 f_V_demandFile f_V_demandFile_0
  simp only [h1, h2, h3, Option.bind_some, p10, if_false, pl_flow, K.lb a ha, K.lb b hb, o0, o3, v3, w2, w3]
  rcases o1 with rfl | rfl
  · exact Or.inl ⟨2, Or.inl rfl, rfl, rfl⟩
  · simp only [p10, if_false]
    rcases w1 with ⟨i, hi, f1, rfl⟩ | ⟨f1, rfl⟩
    · have hv : v = kd (ars a).2.2.2.1 i := by
        rcases v1 with ⟨j, _, j1, rfl⟩ | ⟨j1, _⟩
        · rw [Fnd.uniq (K.ti a ha) j1 f1]
        · exact absurd f1 (j1 i)
      subst hv
      have hk0 := Fnd.kd0 (K.ti a ha) f1
      obtain ⟨k1, -⟩ := q_pw (a := a) (by omega) (K.dr a ha) hi
      simp only [nI_m1 (show i < 2 ^ 31 by omega), if_false, k1, Option.bind_some, if_neg hk0]
      rcases (K.ti a ha).kinds i hi with hk | hk | hk
      · exact absurd hk hk0
      · refine Or.inl ⟨4, Or.inr (Or.inr rfl), ?_, ?_⟩
        · rw [if_neg (by rw [hk]; decide)]; rfl
        · rw [if_pos hk]; rfl
      · refine Or.inr ⟨i, hi, f1, hk, ?_, ?_, rfl⟩
        · rw [if_pos hk]; rfl
        · rw [if_neg (by rw [hk]; decide)]
    · have hv : v = 0 := by
        rcases v1 with ⟨j, _, j1, rfl⟩ | ⟨_, j2⟩
        · exact absurd j1 (f1 j)
        · exact j2
      subst hv
      simp only [if_true]
      exact Or.inl ⟨3, Or.inr (Or.inl rfl), rfl, rfl⟩
theorem pj_13 (S : jv_vs) (vO : Nat → Int64) (M : jv_ms) (p1 p2 p3 : Int32) (hmar : M.2.1 = nI S.1) (hU : pU S.1 S.2.2.2 M.2.2.2.2.2.1) (K : Sk S.1 S.2.2.2 M.2.2.2.1 M.2.2.2.2.2.2.2.1) :
    ∃ (vO' : Nat → Int64) (t : Int32), s_13 S vO M p1 p2 p3 = some (S, vO', t, M.2) := by
  obtain ⟨n, vC, vat, ars⟩ := S
  obtain ⟨m1, m2, m3, mLb, m5, mUs, mWr, mDk, mCp⟩ := M
  replace K : Sk n ars mLb mDk := K
  have hm2 : m2 = nI n := hmar
  replace hU : pU n ars mUs := hU
  have hn := K.hn
  clear hmar
  subst hm2
  have u0 : ∀ s p a, f_M_isSession mUs s = some 0 → f_M_unreadable (nI n) mLb mUs mDk s p a = some 1 := fun s p a h => by
    unfold f_M_unreadable f_M_unreadable_0; rw [h]; rfl
  have u1 : ∀ s p a, f_M_isSession mUs s = some 1 → f_M_isPath p = some 0 → f_M_unreadable (nI n) mLb mUs mDk s p a = some 1 := fun s p a h g => by
    unfold f_M_unreadable f_M_unreadable_0; rw [h, Option.bind_some, if_neg (by decide), g]; rfl
  have u2 : ∀ s p a, f_M_isSession mUs s = some 1 → f_M_isPath p = some 1 → f_M_isArea (nI n) a = some 0 → f_M_unreadable (nI n) mLb mUs mDk s p a = some 1 := fun s p a h g k => by
    unfold f_M_unreadable f_M_unreadable_0; rw [h, Option.bind_some, if_neg (by decide), g, Option.bind_some, if_neg (by decide), k]; rfl
  unfold s_13 l_size f_V_size f_V_size_0 f_M_size f_M_size_0 f_M_thrown f_M_thrown_0
  rcases q_areaO hn hU p1 with ⟨h1, h2⟩ | ⟨b, s, hb, hs, rfl, h1, h2, h3⟩
  · simp only [h1, u0 _ _ _ h2, Option.bind_some, jv_se, if_true, p10, p_10, if_false]
    exact ⟨_, _, rfl⟩
  · simp only [h1, Option.bind_some, jv_se, if_pos hb]
    rcases q_path2 p2 with ⟨g1, g2⟩ | ⟨r, hr, rfl, g1, g2⟩
    · simp only [g1, u1 _ _ _ h2 g2, Option.bind_some, q_dm0, if_true, p10, p_10, if_false]
      exact ⟨_, _, rfl⟩
    · simp only [g1, Option.bind_some, q_dm1]
      rcases q_areaN hn p3 with ⟨k1, k2⟩ | ⟨a, ha, rfl, k1, k2⟩
      · simp only [k1, u2 _ _ _ h2 g2 k2, Option.bind_some, if_true, p10, p_10, if_false]
        exact ⟨_, _, rfl⟩
      · simp only [k1, Option.bind_some, if_pos ha]
        rcases q_rf K hb hs hr ha h2 g2 k2 with ⟨e, he, e1, e2⟩ | ⟨i, hi, f1, f2, e1, e2, e3⟩
        · simp only [e1, e2, Option.bind_some]
          rcases he with rfl | rfl | rfl <;> exact ⟨_, _, rfl⟩
        · obtain ⟨-, -, -, -, -, -, w3⟩ := q_pw (a := a) (by omega) (K.dr a ha) hi
          simp only [e1, e2, e3, Option.bind_some, p_00, if_true, w3, q_sz hi, q_out]
          exact ⟨_, _, rfl⟩
theorem pj_10 (S : jv_vs) (vO : Nat → Int64) (M : jv_ms) (p1 p2 p3 p4 : Int32) (hmar : M.2.1 = nI S.1) (hU : pU S.1 S.2.2.2 M.2.2.2.2.2.1) (K : Sk S.1 S.2.2.2 M.2.2.2.1 M.2.2.2.2.2.2.2.1) (hP : ∀ a, a < S.1 → PI (S.2.2.2 a).2.2.2.1) :
    ∃ (vO' : Nat → Int64) (t : Int32) (C : Nat → Int32), s_10 S vO M p1 p2 p3 p4 = some (S, vO', t, M.2.1, M.2.2.1, M.2.2.2.1, M.2.2.2.2.1, M.2.2.2.2.2.1, M.2.2.2.2.2.2.1, M.2.2.2.2.2.2.2.1, C) := by
  obtain ⟨n, vC, vat, ars⟩ := S
  obtain ⟨m1, m2, m3, mLb, m5, mUs, mWr, mDk, mCp⟩ := M
  replace K : Sk n ars mLb mDk := K
  have hm2 : m2 = nI n := hmar
  replace hU : pU n ars mUs := hU
  replace hP : ∀ a, a < n → PI (ars a).2.2.2.1 := hP
  have hn := K.hn
  clear hmar
  subst hm2
  have u0 : ∀ s p a, f_M_isSession mUs s = some 0 → f_M_unreadable (nI n) mLb mUs mDk s p a = some 1 := fun s p a h => by
    unfold f_M_unreadable f_M_unreadable_0; rw [h]; rfl
  have u1 : ∀ s p a, f_M_isSession mUs s = some 1 → f_M_isPath p = some 0 → f_M_unreadable (nI n) mLb mUs mDk s p a = some 1 := fun s p a h g => by
    unfold f_M_unreadable f_M_unreadable_0; rw [h, Option.bind_some, if_neg (by decide), g]; rfl
  have u2 : ∀ s p a, f_M_isSession mUs s = some 1 → f_M_isPath p = some 1 → f_M_isArea (nI n) a = some 0 → f_M_unreadable (nI n) mLb mUs mDk s p a = some 1 := fun s p a h g k => by
    unfold f_M_unreadable f_M_unreadable_0; rw [h, Option.bind_some, if_neg (by decide), g, Option.bind_some, if_neg (by decide), k]; rfl
  have m0 : ∀ (e : Nat), 1 ≤ e → e ≤ 5 → ∀ a at', f_M_read_28 (nI n) mLb mUs mDk a at' 0 (nI e) mCp = some (0, nI e, mCp) := fun e h1 h2 a at' => by
    unfold f_M_read_28 f_M_read_64
    rw [if_neg (nI_ne0 (by omega) (by omega)), if_neg (nI_nle (by omega) (by omega))]
  have m1 : ∀ a at', f_M_read_28 (nI n) mLb mUs mDk a at' 0 1 mCp = some (0, 1, mCp) := m0 1 (by omega) (by omega)
  unfold s_10 l_read f_V_read f_V_read_0 f_M_read f_M_read_0 f_M_thrown f_M_thrown_0
  rcases q_areaO hn hU p1 with ⟨h1, h2⟩ | ⟨b, s, hb, hs, rfl, h1, h2, h3⟩
  · simp only [h1, u0 _ _ _ h2, Option.bind_some, jv_se, if_true, p10, m1, if_false]
    exact ⟨_, _, _, rfl⟩
  · simp only [h1, Option.bind_some, jv_se, if_pos hb]
    rcases q_path2 p2 with ⟨g1, g2⟩ | ⟨r, hr, rfl, g1, g2⟩
    · simp only [g1, u1 _ _ _ h2 g2, Option.bind_some, q_dm0, if_true, p10, m1, if_false]
      exact ⟨_, _, _, rfl⟩
    · simp only [g1, Option.bind_some, q_dm1]
      rcases q_areaN hn p3 with ⟨k1, k2⟩ | ⟨a, ha, rfl, k1, k2⟩
      · simp only [k1, u2 _ _ _ h2 g2 k2, Option.bind_some, if_true, p10, m1, if_false]
        exact ⟨_, _, _, rfl⟩
      · simp only [k1, Option.bind_some, if_pos ha]
        rcases q_rf K hb hs hr ha h2 g2 k2 with ⟨e, he, e1, e2⟩ | ⟨i, hi, f1, f2, e1, e2, e3⟩
        · have e0 : (nI e = 0) = False := eq_false (nI_ne0 (by omega) (by omega))
          simp only [e1, e2, Option.bind_some, e0, if_false, m0 e (by omega) (by omega)]
          rcases he with rfl | rfl | rfl <;> exact ⟨_, _, _, rfl⟩
        · obtain ⟨-, -, -, -, -, -, w3⟩ := q_pw (a := a) (by omega) (K.dr a ha) hi
          have PD := hP a ha
          obtain ⟨z, z1, z2⟩ := PD.size i hi
          have m5 : ∀ at', f_M_read_64 (nI n) mLb mUs mDk (nI a) at' (nI i) 5 0 mCp = some (0, 5, mCp) := fun at' => rfl
          simp only [e1, e2, e3, Option.bind_some, if_true, q_sz hi, z2]
          unfold f_M_read_28
          rw [z2] at w3
          rcases q_nn p4 with hp | ⟨k, hk, rfl⟩
          · simp only [if_pos hp, if_true, m5, Option.bind_some]
            exact ⟨_, _, _, rfl⟩
          · simp only [q_lt0 hk, if_false, if_true, w3, Option.bind_some, q_lt hk (show z < 2 ^ 31 by omega)]
            by_cases hkz : k < z
            · obtain ⟨C, c1, c2⟩ := q_st (mDk := mDk) (a := a) (by omega) mCp
              have ec : eqd (ars a).2.2.2.1 C := fun w hw => by rw [K.dr a ha w hw, c2 w hw]
              have ed : nI k / (8 : Int32) = nI (k / 8) := q_div (b := 8) (by omega) hk (by omega)
              have em : nI k - nI k / (8 : Int32) * (8 : Int32) = nI (k % 8) := q_mod (b := 8) (by omega) hk (by omega)
              rw [ed] at em
              unfold f_M_read_64 f_C_wordOf f_C_wordOf_0
              simp only [if_pos hkz, p_00, if_true, c1, Option.bind_some, ed, em]
              rcases q_pt PD.pb ec hi (show k / 8 < 10 by omega) with ⟨-, -, t1, t2⟩ | ⟨l, p, t1, t2, t3, t4, t5, t6⟩
              · simp only [t1, t2, Option.bind_some, q_bb0, if_true, show ((-1 : Int32) < 0) = True by decide, q_out]
                exact ⟨_, _, _, rfl⟩
              · have cl : jv_ga C 232 (nI l) = some (nI p) := by rw [q_ga t2 (by omega), ← ec l t2, t4]
                simp only [t5, t6, Option.bind_some, q_lt0 (show l < 2 ^ 31 by omega), if_false, cl]
                by_cases hp0 : p = 0
                · subst hp0
                  simp only [q_bb0, Option.bind_some, if_true, show (nI 0 = 0) = True by decide, q_out]
                  exact ⟨_, _, _, rfl⟩
                · have ew : (64 : Int32) + (8 : Int32) * nI p + nI (k % 8) = nI (64 + 8 * p + k % 8) := by
                    rw [show (64 : Int32) = nI 64 from rfl, show (8 : Int32) = nI 8 from rfl, q_mul, nI_add, nI_add]
                  simp only [q_bb (show 1 ≤ p by omega) t3, Option.bind_some, nI_m1 (show 8 + p < 2 ^ 31 by omega), if_false, q_get (D := (ars a).2.2.2.1) (b := 8 + p) (w := k % 8) (by omega), eq_false (nI_ne0 (n := p) (by omega) (by omega)), ew, q_ga (f := C) (n := 232) (k := 64 + 8 * p + k % 8) (by omega) (by omega), show (8 + p) * 8 + k % 8 = 64 + 8 * p + k % 8 by omega, ec (64 + 8 * p + k % 8) (by omega), q_out, if_true]
                  exact ⟨_, _, _, rfl⟩
            · simp only [if_neg hkz, m5, Option.bind_some]
              exact ⟨_, _, _, rfl⟩
