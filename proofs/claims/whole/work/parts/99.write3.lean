theorem pj_6 (n : Nat) (vC : Nat → Int32) (vat : Int32) (ars : Nat → jv_ar) (vO : Nat → Int64) (m1 : Int32) (mLb mCl mUs mWr mDk mCp : Nat → Int32) (p1 p2 p3 p4 : Int32) (J : Jd n vat ars mLb mUs mWr mDk) : jR n vC mLb mCl (s_6 (n, vC, vat, ars) vO (m1, nI n, vat, mLb, mCl, mUs, mWr, mDk, mCp) p1 p2 p3 p4) := by
  have hn := J.hn
  have hR : ∀ (e : Nat), 1 ≤ e → e ≤ 4 → f_M_write_21 (nI n) mLb p1 p2 p3 p4 (nI e) m1 vat mUs mWr mDk mCp = some (0, nI e, vat, mUs, mWr, mDk, mCp) := fun e h1 h2 => by
    unfold f_M_write_21 f_M_write_52
    simp only [eq_false (nI_ne0 (n := e) (by omega) (by omega)), if_false, eq_false (nI_nle (n := e) (by omega) (by omega))]
  have hR1 : f_M_write_21 (nI n) mLb p1 p2 p3 p4 1 m1 vat mUs mWr mDk mCp = some (0, 1, vat, mUs, mWr, mDk, mCp) := hR 1 (by omega) (by omega)
  have hR2 : f_M_write_21 (nI n) mLb p1 p2 p3 p4 2 m1 vat mUs mWr mDk mCp = some (0, 2, vat, mUs, mWr, mDk, mCp) := hR 2 (by omega) (by omega)
  have hR3 : f_M_write_21 (nI n) mLb p1 p2 p3 p4 3 m1 vat mUs mWr mDk mCp = some (0, 3, vat, mUs, mWr, mDk, mCp) := hR 3 (by omega) (by omega)
  have hX : ∀ q v k A B, f_V_write_29 n p2 q v 0 k A B = some (.inl 1) := fun q v k A B => rfl
  unfold s_6 l_write f_V_write f_V_write_0 f_M_write f_M_write_0 f_M_thrown f_M_thrown_0
  rcases q_areaO hn J.us p1 with ⟨h1, h2⟩ | ⟨b, s, hb, hs, rfl, h1, h2, h3⟩
  · simp only [h1, Option.bind_some, jv_se, if_true, q_rf0 h2, hR1, ite_self, p10, if_false]
    exact ⟨_, _, _, _, _, _, _, _, rfl, J⟩
  · simp only [h1, Option.bind_some, jv_se, if_pos hb]
    rcases q_path2 p2 with ⟨g1, g2⟩ | ⟨r, hr, rfl, g1, g2⟩
    · simp only [g1, Option.bind_some, if_true, hX, q_rf1 h2 g2, hR1, ite_self, p10, if_false]
      exact ⟨_, _, _, _, _, _, _, _, rfl, J⟩
    · simp only [g1, Option.bind_some, p10, if_false, hX, hR1]
      rcases q_nn p3 with hp | ⟨m, hk, rfl⟩
      · simp only [if_pos hp, Option.bind_some, if_true, p10, if_false]
        exact ⟨_, _, _, _, _, _, _, _, rfl, J⟩
      · have c1 : ((80 : Int32) ≤ nI m) = (80 ≤ m) := q_le (a := 80) (by omega) hk
        have c2 : (nI m ≤ (79 : Int32)) = (m ≤ 79) := q_le (b := 79) hk (by omega)
        simp only [q_lt0 hk, if_false, c1, c2]
        by_cases hm : m ≤ 79
        · simp only [if_neg (show ¬ 80 ≤ m by omega), if_pos hm]
          unfold f_V_write_29
          simp only [q_dm1, Option.bind_some, jv_se]
          rcases q_own J.sk hb hs hr h2 g2 with ⟨o1, o2⟩ | ⟨o1, o2⟩ | ⟨i, hi, fi, o1, o2, o3, o4⟩
          · simp only [o1, o2, Option.bind_some, hR2]
            exact ⟨_, _, _, _, _, _, _, _, rfl, J⟩
          · simp only [o1, o2, Option.bind_some, hR3]
            exact ⟨_, _, _, _, _, _, _, _, rfl, J⟩
          · have T := J.ti b hb
            have P := J.pi b hb
            obtain ⟨k1, -⟩ := q_pw (a := b) (by omega) (J.dr b hb) hi
            unfold f_V_demandFile f_V_demandFile_0 f_M_write_21
            simp only [o1, o2, Option.bind_some, if_true, h3, o4, k1]
            have h4 : f_M_write_52 (nI n) mLb (nI (4 * b + s)) (nI (enc r)) (nI m) p4 4 0 vat mUs mWr mDk mCp = some (0, 4, vat, mUs, mWr, mDk, mCp) := rfl
            rcases T.kinds i hi with hkd | hkd | hkd
            · exact absurd hkd (Fnd.kd0 T fi)
            · simp only [hkd, if_true, if_neg (show ¬ (1 : Int32) = 2 by decide), h4, Option.bind_some]
              exact ⟨_, _, _, _, _, _, _, _, rfl, J⟩
            · simp only [hkd, if_true, if_neg (show ¬ (2 : Int32) = 1 by decide)]
              obtain ⟨C, c1, c2⟩ := q_st (mDk := mDk) (a := b) (by omega) mCp
              have ec : eqd (ars b).2.2.2.1 C := fun w hw => by rw [J.dr b hb w hw, c2 w hw]
              have ed : nI m / (8 : Int32) = nI (m / 8) := q_div (b := 8) (by omega) (by omega) (by omega)
              have hm5 : ∀ X, ((f_M_pointer C (nI i) (nI (m / 8))).bind fun x9 => if 0 ≤ x9 then ((jv_ga C 232 x9).bind fun x11 => if x11 = 0 then (f_M_write_124 (nI n) mLb (nI m) p4 (nI b) (nI i) (nI (m / 8)) x9 (1 : Int32) 0 vat mUs mWr mDk C) else (f_M_write_124 (nI n) mLb (nI m) p4 (nI b) (nI i) (nI (m / 8)) x9 (0 : Int32) 0 vat mUs mWr mDk C)) else (f_M_write_124 (nI n) mLb (nI m) p4 (nI b) (nI i) (nI (m / 8)) x9 (2 : Int32) 0 vat mUs mWr mDk C)) = X → f_M_write_52 (nI n) mLb (nI (4 * b + s)) (nI (enc r)) (nI m) p4 0 0 vat mUs mWr mDk mCp = X := fun X hX => by
                unfold f_M_write_52
                rw [if_pos (by decide), h3, o3, Option.bind_some, c1, Option.bind_some, ed]
                exact hX
              rcases q_wr (mar := nI n) (fu := vat) (t := 0) (v := p4) (mLb := mLb) (mUs := mUs) (mWr := mWr) (mDk := mDk) (a := b) (i := i) (A := m) (by omega) ec P hi (by omega) (J.dr b hb 0 (by omega)).symm with ⟨D', d1, d2⟩ | ⟨D', C', z, d1, d2, d3, d4, d5, d6⟩
              · obtain ⟨ars', x1, x2⟩ := q_gu J hb D'
                have x1' := x1
                simp only [wD] at x1'
                simp only [d1, Option.bind_some, jv_lt, if_true, x1', hm5 _ d2, q_out]
                exact ⟨_, _, _, _, _, _, _, _, rfl, x2⟩
              · obtain ⟨ans', vat', ars', mUs', mWr', mDk', x1, x2, x3⟩ := q_fin J hb (d6.ti T) d5 d4 (nI z)
                have hm : f_M_write_52 (nI n) mLb (nI (4 * b + s)) (nI (enc r)) (nI m) p4 0 0 vat mUs mWr mDk mCp = some (ans', 0, vat', mUs', mWr', mDk', C') := by
                  refine hm5 _ (d3.trans ?_)
                  unfold wFin
                  rw [x2]
                  rfl
                have x1' := x1
                simp only [wD] at x1'
                have sz : f_C_sizeOf D' (nI i) = some (nI z) := by rw [q_sz hi, d2]
                simp only [d1, Option.bind_some, jv_lt, p10, if_false, va_up_self, sz, x1', hm, if_true, q_out]
                exact ⟨_, _, _, _, _, _, _, _, rfl, x3⟩
        · simp only [if_pos (show 80 ≤ m by omega), if_neg hm, Option.bind_some, if_true, p10, if_false]
          exact ⟨_, _, _, _, _, _, _, _, rfl, J⟩
