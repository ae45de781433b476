/-! What holds between calls, and that every call keeps it. -/
def JJ (st : jv_st) : Prop := ∃ (n : Nat) (vC : Nat → Int32) (vat : Int32) (ars : Nat → jv_ar) (vO : Nat → Int64) (m1 : Int32) (mLb mUs mWr mDk mCp : Nat → Int32), st = ((n, vC, vat, ars), vO, m1, nI n, vat, mLb, vC, mUs, mWr, mDk, mCp) ∧ Jd n vat ars mLb mUs mWr mDk
theorem JJ_0 : JJ jv_st0 := by
  refine ⟨0, fun _ => 0, -1, _, fun _ => 0, 0, fun _ => 0, fun _ => 0, fun _ => 0, fun _ => 0, fun _ => 0, rfl, by omega, ⟨none, rfl, fun k h => by cases h⟩, fun a h => by omega, ⟨fun a i h => by omega, fun _ _ _ => rfl⟩, fun a h => by omega, fun a h => by omega, fun a h => by omega, fun a h => by omega, fun a h => by omega, fun a h => by omega, fun _ _ _ => rfl, fun _ _ _ => rfl⟩
theorem n_of20 {x : Int32} (h : ∀ i, 20 ≤ i → bt x i = false) : ∃ k, k < 2 ^ 20 ∧ x = nI k := by
  rcases q_nn x with hx | ⟨k, hk, rfl⟩
  · have := (n_neg x).mp hx
    rw [h 31 (by omega)] at this
    cases this
  · refine ⟨k, Nat.lt_pow_two_of_testBit k (fun i hi => ?_), rfl⟩
    rcases Nat.lt_or_ge i 32 with h3 | h3
    · rw [← n_bt k h3]; exact h i hi
    · exact Nat.testBit_lt_two_pow (Nat.lt_of_lt_of_le hk (Nat.pow_le_pow_right (by omega) (by omega)))
theorem jR.jj {n : Nat} {vC mLb : Nat → Int32} {x : Option jv_st} (h : jR n vC mLb vC x) : ∃ r, x = some r ∧ JJ r := by
  obtain ⟨vat, ars, vO, t, mUs, mWr, mDk, C, h1, h2⟩ := h
  exact ⟨_, h1, n, vC, vat, ars, vO, t, mLb, mUs, mWr, mDk, C, rfl, h2⟩
section
variable {n : Nat} {vat : Int32} {ars : Nat → jv_ar} {mLb mUs mWr mDk : Nat → Int32}
theorem Jd.users (J : Jd n vat ars mLb mUs mWr mDk) {ars' : Nat → jv_ar} {mUs' : Nat → Int32} (hu : pU n ars' mUs') (h : ∀ b, (ars' b).1 = (ars b).1 ∧ (ars' b).2.2 = (ars b).2.2) : Jd n vat ars' mLb mUs' mWr mDk := by
  refine ⟨J.hn, J.fv, fun a ha => ?_, hu, fun a ha => ?_, fun a ha => ?_, fun a ha => ?_, fun a ha => ?_, fun a ha => ?_, fun a ha => ?_, J.zd, J.zw⟩
  · rw [(h a).1]; exact J.lb a ha
  · rw [(h a).2]; exact J.mkd a ha
  · rw [(h a).2]; exact J.wr a ha
  · rw [(h a).2]; exact J.pl a ha
  · rw [(h a).2]; exact J.dr a ha
  · rw [(h a).2]; exact J.ti a ha
  · rw [(h a).2]; exact J.pi a ha
theorem Jd.crash (J : Jd n vat ars mLb mUs mWr mDk) {ars' : Nat → jv_ar} {mUs' : Nat → Int32} (hu : pU n ars' mUs') (h : ∀ b, b < n → pBr (ars b) (ars' b)) : Jd n (-1) ars' mLb mUs' mWr mDk := by
  have he : ∀ a, a < n → eqd (ars a).2.2.2.1 (ars' a).2.2.2.1 := fun a ha w hw => by
    rw [(h a ha).2.2.2.1 w hw, J.dr a ha w hw, J.pl a ha w hw]
  refine ⟨J.hn, ⟨none, rfl, fun k h => by cases h⟩, fun a ha => ?_, hu, fun a ha => ?_, fun a ha => ?_, fun a ha => ?_, fun a ha w hw => ?_, fun a ha => ?_, fun a ha => ?_, J.zd, J.zw⟩
  · rw [(h a ha).1]; exact J.lb a ha
  · exact (h a ha).2.2.2.2.1
  · rw [(h a ha).2.2.2.2.2]; exact J.wr a ha
  · rw [(h a ha).2.2.1]; exact J.pl a ha
  · rw [← he a ha w hw]; exact J.dr a ha w hw
  · exact (J.ti a ha).eqd (he a ha)
  · exact (J.pi a ha).congr (he a ha)
theorem F1_v (w : Nat) : jv_F1 w = if w = 8 then 1 else 0 := by
  show (if w = (8 : Int32).toNatClampNeg then _ else _) = _
  rw [show (8 : Int32).toNatClampNeg = 8 by decide]
theorem F1_ti : TI jv_F1 := by
  have k0 : ∀ i, 1 ≤ i → kd jv_F1 i = 0 := fun i hi => by
    show jv_F1 (8 + 8 * i) = 0
    rw [F1_v, if_neg (by omega)]
  have n0 : ∀ i, nm jv_F1 i = 0 := fun i => by
    show jv_F1 (8 + 8 * i + 2) = 0
    rw [F1_v, if_neg (by omega)]
  refine ⟨?_, fun i hi => ?_, fun i hi _ => n0 i, fun i h1 hi hk => absurd (k0 i h1) hk, fun i h1 hi hk => absurd (k0 i h1) hk, fun i j h1 hi h2 hj hk => absurd (k0 i h1) hk, fun _ => 0, rfl, fun i p h1 hi hp hk => absurd (k0 i h1) hk⟩
  · show jv_F1 8 = 1
    rw [F1_v, if_pos rfl]
  · by_cases h : i = 0
    · subst h
      right; left
      show jv_F1 8 = 1
      rw [F1_v, if_pos rfl]
    · exact Or.inl (k0 i (by omega))
theorem F1_pi : PI jv_F1 := by
  have hz : ∀ w, w ≠ 8 → jv_F1 w = 0 := fun w hw => by rw [F1_v, if_neg hw]
  refine ⟨fun i hi => ?_, fun i hi => ⟨0, by omega, hz _ (by omega)⟩, fun l hl => ⟨0, by omega, hz l (by have := hl.ne0; omega), fun h => by omega⟩, fun l k hl hk h1 h2 => absurd (hz l (by have := hl.ne0; omega)) h2⟩
  rw [hz 0 (by omega), b_0]
theorem Jd.grow (J : Jd n vat ars mLb mUs mWr mDk) (h6 : n < 6) {rF : Nat → Int32} (hF : ∀ j, j < 4 → rF j = -1) (l : Int32) : Jd (n + 1) vat (va_up ars n (l, rF, jv_F1, jv_F1, (fun _ => (0 : Int32)), (0 : Int32), (0 : Int32), (0 : Int32))) (upd mLb n l) mUs mWr (upd mDk (232 * n + 8) 1) := by
  have hnew : ∀ w, w < 232 → jv_F1 w = upd mDk (232 * n + 8) 1 (232 * n + w) := fun w hw => by
    rw [F1_v]
    by_cases h : w = 8
    · rw [if_pos h, h, q_updS]
    · rw [if_neg h, q_updN (by omega), J.zd _ (by omega) (by omega)]
  have hold : ∀ a, a < n → ∀ w, w < 232 → upd mDk (232 * n + 8) 1 (232 * a + w) = mDk (232 * a + w) := fun a ha w hw => q_updN (by omega)
  refine ⟨by omega, J.fv, fun a ha => ?_, ⟨fun a i ha hi => ?_, fun j h1 h2 => J.us.2 j (by omega) h2⟩, fun a ha => ?_, fun a ha => ?_, fun a ha w hw => ?_, fun a ha w hw => ?_, fun a ha => ?_, fun a ha => ?_, fun w h1 h2 => ?_, fun a h1 h2 => J.zw a (by omega) h2⟩
  · by_cases h : a = n
    · rw [h, va_up_self, q_updS]
    · rw [va_up_ne _ _ h, q_updN h]; exact J.lb a (by omega)
  · by_cases h : a = n
    · rw [h, va_up_self]
      refine ⟨0, by omega, J.us.2 _ (by omega) (by omega), ?_⟩
      show rF i = nI 0 - 1
      rw [hF i hi]
      decide
    · rw [va_up_ne _ _ h]; exact J.us.1 a i (by omega) hi
  · by_cases h : a = n
    · rw [h, va_up_self]
    · rw [va_up_ne _ _ h]; exact J.mkd a (by omega)
  · by_cases h : a = n
    · rw [h, va_up_self]; exact (J.zw n (Nat.le_refl _) h6).symm
    · rw [va_up_ne _ _ h]; exact J.wr a (by omega)
  · by_cases h : a = n
    · rw [h, va_up_self]; exact hnew w hw
    · rw [va_up_ne _ _ h, hold a (by omega) w hw]; exact J.pl a (by omega) w hw
  · by_cases h : a = n
    · rw [h, va_up_self]; exact hnew w hw
    · rw [va_up_ne _ _ h, hold a (by omega) w hw]; exact J.dr a (by omega) w hw
  · by_cases h : a = n
    · rw [h, va_up_self]; exact F1_ti
    · rw [va_up_ne _ _ h]; exact J.ti a (by omega)
  · by_cases h : a = n
    · rw [h, va_up_self]; exact F1_pi
    · rw [va_up_ne _ _ h]; exact J.pi a (by omega)
  · rw [q_updN (by omega)]; exact J.zd w (by omega) h2
theorem Jd.fuse (J : Jd n vat ars mLb mUs mWr mDk) {w : Int32} (hw : w = -1 ∨ (0 ≤ w ∧ w ≤ 1000)) : Jd n w ars mLb mUs mWr mDk := by
  refine ⟨J.hn, ?_, J.lb, J.us, J.mkd, J.wr, J.pl, J.dr, J.ti, J.pi, J.zd, J.zw⟩
  rcases hw with h | ⟨h1, h2⟩
  · exact ⟨none, h, fun k h => by cases h⟩
  · rcases q_nn w with hx | ⟨k, hk, rfl⟩
    · rw [Int32.lt_iff_toInt_lt] at hx
      rw [Int32.le_iff_toInt_le] at h1
      omega
    · refine ⟨some k, rfl, fun j hj => ?_⟩
      have hj2 := Option.some.inj hj
      have hk2 : k ≤ 1000 := (nI_leI hk (show 1000 < 2 ^ 31 by omega)).mp h2
      omega
theorem Jd.fuv (J : Jd n vat ars mLb mUs mWr mDk) : vat = -1 ∨ (0 ≤ vat ∧ vat ≤ 1000) := by
  obtain ⟨t, h1, h2⟩ := J.fv
  cases t with
  | none => exact Or.inl h1
  | some k =>
    have := h2 k rfl
    rw [h1]
    exact Or.inr ⟨nI_pos' (by omega), nI_le (b := 1000) this (by omega)⟩
end
theorem JJ_s (st : jv_st) (o p1 p2 p3 p4 : Int32) (h : JJ st) : ∃ r, jv_step st o p1 p2 p3 p4 = some r ∧ JJ r := by
  obtain ⟨n, vC, vat, ars, vO, m1, mLb, mUs, mWr, mDk, mCp, rfl, J⟩ := h
  have same : ∀ (vO' : Nat → Int64) (t : Int32) (C : Nat → Int32), JJ ((n, vC, vat, ars), vO', t, nI n, vat, mLb, vC, mUs, mWr, mDk, C) := fun vO' t C => ⟨n, vC, vat, ars, vO', t, mLb, mUs, mWr, mDk, C, rfl, J⟩
  unfold jv_step
  by_cases h0 : o = 0
  · rw [if_pos h0]
    rcases pj_0 (n, vC, vat, ars) vO (m1, nI n, vat, mLb, vC, mUs, mWr, mDk, mCp) p1 J.hn rfl J.lb with ⟨vO', t, e⟩ | ⟨h6, vO', t, rF, hF, e⟩
    · exact ⟨_, e, same _ _ _⟩
    · exact ⟨_, e, n + 1, vC, vat, _, vO', t, _, mUs, mWr, _, mCp, rfl, J.grow h6 hF p1⟩
  rw [if_neg h0]
  by_cases h1 : o = 1
  · rw [if_pos h1]
    obtain ⟨vO', t, e⟩ := pj_1 (n, vC, vat, ars) vO (m1, nI n, vat, mLb, vC, mUs, mWr, mDk, mCp) p1 p2
    exact ⟨_, e, same _ _ _⟩
  rw [if_neg h1]
  by_cases h2 : o = 2
  · rw [if_pos h2]
    obtain ⟨vO', t, C, e⟩ := pj_2 (n, vC, vat, ars) vO (m1, nI n, vat, mLb, vC, mUs, mWr, mDk, mCp) p1 p2 rfl
    exact ⟨_, e, n, C, vat, ars, vO', t, mLb, mUs, mWr, mDk, mCp, rfl, J⟩
  rw [if_neg h2]
  by_cases h3 : o = 3
  · rw [if_pos h3]
    obtain ⟨vO', t, ars', mUs', e, e1, e2⟩ := pj_3 (n, vC, vat, ars) vO (m1, nI n, vat, mLb, vC, mUs, mWr, mDk, mCp) p1 p2 J.hn rfl rfl J.lb J.us
    exact ⟨_, e, n, vC, vat, ars', vO', t, mLb, mUs', mWr, mDk, mCp, rfl, J.users e1 e2⟩
  rw [if_neg h3]
  by_cases h4 : o = 4
  · rw [if_pos h4]
    obtain ⟨vO', t, ars', mUs', e, e1, e2⟩ := pj_4 (n, vC, vat, ars) vO (m1, nI n, vat, mLb, vC, mUs, mWr, mDk, mCp) p1 J.hn J.us
    exact ⟨_, e, n, vC, vat, ars', vO', t, mLb, mUs', mWr, mDk, mCp, rfl, J.users e1 e2⟩
  rw [if_neg h4]
  by_cases h5 : o = 5
  · rw [if_pos h5]
    exact (pj_5 n vC vat ars vO m1 mLb vC mUs mWr mDk mCp p1 p2 p3 J).jj
  rw [if_neg h5]
  by_cases h6 : o = 6
  · rw [if_pos h6]
    exact (pj_6 n vC vat ars vO m1 mLb vC mUs mWr mDk mCp p1 p2 p3 p4 J).jj
  rw [if_neg h6]
  by_cases h7 : o = 7
  · rw [if_pos h7]
    exact (pj_7 n vC vat ars vO m1 mLb vC mUs mWr mDk mCp p1 p2 p3 J).jj
  rw [if_neg h7]
  by_cases h8 : o = 8
  · rw [if_pos h8]
    exact (pj_8 n vC vat ars vO m1 mLb vC mUs mWr mDk mCp p1 p2 J).jj
  rw [if_neg h8]
  by_cases h9 : o = 9
  · rw [if_pos h9]
    exact (pj_9 n vC vat ars vO m1 mLb vC mUs mWr mDk mCp p1 p2 p3 J).jj
  rw [if_neg h9]
  by_cases h10 : o = 10
  · rw [if_pos h10]
    obtain ⟨vO', t, C, e⟩ := pj_10 (n, vC, vat, ars) vO (m1, nI n, vat, mLb, vC, mUs, mWr, mDk, mCp) p1 p2 p3 p4 rfl J.us J.sk J.pi
    exact ⟨_, e, same _ _ _⟩
  rw [if_neg h10]
  by_cases h11 : o = 11
  · rw [if_pos h11]
    obtain ⟨vO', t, e⟩ := pj_11 (n, vC, vat, ars) vO (m1, nI n, vat, mLb, vC, mUs, mWr, mDk, mCp) p1 p2 rfl J.us J.sk
    exact ⟨_, e, same _ _ _⟩
  rw [if_neg h11]
  by_cases h12 : o = 12
  · rw [if_pos h12]
    obtain ⟨vO', t, e⟩ := pj_12 (n, vC, vat, ars) vO (m1, nI n, vat, mLb, vC, mUs, mWr, mDk, mCp) p1 p2 rfl J.us J.sk
    exact ⟨_, e, same _ _ _⟩
  rw [if_neg h12]
  by_cases h13 : o = 13
  · rw [if_pos h13]
    obtain ⟨vO', t, e⟩ := pj_13 (n, vC, vat, ars) vO (m1, nI n, vat, mLb, vC, mUs, mWr, mDk, mCp) p1 p2 p3 rfl J.us J.sk
    exact ⟨_, e, same _ _ _⟩
  rw [if_neg h13]
  by_cases h14 : o = 14
  · rw [if_pos h14]
    obtain ⟨t, ars', mUs', e, e1, e2⟩ := pj_14 (n, vC, vat, ars) vO (m1, nI n, vat, mLb, vC, mUs, mWr, mDk, mCp) J.hn J.us J.mkd
    exact ⟨_, e, n, vC, -1, ars', vO, t, mLb, mUs', mWr, mDk, mCp, rfl, J.crash e1 e2⟩
  rw [if_neg h14]
  by_cases h15 : o = 15
  · rw [if_pos h15]
    obtain ⟨vO', t, w, e, e1⟩ := pj_15 (n, vC, vat, ars) vO (m1, nI n, vat, mLb, vC, mUs, mWr, mDk, mCp) p1 rfl J.fuv
    exact ⟨_, e, n, vC, w, ars, vO', t, mLb, mUs, mWr, mDk, mCp, rfl, J.fuse e1⟩
  rw [if_neg h15]
  by_cases h16 : o = 16
  · rw [if_pos h16]
    obtain ⟨vO', t, e⟩ := pj_16 (n, vC, vat, ars) vO (m1, nI n, vat, mLb, vC, mUs, mWr, mDk, mCp) p1 p2 p3 J.hn rfl J.pl
    exact ⟨_, e, same _ _ _⟩
  rw [if_neg h16]
  by_cases h17 : o = 17
  · rw [if_pos h17]
    obtain ⟨t, e⟩ := pj_17 (n, vC, vat, ars) vO (m1, nI n, vat, mLb, vC, mUs, mWr, mDk, mCp) p1 p2 J.hn rfl J.lb J.us J.wr J.dr (fun a ha => n_of20 (J.pi a ha).map)
    exact ⟨_, e, same _ _ _⟩
  rw [if_neg h17]
  by_cases h18 : o = 18
  · rw [if_pos h18]
    obtain ⟨t, e⟩ := pj_18 (n, vC, vat, ars) vO (m1, nI n, vat, mLb, vC, mUs, mWr, mDk, mCp) p1 J.hn J.us
    exact ⟨_, e, same _ _ _⟩
  rw [if_neg h18]
  by_cases h19 : o = 19
  · rw [if_pos h19]
    obtain ⟨t, e⟩ := pj_19 (n, vC, vat, ars) vO (m1, nI n, vat, mLb, vC, mUs, mWr, mDk, mCp) rfl
    exact ⟨_, e, same _ _ _⟩
  rw [if_neg h19]
  exact ⟨_, rfl, same _ _ _⟩
