theorem q_abN {mar : Int32} {mLb mUs mWr mDk : Nat → Int32} {a : Nat} (ha : a < 6) {t : Int32} : ∀ d i, i + d = 4 → ∀ f, d < f → ∀ c : Int32, jv_fx (f_M_about_85 mar mLb mUs mWr mDk (nI a) t) f (c, nI (4 * a + i)) = some (c + nI (pcnt mUs (4 * a + i) d), t) := by
  intro d
  induction d with
  | zero =>
    intro i hi f hf c
    obtain ⟨f, rfl⟩ : ∃ f', f = f' + 1 := ⟨f - 1, by omega⟩
    rw [jv_fx_s]
    unfold f_M_about_85
    have e : (4 : Int32) * nI a + (4 : Int32) = nI (4 * a + 4) := by rw [show (4 : Int32) = nI 4 from rfl, q_mul, nI_add]
    simp only [e, q_le (a := 4 * a + 4) (b := 4 * a + i) (by omega) (by omega), if_pos (show 4 * a + 4 ≤ 4 * a + i by omega)]
    rw [show pcnt mUs (4 * a + i) 0 = 0 from rfl, show nI 0 = (0 : Int32) from rfl, Int32.add_zero]
  | succ d ih =>
    intro i hi f hf c
    obtain ⟨f, rfl⟩ : ∃ f', f = f' + 1 := ⟨f - 1, by omega⟩
    have ihh := fun c => ih (i + 1) (by omega) f (by omega) c
    rw [jv_fx_s]
    generalize jv_fx (f_M_about_85 mar mLb mUs mWr mDk (nI a) t) f = kk at ihh ⊢
    unfold f_M_about_85
    have e : (4 : Int32) * nI a + (4 : Int32) = nI (4 * a + 4) := by rw [show (4 : Int32) = nI 4 from rfl, q_mul, nI_add]
    simp only [e, q_le (a := 4 * a + 4) (b := 4 * a + i) (by omega) (by omega), if_neg (show ¬ 4 * a + 4 ≤ 4 * a + i by omega), q_ga (f := mUs) (n := 24) (k := 4 * a + i) (by omega) (by omega), Option.bind_some, nI_1]
    rw [show 4 * a + (i + 1) = 4 * a + i + 1 by omega] at ihh
    rw [ihh, ihh]
    by_cases h : mUs (4 * a + i) ≤ 0
    · rw [if_pos h, show pcnt mUs (4 * a + i) (d + 1) = 0 + pcnt mUs (4 * a + i + 1) d by show (if mUs (4 * a + i) ≤ 0 then 0 else 1) + _ = _; rw [if_pos h], Nat.zero_add, Int32.add_zero]
    · rw [if_neg h, show pcnt mUs (4 * a + i) (d + 1) = 1 + pcnt mUs (4 * a + i + 1) d by show (if mUs (4 * a + i) ≤ 0 then 0 else 1) + _ = _; rw [if_neg h], Int32.add_assoc, show (1 : Int32) = nI 1 from rfl, nI_add]
theorem pj_17 (S : jv_vs) (vO : Nat → Int64) (M : jv_ms) (p1 p2 : Int32) (hn : S.1 ≤ 6) (hmar : M.2.1 = nI S.1) (hLb : ∀ a, a < S.1 → (S.2.2.2 a).1 = M.2.2.2.1 a) (hU : pU S.1 S.2.2.2 M.2.2.2.2.2.1) (hWr : ∀ a, a < S.1 → (S.2.2.2 a).2.2.2.2.2.2.2 = M.2.2.2.2.2.2.1 a) (hD : ∀ a, a < S.1 → ∀ w, w < 232 → (S.2.2.2 a).2.2.2.1 w = M.2.2.2.2.2.2.2.1 (232 * a + w)) (hm : ∀ a, a < S.1 → ∃ k, k < 2 ^ 20 ∧ (S.2.2.2 a).2.2.2.1 0 = nI k) :
    ∃ t : Int32, s_17 S vO M p1 p2 = some (S, vO, t, M.2) := by
  obtain ⟨n, vC, vat, ars⟩ := S
  obtain ⟨m1, m2, m3, mLb, m5, mUs, mWr, mDk, mCp⟩ := M
  have hn2 : n ≤ 6 := hn
  have hm2 : m2 = nI n := hmar
  replace hLb : ∀ a, a < n → (ars a).1 = mLb a := hLb
  replace hU : pU n ars mUs := hU
  replace hWr : ∀ a, a < n → (ars a).2.2.2.2.2.2.2 = mWr a := hWr
  replace hD : ∀ a, a < n → ∀ w, w < 232 → (ars a).2.2.2.1 w = mDk (232 * a + w) := hD
  replace hm : ∀ a, a < n → ∃ k, k < 2 ^ 20 ∧ (ars a).2.2.2.1 0 = nI k := hm
  clear hmar hn
  subst hm2
  unfold s_17 f_V_about f_V_about_0 f_M_about f_M_about_0
  simp only [q_hasArea hn2]
  rcases q_isAreav hn2 p1 with h | ⟨h, a, ha, rfl⟩
  · simp only [h, Option.bind_some, if_true]
    exact ⟨_, rfl⟩
  · obtain ⟨k, hk, hk2⟩ := hm a ha
    have c1 := q_cf hk hk2
    have c2 := q_fb (a := a) (by omega) hk ((hD a ha 0 (by omega)).symm.trans hk2)
    obtain ⟨r, c3, c4⟩ := q_freeN (a := a) (by omega) (hD a ha) 8 0 rfl 300 300 (by omega) (by omega) 0
    replace c3 : f_T_countFree (ars a).2.2.2.1 = some r := c3
    replace c4 : f_M_freeInodes mDk (nI a) = some r := c4
    have c5 := q_cnt (a := a) (fun i hi => hU.1 a i ha hi)
    have c6 := q_abN (mar := nI n) (mLb := mLb) (mUs := mUs) (mWr := mWr) (mDk := mDk) (a := a) (by omega) (t := 0) 4 0 rfl 300 (by omega) 0
    rw [Nat.add_zero, Int32.zero_add, show nI (4 * a) = (4 : Int32) * nI a from (q_mul 4 a).symm] at c6
    simp only [h, Option.bind_some, p10, if_false, q_gi (n := 6) (k := a) (by omega) (by omega), if_pos ha, c1, c2, c3, c4, c5, c6, q_ga (n := 6) (k := a) (by omega) (by omega), hLb a ha, hWr a ha]
    by_cases h0 : p2 = 0
    · simp only [if_pos h0, Option.bind_some, if_true]; exact ⟨_, rfl⟩
    · by_cases h1 : p2 = 1
      · simp only [if_neg h0, if_pos h1, Option.bind_some, if_true]; exact ⟨_, rfl⟩
      · by_cases h2 : p2 = 2
        · simp only [if_neg h0, if_neg h1, if_pos h2, Option.bind_some, if_true]; exact ⟨_, rfl⟩
        · by_cases h3 : p2 = 3
          · simp only [if_neg h0, if_neg h1, if_neg h2, if_pos h3, Option.bind_some, if_true]; exact ⟨_, rfl⟩
          · by_cases h4 : p2 = 4
            · simp only [if_neg h0, if_neg h1, if_neg h2, if_neg h3, if_pos h4, Option.bind_some, if_true]; exact ⟨_, rfl⟩
            · simp only [if_neg h0, if_neg h1, if_neg h2, if_neg h3, if_neg h4, Option.bind_some, if_true]; exact ⟨_, rfl⟩
