/-! remove(): the law's case -/
theorem va_up2 {α : Type} (f : Nat → α) (k : Nat) (x y : α) : va_up (va_up f k x) k y = va_up f k y := by
  funext j
  by_cases h : j = k
  · rw [h, va_up_self, va_up_self]
  · rw [va_up_ne _ _ h, va_up_ne _ _ h, va_up_ne _ _ h]
/-- a step whose end holds what holds between calls -/
def jR (n : Nat) (vC : Nat → Int32) (mLb mCl : Nat → Int32) (x : Option jv_st) : Prop := ∃ (vat : Int32) (ars : Nat → jv_ar) (vO : Nat → Int64) (t : Int32) (mUs mWr mDk C : Nat → Int32), x = some ((n, vC, vat, ars), vO, t, nI n, vat, mLb, mCl, mUs, mWr, mDk, C) ∧ Jd n vat ars mLb mUs mWr mDk
theorem q_br {r : List Nat} (h : gpt r) : (r = [] ∧ nI (enc r) = 0 ∧ f_P_isBelowRoot (nI (enc r)) = some 0) ∨ (r ≠ [] ∧ (nI (enc r) = 0) = False ∧ f_P_isBelowRoot (nI (enc r)) = some 1) := by
  have hl := enc_lt20 h
  have e0 : (nI (enc r) = 0) = (enc r = 0) := q_eq (b := 0) (by omega) (by omega)
  unfold f_P_isBelowRoot f_P_isBelowRoot_0
  by_cases hr : r = []
  · subst hr
    exact Or.inl ⟨rfl, rfl, rfl⟩
  · have h0 : ¬ enc r = 0 := fun z => hr (List.length_eq_zero_iff.mp ((enc_0 h.2).mp z))
    refine Or.inr ⟨hr, by rw [e0]; exact eq_false h0, ?_⟩
    rw [if_neg (by rw [e0]; exact h0), q_ip1 h, Option.bind_some, if_neg (by decide)]
theorem q_br0 {p : Int32} (h : f_P_isPath p = some 0) : f_P_isBelowRoot p = some 0 := by
  unfold f_P_isBelowRoot f_P_isBelowRoot_0
  by_cases hp : p = 0
  · rw [if_pos hp]
  · rw [if_neg hp, h]; rfl
theorem q_rf0 {mar : Int32} {mLb mUs mDk : Nat → Int32} {s p : Int32} (h : f_M_isSession mUs s = some 0) : f_M_refusal mar mLb mUs mDk s p = some 1 := by
  unfold f_M_refusal f_M_refusal_0; rw [h]; rfl
theorem q_rf1 {mar : Int32} {mLb mUs mDk : Nat → Int32} {s p : Int32} (h : f_M_isSession mUs s = some 1) (g : f_M_isPath p = some 0) : f_M_refusal mar mLb mUs mDk s p = some 1 := by
  unfold f_M_refusal f_M_refusal_0; rw [h, Option.bind_some, if_neg (by decide), g]; rfl
theorem Fnd.ne {D : Nat → Int32} {r : List Nat} {i : Nat} (hr : r ≠ []) (h : Fnd D r i) : 1 ≤ i := by
  cases r with
  | nil => exact absurd rfl hr
  | cons x r => obtain ⟨p, _, h2⟩ := h; exact h2.1
theorem pj_8 (n : Nat) (vC : Nat → Int32) (vat : Int32) (ars : Nat → jv_ar) (vO : Nat → Int64) (m1 : Int32) (mLb mCl mUs mWr mDk mCp : Nat → Int32) (p1 p2 : Int32) (J : Jd n vat ars mLb mUs mWr mDk) : jR n vC mLb mCl (s_8 (n, vC, vat, ars) vO (m1, nI n, vat, mLb, mCl, mUs, mWr, mDk, mCp) p1 p2) := by
  have hn := J.hn
  have hR : ∀ (e : Nat) (p : Int32), 1 ≤ e → e ≤ 4 → f_M_remove_15 (nI n) mLb p1 p (nI e) m1 vat mUs mWr mDk mCp = some (0, nI e, vat, mUs, mWr, mDk, mCp) := fun e p h1 h2 => by
    unfold f_M_remove_15 f_M_remove_50 f_M_remove_90
    simp only [eq_false (nI_ne0 (n := e) (by omega) (by omega)), if_false, eq_false (nI_nle (n := e) (by omega) (by omega))]
  have hR1 : ∀ p : Int32, f_M_remove_15 (nI n) mLb p1 p 1 m1 vat mUs mWr mDk mCp = some (0, 1, vat, mUs, mWr, mDk, mCp) := fun p => hR 1 p (by omega) (by omega)
  have hR2 : ∀ p : Int32, f_M_remove_15 (nI n) mLb p1 p 2 m1 vat mUs mWr mDk mCp = some (0, 2, vat, mUs, mWr, mDk, mCp) := fun p => hR 2 p (by omega) (by omega)
  have hR3 : ∀ p : Int32, f_M_remove_15 (nI n) mLb p1 p 3 m1 vat mUs mWr mDk mCp = some (0, 3, vat, mUs, mWr, mDk, mCp) := fun p => hR 3 p (by omega) (by omega)
  unfold s_8 l_remove f_V_remove f_V_remove_0 f_M_remove f_M_remove_0 f_M_thrown f_M_thrown_0
  rcases q_areaO hn J.us p1 with ⟨h1, h2⟩ | ⟨b, s, hb, hs, rfl, h1, h2, h3⟩
  · simp only [h1, Option.bind_some, jv_se, if_true, q_rf0 h2, hR1]
    by_cases h0 : p2 = 0
    · simp only [if_pos h0, Option.bind_some, if_true, p10, if_false]
      exact ⟨_, _, _, _, _, _, _, _, rfl, J⟩
    · simp only [if_neg h0, Option.bind_some, if_true, p10, if_false]
      exact ⟨_, _, _, _, _, _, _, _, rfl, J⟩
  · simp only [h1, Option.bind_some, jv_se, if_pos hb]
    rcases q_path2 p2 with ⟨g1, g2⟩ | ⟨r, hr, rfl, g1, g2⟩
    · simp only [q_br0 g1, Option.bind_some, q_dm0, if_true, q_rf1 h2 g2, hR1]
      by_cases h0 : p2 = 0
      · simp only [if_pos h0, Option.bind_some, if_true, p10, if_false]
        exact ⟨_, _, _, _, _, _, _, _, rfl, J⟩
      · simp only [if_neg h0, Option.bind_some, if_true, p10, if_false]
        exact ⟨_, _, _, _, _, _, _, _, rfl, J⟩
    · rcases q_br hr with ⟨r0, r1, r2⟩ | ⟨r0, r1, r2⟩
      · simp only [r2, Option.bind_some, q_dm0, if_true, hR1, r1, p10, if_false]
        exact ⟨_, _, _, _, _, _, _, _, rfl, J⟩
      · simp only [r2, Option.bind_some, q_dm1, r1, if_false]
        rcases q_own J.sk hb hs hr h2 g2 with ⟨o1, o2⟩ | ⟨o1, o2⟩ | ⟨i, hi, fi, o1, o2, o3, o4⟩
        · simp only [o1, o2, Option.bind_some, hR2]
          exact ⟨_, _, _, _, _, _, _, _, rfl, J⟩
        · simp only [o1, o2, Option.bind_some, hR3]
          exact ⟨_, _, _, _, _, _, _, _, rfl, J⟩
        · have T := J.ti b hb
          have P := J.pi b hb
          obtain ⟨Y, y1, y2⟩ := q_co1 T hi
          obtain ⟨z, z1, z2, z3⟩ := q_hc (a := b) (by omega) (J.dr b hb) T i
          obtain ⟨-, -, -, w0, -⟩ := q_pw (a := b) (by omega) (J.dr b hb) hi
          simp only [o1, o2, Option.bind_some, y1]
          unfold f_M_remove_15 f_M_remove_50
          simp only [if_true, h3, o3, Option.bind_some, w0, z3]
          by_cases hc : hasC (ars b).2.2.2.1 i
          · have hk : kd (ars b).2.2.2.1 i = 1 := by
              obtain ⟨k, k1, k2, k3, k4⟩ := hc
              obtain ⟨p, p1, p2, p3⟩ := T.par k k1 k2 k3
              rw [(nI_eq (by omega) (by omega)).mp (k4.symm.trans p2)]
              exact p3
            have hz0 : ¬ z = 0 := fun h => (z2.mp h) hc
            have hy0 : ¬ Y = 0 := fun h => (y2.mp h) hc
            simp only [if_neg hy0, if_pos hk, if_neg hz0]
            exact ⟨_, _, _, _, _, _, _, _, rfl, J⟩
          · have hz0 : z = 0 := z2.mpr hc
            have hy0 : Y = 0 := y2.mpr hc
            obtain ⟨C, c1, c2⟩ := q_st (mDk := mDk) (a := b) (by omega) mCp
            have ec : eqd (ars b).2.2.2.1 C := fun w hw => by rw [J.dr b hb w hw, c2 w hw]
            obtain ⟨E, F, e1, e2, e3⟩ := q_rmV P.pb hi
            obtain ⟨C', d1, d2⟩ := q_rmM (mar := nI n) (fu := vat) (t := 0) (mLb := mLb) (mUs := mUs) (mWr := mWr) (mDk := mDk) (a := b) (P.congr ec).pb hi
            obtain ⟨ans', vat', ars', mUs', mWr', mDk', x1, x2, x3⟩ := q_fin J hb (rmD.ti T (Fnd.ne r0 fi) hi hc e3) (rmD.pi P hi e3) (rmD.fn ec hi e3 d2) (nI i)
            have hm : f_M_remove_90 (nI n) mLb (nI b) (nI i) 0 0 vat mUs mWr mDk mCp = some (ans', 0, vat', mUs', mWr', mDk', C') := by
              unfold f_M_remove_90
              rw [if_pos (by decide), c1, Option.bind_some, d1, x2]
              rfl
            simp only [if_pos hy0, e1, Option.bind_some, jv_lt, va_up_self, e2, va_up2]
            have x1' := x1
            simp only [wD] at x1'
            simp only [x1', Option.bind_some, if_pos hz0, hm, ite_self, if_true, q_out]
            exact ⟨_, _, _, _, _, _, _, _, rfl, x3⟩
