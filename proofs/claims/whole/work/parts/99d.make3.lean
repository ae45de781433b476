/-! make(): the law's case -/
theorem isK.fn {D : Nat → Int32} (T : TI D) {r : List Nat} {v w : Int32} (h : isK D r v) (g : isK D r w) : v = w := by
  rcases h with ⟨i, -, h1, rfl⟩ | ⟨h1, rfl⟩ <;> rcases g with ⟨j, -, g1, rfl⟩ | ⟨g1, rfl⟩
  · rw [h1.uniq T g1]
  · exact absurd h1 (g1 i)
  · exact absurd g1 (h1 j)
  · rfl
theorem q_hfN {D : Nat → Int32} (T : TI D) {r : List Nat} (hr : gpt r) : ∀ d i, i + d = 4 → ∀ f, d < f → ∃ y : Int32, (y = 0 ∨ y = 1) ∧ (y = 0 ↔ ∀ k, i ≤ k → k < 4 → ¬ isK D (r.drop k) 2) ∧ jv_fx (f_T_hasFileAbove_2 D (nI (enc r))) f (nI i) = some y := by
  intro d
  induction d with
  | zero =>
    intro i hi f hf
    obtain ⟨f, rfl⟩ : ∃ f', f = f' + 1 := ⟨f - 1, by omega⟩
    obtain rfl : i = 4 := by omega
    exact ⟨0, Or.inl rfl, ⟨fun _ k h1 h2 => by omega, fun _ => rfl⟩, rfl⟩
  | succ d ih =>
    intro i hi f hf
    obtain ⟨f, rfl⟩ : ∃ f', f = f' + 1 := ⟨f - 1, by omega⟩
    have h4 : ((4 : Int32) ≤ nI i) = (4 ≤ i) := q_le (a := 4) (by omega) (by omega)
    obtain ⟨v, v1, v2, -⟩ := q_kd (D := D) (mDk := D) (a := 0) (by omega) (fun w _ => by rw [Nat.mul_zero, Nat.zero_add]) T (hr.drop i)
    obtain ⟨y, y1, y2, y3⟩ := ih (i + 1) (by omega) f (by omega)
    rw [jv_fx_s]
    generalize jv_fx (f_T_hasFileAbove_2 D (nI (enc r))) f = kk at y3 ⊢
    unfold f_T_hasFileAbove_2
    simp only [h4, if_neg (show ¬ 4 ≤ i by omega), q_wo hr (show i < 5 by omega), Option.bind_some, v2, nI_1, y3]
    by_cases h : v = 2
    · subst h
      rw [if_pos rfl]
      exact ⟨1, Or.inr rfl, ⟨fun z => absurd z (by decide), fun z => absurd v1 (z i (Nat.le_refl _) (by omega))⟩, rfl⟩
    · rw [if_neg h]
      refine ⟨y, y1, y2.trans ⟨fun z k h1 h2 g => ?_, fun z k h1 h2 => z k (by omega) h2⟩, rfl⟩
      by_cases hk : k = i
      · rw [hk] at g; exact h (isK.fn T v1 g)
      · exact z k (by omega) h2 g
theorem q_hf {D : Nat → Int32} (T : TI D) {r : List Nat} (hr : gpt r) : ∃ y : Int32, (y = 0 ∨ y = 1) ∧ (y = 0 ↔ ∀ k, 1 ≤ k → k < 4 → ¬ isK D (r.drop k) 2) ∧ f_T_hasFileAbove D (nI (enc r)) = some y := q_hfN T hr 3 1 rfl 300 (by omega)
section
variable {mar fu t kind s par : Int32} {mLb mUs mWr mDk mCp : Nat → Int32} {a : Nat}
theorem q_81 {D : Nat → Int32} (ha : a < 6) (hD : ∀ w, w < 232 → D w = mDk (232 * a + w)) (T : TI D) {r : List Nat} (hr : gpt r) {j p : Nat} (hj : j ≤ r.length) (hp : Fnd D (r.drop j) p) (hno : ∀ k, k < j → ∀ i, ¬ Fnd D (r.drop k) i) : ∀ d k, k + d = r.length → 1 ≤ k → ∀ f, d < f → ∀ bl : Int32, (bl = 0 ∨ bl = 1) → ∃ (bl' : Int32) (f' : Nat), (bl' = 0 ∨ bl' = 1) ∧ (bl' = 0 ↔ (bl = 0 ∧ ∀ i, 1 ≤ i → i ≤ r.length - k → ¬ isK D (r.drop i) 2)) ∧ jv_fx (f_M_make_81 mar mLb s (nI (enc r)) kind (nI a) (nI r.length) par t fu mUs mWr mDk mCp) f (bl, nI (1 + ((k - 1) - (r.length - j))), nI k) = jv_fx (f_M_make_81 mar mLb s (nI (enc r)) kind (nI a) (nI r.length) par t fu mUs mWr mDk mCp) (f' + 1) (bl', nI (1 + ((r.length - 1) - (r.length - j))), nI r.length) := by
  intro d
  have hl := hr.1
  induction d with
  | zero =>
    intro k hk h1 f hf bl hbl
    obtain ⟨f, rfl⟩ : ∃ f', f = f' + 1 := ⟨f - 1, by omega⟩
    obtain rfl : k = r.length := by omega
    exact ⟨bl, f, hbl, ⟨fun z => ⟨z, fun i h1 h2 => by omega⟩, fun z => z.1⟩, rfl⟩
  | succ d ih =>
    intro k hk h1 f hf bl hbl
    obtain ⟨f, rfl⟩ : ∃ f', f = f' + 1 := ⟨f - 1, by omega⟩
    obtain ⟨v, v1, -, v3⟩ := q_kd ha hD T (hr.drop (r.length - k))
    have hms : nI (1 + (k - 1 - (r.length - j))) + (if v = 0 then 1 else 0) = nI (1 + (k + 1 - 1 - (r.length - j))) := by
      by_cases hf2 : r.length - k < j
      · have hv : v = 0 := by
          rcases v1 with ⟨i, -, i1, -⟩ | ⟨-, i2⟩
          · exact absurd i1 (hno _ hf2 i)
          · exact i2
        rw [if_pos hv, nI_1]
        congr 1
        omega
      · have hv : v ≠ 0 := by
          obtain ⟨q, hq⟩ := hp.ups (r.length - k - j) (by omega)
          rw [show j + (r.length - k - j) = r.length - k by omega] at hq
          rcases v1 with ⟨i, -, i1, i2⟩ | ⟨i1, -⟩
          · rw [i2]; exact Fnd.kd0 T i1
          · exact absurd hq (i1 q)
        rw [if_neg hv, Int32.add_zero]
        congr 1
        omega
    have step : ∀ b2 : Int32, f_M_make_118 mar mLb (jv_fx (f_M_make_81 mar mLb s (nI (enc r)) kind (nI a) (nI r.length) par t fu mUs mWr mDk mCp) f) s (nI (enc r)) kind (nI a) (nI r.length) par (nI (1 + (k - 1 - (r.length - j)))) (nI k) v b2 t fu mUs mWr mDk mCp = jv_fx (f_M_make_81 mar mLb s (nI (enc r)) kind (nI a) (nI r.length) par t fu mUs mWr mDk mCp) f (b2, nI (1 + (k + 1 - 1 - (r.length - j))), nI (k + 1)) := fun b2 => by
      unfold f_M_make_118
      rw [nI_1 k, ← hms]
      by_cases hv : v = 0
      · rw [if_pos hv, if_pos hv]
      · rw [if_neg hv, if_neg hv]
    have hlt : (nI r.length ≤ nI k) = (r.length ≤ k) := q_le (by omega) (by omega)
    have hun : ∀ b2 : Int32, ((bl = 0 → v ≠ 2 → b2 = 0) ∧ (bl = 0 → v = 2 → b2 = 1) ∧ (bl ≠ 0 → b2 = 1)) → jv_fx (f_M_make_81 mar mLb s (nI (enc r)) kind (nI a) (nI r.length) par t fu mUs mWr mDk mCp) (f + 1) (bl, nI (1 + ((k - 1) - (r.length - j))), nI k) = jv_fx (f_M_make_81 mar mLb s (nI (enc r)) kind (nI a) (nI r.length) par t fu mUs mWr mDk mCp) f (b2, nI (1 + (k + 1 - 1 - (r.length - j))), nI (k + 1)) := fun b2 hb2 => by
      rw [← step b2, jv_fx_s]
      generalize jv_fx (f_M_make_81 mar mLb s (nI (enc r)) kind (nI a) (nI r.length) par t fu mUs mWr mDk mCp) f = kk
      conv => lhs; unfold f_M_make_81
      simp only [hlt, if_neg (show ¬ r.length ≤ k by omega), q_pf hr (show k ≤ r.length by omega), Option.bind_some, v3]
      by_cases h0 : bl = 0
      · rw [if_pos h0]
        by_cases h2 : v = 2
        · rw [if_pos h2, hb2.2.1 h0 h2]
        · rw [if_neg h2, hb2.1 h0 h2]
      · rw [if_neg h0, hb2.2.2 h0]
    have hrange : ∀ i, i ≤ r.length - k ↔ (i ≤ r.length - (k + 1) ∨ i = r.length - k) := fun i => by omega
    by_cases hb : bl = 0 ∧ v ≠ 2
    · obtain ⟨bl', f', g1, g2, g3⟩ := ih (k + 1) (by omega) (by omega) f (by omega) 0 (Or.inl rfl)
      refine ⟨bl', f', g1, g2.trans ⟨fun z => ⟨hb.1, fun i i1 i2 => ?_⟩, fun z => ⟨rfl, fun i i1 i2 => z.2 i i1 (by omega)⟩⟩, ?_⟩
      · rcases (hrange i).mp i2 with h | h
        · exact z.2 i i1 h
        · rw [h]; exact fun y => hb.2 (isK.fn T v1 y)
      · rw [hun 0 ⟨fun _ _ => rfl, fun _ z => absurd z hb.2, fun z => absurd hb.1 z⟩, g3]
    · obtain ⟨bl', f', g1, g2, g3⟩ := ih (k + 1) (by omega) (by omega) f (by omega) 1 (Or.inr rfl)
      refine ⟨bl', f', g1, g2.trans ⟨fun z => absurd z.1 (by decide), fun z => ?_⟩, ?_⟩
      · exfalso
        apply hb
        refine ⟨z.1, fun h => ?_⟩
        rw [h] at v1
        exact z.2 (r.length - k) (by omega) (Nat.le_refl _) v1
      · rw [hun 1 ⟨fun h1 h2 => absurd ⟨h1, h2⟩ hb, fun _ _ => rfl, fun _ => rfl⟩, g3]
end
theorem p_41i : ((4 : Int32) ≤ 0) = False := by decide
theorem pj_5 (n : Nat) (vC : Nat → Int32) (vat : Int32) (ars : Nat → jv_ar) (vO : Nat → Int64) (m1 : Int32) (mLb mCl mUs mWr mDk mCp : Nat → Int32) (p1 p2 p3 : Int32) (J : Jd n vat ars mLb mUs mWr mDk) : jR n vC mLb mCl (s_5 (n, vC, vat, ars) vO (m1, nI n, vat, mLb, mCl, mUs, mWr, mDk, mCp) p1 p2 p3) := by
  have hn := J.hn
  unfold s_5 l_make f_V_make f_V_make_0 f_M_make f_M_make_0 f_M_thrown f_M_thrown_0
  have hX : ∀ q v k A B, f_V_make_29 n q v 0 k A B = some (.inl 1) := fun q v k A B => rfl
  rcases q_areaO hn J.us p1 with ⟨h1, h2⟩ | ⟨b, s, hb, hs, rfl, h1, h2, h3⟩
  · simp only [h1, h2, Option.bind_some, jv_se, if_true]
    exact ⟨_, _, _, _, _, _, _, _, rfl, J⟩
  · simp only [h1, h2, Option.bind_some, jv_se, if_pos hb, p10, if_false]
    rcases q_path2 p2 with ⟨g1, g2⟩ | ⟨r, hr, rfl, g1, g2⟩
    · simp only [q_br0 g1, g2, Option.bind_some, if_true, hX]
      exact ⟨_, _, _, _, _, _, _, _, rfl, J⟩
    · rcases q_br hr with ⟨r0, r1, r2⟩ | ⟨r0, r1, r2⟩
      · simp only [r2, g2, Option.bind_some, if_true, hX, r1, p10, if_false]
        exact ⟨_, _, _, _, _, _, _, _, rfl, J⟩
      · simp only [r2, g2, Option.bind_some, p10, if_false, r1]
        have hkd : (p3 = 1 ∨ p3 = 2) ∨ (¬ p3 = 1 ∧ ¬ p3 = 2) := by
          by_cases h : p3 = 1
          · exact Or.inl (Or.inl h)
          · by_cases h' : p3 = 2
            · exact Or.inl (Or.inr h')
            · exact Or.inr ⟨h, h'⟩
        rcases hkd with hkd | ⟨k1, k2⟩
        · have ev : (if p3 = 1 then f_V_make_29 n (nI (enc r)) p3 1 b vat ars else if p3 = 2 then f_V_make_29 n (nI (enc r)) p3 1 b vat ars else f_V_make_29 n (nI (enc r)) p3 0 b vat ars) = f_V_make_29 n (nI (enc r)) p3 1 b vat ars := by
            rcases hkd with h | h
            · rw [if_pos h]
            · rw [if_neg (by rw [h]; decide), if_pos h]
          have em : (if p3 = 1 then f_M_make_36 (nI n) mLb (nI (4 * b + s)) (nI (enc r)) p3 m1 vat mUs mWr mDk mCp else if p3 = 2 then f_M_make_36 (nI n) mLb (nI (4 * b + s)) (nI (enc r)) p3 m1 vat mUs mWr mDk mCp else some (0, 1, vat, mUs, mWr, mDk, mCp)) = f_M_make_36 (nI n) mLb (nI (4 * b + s)) (nI (enc r)) p3 m1 vat mUs mWr mDk mCp := by
            rcases hkd with h | h
            · rw [if_pos h]
            · rw [if_neg (by rw [h]; decide), if_pos h]
          rw [ev, em]
          have T := J.ti b hb
          have P := J.pi b hb
          have K := J.sk
          have hl := hr.1
          have hpos : 1 ≤ r.length := by
            cases r with
            | nil => exact absurd rfl r0
            | cons x r => show 1 ≤ r.length + 1; omega
          have hl20 := enc_lt20 hr
          have hpar : f_P_parentOf (nI (enc r)) = some (nI (enc (r.drop 1))) := by
            unfold f_P_parentOf f_P_parentOf_0
            rw [n_s5 (by omega), ← enc_drop 1 r hr.2]
          obtain ⟨c, c1, c2, c3, c4⟩ := q_ks K hb hs (hr.drop 1)
          obtain ⟨hfv, hf1, hf2, hf3⟩ := q_hf T hr
          obtain ⟨v, v1, v2, v3⟩ := q_kd (a := b) (by omega) (J.dr b hb) T hr
          obtain ⟨w, w1, w2, w3⟩ := q_mf (a := b) (by omega) (J.dr b hb) T hr
          obtain ⟨j, p, j1, j2, j3⟩ := lvl (D := (ars b).2.2.2.1) r
          have hsb : sb1 c = 0 ∨ sb1 c = 1 := (sb_v0 c).2
          have hpf := q_pf hr (k := r.length - 1) (by omega)
          rw [show r.length - (r.length - 1) = 1 by omega] at hpf
          have hsub : nI r.length - (1 : Int32) = nI (r.length - 1) := by rw [show (1 : Int32) = nI 1 from rfl, q_sub hpos (by omega)]
          -- the reference's loop
          have hloop : ∃ (bl : Int32) (f' : Nat), (bl = 0 ∨ bl = 1) ∧ (bl = 0 ↔ (sb1 c ≠ 0 ∧ ∀ i, 1 ≤ i → i ≤ r.length - 1 → ¬ isK (ars b).2.2.2.1 (r.drop i) 2)) ∧ f_M_make_36 (nI n) mLb (nI (4 * b + s)) (nI (enc r)) p3 m1 vat mUs mWr mDk mCp = jv_fx (f_M_make_81 (nI n) mLb (nI (4 * b + s)) (nI (enc r)) p3 (nI b) (nI r.length) (nI (enc (r.drop 1))) m1 vat mUs mWr mDk mCp) (f' + 1) (bl, nI (1 + ((r.length - 1) - (r.length - j))), nI r.length) := by
            have hgo := fun bl hbl => q_81 (mar := nI n) (fu := vat) (t := m1) (kind := p3) (s := nI (4 * b + s)) (par := nI (enc (r.drop 1))) (mLb := mLb) (mUs := mUs) (mWr := mWr) (mDk := mDk) (mCp := mCp) (a := b) (by omega) (J.dr b hb) T hr j1 j2 j3 (r.length - 1) 1 (by omega) (by omega) 300 (by omega) bl hbl
            rw [show (1 + ((1 - 1) - (r.length - j))) = 1 by omega] at hgo
            have hm : f_M_make_36 (nI n) mLb (nI (4 * b + s)) (nI (enc r)) p3 m1 vat mUs mWr mDk mCp = if sb1 c = 0 then (jv_fx (f_M_make_81 (nI n) mLb (nI (4 * b + s)) (nI (enc r)) p3 (nI b) (nI r.length) (nI (enc (r.drop 1))) m1 vat mUs mWr mDk mCp) 300 (1, nI 1, nI 1)) else (jv_fx (f_M_make_81 (nI n) mLb (nI (4 * b + s)) (nI (enc r)) p3 (nI b) (nI r.length) (nI (enc (r.drop 1))) m1 vat mUs mWr mDk mCp) 300 (0, nI 1, nI 1)) := by
              unfold f_M_make_36
              rw [q_nmr hr, Option.bind_some, hsub, hpf, Option.bind_some, c4, Option.bind_some, h3]
              rfl
            by_cases h0 : sb1 c = 0
            · obtain ⟨bl', f', g1, g2, g3⟩ := hgo 1 (Or.inr rfl)
              refine ⟨bl', f', g1, g2.trans ⟨fun z => absurd z.1 (by decide), fun z => absurd h0 z.1⟩, ?_⟩
              rw [hm, if_pos h0, g3]
            · obtain ⟨bl', f', g1, g2, g3⟩ := hgo 0 (Or.inl rfl)
              refine ⟨bl', f', g1, g2.trans ⟨fun z => ⟨h0, z.2⟩, fun z => ⟨rfl, z.2⟩⟩, ?_⟩
              rw [hm, if_neg h0, g3]
          obtain ⟨bl, f', l1, l2, l3⟩ := hloop
          rw [l3, jv_fx_s]
          generalize jv_fx (f_M_make_81 (nI n) mLb (nI (4 * b + s)) (nI (enc r)) p3 (nI b) (nI r.length) (nI (enc (r.drop 1))) m1 vat mUs mWr mDk mCp) f' = kk
          have h181 : ∀ (ms : Int32) (e : Nat), 1 ≤ e → e ≤ 4 → f_M_make_181 (nI n) mLb (nI (enc r)) p3 (nI b) (nI r.length) ms (nI e) m1 vat mUs mWr mDk mCp = some (0, nI e, vat, mUs, mWr, mDk, mCp) := fun ms e e1 e2 => by
            unfold f_M_make_181
            rw [if_neg (nI_nle (by omega) (by omega))]
          have h1812 : ∀ ms, f_M_make_181 (nI n) mLb (nI (enc r)) p3 (nI b) (nI r.length) ms 2 m1 vat mUs mWr mDk mCp = some (0, 2, vat, mUs, mWr, mDk, mCp) := fun ms => h181 ms 2 (by omega) (by omega)
          have h1813 : ∀ ms, f_M_make_181 (nI n) mLb (nI (enc r)) p3 (nI b) (nI r.length) ms 3 m1 vat mUs mWr mDk mCp = some (0, 3, vat, mUs, mWr, mDk, mCp) := fun ms => h181 ms 3 (by omega) (by omega)
          have h1814 : ∀ ms, f_M_make_181 (nI n) mLb (nI (enc r)) p3 (nI b) (nI r.length) ms 4 m1 vat mUs mWr mDk mCp = some (0, 4, vat, mUs, mWr, mDk, mCp) := fun ms => h181 ms 4 (by omega) (by omega)
          have hroot : ∀ i, r.length ≤ i → ¬ isK (ars b).2.2.2.1 (r.drop i) 2 := fun i hi z => by
            have hd0 : r.drop i = [] := List.drop_eq_nil_of_le hi
            rw [hd0] at z
            have := isK.fn T z (Or.inl ⟨0, by omega, rfl, rfl⟩)
            rw [T.root] at this
            exact absurd this (by decide)
          have hblk : bl = 0 ↔ (sb1 c ≠ 0 ∧ hfv = 0) := l2.trans (and_congr_right fun _ => ⟨fun z => hf2.mpr (fun k a1 a2 => by
            by_cases hk : k ≤ r.length - 1
            · exact z k a1 hk
            · exact hroot k (by omega)), fun z i a1 a2 => hf2.mp z i a1 (by omega)⟩)
          unfold f_V_make_29 f_M_make_81
          rw [if_pos (nI_le (Nat.le_refl _) (by omega))]
          simp only [q_dm1, Option.bind_some, jv_se, hpar, c2, c3, hf3, v3, w2, h1812, h1813, h1814]
          by_cases hc0 : c = 0
          · have hs0 : sb0 c = 0 := by unfold sb0; rw [if_pos hc0]
            simp only [if_pos hc0, hs0, if_true]
            exact ⟨_, _, _, _, _, _, _, _, rfl, J⟩
          · have hs0 : ¬ sb0 c = 0 := by unfold sb0; rw [if_neg hc0]; decide
            simp only [if_neg hc0, if_neg hs0]
            by_cases hblz : bl = 0
            · obtain ⟨hz1, hz2⟩ := hblk.mp hblz
              have hc1 : ¬ c &&& 1 = 0 := fun z => hz1 (by unfold sb1; rw [if_pos z])
              simp only [if_neg hc1, hz2, if_true, if_pos hblz]
              rcases w1 with ⟨i, hi, f1, rfl⟩ | ⟨f1, rfl⟩
              · have hv : v = kd (ars b).2.2.2.1 i := isK.fn T v1 (Or.inl ⟨i, hi, f1, rfl⟩)
                have hv0 : ¬ v ≤ 0 := by
                  rw [hv, T.le0 hi]; exact Fnd.kd0 T f1
                simp only [nI_m1 (show i < 2 ^ 31 by omega), if_false, if_neg hv0]
                exact ⟨_, _, _, _, _, _, _, _, rfl, J⟩
              · have hv : v = 0 := isK.fn T v1 (Or.inr ⟨f1, rfl⟩)
                have hv0 : v ≤ 0 := by rw [hv]; decide
                simp only [if_true, if_pos hv0]
                have jpos : 1 ≤ j := by
                  by_cases h : j = 0
                  · rw [h] at j2; exact absurd j2 (f1 p)
                  · omega
                have hms : 1 + (r.length - 1 - (r.length - j)) = j := by omega
                rw [hms]
                have p8 := Fnd.lt j2
                have hkp : kd (ars b).2.2.2.1 p = 1 := by
                  rcases T.kinds p p8 with h | h | h
                  · exact absurd h (Fnd.kd0 T j2)
                  · exact h
                  · exfalso
                    have hk2 : isK (ars b).2.2.2.1 (r.drop j) 2 := Or.inl ⟨p, p8, j2, h.symm⟩
                    by_cases h4 : j < 4
                    · exact hf2.mp hz2 j jpos h4 hk2
                    · exact hroot j (by omega) hk2
                have hnc : ∀ x, 1 ≤ j → r.drop (j - 1) = x :: r.drop j → ∀ k, ¬ isCh (ars b).2.2.2.1 p x k := fun x _ hx k hk => j3 (j - 1) (by omega) k (by rw [hx]; exact ⟨p, j2, hk⟩)
                have hroot0 : Fnd (ars b).2.2.2.1 (r.drop r.length) 0 := by rw [List.drop_length]; rfl
                obtain ⟨f2, a1, a2⟩ := q_cr1 (kind := p3) T hr j2 (r.length - j) r.length 0 (by omega) (Nat.le_refl _) hroot0 300 (by omega)
                have hcr : f_T_create (nI (enc r)) p3 (ars b).2.2.2.1 = jv_fx (f_T_create_10 (nI (enc r)) p3) f2 (nI p, nI j - 1, (ars b).2.2.2.1) := by
                  rw [← a2]
                  unfold f_T_create f_T_create_0
                  rw [q_len hr]
                  rfl
                have hfi := q_fi (a := b) (by omega) (J.dr b hb)
                have hfle := fre_le (ars b).2.2.2.1 8
                unfold f_M_make_181
                rw [if_pos (show (0 : Int32) ≤ 0 by decide), hfi, Option.bind_some]
                by_cases hfr : j ≤ fre (ars b).2.2.2.1 8
                · rw [if_pos (nI_le hfr (by omega))]
                  obtain ⟨C, c1, c2⟩ := q_st (mDk := mDk) (a := b) (by omega) mCp
                  have ec : eqd (ars b).2.2.2.1 C := fun w hw => by rw [J.dr b hb w hw, c2 w hw]
                  have hnf : ∀ k, k < j → f_M_find mDk (nI b) (nI (enc (r.drop k))) = some (-1) := fun k hk => by
                    obtain ⟨u, u1, -, u3⟩ := q_mf (a := b) (by omega) (J.dr b hb) T (hr.drop k)
                    rcases u1 with ⟨i, -, i1, -⟩ | ⟨-, i2⟩
                    · exact absurd i1 (j3 k hk i)
                    · rw [u3, i2]
                  obtain ⟨f3, e1, e2⟩ := q_mk1 (mar := nI n) (fu := vat) (t := 0) (kind := p3) (mLb := mLb) (mUs := mUs) (mWr := mWr) (mDk := mDk) (a := b) (C := C) (by omega) (J.dr b hb) T hr j2 (r.length - j) r.length 0 (by omega) (Nat.le_refl _) hroot0 300 (by omega)
                  obtain ⟨i, D', C', d1, d2, d3, d4, d5, d6⟩ := q_cr2 (mar := nI n) (fu := vat) (t := 0) (kind := p3) (mLb := mLb) (mUs := mUs) (mWr := mWr) (mDk := mDk) (a := b) hkd hr j j1 hnf _ C p ec T P j2 (fun _ => hkp) hnc hfr f2 f3 (by omega) (by omega)
                  obtain ⟨ans', vat', ars', mUs', mWr', mDk', x1, x2, x3⟩ := q_fin J hb d5 d6 d4 (nI i)
                  have x1' := x1
                  simp only [wD] at x1'
                  rw [hcr, d1]
                  have hmk : jv_fx (f_M_make_219 (nI n) mLb (nI (enc r)) p3 (nI b) (nI r.length) 0 vat mUs mWr mDk) 300 (0, 1, C) = some (ans', 0, vat', mUs', mWr', mDk', C') := by
                    rw [show ((0 : Int32), (1 : Int32), C) = (nI 0, nI (r.length - r.length + 1), C) from by rw [Nat.sub_self]; rfl, e2, d3, x2]
                    rfl
                  simp only [c1, hmk, Option.bind_some, jv_lt, nI_m1 (show i < 2 ^ 31 by omega), if_false, x1', if_true, q_out]
                  exact ⟨_, _, _, _, _, _, _, _, rfl, x3⟩
                · rw [if_neg (nI_ge (by omega) (by omega))]
                  obtain ⟨D', d1⟩ := q_cr0 (kind := p3) hkd hr j j1 _ p T j2 (fun _ => hkp) hnc (by omega) f2 (by omega)
                  obtain ⟨ars', x1, x2⟩ := q_gu J hb D'
                  have x1' := x1
                  simp only [wD] at x1'
                  rw [hcr, d1]
                  simp only [Option.bind_some, jv_lt, if_true, x1', q_out]
                  exact ⟨_, _, _, _, _, _, _, _, rfl, x2⟩
            · simp only [if_neg hblz]
              by_cases hc1 : c &&& 1 = 0
              · simp only [if_pos hc1]
                exact ⟨_, _, _, _, _, _, _, _, rfl, J⟩
              · have hfn : ¬ hfv = 0 := fun z => hblz (hblk.mpr ⟨by unfold sb1; rw [if_neg hc1]; decide, z⟩)
                simp only [if_neg hc1, if_neg hfn]
                exact ⟨_, _, _, _, _, _, _, _, rfl, J⟩
        · simp only [if_neg k1, if_neg k2, hX, Option.bind_some, if_true, p10, if_false]
          exact ⟨_, _, _, _, _, _, _, _, rfl, J⟩
