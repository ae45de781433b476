/-! move: the moved disk, the law's case -/
def mvD (D : Nat → Int32) (i P x : Nat) : Nat → Int32 := upd (upd D (8 + 8 * i + 1) (nI P)) (8 + 8 * i + 2) (nI x)
theorem mvD_o {D : Nat → Int32} {i P x w : Nat} (h1 : w ≠ 8 + 8 * i + 1) (h2 : w ≠ 8 + 8 * i + 2) : mvD D i P x w = D w := by
  unfold mvD
  rw [q_updN h2, q_updN h1]
theorem mvD_p {D : Nat → Int32} {i P x : Nat} : pa (mvD D i P x) i = nI P := by
  unfold mvD pa
  rw [q_updN (by omega), q_updS]
theorem mvD_n {D : Nat → Int32} {i P x : Nat} : nm (mvD D i P x) i = nI x := by
  unfold mvD nm
  rw [q_updS]
theorem PI.mv {D : Nat → Int32} (Q : PI D) {i : Nat} (P x : Nat) (hi : i < 8) : PI (mvD D i P x) := Q.gen (fun w => by
  by_cases h : w = 8 + 8 * i + 1 ∨ w = 8 + 8 * i + 2
  · right
    refine ⟨by omega, fun j hj => by omega, fun z => ?_⟩
    rcases z with ⟨j, w', g⟩ | ⟨j, q, w', g⟩ <;> omega
  · left; exact mvD_o (fun z => h (Or.inl z)) (fun z => h (Or.inr z)))
theorem TI.mv {D : Nat → Int32} (T : TI D) {i P x n : Nat} (hi : 1 ≤ i) (hi8 : i < 8) (hk : kd D i ≠ 0) (hP : P < 8) (hP1 : kd D P = 1) (hx : 1 ≤ x) (hx2 : x ≤ 26) (hc : ∀ k, ¬ isCh D P x k) (hb : ∀ d, ¬ St D d P i) (hn : n ≤ 4) (hr : ∀ r : Nat → Nat, r 0 = 0 → (∀ i p, 1 ≤ i → i < 8 → p < 8 → kd D i ≠ 0 → pa D i = nI p → r i = r p + 1 ∧ r i ≤ 4) → r P + 1 = n) (hh : ∀ d k, St D d k i → n + d ≤ 4) : TI (mvD D i P x) := by
  have kj : ∀ j, kd (mvD D i P x) j = kd D j := fun j => mvD_o (by omega) (by omega)
  have pj : ∀ j, j ≠ i → pa (mvD D i P x) j = pa D j := fun j b => mvD_o (by omega) (by omega)
  have nj : ∀ j, j ≠ i → nm (mvD D i P x) j = nm D j := fun j b => mvD_o (by omega) (by omega)
  refine ⟨?_, ?_, ?_, ?_, ?_, ?_, ?_⟩
  · rw [kj]; exact T.root
  · intro j hj; rw [kj]; exact T.kinds j hj
  · intro j hj hz
    rw [kj] at hz
    by_cases h : j = i
    · rw [h] at hz; exact absurd hz hk
    · rw [nj j h]; exact T.free j hj hz
  · intro j h2 hj hz
    rw [kj] at hz
    by_cases h : j = i
    · rw [h]; exact ⟨P, hP, mvD_p, by rw [kj]; exact hP1⟩
    · obtain ⟨q, q1, q2, q3⟩ := T.par j h2 hj hz
      exact ⟨q, q1, by rw [pj j h]; exact q2, by rw [kj]; exact q3⟩
  · intro j h2 hj hz
    rw [kj] at hz
    by_cases h : j = i
    · rw [h]; exact ⟨x, hx, hx2, mvD_n⟩
    · rw [nj j h]; exact T.nam j h2 hj hz
  · intro j k a1 a2 a3 a4 a5 a6 a7 a8
    rw [kj] at a5 a6
    by_cases h : j = i
    · by_cases g : k = i
      · rw [h, g]
      · rw [h, mvD_p, pj k g] at a7
        rw [h, mvD_n, nj k g] at a8
        exact absurd ⟨a3, a4, a6, a7.symm, a8.symm⟩ (hc k)
    · by_cases g : k = i
      · rw [g, mvD_p, pj j h] at a7
        rw [g, mvD_n, nj j h] at a8
        exact absurd ⟨a1, a2, a5, a7, a8⟩ (hc j)
      · rw [pj j h, pj k g] at a7
        rw [nj j h, nj k g] at a8
        exact T.uniq j k a1 a2 a3 a4 a5 a6 a7 a8
  · obtain ⟨r, r1, r2⟩ := T.rank
    have hrP := hr r r1 r2
    have key : ∃ s : Nat → Nat, (∀ k, (∃ d, St D d k i) → s k = r k - r i + n) ∧ ∀ k, (∀ d, ¬ St D d k i) → s k = r k :=
      ⟨fun k => @ite _ (∃ d, St D d k i) (Classical.propDecidable _) (r k - r i + n) (r k), fun k h => if_pos h, fun k h => if_neg (fun ⟨d, hd⟩ => h d hd)⟩
    obtain ⟨s, s1, s2⟩ := key
    refine ⟨s, ?_, fun j q a1 a2 a3 a4 a5 => ?_⟩
    · rw [s2 0 (fun d hd => ?_)]
      · exact r1
      · cases d with
        | zero => have : (0 : Nat) = i := hd; omega
        | succ d => have := hd.1; omega
    · rw [kj] at a4
      by_cases h : j = i
      · rw [h, mvD_p] at a5
        have hq : P = q := (nI_eq (by omega) (by omega)).mp a5
        subst hq
        rw [h, s1 i ⟨0, rfl⟩, s2 P hb]
        omega
      · rw [pj j h] at a5
        have hr2 := r2 j q a1 a2 a3 a4 a5
        by_cases hu : ∃ d, St D d j i
        · obtain ⟨d, hd⟩ := hu
          cases d with
          | zero => exact absurd hd h
          | succ d =>
            have hd0 := hd
            obtain ⟨-, -, -, q', q1, q2, q3⟩ := hd
            have : q' = q := (nI_eq (by omega) (by omega)).mp (q2.symm.trans a5)
            subst this
            have e1 := St.rank r2 hd0
            have e2 := St.rank r2 q3
            have e3 := hh _ _ hd0
            rw [s1 j ⟨_, hd0⟩, s1 q' ⟨_, q3⟩]
            omega
        · have hu2 : ∀ d, ¬ St D d q i := fun d hd => hu ⟨d + 1, a1, a2, a4, q, a3, a5, hd⟩
          rw [s2 j (fun d hd => hu ⟨d, hd⟩), s2 q hu2]
          exact hr2
section
variable {mar fu t to par : Int32} {mLb mUs mWr mDk mCp : Nat → Int32} {a i n : Nat}
theorem q_173 {D : Nat → Int32} (ha : a < 6) (hD : ∀ w, w < 232 → D w = mDk (232 * a + w)) (T : TI D) (hi : i < 8) (hi1 : 1 ≤ i) (hn1 : 1 ≤ n) (hn : n ≤ 4) : ∀ d k, k + d = 8 → 1 ≤ k → ∀ f, d < f → ∀ b : Int32, (b = 0 ∨ b = 1) → ∃ b' : Int32, (b' = 0 ∨ b' = 1) ∧ (b' = 0 ↔ (b = 0 ∧ ∀ j, k ≤ j → j < 8 → kd D j ≠ 0 → ∀ e, St D e j i → n + e ≤ 4)) ∧ jv_fx (f_M_move_173 mar mLb to (nI a) (nI i) (nI n) par t fu mUs mWr mDk mCp) f (b, nI k) = if b' = 0 then (f_M_move_238 mar mLb to (nI a) (nI i) par (0 : Int32) t fu mUs mWr mDk mCp) else (f_M_move_238 mar mLb to (nI a) (nI i) par (4 : Int32) t fu mUs mWr mDk mCp) := by
  intro d
  induction d with
  | zero =>
    intro k hk h1 f hf b hb
    obtain ⟨f, rfl⟩ : ∃ f', f = f' + 1 := ⟨f - 1, by omega⟩
    obtain rfl : k = 8 := by omega
    refine ⟨b, hb, ⟨fun z => ⟨z, fun j h1 h2 => by omega⟩, fun z => z.1⟩, ?_⟩
    rw [jv_fx_s]
    unfold f_M_move_173
    simp only [show ((8 : Int32) ≤ nI 8) = True by decide, if_true]
  | succ d ih =>
    intro k hk h1 f hf b hb
    obtain ⟨f, rfl⟩ : ∃ f', f = f' + 1 := ⟨f - 1, by omega⟩
    have h8 : ((8 : Int32) ≤ nI k) = (8 ≤ k) := q_le (a := 8) (by omega) (by omega)
    obtain ⟨-, -, -, w0, -⟩ := q_pw ha hD (i := k) (by omega)
    have ih2 := ih (k + 1) (by omega) (by omega) f (by omega)
    rw [jv_fx_s]
    generalize jv_fx (f_M_move_173 mar mLb to (nI a) (nI i) (nI n) par t fu mUs mWr mDk mCp) f = kk at ih2 ⊢
    unfold f_M_move_173
    simp only [h8, if_neg (show ¬ 8 ≤ k by omega), w0, Option.bind_some, nI_1, T.le0 (show k < 8 by omega)]
    rcases hb with rfl | rfl
    · rw [if_pos rfl]
      by_cases hk0 : kd D k = 0
      · obtain ⟨b', g1, g2, g3⟩ := ih2 0 (Or.inl rfl)
        refine ⟨b', g1, g2.trans ⟨fun z => ⟨rfl, fun j j1 j2 j3 => ?_⟩, fun z => ⟨rfl, fun j j1 j2 => z.2 j (by omega) j2⟩⟩, ?_⟩
        · by_cases hjk : j = k
          · rw [hjk] at j3; exact absurd hk0 j3
          · exact z.2 j (by omega) j2 j3
        · rw [if_pos hk0, g3]
      · rw [if_neg hk0]
        obtain ⟨v, v1, v2⟩ := q_be ha hD T hi hi1 (k := k) (by omega) (Or.inr hk0)
        rw [v1, Option.bind_some]
        have hle : (nI n + v ≤ (4 : Int32)) ↔ ∀ e, St D e k i → n + e ≤ 4 := by
          rcases v2 with ⟨e, e1, rfl⟩ | ⟨e1, rfl⟩
          · have he3 := St.le3 T hi1 hi (by
              obtain ⟨r, r1, r2⟩ := T.rank
              cases e with
              | zero => rw [← (show k = i from e1)]; exact hk0
              | succ e =>
                intro hz
                have : ∀ {e k : Nat}, St D (e + 1) k i → kd D i = 1 := fun {e} => by
                  induction e with
                  | zero =>
                    rintro k ⟨a1, a2, a3, p, p1, p2, p3⟩
                    obtain ⟨q, q1, q2, q3⟩ := T.par k a1 a2 a3
                    have hqp : q = p := (nI_eq (by omega) (by omega)).mp (q2.symm.trans p2)
                    rw [← (show p = i from p3), ← hqp]; exact q3
                  | succ e ih3 =>
                    rintro k ⟨_, _, _, p, _, _, p3⟩
                    exact ih3 p3
                rw [this e1] at hz
                exact absurd hz (by decide)) e1
            rw [nI_add, show (4 : Int32) = nI 4 from rfl, nI_leI (by omega) (by omega)]
            constructor
            · intro h e' he'
              obtain ⟨r, r1, r2⟩ := T.rank
              rw [St.uniq r2 he' e1]; exact h
            · intro h; exact h e e1
          · rw [show nI n + (-1 : Int32) = nI (n - 1) from by rw [n_dec, show (1 : Int32) = nI 1 from rfl, q_sub hn1 (by omega)], show (4 : Int32) = nI 4 from rfl, nI_leI (by omega) (by omega)]
            exact ⟨fun _ e he => absurd he (e1 e), fun _ => by omega⟩
        by_cases hq : nI n + v ≤ (4 : Int32)
        · obtain ⟨b', g1, g2, g3⟩ := ih2 0 (Or.inl rfl)
          refine ⟨b', g1, g2.trans ⟨fun z => ⟨rfl, fun j j1 j2 j3 => ?_⟩, fun z => ⟨rfl, fun j j1 j2 => z.2 j (by omega) j2⟩⟩, ?_⟩
          · by_cases hjk : j = k
            · rw [hjk]; exact hle.mp hq
            · exact z.2 j (by omega) j2 j3
          · rw [if_pos hq, g3]
        · obtain ⟨b', g1, g2, g3⟩ := ih2 1 (Or.inr rfl)
          refine ⟨b', g1, g2.trans ⟨fun z => absurd z.1 (by decide), fun z => absurd (hle.mpr (z.2 k (Nat.le_refl _) (by omega) hk0)) hq⟩, ?_⟩
          rw [if_neg hq, g3]
    · rw [if_neg (by decide)]
      obtain ⟨b', g1, g2, g3⟩ := ih2 1 (Or.inr rfl)
      exact ⟨b', g1, g2.trans ⟨fun z => absurd z.1 (by decide), fun z => absurd z.1 (by decide)⟩, g3⟩
end
theorem pj_9 (n : Nat) (vC : Nat → Int32) (vat : Int32) (ars : Nat → jv_ar) (vO : Nat → Int64) (m1 : Int32) (mLb mCl mUs mWr mDk mCp : Nat → Int32) (p1 p2 p3 : Int32) (J : Jd n vat ars mLb mUs mWr mDk) : jR n vC mLb mCl (s_9 (n, vC, vat, ars) vO (m1, nI n, vat, mLb, mCl, mUs, mWr, mDk, mCp) p1 p2 p3) := by
  have hn := J.hn
  have hR : ∀ (y : Int32) (e : Nat), 1 ≤ e → e ≤ 4 → f_M_move_43 (nI n) mLb p2 p3 y (nI e) vat mUs mWr mDk mCp = some (0, nI e, vat, mUs, mWr, mDk, mCp) := fun y e h1 h2 => by
    unfold f_M_move_43 f_M_move_71
    simp only [eq_false (nI_ne0 (n := e) (by omega) (by omega)), if_false, eq_false (nI_nle (n := e) (by omega) (by omega))]
  have hR1 : ∀ y, f_M_move_43 (nI n) mLb p2 p3 y 1 vat mUs mWr mDk mCp = some (0, 1, vat, mUs, mWr, mDk, mCp) := fun y => hR y 1 (by omega) (by omega)
  have hR2 : ∀ y, f_M_move_43 (nI n) mLb p2 p3 y 2 vat mUs mWr mDk mCp = some (0, 2, vat, mUs, mWr, mDk, mCp) := fun y => hR y 2 (by omega) (by omega)
  have hR3 : ∀ y, f_M_move_43 (nI n) mLb p2 p3 y 3 vat mUs mWr mDk mCp = some (0, 3, vat, mUs, mWr, mDk, mCp) := fun y => hR y 3 (by omega) (by omega)
  have hX : ∀ q v k A B, f_V_move_26 n q v 0 k A B = some (.inl 1) := fun q v k A B => rfl
  have hMto : (∃ x, f_M_isPath p3 = some x ∧ (x = 0 ∨ x = 1)) := by
    rcases q_path2 p3 with ⟨_, g⟩ | ⟨_, _, _, _, g⟩
    · exact ⟨0, g, Or.inl rfl⟩
    · exact ⟨1, g, Or.inr rfl⟩
  unfold s_9 l_move f_V_move f_V_move_0 f_M_move f_M_move_0 f_M_thrown f_M_thrown_0
  rcases q_areaO hn J.us p1 with ⟨h1, h2⟩ | ⟨b, s, hb, hs, rfl, h1, h2, h3⟩
  · obtain ⟨x, x1, x2⟩ := hMto
    simp only [h1, Option.bind_some, jv_se, if_true, q_rf0 h2, hR1, p10, if_false, x1, ite_self]
    exact ⟨_, _, _, _, _, _, _, _, rfl, J⟩
  · simp only [h1, Option.bind_some, jv_se, if_pos hb]
    rcases q_path2 p2 with ⟨g1, g2⟩ | ⟨r, hr, rfl, g1, g2⟩
    · obtain ⟨x, x1, x2⟩ := hMto
      simp only [q_br0 g1, Option.bind_some, if_true, hX, q_rf1 h2 g2, hR1, p10, if_false, x1, ite_self]
      exact ⟨_, _, _, _, _, _, _, _, rfl, J⟩
    · rcases q_br hr with ⟨r0, r1, r2⟩ | ⟨r0, r1, r2⟩
      · simp only [r2, Option.bind_some, if_true, hX, r1, p10, if_false, hR1]
        exact ⟨_, _, _, _, _, _, _, _, rfl, J⟩
      · simp only [r2, Option.bind_some, p10, if_false, r1]
        rcases q_path2 p3 with ⟨t1, t2⟩ | ⟨u, hu, rfl, t1, t2⟩
        · simp only [q_br0 t1, Option.bind_some, if_true, hX, t2, hR1, ite_self, p10, if_false]
          exact ⟨_, _, _, _, _, _, _, _, rfl, J⟩
        · rcases q_br hu with ⟨u0, u1, u2⟩ | ⟨u0, u1, u2⟩
          · simp only [u2, Option.bind_some, if_true, hX, u1, p10, if_false, hR1]
            exact ⟨_, _, _, _, _, _, _, _, rfl, J⟩
          · simp only [u2, Option.bind_some, p10, if_false, u1, t2]
            have T := J.ti b hb
            have P := J.pi b hb
            unfold f_V_move_26
            simp only [q_dm1, Option.bind_some, jv_se]
            rcases q_own J.sk hb hs hr h2 g2 with ⟨o1, o2⟩ | ⟨o1, o2⟩ | ⟨i, hi, fi, o1, o2, o3, o4⟩
            · simp only [o1, o2, Option.bind_some, p_2z, if_false, hR2]
              exact ⟨_, _, _, _, _, _, _, _, rfl, J⟩
            · simp only [o1, o2, Option.bind_some, p_30, if_false, hR3]
              exact ⟨_, _, _, _, _, _, _, _, rfl, J⟩
            · have hi1 := Fnd.ne r0 fi
              have hki := Fnd.kd0 T fi
              obtain ⟨w, w1, w2, w3⟩ := q_mf (a := b) (by omega) (J.dr b hb) T hu
              obtain ⟨v, v1, v2, v3⟩ := q_kd (a := b) (by omega) (J.dr b hb) T hu
              simp only [o1, o2, Option.bind_some, if_true, h3, w2]
              unfold f_M_move_43
              simp only [if_true, v3, Option.bind_some]
              have h713 : f_M_move_71 (nI n) mLb (nI (enc r)) (nI (enc u)) (nI b) 3 0 vat mUs mWr mDk mCp = some (0, 3, vat, mUs, mWr, mDk, mCp) := rfl
              rcases w1 with ⟨k, hk, f1, rfl⟩ | ⟨f1, rfl⟩
              · have hv : v = kd (ars b).2.2.2.1 k := isK.fn T v1 (Or.inl ⟨k, hk, f1, rfl⟩)
                have hv0 : ¬ v ≤ 0 := by rw [hv, T.le0 hk]; exact Fnd.kd0 T f1
                simp only [nI_m1 (show k < 2 ^ 31 by omega), if_false, if_neg hv0, h713, Option.bind_some]
                exact ⟨_, _, _, _, _, _, _, _, rfl, J⟩
              · have hv : v = 0 := isK.fn T v1 (Or.inr ⟨f1, rfl⟩)
                have hv0 : v ≤ 0 := by rw [hv]; decide
                have hul := hu.1
                have hupos : 1 ≤ u.length := by
                  cases u with
                  | nil => exact absurd rfl u0
                  | cons x u => show 1 ≤ u.length + 1; omega
                obtain ⟨x, u', hxu⟩ : ∃ x u', u = x :: u' := by
                  cases u with
                  | nil => exact absurd rfl u0
                  | cons x u => exact ⟨x, u, rfl⟩
                have hd1 : u.drop 1 = u' := by rw [hxu]; rfl
                have hgu' : gpt u' := by rw [← hd1]; exact hu.drop 1
                have hlu : u'.length + 1 = u.length := by rw [hxu]; rfl
                have hxg := hu.2 x (by rw [hxu]; exact List.mem_cons_self)
                have hl20 := enc_lt20 hu
                have hpar : f_P_parentOf (nI (enc u)) = some (nI (enc u')) := by
                  unfold f_P_parentOf f_P_parentOf_0
                  rw [n_s5 (by omega), ← hd1, ← enc_drop 1 u hu.2]
                have hpf := q_pf hu (k := u.length - 1) (by omega)
                rw [show u.length - (u.length - 1) = 1 by omega, hd1] at hpf
                have hsub : nI u.length - (1 : Int32) = nI (u.length - 1) := by rw [show (1 : Int32) = nI 1 from rfl, q_sub hupos (by omega)]
                have hlast : f_P_lastName (nI (enc u)) = some (nI x) := by rw [hxu]; exact q_last (by rw [← hxu]; exact hu)
                have hmod : nI (enc u) - nI (enc u) / (32 : Int32) * (32 : Int32) = nI x := by
                  rw [show (32 : Int32) = nI 32 from rfl, q_mod (b := 32) (by omega) (by omega) (by omega)]
                  congr 1
                  rw [hxu]
                  show (32 * enc u' + x) % 32 = x
                  omega
                obtain ⟨w', W1, W2, W3⟩ := q_mf (a := b) (by omega) (J.dr b hb) T hgu'
                obtain ⟨v', V1, V2, V3⟩ := q_kd (a := b) (by omega) (J.dr b hb) T hgu'
                obtain ⟨y, y1, y2, y3⟩ := q_sw hgu' hr
                obtain ⟨H, H1, H2, H3, H4⟩ := q_he T hi1 hi hki
                have g173 := fun par bb hbb => q_173 (mar := nI n) (fu := vat) (t := 0) (to := nI (enc u)) (par := par) (mLb := mLb) (mUs := mUs) (mWr := mWr) (mDk := mDk) (mCp := mCp) (a := b) (i := i) (n := u.length) (by omega) (J.dr b hb) T hi hi1 hupos hul 7 1 rfl (by omega) 300 (by omega) bb hbb
                have h238 : ∀ par, f_M_move_238 (nI n) mLb (nI (enc u)) (nI b) (nI i) par 4 0 vat mUs mWr mDk mCp = some (0, 4, vat, mUs, mWr, mDk, mCp) := fun par => rfl
                have bad1 : ∀ par, jv_fx (f_M_move_173 (nI n) mLb (nI (enc u)) (nI b) (nI i) (nI u.length) par 0 vat mUs mWr mDk mCp) 300 (1, 1) = some (0, 4, vat, mUs, mWr, mDk, mCp) := fun par => by
                  obtain ⟨b', e1, e2, e3⟩ := g173 par 1 (Or.inr rfl)
                  have hb1 : ¬ b' = 0 := fun z => absurd (e2.mp z).1 (by decide)
                  rw [show ((1 : Int32), (1 : Int32)) = ((1 : Int32), nI 1) from rfl, e3, if_neg hb1, h238]
                simp only [if_true, if_pos hv0, hpar, Option.bind_some, V2, y1, q_len hu, H1, W2, hlast]
                unfold f_M_move_71
                simp only [p_00, if_true, o3, q_nmr hu, Option.bind_some, hsub, hpf, W3]
                rcases W1 with ⟨Q, hQ, f2, rfl⟩ | ⟨f2, rfl⟩
                · have hv' : v' = kd (ars b).2.2.2.1 Q := isK.fn T V1 (Or.inl ⟨Q, hQ, f2, rfl⟩)
                  obtain ⟨-, -, -, wQ, -⟩ := q_pw (a := b) (by omega) (J.dr b hb) hQ
                  simp only [q_lt0 (show Q < 2 ^ 31 by omega), if_false, show (0 ≤ nI Q) = True from eq_true (nI_pos' (by omega)), if_true, hv']
                  unfold f_M_move_133
                  simp only [wQ, Option.bind_some]
                  by_cases hQ1 : kd (ars b).2.2.2.1 Q = 1
                  · simp only [if_pos hQ1, show (0 ≤ nI Q) = True from eq_true (nI_pos' (by omega)), if_true]
                    unfold f_M_move_155
                    obtain ⟨z, z1, z2⟩ := q_be (a := b) (by omega) (J.dr b hb) T hi hi1 hQ (Or.inr (by rw [hQ1]; decide))
                    have hpx := St.pfx hr.2 fi T hgu'.2 f2
                    have hyz : y = 0 ↔ ∀ d, ¬ St (ars b).2.2.2.1 d Q i := y3.trans ⟨fun g d hd => by
                      obtain ⟨k, k1, k2⟩ := hpx.mp ⟨d, hd⟩
                      exact g k (by omega) k2, fun g k k1 k2 => by
                      have hkl : k ≤ u'.length := by
                        apply Classical.byContradiction
                        intro hgt
                        rw [List.drop_eq_nil_of_le (by omega)] at k2
                        exact r0 k2.symm
                      obtain ⟨d, hd⟩ := hpx.mpr ⟨k, hkl, k2⟩
                      exact g d hd⟩
                    simp only [z1, Option.bind_some]
                    rcases z2 with ⟨d, d1, rfl⟩ | ⟨d1, rfl⟩
                    · have hy1 : ¬ y = 0 := fun g => hyz.mp g d d1
                      have hz0 : ¬ nI d < 0 := nI_pos (by have := St.le3 T hi1 hi hki d1; omega)
                      simp only [if_neg hy1, if_neg hz0, bad1, Option.bind_some]
                      exact ⟨_, _, _, _, _, _, _, _, rfl, J⟩
                    · have hy0 : y = 0 := hyz.mpr d1
                      obtain ⟨b', e1, e2, e3⟩ := g173 (nI Q) 0 (Or.inl rfl)
                      rw [show ((0 : Int32), nI 1) = ((0 : Int32), (1 : Int32)) from rfl] at e3
                      simp only [if_pos hy0, show ((-1 : Int32) < 0) = True by decide, if_true, e3]
                      have hH : (nI u.length + nI H ≤ (4 : Int32)) = (u.length + H ≤ 4) := by rw [nI_add]; exact q_le (b := 4) (by omega) (by omega)
                      have hbH : b' = 0 ↔ u.length + H ≤ 4 := e2.trans ⟨fun g => by
                        rcases H3 with h0 | ⟨k, hk2⟩
                        · omega
                        · cases H with
                          | zero => omega
                          | succ H => exact g.2 k hk2.1 hk2.2.1 hk2.2.2.1 _ hk2, fun g => ⟨rfl, fun k _ _ _ e he => by have := H2 e k he; omega⟩⟩
                      simp only [hH]
                      by_cases hlen : u.length + H ≤ 4
                      · have hb0 : b' = 0 := hbH.mpr hlen
                        obtain ⟨C, c1, c2⟩ := q_st (mDk := mDk) (a := b) (by omega) mCp
                        have ec : eqd (ars b).2.2.2.1 C := fun w hw => by rw [J.dr b hb w hw, c2 w hw]
                        have hang : f_T_hang (nI i) (nI Q) (nI x) (ars b).2.2.2.1 = some (mvD (ars b).2.2.2.1 i Q x) := by
                          unfold f_T_hang f_T_hang_0
                          rw [show (1 : Int32) = nI 1 from rfl, q_piw hi (by omega), Option.bind_some, show (2 : Int32) = nI 2 from rfl, q_piw hi (by omega)]
                          rfl
                        have T' : TI (mvD (ars b).2.2.2.1 i Q x) := T.mv (n := u.length) hi1 hi hki hQ hQ1 hxg.1 hxg.2 (fun k hk2 => f1 k (by rw [hxu]; exact ⟨Q, f2, hk2⟩)) d1 hul (fun ρ ρ1 ρ2 => by rw [rank_len ρ1 ρ2 f2]; omega) (fun d k hd => by have := H2 d k hd; omega)
                        have e' : eqd (mvD (ars b).2.2.2.1 i Q x) (mvD C i Q x) := (ec.upd _ _).upd _ _
                        obtain ⟨ans', vat', ars', mUs', mWr', mDk', x1, x2, x3⟩ := q_fin J hb T' (P.mv Q x hi) e' (nI i)
                        have hm : f_M_move_238 (nI n) mLb (nI (enc u)) (nI b) (nI i) (nI Q) 0 0 vat mUs mWr mDk mCp = some (ans', 0, vat', mUs', mWr', mDk', mvD C i Q x) := by
                          unfold f_M_move_238
                          rw [if_pos (by decide), c1, Option.bind_some, show (1 : Int32) = nI 1 from rfl, e_8i, q_sa (by omega) (by omega), Option.bind_some, show (2 : Int32) = nI 2 from rfl, e_8i, hmod, q_sa (by omega) (by omega), Option.bind_some]
                          show ((f_M_finish (mvD C i Q x) (nI b) (nI i) vat mUs mWr mDk).bind _) = _
                          rw [x2]
                          rfl
                        have x1' := x1
                        simp only [wD] at x1'
                        simp only [if_pos hlen, if_pos hb0, hang, Option.bind_some, jv_lt, x1', hm, if_true, q_out]
                        exact ⟨_, _, _, _, _, _, _, _, rfl, x3⟩
                      · have hb1 : ¬ b' = 0 := fun g => hlen (hbH.mp g)
                        simp only [if_neg hlen, if_neg hb1, h238, Option.bind_some]
                        exact ⟨_, _, _, _, _, _, _, _, rfl, J⟩
                  · simp only [if_neg hQ1, bad1, Option.bind_some]
                    exact ⟨_, _, _, _, _, _, _, _, rfl, J⟩
                · have hv' : v' = 0 := isK.fn T V1 (Or.inr ⟨f2, rfl⟩)
                  simp only [hv', if_neg (show ¬ (0 : Int32) = 1 by decide), show ((-1 : Int32) < 0) = True by decide, if_true, bad1, Option.bind_some]
                  exact ⟨_, _, _, _, _, _, _, _, rfl, J⟩
