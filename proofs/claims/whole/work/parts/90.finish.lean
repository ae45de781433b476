/-! What holds between calls, and that a finish keeps it. -/
abbrev Jd (n : Nat) (vat : Int32) (ars : Nat → jv_ar) (mLb mUs mWr mDk : Nat → Int32) : Prop :=
  (n ≤ 6) ∧
  (∃ t : Option Nat, vat = fuI t ∧ ∀ k, t = some k → k ≤ 1000) ∧
  (∀ a, a < n → (ars a).1 = mLb a) ∧
  (pU n ars mUs) ∧
  (∀ a, a < n → (ars a).2.2.2.2.2.2.1 = 0) ∧
  (∀ a, a < n → (ars a).2.2.2.2.2.2.2 = mWr a) ∧
  (∀ a, a < n → ∀ w, w < 232 → (ars a).2.2.1 w = mDk (232 * a + w)) ∧
  (∀ a, a < n → ∀ w, w < 232 → (ars a).2.2.2.1 w = mDk (232 * a + w)) ∧
  (∀ a, a < n → TI (ars a).2.2.2.1) ∧
  (∀ a, a < n → PI (ars a).2.2.2.1) ∧
  (∀ w, 232 * n ≤ w → w < 1392 → mDk w = 0) ∧
  (∀ a, n ≤ a → a < 6 → mWr a = 0)
theorem Jd.hn {n : Nat} {vat : Int32} {ars : Nat → jv_ar} {mLb mUs mWr mDk : Nat → Int32} (h : Jd n vat ars mLb mUs mWr mDk) : n ≤ 6 := h.1
theorem Jd.fv {n : Nat} {vat : Int32} {ars : Nat → jv_ar} {mLb mUs mWr mDk : Nat → Int32} (h : Jd n vat ars mLb mUs mWr mDk) : ∃ t : Option Nat, vat = fuI t ∧ ∀ k, t = some k → k ≤ 1000 := h.2.1
theorem Jd.lb {n : Nat} {vat : Int32} {ars : Nat → jv_ar} {mLb mUs mWr mDk : Nat → Int32} (h : Jd n vat ars mLb mUs mWr mDk) : ∀ a, a < n → (ars a).1 = mLb a := h.2.2.1
theorem Jd.us {n : Nat} {vat : Int32} {ars : Nat → jv_ar} {mLb mUs mWr mDk : Nat → Int32} (h : Jd n vat ars mLb mUs mWr mDk) : pU n ars mUs := h.2.2.2.1
theorem Jd.mkd {n : Nat} {vat : Int32} {ars : Nat → jv_ar} {mLb mUs mWr mDk : Nat → Int32} (h : Jd n vat ars mLb mUs mWr mDk) : ∀ a, a < n → (ars a).2.2.2.2.2.2.1 = 0 := h.2.2.2.2.1
theorem Jd.wr {n : Nat} {vat : Int32} {ars : Nat → jv_ar} {mLb mUs mWr mDk : Nat → Int32} (h : Jd n vat ars mLb mUs mWr mDk) : ∀ a, a < n → (ars a).2.2.2.2.2.2.2 = mWr a := h.2.2.2.2.2.1
theorem Jd.pl {n : Nat} {vat : Int32} {ars : Nat → jv_ar} {mLb mUs mWr mDk : Nat → Int32} (h : Jd n vat ars mLb mUs mWr mDk) : ∀ a, a < n → ∀ w, w < 232 → (ars a).2.2.1 w = mDk (232 * a + w) := h.2.2.2.2.2.2.1
theorem Jd.dr {n : Nat} {vat : Int32} {ars : Nat → jv_ar} {mLb mUs mWr mDk : Nat → Int32} (h : Jd n vat ars mLb mUs mWr mDk) : ∀ a, a < n → ∀ w, w < 232 → (ars a).2.2.2.1 w = mDk (232 * a + w) := h.2.2.2.2.2.2.2.1
theorem Jd.ti {n : Nat} {vat : Int32} {ars : Nat → jv_ar} {mLb mUs mWr mDk : Nat → Int32} (h : Jd n vat ars mLb mUs mWr mDk) : ∀ a, a < n → TI (ars a).2.2.2.1 := h.2.2.2.2.2.2.2.2.1
theorem Jd.pi {n : Nat} {vat : Int32} {ars : Nat → jv_ar} {mLb mUs mWr mDk : Nat → Int32} (h : Jd n vat ars mLb mUs mWr mDk) : ∀ a, a < n → PI (ars a).2.2.2.1 := h.2.2.2.2.2.2.2.2.2.1
theorem Jd.zd {n : Nat} {vat : Int32} {ars : Nat → jv_ar} {mLb mUs mWr mDk : Nat → Int32} (h : Jd n vat ars mLb mUs mWr mDk) : ∀ w, 232 * n ≤ w → w < 1392 → mDk w = 0 := h.2.2.2.2.2.2.2.2.2.2.1
theorem Jd.zw {n : Nat} {vat : Int32} {ars : Nat → jv_ar} {mLb mUs mWr mDk : Nat → Int32} (h : Jd n vat ars mLb mUs mWr mDk) : ∀ a, n ≤ a → a < 6 → mWr a = 0 := h.2.2.2.2.2.2.2.2.2.2.2
theorem Jd.sk {n : Nat} {vat : Int32} {ars : Nat → jv_ar} {mLb mUs mWr mDk : Nat → Int32} (J : Jd n vat ars mLb mUs mWr mDk) : Sk n ars mLb mDk := ⟨J.hn, J.lb, J.dr, J.ti⟩
theorem TI.eqd {D C : Nat → Int32} (e : eqd D C) (T : TI D) : TI C := T.congr (fun i w hi hw => e _ (by omega))
theorem eqd.trans {A B C : Nat → Int32} (h : eqd A B) (g : eqd B C) : eqd A C := fun w hw => (h w hw).trans (g w hw)
theorem pU.same {n : Nat} {ars ars' : Nat → jv_ar} {mUs : Nat → Int32} (h : pU n ars mUs) (g : ∀ a, a < n → (ars' a).2.1 = (ars a).2.1) : pU n ars' mUs := by
  refine ⟨fun a i ha hi => ?_, h.2⟩
  rw [g a ha]
  exact h.1 a i ha hi
theorem cpD.in {mDk C dk : Nat → Int32} {a : Nat} (h : cpD mDk C a dk) {w : Nat} (hw : w < 232) : dk (232 * a + w) = C w := by
  rw [h (232 * a + w), if_pos (by omega), show 232 * a + w - 232 * a = w by omega]
theorem cpD.out {mDk C dk : Nat → Int32} {a b : Nat} (h : cpD mDk C a dk) (hb : b ≠ a) {w : Nat} (hw : w < 232) : dk (232 * b + w) = mDk (232 * b + w) := by
  rw [h (232 * b + w), if_neg (by omega)]
section
variable {n : Nat} {vat : Int32} {ars : Nat → jv_ar} {mLb mUs mWr mDk : Nat → Int32}
theorem Jd.done (J : Jd n vat ars mLb mUs mWr mDk) {a : Nat} (ha : a < n) {ars' : Nat → jv_ar} {vat' v : Int32} {C dk : Nat → Int32} (hv : ∃ t : Option Nat, vat' = fuI t ∧ ∀ k, t = some k → k ≤ 1000) (ho : ∀ b, b ≠ a → ars' b = ars b) (y1 : (ars' a).1 = (ars a).1) (y2 : (ars' a).2.1 = (ars a).2.1) (y3 : eqd (ars' a).2.2.1 C) (y4 : eqd (ars' a).2.2.2.1 C) (yT : TI (ars' a).2.2.2.1) (yP : PI (ars' a).2.2.2.1) (y5 : (ars' a).2.2.2.2.2.2.1 = 0) (y6 : (ars' a).2.2.2.2.2.2.2 = v) (hd : cpD mDk C a dk) : Jd n vat' ars' mLb mUs (upd mWr a v) dk := by
  have hn := J.hn
  refine ⟨hn, hv, fun b hb => ?_, J.us.same (fun b hb => ?_), fun b hb => ?_, fun b hb => ?_, fun b hb w hw => ?_, fun b hb w hw => ?_, fun b hb => ?_, fun b hb => ?_, fun w h1 h2 => ?_, fun b h1 h2 => by rw [q_updN (by omega)]; exact J.zw b h1 h2⟩
  · by_cases h : b = a
    · subst h; rw [y1]; exact J.lb b hb
    · rw [ho b h]; exact J.lb b hb
  · by_cases h : b = a
    · subst h; exact y2
    · rw [ho b h]
  · by_cases h : b = a
    · subst h; exact y5
    · rw [ho b h]; exact J.mkd b hb
  · by_cases h : b = a
    · subst h; rw [q_updS]; exact y6
    · rw [ho b h, q_updN h]; exact J.wr b hb
  · by_cases h : b = a
    · subst h; rw [hd.in hw]; exact y3 w hw
    · rw [ho b h, hd.out h hw]; exact J.pl b hb w hw
  · by_cases h : b = a
    · subst h; rw [hd.in hw]; exact y4 w hw
    · rw [ho b h, hd.out h hw]; exact J.dr b hb w hw
  · by_cases h : b = a
    · subst h; exact yT
    · rw [ho b h]; exact J.ti b hb
  · by_cases h : b = a
    · subst h; exact yP
    · rw [ho b h]; exact J.pi b hb
  · rw [hd w, if_neg (by omega)]; exact J.zd w h1 h2
theorem Jd.torn (J : Jd n vat ars mLb mUs mWr mDk) {a : Nat} (ha : a < n) {ars1 ars' : Nat → jv_ar} {v : Int32} {C dk Q : Nat → Int32} (ho : ∀ b, b ≠ a → ars1 b = ars b) (y1 : (ars1 a).1 = (ars a).1) (y6 : (ars1 a).2.2.2.2.2.2.2 = v) (hb : ∀ b, b < n → pBs (ars1 b) (ars' b)) (hq1 : eqd (ars' a).2.2.1 Q) (hq2 : eqd (ars' a).2.2.2.1 Q) (hT : TI Q) (hP : PI Q) (hd : (dk = mDk ∧ eqd Q (ars a).2.2.1) ∨ (cpD mDk C a dk ∧ eqd Q C)) : Jd n (-1) ars' mLb (pzero mUs 0 24) (upd mWr a v) dk := by
  have hn := J.hn
  have hrec : ∀ b, b < n → b ≠ a → (ars' b).2.2.1 = (ars b).2.2.1 ∧ eqd (ars' b).2.2.2.1 (ars b).2.2.1 := fun b hb1 h => by
    obtain ⟨-, -, h3, -, -⟩ := hb b hb1
    rw [ho b h, J.mkd b hb1] at h3
    obtain ⟨Q', E', e1, e2, e3⟩ := q_rc0 (P := (ars b).2.2.1) (E := (ars b).2.2.2.1) (J := (ars b).2.2.2.2.1) (jn := (ars b).2.2.2.2.2.1)
    rw [e1] at h3
    have h4 := Option.some.inj h3
    have h5 : Q' = (ars' b).2.2.1 := congrArg (fun z => z.2.1) h4
    have h6 : E' = (ars' b).2.2.2.1 := congrArg (fun z => z.2.2) h4
    rw [← h5, ← h6]
    rw [← e3]
    exact ⟨rfl, e2⟩
  have hdo : ∀ b, b ≠ a → ∀ w, w < 232 → dk (232 * b + w) = mDk (232 * b + w) := fun b h w hw => by
    rcases hd with ⟨h1, _⟩ | ⟨h1, _⟩
    · rw [h1]
    · exact h1.out h hw
  have hdi : ∀ w, w < 232 → Q w = dk (232 * a + w) := fun w hw => by
    rcases hd with ⟨h1, h2⟩ | ⟨h1, h2⟩
    · rw [h1, h2 w hw]; exact J.pl a ha w hw
    · rw [h1.in hw, h2 w hw]
  refine ⟨hn, ⟨none, rfl, fun k h => by cases h⟩, fun b hb1 => ?_, pU.none hn (fun b hb1 j hj => (hb b hb1).2.1 j hj), fun b hb1 => (hb b hb1).2.2.2.1, fun b hb1 => ?_, fun b hb1 w hw => ?_, fun b hb1 w hw => ?_, fun b hb1 => ?_, fun b hb1 => ?_, fun w h1 h2 => ?_, fun b h1 h2 => by rw [q_updN (by omega)]; exact J.zw b h1 h2⟩
  · rw [(hb b hb1).1]
    by_cases h : b = a
    · subst h; rw [y1]; exact J.lb b hb1
    · rw [ho b h]; exact J.lb b hb1
  · rw [(hb b hb1).2.2.2.2]
    by_cases h : b = a
    · subst h; rw [q_updS]; exact y6
    · rw [ho b h, q_updN h]; exact J.wr b hb1
  · by_cases h : b = a
    · subst h; rw [hq1 w hw]; exact hdi w hw
    · rw [(hrec b hb1 h).1, hdo b h w hw]; exact J.pl b hb1 w hw
  · by_cases h : b = a
    · subst h; rw [hq2 w hw]; exact hdi w hw
    · rw [(hrec b hb1 h).2 w hw, hdo b h w hw]; exact J.pl b hb1 w hw
  · by_cases h : b = a
    · subst h; exact hT.eqd hq2.symm
    · exact (J.ti b hb1).eqd (fun w hw => by rw [(hrec b hb1 h).2 w hw, J.dr b hb1 w hw, J.pl b hb1 w hw])
  · by_cases h : b = a
    · subst h; exact hP.congr hq2.symm
    · exact (J.pi b hb1).congr (fun w hw => by rw [(hrec b hb1 h).2 w hw, J.dr b hb1 w hw, J.pl b hb1 w hw])
  · rcases hd with ⟨h3, _⟩ | ⟨h3, _⟩
    · rw [h3]; exact J.zd w h1 h2
    · rw [h3 w, if_neg (by omega)]; exact J.zd w h1 h2
/-- an area with another draft -/
def wD (x : jv_ar) (D : Nat → Int32) : jv_ar := (x.1, x.2.1, x.2.2.1, D, x.2.2.2.2.1, x.2.2.2.2.2.1, x.2.2.2.2.2.2.1, x.2.2.2.2.2.2.2)
theorem q_fin (J : Jd n vat ars mLb mUs mWr mDk) {a : Nat} (ha : a < n) {D C : Nat → Int32} (hT : TI D) (hP : PI D) (hC : eqd D C) (ans : Int32) : ∃ ans' vat' ars' mUs' mWr' mDk', f_V_finish n a ans vat (va_up ars a (wD (ars a) D)) = some (ans', vat', ars') ∧ f_M_finish C (nI a) ans vat mUs mWr mDk = some (ans', vat', mUs', mWr', mDk') ∧ Jd n vat' ars' mLb mUs' mWr' mDk' := by
  have hn := J.hn
  obtain ⟨t, hv, ht⟩ := J.fv
  subst hv
  have ht2 : ∀ k, t = some k → k < 2 ^ 31 := fun k h => by have := ht k h; omega
  have hcc : cch (ars a).2.2.1 D 0 29 = cch (sgD mDk a) C 0 29 := cch_c 29 0 (fun k _ hk => by
    have e1 : ∀ w, w < 8 → D (8 * k + w) = C (8 * k + w) := fun w hw => hC _ (by omega)
    have e2 : ∀ w, w < 8 → (ars a).2.2.1 (8 * k + w) = sgD mDk a (8 * k + w) := fun w hw => J.pl a ha _ (by omega)
    constructor
    · intro h w hw
      rw [← e1 w hw, ← e2 w hw]
      exact h w hw
    · intro h w hw
      rw [e1 w hw, e2 w hw]
      exact h w hw)
  have hmk := J.mkd a ha
  have hwr := J.wr a ha
  by_cases h0 : cch (ars a).2.2.1 D 0 29 = 0
  · obtain ⟨dk, m1, m2⟩ := q_fmA (C := C) (mDk := mDk) (mUs := mUs) (mWr := mWr) (a := a) (ans := ans) (by omega) (t := t) ht2 (c := 0) (all := 0) (by rw [← hcc, h0]) rfl (fun k h => Nat.zero_le _)
    have c1 := q_cmA (J := (ars a).2.2.2.2.1) (jn := (ars a).2.2.2.2.2.1) (wr := (ars a).2.2.2.2.2.2.2) (a := fuI t) h0
    rw [fsb_0] at m1
    refine ⟨ans, fuI t, va_up (va_up ars a (wD (ars a) D)) a ((ars a).1, (ars a).2.1, (ars a).2.2.1, D, (ars a).2.2.2.2.1, (ars a).2.2.2.2.2.1, 0, (ars a).2.2.2.2.2.2.2), _, _, _, ?_, m1, ?_⟩
    · unfold f_V_finish f_V_finish_0
      simp only [va_up_self, wD, hmk, c1, Option.bind_some, jv_lt, p10, if_false]
    · have hs : eqd (ars a).2.2.1 D := (smb_eq (fun k hk => cch_0 _ _ 29 0 h0 k (Nat.zero_le _) (by omega))).symm
      refine J.done ha ⟨t, rfl, ht⟩ (fun b hb => by rw [va_up_ne _ _ hb, va_up_ne _ _ hb]) ?_ ?_ ?_ ?_ ?_ ?_ ?_ ?_ m2
      · rw [va_up_self]
      · rw [va_up_self]
      · rw [va_up_self]; exact hs.trans hC
      · rw [va_up_self]; exact hC
      · rw [va_up_self]; exact hT
      · rw [va_up_self]; exact hP
      · rw [va_up_self]
      · rw [va_up_self]
        show (ars a).2.2.2.2.2.2.2 = mWr a + 0
        rw [Int32.add_zero]
        exact hwr
  · by_cases hk : fok t (2 * cch (ars a).2.2.1 D 0 29 + 2)
    · obtain ⟨jn', J', P', c1, c2⟩ := q_cmB (J := (ars a).2.2.2.2.1) (jn := (ars a).2.2.2.2.2.1) (wr := (ars a).2.2.2.2.2.2.2) ht2 h0 hk
      obtain ⟨dk, m1, m2⟩ := q_fmA (C := C) (mDk := mDk) (mUs := mUs) (mWr := mWr) (a := a) (ans := ans) (by omega) (t := t) ht2 (c := cch (ars a).2.2.1 D 0 29) (all := 2 * cch (ars a).2.2.1 D 0 29 + 2) hcc (by rw [if_neg h0]) hk
      refine ⟨ans, _, va_up (va_up ars a (wD (ars a) D)) a ((ars a).1, (ars a).2.1, P', D, J', jn', 0, (ars a).2.2.2.2.2.2.2 + nI (2 * cch (ars a).2.2.1 D 0 29 + 2)), _, _, _, ?_, m1, ?_⟩
      · unfold f_V_finish f_V_finish_0
        simp only [va_up_self, wD, hmk, c1, Option.bind_some, jv_lt, p10, if_false]
      · refine J.done ha ⟨_, rfl, fun k h => ?_⟩ (fun b hb => by rw [va_up_ne _ _ hb, va_up_ne _ _ hb]) ?_ ?_ ?_ ?_ ?_ ?_ ?_ ?_ m2
        · cases t with
          | none => cases h
          | some m => have := ht m rfl; have h2 : m - _ = k := Option.some.inj h; omega
        · rw [va_up_self]
        · rw [va_up_self]
        · rw [va_up_self]; exact c2.trans hC
        · rw [va_up_self]; exact hC
        · rw [va_up_self]; exact hT
        · rw [va_up_self]; exact hP
        · rw [va_up_self]
        · rw [va_up_self]
          show (ars a).2.2.2.2.2.2.2 + _ = _
          rw [hwr]
    · obtain ⟨k, rfl, hk2⟩ : ∃ k, t = some k ∧ k < 2 * cch (ars a).2.2.1 D 0 29 + 2 := by
        cases t with
        | none => exact absurd (fun k h => by cases h) hk
        | some m =>
          refine ⟨m, rfl, ?_⟩
          apply Classical.byContradiction
          intro hh
          exact hk (fun j h => by have := Option.some.inj h; omega)
      obtain ⟨jn', mk', J', P', a', c1, c2⟩ := q_cmC (J := (ars a).2.2.2.2.1) (jn := (ars a).2.2.2.2.2.1) (wr := (ars a).2.2.2.2.2.2.2) (ht2 k rfl) h0 hk2
      obtain ⟨Q, E', r1, r2, r3, r4⟩ := c2 D
      obtain ⟨dk, m1, m2, m3⟩ := q_fmC (C := C) (mDk := mDk) (mUs := mUs) (mWr := mWr) (a := a) (ans := ans) (by omega) (ht2 k rfl) (c := cch (ars a).2.2.1 D 0 29) hcc h0 hk2
      have hU1 : pU n (va_up (va_up ars a (wD (ars a) D)) a ((ars a).1, (ars a).2.1, P', D, J', jn', mk', (ars a).2.2.2.2.2.2.2 + nI k)) mUs := J.us.same (fun b hb => by
        by_cases h : b = a
        · subst h; rw [va_up_self]
        · rw [va_up_ne _ _ h, va_up_ne _ _ h])
      have hr1 : ∀ b, b < n → pRc (va_up (va_up ars a (wD (ars a) D)) a ((ars a).1, (ars a).2.1, P', D, J', jn', mk', (ars a).2.2.2.2.2.2.2 + nI k) b) := fun b hb => by
        by_cases h : b = a
        · subst h; rw [va_up_self]; exact ⟨Q, E', r1⟩
        · rw [va_up_ne _ _ h, va_up_ne _ _ h]
          obtain ⟨Q2, E2, e1, -, -⟩ := q_rc0 (P := (ars b).2.2.1) (E := (ars b).2.2.2.1) (J := (ars b).2.2.2.2.1) (jn := (ars b).2.2.2.2.2.1)
          exact ⟨Q2, E2, by rw [J.mkd b hb]; exact e1⟩
      obtain ⟨ars', b1, b2⟩ := q_brk hn a' hU1 hr1
      have hfi : f_V_finish n a ans (fuI (some k)) (va_up ars a (wD (ars a) D)) = some (-3, -1, ars') := by
        unfold f_V_finish f_V_finish_0
        rw [show fuI (some k) = nI k from rfl]
        simp only [va_up_self, wD, hmk, c1, Option.bind_some, jv_lt, if_true]
        have b3 := b1
        simp only [wD, hmk] at b3
        rw [b3]
        rfl
      refine ⟨-3, -1, ars', _, _, dk, hfi, m1, ?_⟩
      have hba := b2 a ha
      rw [va_up_self] at hba
      have h4 := Option.some.inj (r1.symm.trans hba.2.2.1)
      have h5 : Q = (ars' a).2.2.1 := congrArg (fun z => z.2.1) h4
      have h6 : E' = (ars' a).2.2.2.1 := congrArg (fun z => z.2.2) h4
      have hPo : eqd (ars a).2.2.2.1 (ars a).2.2.1 := fun w hw => by rw [J.dr a ha w hw, J.pl a ha w hw]
      by_cases hkc : k ≤ cch (ars a).2.2.1 D 0 29
      · refine J.torn (C := C) (Q := Q) ha (ars1 := va_up (va_up ars a (wD (ars a) D)) a ((ars a).1, (ars a).2.1, P', D, J', jn', mk', (ars a).2.2.2.2.2.2.2 + nI k)) (fun b hb => by rw [va_up_ne _ _ hb, va_up_ne _ _ hb]) (by rw [va_up_self]) ?_ b2 (by rw [← h5]; exact fun _ _ => rfl) (by rw [← h6]; exact r2) ?_ ?_ (Or.inl ⟨m2 hkc, r3 hkc⟩)
        · rw [va_up_self, ← hwr]
        · exact (J.ti a ha).eqd (hPo.trans (r3 hkc).symm)
        · exact (J.pi a ha).congr (hPo.trans (r3 hkc).symm)
      · refine J.torn (C := C) (Q := Q) ha (ars1 := va_up (va_up ars a (wD (ars a) D)) a ((ars a).1, (ars a).2.1, P', D, J', jn', mk', (ars a).2.2.2.2.2.2.2 + nI k)) (fun b hb => by rw [va_up_ne _ _ hb, va_up_ne _ _ hb]) (by rw [va_up_self]) ?_ b2 (by rw [← h5]; exact fun _ _ => rfl) (by rw [← h6]; exact r2) ?_ ?_ (Or.inr ⟨m3 (by omega), (r4 (by omega)).trans hC⟩)
        · rw [va_up_self, ← hwr]
        · exact hT.eqd (r4 (by omega)).symm
        · exact hP.congr (r4 (by omega)).symm
end
