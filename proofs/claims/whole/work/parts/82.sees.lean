/-! Sessions and areas of a call; what a session sees. -/
theorem q_areaO {n : Nat} {ars : Nat → jv_ar} {mUs : Nat → Int32} (hn : n ≤ 6) (hU : pU n ars mUs) (p : Int32) : (f_V_areaOf n ars p = some (.inl 1) ∧ f_M_isSession mUs p = some 0) ∨
    (∃ a i, a < n ∧ i < 4 ∧ p = nI (4 * a + i) ∧ f_V_areaOf n ars p = some (.inr a) ∧ f_M_isSession mUs p = some 1 ∧ p / (4 : Int32) = nI a) := by
  unfold f_V_areaOf f_V_areaOf_0
  rcases q_sess hn hU p with ⟨h1, h2⟩ | ⟨h1, h2, a, i, u, ha, hi, _, _, rfl, _, _⟩
  · rw [h1]
    exact Or.inl ⟨rfl, h2⟩
  · have e : nI (4 * a + i) / (4 : Int32) = nI a := by rw [q_d4 (by omega), show (4 * a + i) / 4 = a by omega]
    refine Or.inr ⟨a, i, ha, hi, rfl, ?_, h2, e⟩
    rw [h1, e]
    show (jv_gi 6 (nI a)).bind _ = _
    rw [q_gi (by omega) (by omega), Option.bind_some, if_pos ha]
theorem q_sees {n : Nat} {ars : Nat → jv_ar} {mLb : Nat → Int32} (hn : n ≤ 6) (hL : ∀ a, a < n → (ars a).1 = mLb a) {b i : Nat} (hb : b < n) (hi : i < 4) {a : Nat} (ha : a < n) : ∃ o : Int32, (o = 0 ∨ o = 1) ∧ f_M_flow (mLb a) (mLb b) = some o ∧ f_V_isOpenTo n ars (ars b).1 (nI a) = some o ∧ f_M_sees mLb (nI (4 * b + i)) (nI a) = some o := by
  have e : nI (4 * b + i) / (4 : Int32) = nI b := by rw [q_d4 (by omega), show (4 * b + i) / 4 = b by omega]
  unfold f_V_isOpenTo f_V_isOpenTo_0 f_M_sees f_M_sees_0
  rw [q_area1 hn ha, e, q_ga (by omega) (by omega), q_ga (by omega) (by omega)]
  simp only [Option.bind_some, p10, if_false, q_gi (n := 6) (k := a) (by omega) (by omega), if_pos ha, pl_flow, hL a ha, hL b hb]
  rcases pl_flowv (mLb a) (mLb b) with h | h <;> rw [h]
  · exact ⟨0, Or.inl rfl, rfl, rfl, rfl⟩
  · exact ⟨1, Or.inr rfl, rfl, rfl, rfl⟩
theorem q_open0 {n : Nat} {ars : Nat → jv_ar} (hn : n ≤ 6) {L : Int32} {a : Nat} (ha : n ≤ a) (h2 : a < 6) : f_V_isOpenTo n ars L (nI a) = some 0 := by
  unfold f_V_isOpenTo f_V_isOpenTo_0
  rw [q_area0 hn (by omega) ha]
  rfl
def sb0 (c : Int32) : Int32 := if c = 0 then 0 else 1
def sb1 (c : Int32) : Int32 := if c &&& 1 = 0 then 0 else 1
def c03 (c : Int32) : Prop := c = 0 ∨ c = 1 ∨ c = 2 ∨ c = 3
theorem sb_0 {mar : Int32} {mLb mDk : Nat → Int32} {k6 : (Int32 × Int32) → Option Int32} {y0 y1 y4 : Int32} {c v : Int32} (hc : c03 c) (hv : v = 0 ∨ v = 1 ∨ v = 2) : f_M_visible_36 mar mLb mDk k6 y0 y1 0 (sb0 c) y4 v = k6 (sb0 (c ||| v), y4 + 1) := by
  rcases hc with rfl | rfl | rfl | rfl <;> rcases hv with rfl | rfl | rfl <;> rfl
theorem sb_1 {mar : Int32} {mLb mDk : Nat → Int32} {k6 : (Int32 × Int32) → Option Int32} {y0 y1 y4 : Int32} {c v : Int32} (hc : c03 c) (hv : v = 0 ∨ v = 1 ∨ v = 2) : f_M_visible_36 mar mLb mDk k6 y0 y1 1 (sb1 c) y4 v = k6 (sb1 (c ||| v), y4 + 1) := by
  rcases hc with rfl | rfl | rfl | rfl <;> rcases hv with rfl | rfl | rfl <;> rfl
theorem sb_c {c v : Int32} (hc : c03 c) (hv : v = 0 ∨ v = 1 ∨ v = 2) : c03 (c ||| v) := by
  rcases hc with rfl | rfl | rfl | rfl <;> rcases hv with rfl | rfl | rfl <;> unfold c03 <;> decide
theorem sb_v0 (c : Int32) : (sb0 c = 0 ∨ sb0 c = 1) ∧ (sb1 c = 0 ∨ sb1 c = 1) := by
  unfold sb0 sb1
  constructor
  · by_cases h : c = 0
    · rw [if_pos h]; exact Or.inl rfl
    · rw [if_neg h]; exact Or.inr rfl
  · by_cases h : c &&& 1 = 0
    · rw [if_pos h]; exact Or.inl rfl
    · rw [if_neg h]; exact Or.inr rfl
theorem q_ksT {n : Nat} {ars : Nat → jv_ar} (hn : n ≤ 6) {L p : Int32} : ∀ d i, i + d = 6 → n ≤ i → ∀ f, d < f → ∀ c, jv_fx (f_V_kindsSeen_5 n ars L p) f (c, nI i) = some c := by
  intro d
  induction d with
  | zero =>
    intro i hi hni f hf c
    obtain ⟨f, rfl⟩ : ∃ f', f = f' + 1 := ⟨f - 1, by omega⟩
    obtain rfl : i = 6 := by omega
    rfl
  | succ d ih =>
    intro i hi hni f hf c
    obtain ⟨f, rfl⟩ : ∃ f', f = f' + 1 := ⟨f - 1, by omega⟩
    have i1 := ih (i + 1) (by omega) (by omega) f (by omega) c
    rw [jv_fx_s]
    generalize jv_fx (f_V_kindsSeen_5 n ars L p) f = kk at i1 ⊢
    unfold f_V_kindsSeen_5
    have h6 : ((6 : Int32) ≤ nI i) = (6 ≤ i) := q_le (a := 6) (by omega) (by omega)
    simp only [h6, if_neg (show ¬ 6 ≤ i by omega), q_open0 hn (L := L) hni (show i < 6 by omega), Option.bind_some, if_true, nI_1, i1]
/-- what the disks of the areas are to a path -/
abbrev Sk (n : Nat) (ars : Nat → jv_ar) (mLb mDk : Nat → Int32) : Prop :=
  (n ≤ 6) ∧
  (∀ a, a < n → (ars a).1 = mLb a) ∧
  (∀ a, a < n → ∀ w, w < 232 → (ars a).2.2.2.1 w = mDk (232 * a + w)) ∧
  (∀ a, a < n → TI (ars a).2.2.2.1)
theorem Sk.hn {n : Nat} {ars : Nat → jv_ar} {mLb mDk : Nat → Int32} (h : Sk n ars mLb mDk) : n ≤ 6 := h.1
theorem Sk.lb {n : Nat} {ars : Nat → jv_ar} {mLb mDk : Nat → Int32} (h : Sk n ars mLb mDk) : ∀ a, a < n → (ars a).1 = mLb a := h.2.1
theorem Sk.dr {n : Nat} {ars : Nat → jv_ar} {mLb mDk : Nat → Int32} (h : Sk n ars mLb mDk) : ∀ a, a < n → ∀ w, w < 232 → (ars a).2.2.2.1 w = mDk (232 * a + w) := h.2.2.1
theorem Sk.ti {n : Nat} {ars : Nat → jv_ar} {mLb mDk : Nat → Int32} (h : Sk n ars mLb mDk) : ∀ a, a < n → TI (ars a).2.2.2.1 := h.2.2.2
theorem q_ksN {n : Nat} {ars : Nat → jv_ar} {mLb mDk : Nat → Int32} (K : Sk n ars mLb mDk) {b s : Nat} (hb : b < n) (hs : s < 4) {r : List Nat} (h : gpt r) : ∀ d i, i + d = n → ∀ f g e, d + 7 < f → d < g → d < e → ∀ c, c03 c → ∃ c', c03 c' ∧
    jv_fx (f_V_kindsSeen_5 n ars (ars b).1 (nI (enc r))) f (c, nI i) = some c' ∧ jv_fx (f_M_visible_6 (nI n) mLb mDk (nI (4 * b + s)) (nI (enc r)) 0) g (sb0 c, nI i) = some (sb0 c') ∧ jv_fx (f_M_visible_6 (nI n) mLb mDk (nI (4 * b + s)) (nI (enc r)) 1) e (sb1 c, nI i) = some (sb1 c') := by
  have hn := K.hn
  intro d
  induction d with
  | zero =>
    intro i hi f g e hf hg he c hc
    obtain ⟨g, rfl⟩ : ∃ g', g = g' + 1 := ⟨g - 1, by omega⟩
    obtain ⟨e, rfl⟩ : ∃ e', e = e' + 1 := ⟨e - 1, by omega⟩
    obtain rfl : i = n := by omega
    refine ⟨c, hc, q_ksT hn (6 - i) i (by omega) (Nat.le_refl _) f (by omega) c, ?_, ?_⟩
    · rw [jv_fx_s]
      unfold f_M_visible_6
      rw [if_pos (nI_le (Nat.le_refl _) (by omega)), if_pos (sb_v0 c).1]
    · rw [jv_fx_s]
      unfold f_M_visible_6
      rw [if_pos (nI_le (Nat.le_refl _) (by omega)), if_pos (sb_v0 c).2]
  | succ d ih =>
    intro i hi f g e hf hg he c hc
    obtain ⟨f, rfl⟩ : ∃ f', f = f' + 1 := ⟨f - 1, by omega⟩
    obtain ⟨g, rfl⟩ : ∃ g', g = g' + 1 := ⟨g - 1, by omega⟩
    obtain ⟨e, rfl⟩ : ∃ e', e = e' + 1 := ⟨e - 1, by omega⟩
    obtain ⟨o, o1, -, o2, o3⟩ := q_sees hn K.lb hb hs (a := i) (by omega)
    obtain ⟨v, v1, v2, v3⟩ := q_kd (a := i) (by omega) (K.dr i (by omega)) (K.ti i (by omega)) h
    have hv := v1.v (K.ti i (by omega))
    have h6 : ((6 : Int32) ≤ nI i) = (6 ≤ i) := q_le (a := 6) (by omega) (by omega)
    have hm : (nI n ≤ nI i) = (n ≤ i) := q_le (by omega) (by omega)
    rcases o1 with rfl | rfl
    · obtain ⟨c', g0, g1, g2, g3⟩ := ih (i + 1) (by omega) f g e (by omega) (by omega) (by omega) c hc
      refine ⟨c', g0, ?_, ?_, ?_⟩
      · rw [jv_fx_s]
        generalize jv_fx (f_V_kindsSeen_5 n ars (ars b).1 (nI (enc r))) f = kk at g1 ⊢
        unfold f_V_kindsSeen_5
        simp only [h6, if_neg (show ¬ 6 ≤ i by omega), o2, Option.bind_some, if_true, nI_1, g1]
      · rw [jv_fx_s]
        generalize jv_fx (f_M_visible_6 (nI n) mLb mDk (nI (4 * b + s)) (nI (enc r)) 0) g = kk at g2 ⊢
        unfold f_M_visible_6
        simp only [hm, if_neg (show ¬ n ≤ i by omega), o3, Option.bind_some, if_true]
        rw [sb_0 hc (Or.inl rfl), nI_1, Int32.or_zero, g2]
      · rw [jv_fx_s]
        generalize jv_fx (f_M_visible_6 (nI n) mLb mDk (nI (4 * b + s)) (nI (enc r)) 1) e = kk at g3 ⊢
        unfold f_M_visible_6
        simp only [hm, if_neg (show ¬ n ≤ i by omega), o3, Option.bind_some, if_true]
        rw [sb_1 hc (Or.inl rfl), nI_1, Int32.or_zero, g3]
    · obtain ⟨c', g0, g1, g2, g3⟩ := ih (i + 1) (by omega) f g e (by omega) (by omega) (by omega) (c ||| v) (sb_c hc hv)
      refine ⟨c', g0, ?_, ?_, ?_⟩
      · rw [jv_fx_s]
        generalize jv_fx (f_V_kindsSeen_5 n ars (ars b).1 (nI (enc r))) f = kk at g1 ⊢
        unfold f_V_kindsSeen_5
        simp only [h6, if_neg (show ¬ 6 ≤ i by omega), o2, Option.bind_some, p10, if_false, q_gi (n := 6) (k := i) (by omega) (by omega), if_pos (show i < n by omega), v2, nI_1, g1]
      · rw [jv_fx_s]
        generalize jv_fx (f_M_visible_6 (nI n) mLb mDk (nI (4 * b + s)) (nI (enc r)) 0) g = kk at g2 ⊢
        unfold f_M_visible_6
        simp only [hm, if_neg (show ¬ n ≤ i by omega), o3, Option.bind_some, p10, if_false, v3]
        rw [sb_0 hc hv, nI_1, g2]
      · rw [jv_fx_s]
        generalize jv_fx (f_M_visible_6 (nI n) mLb mDk (nI (4 * b + s)) (nI (enc r)) 1) e = kk at g3 ⊢
        unfold f_M_visible_6
        simp only [hm, if_neg (show ¬ n ≤ i by omega), o3, Option.bind_some, p10, if_false, v3]
        rw [sb_1 hc hv, nI_1, g3]
theorem q_ks {n : Nat} {ars : Nat → jv_ar} {mLb mDk : Nat → Int32} (K : Sk n ars mLb mDk) {b s : Nat} (hb : b < n) (hs : s < 4) {r : List Nat} (h : gpt r) : ∃ c, c03 c ∧
    f_V_kindsSeen n ars (ars b).1 (nI (enc r)) = some c ∧ f_M_visible (nI n) mLb mDk (nI (4 * b + s)) (nI (enc r)) 0 = some (sb0 c) ∧ f_M_visible (nI n) mLb mDk (nI (4 * b + s)) (nI (enc r)) 1 = some (sb1 c) :=
  q_ksN K hb hs h n 0 (by omega) 300 300 300 (by have := K.hn; omega) (by have := K.hn; omega) (by have := K.hn; omega) 0 (Or.inl rfl)
