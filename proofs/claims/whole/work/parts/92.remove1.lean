/-! remove -/
theorem q_zfN {b : Nat} (hb : b < 29) : ∀ d w, w + d = 8 → ∀ f, d < f → ∀ D : Nat → Int32, ∃ D', jv_fx (f_D_zeroFrom_2 (nI b)) f (nI w, D) = some D' ∧ ∀ x, D' x = if b * 8 + w ≤ x ∧ x < b * 8 + 8 then 0 else D x := by
  intro d
  induction d with
  | zero =>
    intro w hw f hf D
    obtain ⟨f, rfl⟩ : ∃ f', f = f' + 1 := ⟨f - 1, by omega⟩
    obtain rfl : w = 8 := by omega
    exact ⟨D, rfl, fun x => by rw [if_neg (by omega)]⟩
  | succ d ih =>
    intro w hw f hf D
    obtain ⟨f, rfl⟩ : ∃ f', f = f' + 1 := ⟨f - 1, by omega⟩
    obtain ⟨D', h1, h2⟩ := ih (w + 1) (by omega) f (by omega) (upd D (b * 8 + w) 0)
    refine ⟨D', ?_, fun x => ?_⟩
    · rw [jv_fx_s]
      generalize jv_fx (f_D_zeroFrom_2 (nI b)) f = kk at h1 ⊢
      unfold f_D_zeroFrom_2
      have h8 : ((8 : Int32) ≤ nI w) = (8 ≤ w) := q_le (a := 8) (by omega) (by omega)
      have e : nI b * (8 : Int32) + nI w = nI (b * 8 + w) := by rw [show (8 : Int32) = nI 8 from rfl, q_mul, nI_add]
      simp only [h8, if_neg (show ¬ 8 ≤ w by omega), e, q_sa (f := D) (n := 232) (k := b * 8 + w) (by omega) (by omega), Option.bind_some, nI_1, h1]
    · rw [h2 x]
      by_cases h : b * 8 + (w + 1) ≤ x ∧ x < b * 8 + 8
      · rw [if_pos h, if_pos (by omega)]
      · rw [if_neg h]
        by_cases h3 : x = b * 8 + w
        · subst h3
          rw [q_updS, if_pos (by omega)]
        · rw [q_updN h3, if_neg (by omega)]
theorem q_zf {b w : Nat} (hb : b < 29) (hw : w ≤ 8) (D : Nat → Int32) : ∃ D', f_D_zeroFrom (nI b) (nI w) D = some D' ∧ ∀ x, D' x = if b * 8 + w ≤ x ∧ x < b * 8 + 8 then 0 else D x := q_zfN hb (8 - w) w (by omega) 300 (by omega) D
/-- children, as bits -/
def chB (D : Nat → Int32) (X : Int32) (b : Nat) : Prop := 1 ≤ b ∧ b < 8 ∧ kd D b ≠ 0 ∧ ∃ p, p < 8 ∧ pa D b = nI p ∧ bt X p = true
theorem q_coN {D : Nat → Int32} (T : TI D) {X : Int32} : ∀ d i, i + d = 8 → 1 ≤ i → ∀ f, d < f → ∀ Y : Int32, (∀ b, b < 32 → (bt Y b = true ↔ (b < i ∧ chB D X b))) → ∃ Y', jv_fx (f_T_childrenOf_4 D X) f (Y, nI i) = some Y' ∧ ∀ b, b < 32 → (bt Y' b = true ↔ chB D X b) := by
  intro d
  induction d with
  | zero =>
    intro i hi h1 f hf Y hY
    obtain ⟨f, rfl⟩ : ∃ f', f = f' + 1 := ⟨f - 1, by omega⟩
    obtain rfl : i = 8 := by omega
    exact ⟨Y, rfl, fun b hb => (hY b hb).trans ⟨fun h => h.2, fun h => ⟨h.2.1, h⟩⟩⟩
  | succ d ih =>
    intro i hi h1 f hf Y hY
    obtain ⟨f, rfl⟩ : ∃ f', f = f' + 1 := ⟨f - 1, by omega⟩
    have h8 : ((8 : Int32) ≤ nI i) = (8 ≤ i) := q_le (a := 8) (by omega) (by omega)
    obtain ⟨w1, w2, -⟩ := q_pw (a := 0) (by omega) (mDk := D) (D := D) (fun w _ => by rw [Nat.mul_zero, Nat.zero_add]) (i := i) (by omega)
    by_cases hc : chB D X i
    · obtain ⟨Y', y1, y2⟩ := ih (i + 1) (by omega) (by omega) f (by omega) (Y ||| ((1 : Int32) <<< (nI i &&& 31))) (fun b hb => by
        rw [b_or, b_bit (by omega) hb, Bool.or_eq_true, hY b hb, decide_eq_true_iff]
        constructor
        · rintro (h | h)
          · exact ⟨by omega, h.2⟩
          · rw [h]; exact ⟨by omega, hc⟩
        · rintro ⟨g1, g2⟩
          by_cases hbi : b = i
          · exact Or.inr hbi
          · exact Or.inl ⟨by omega, g2⟩)
      refine ⟨Y', ?_, y2⟩
      obtain ⟨-, -, c1, p, p1, p2, p3⟩ := hc
      rw [jv_fx_s]
      generalize jv_fx (f_T_childrenOf_4 D X) f = kk at y1 ⊢
      unfold f_T_childrenOf_4
      have hb := b_at X (k := p) (by omega)
      rw [p3] at hb
      simp only [h8, if_neg (show ¬ 8 ≤ i by omega), w1, w2, Option.bind_some, if_neg c1, p2, hb, if_true, p10, if_false, nI_1, y1]
    · obtain ⟨Y', y1, y2⟩ := ih (i + 1) (by omega) (by omega) f (by omega) Y (fun b hb => (hY b hb).trans ⟨fun h => ⟨by omega, h.2⟩, fun h => ⟨by
        by_cases hbi : b = i
        · rw [hbi] at h; exact absurd h.2 hc
        · have := h.1; omega, h.2⟩⟩)
      refine ⟨Y', ?_, y2⟩
      rw [jv_fx_s]
      generalize jv_fx (f_T_childrenOf_4 D X) f = kk at y1 ⊢
      unfold f_T_childrenOf_4
      simp only [h8, if_neg (show ¬ 8 ≤ i by omega), w1, w2, Option.bind_some, nI_1, y1]
      by_cases hk : kd D i = 0
      · rw [if_pos hk]
      · rw [if_neg hk]
        obtain ⟨p, p1, p2, -⟩ := T.par i h1 (by omega) hk
        have hb := b_at X (k := p) (by omega)
        have hX : bt X p = false := by
          cases hx : bt X p with
          | false => rfl
          | true => exact absurd ⟨h1, by omega, hk, p, p1, p2, hx⟩ hc
        rw [hX] at hb
        rw [p2, hb, if_pos (by decide)]
theorem q_co {D : Nat → Int32} (T : TI D) (X : Int32) : ∃ Y, f_T_childrenOf D X = some Y ∧ ∀ b, b < 32 → (bt Y b = true ↔ chB D X b) :=
  q_coN T 7 1 rfl (by omega) 300 (by omega) 0 (fun b hb => by
    rw [b_0]
    exact ⟨fun h => (by cases h), fun h => (by have h1 := h.1; have := h.2.1; omega)⟩)
/-- inode i has a child -/
def hasC (D : Nat → Int32) (i : Nat) : Prop := ∃ k, 1 ≤ k ∧ k < 8 ∧ kd D k ≠ 0 ∧ pa D k = nI i
theorem q_co1 {D : Nat → Int32} (T : TI D) {i : Nat} (hi : i < 8) : ∃ Y, f_T_childrenOf D ((1 : Int32) <<< (nI i &&& 31)) = some Y ∧ (Y = 0 ↔ ¬ hasC D i) := by
  obtain ⟨Y, y1, y2⟩ := q_co T ((1 : Int32) <<< (nI i &&& 31))
  refine ⟨Y, y1, ?_⟩
  rw [pb_z]
  constructor
  · rintro h ⟨k, k1, k2, k3, k4⟩
    have := (y2 k (by omega)).mpr ⟨k1, k2, k3, i, hi, k4, by rw [b_bit (by omega) (by omega), decide_eq_true rfl]⟩
    rw [h k (by omega)] at this
    cases this
  · intro h b hb
    cases hx : bt Y b with
    | false => rfl
    | true =>
      obtain ⟨c1, c2, c3, p, p1, p2, p3⟩ := (y2 b hb).mp hx
      rw [b_bit (by omega) (by omega), decide_eq_true_iff] at p3
      rw [p3] at p2
      exact absurd ⟨b, c1, c2, c3, p2⟩ h
theorem q_hcN {D mDk : Nat → Int32} {a : Nat} (ha : a < 6) (hD : ∀ w, w < 232 → D w = mDk (232 * a + w)) (T : TI D) {i : Nat} : ∀ d k, k + d = 8 → 1 ≤ k → ∀ f, d < f → ∀ y : Int32, (y = 0 ∨ y = 1) → (y = 0 ↔ ¬ ∃ j, 1 ≤ j ∧ j < k ∧ kd D j ≠ 0 ∧ pa D j = nI i) → ∃ y', (y' = 0 ∨ y' = 1) ∧ (y' = 0 ↔ ¬ hasC D i) ∧ jv_fx (f_M_hasChild_5 mDk (nI a) (nI i)) f (y, nI k) = some y' := by
  intro d
  induction d with
  | zero =>
    intro k hk h1 f hf y hy hy2
    obtain ⟨f, rfl⟩ : ∃ f', f = f' + 1 := ⟨f - 1, by omega⟩
    obtain rfl : k = 8 := by omega
    refine ⟨y, hy, hy2, ?_⟩
    rw [jv_fx_s]
    unfold f_M_hasChild_5
    simp only [show ((8 : Int32) ≤ nI 8) = True by decide, if_true, if_pos hy]
  | succ d ih =>
    intro k hk h1 f hf y hy hy2
    obtain ⟨f, rfl⟩ : ∃ f', f = f' + 1 := ⟨f - 1, by omega⟩
    have h8 : ((8 : Int32) ≤ nI k) = (8 ≤ k) := q_le (a := 8) (by omega) (by omega)
    obtain ⟨-, -, -, w1, w2, -⟩ := q_pw ha hD (i := k) (by omega)
    have ih2 := ih (k + 1) (by omega) (by omega) f (by omega)
    rw [jv_fx_s]
    generalize jv_fx (f_M_hasChild_5 mDk (nI a) (nI i)) f = kk at ih2 ⊢
    unfold f_M_hasChild_5
    simp only [h8, if_neg (show ¬ 8 ≤ k by omega), w1, w2, Option.bind_some, nI_1, T.le0 (show k < 8 by omega)]
    by_cases hc : kd D k ≠ 0 ∧ pa D k = nI i
    · obtain ⟨y', a1, a2, a3⟩ := ih2 1 (Or.inr rfl) ⟨fun h => absurd h (by decide), fun h => absurd ⟨k, h1, by omega, hc.1, hc.2⟩ h⟩
      refine ⟨y', a1, a2, ?_⟩
      rw [if_neg hc.1, if_pos hc.2, a3]
      by_cases hz : y = 0
      · rw [if_pos hz]
      · rw [if_neg hz]
    · have hy3 : y = 0 ↔ ¬ ∃ j, 1 ≤ j ∧ j < k + 1 ∧ kd D j ≠ 0 ∧ pa D j = nI i := hy2.trans (not_congr ⟨fun ⟨j, j1, j2, j3⟩ => ⟨j, j1, by omega, j3⟩, fun ⟨j, j1, j2, j3, j4⟩ => ⟨j, j1, by
        by_cases hjk : j = k
        · rw [hjk] at j3 j4; exact absurd ⟨j3, j4⟩ hc
        · omega, j3, j4⟩⟩)
      obtain ⟨y', a1, a2, a3⟩ := ih2 y hy hy3
      refine ⟨y', a1, a2, ?_⟩
      rcases hy with rfl | rfl
      · rw [if_pos rfl]
        by_cases hk0 : kd D k = 0
        · rw [if_pos hk0, a3]
        · rw [if_neg hk0, if_neg (fun z => hc ⟨hk0, z⟩), a3]
      · rw [if_neg (by decide), a3]
theorem q_hc {D mDk : Nat → Int32} {a : Nat} (ha : a < 6) (hD : ∀ w, w < 232 → D w = mDk (232 * a + w)) (T : TI D) (i : Nat) : ∃ y, (y = 0 ∨ y = 1) ∧ (y = 0 ↔ ¬ hasC D i) ∧ f_M_hasChild mDk (nI a) (nI i) = some y :=
  q_hcN ha hD T 7 1 rfl (by omega) 300 (by omega) 0 (Or.inl rfl) ⟨fun _ ⟨j, j1, j2, _⟩ => by omega, fun _ => rfl⟩
/-! releasing all -/
theorem PB.off0 {D E : Nat → Int32} (P : PB D) (h : ∀ w, w ≠ 0 → E w = D w) : PB E := fun l hl => by
  have hn := hl.ne0
  rw [h l (by omega)]
  refine P l ?_
  rcases hl with ⟨i, w, g⟩ | ⟨i, q, w, g1, g2, g3, g4, g5, g6⟩
  · exact Or.inl ⟨i, w, g⟩
  · exact Or.inr ⟨i, q, w, g1, g2, g3, g4, by rw [← h _ (by omega)]; exact g5, g6⟩
theorem locOf.off0 {D E : Nat → Int32} (h : ∀ w, w ≠ 0 → E w = D w) {i k l : Nat} (g : locOf E i k l) : locOf D i k l := by
  rcases g with ⟨h1, h2⟩ | ⟨h1, q, h2, h3, h4, h5⟩
  · exact Or.inl ⟨h1, h2⟩
  · exact Or.inr ⟨h1, q, h2, h3, by rw [← h _ (by omega)]; exact h4, h5⟩
theorem locOf.pos {D : Nat → Int32} {i k l : Nat} (h : locOf D i k l) : l ≠ 0 := by
  rcases h with ⟨h1, h2⟩ | ⟨h1, q, h2, h3, h4, h5⟩ <;> omega
theorem nI_ne {p b : Nat} (hp : p ≤ 20) (hb : b < 32) : nI p ≠ nI (b + 1) ↔ ¬ b + 1 = p := by
  rw [Ne, nI_eq (by omega) (by omega)]
  constructor <;> intro h z <;> exact h z.symm
theorem q_raN {D : Nat → Int32} (P : PB D) {i : Nat} (hi : i < 8) : ∀ d k, k + d = 10 → ∀ f, d < f → ∀ E : Nat → Int32, (∀ w, w ≠ 0 → E w = D w) → (∀ b, b < 32 → (bt (E 0) b = true ↔ (bt (D 0) b = true ∧ ∀ j, j < k → ∀ l, locOf D i j l → D l ≠ nI (b + 1)))) →
    ∃ E', jv_fx (f_C_releaseAll_2 (nI i)) f (nI k, E) = some E' ∧ (∀ w, w ≠ 0 → E' w = D w) ∧ ∀ b, b < 32 → (bt (E' 0) b = true ↔ (bt (D 0) b = true ∧ (∀ j, j < 10 → ∀ l, locOf D i j l → D l ≠ nI (b + 1)) ∧ D (8 + 8 * i + 6) ≠ nI (b + 1))) := by
  intro d
  induction d with
  | zero =>
    intro k hk f hf E h1 h2
    obtain ⟨f, rfl⟩ : ∃ f', f = f' + 1 := ⟨f - 1, by omega⟩
    obtain rfl : k = 10 := by omega
    obtain ⟨q, q1, q2⟩ := P.ind hi
    have g : f_D_inodeWord E (nI i) (6 : Int32) = some (nI q) := by
      rw [show (6 : Int32) = nI 6 from rfl, q_iw hi (by omega), h1 _ (by omega), q2]
    by_cases hq : q = 0
    · subst hq
      refine ⟨E, ?_, h1, fun b hb => ?_⟩
      · rw [jv_fx_s]
        unfold f_C_releaseAll_2
        simp only [show ((10 : Int32) ≤ nI 10) = True by decide, if_true, g, Option.bind_some, q_rel0]
      · rw [h2 b hb, q2, nI_ne (by omega) hb]
        exact ⟨fun h => ⟨h.1, h.2, by omega⟩, fun h => ⟨h.1, h.2.1⟩⟩
    · refine ⟨upd E 0 (clr (E 0) q), ?_, fun w hw => ?_, fun b hb => ?_⟩
      · rw [jv_fx_s]
        unfold f_C_releaseAll_2
        simp only [show ((10 : Int32) ≤ nI 10) = True by decide, if_true, g, Option.bind_some, q_rel1 (D := E) (show 1 ≤ q by omega) q1]
      · rw [q_updN hw]; exact h1 w hw
      · rw [q_updS, b_clr _ (by omega) (by omega) hb, Bool.and_eq_true, h2 b hb, q2, nI_ne (by omega) hb, Bool.not_eq_true', decide_eq_false_iff_not]
        exact ⟨fun h => ⟨h.1.1, h.1.2, h.2⟩, fun h => ⟨⟨h.1, h.2.1⟩, h.2.2⟩⟩
  | succ d ih =>
    intro k hk f hf E h1 h2
    obtain ⟨f, rfl⟩ : ∃ f', f = f' + 1 := ⟨f - 1, by omega⟩
    have h8 : ((10 : Int32) ≤ nI k) = (10 ≤ k) := q_le (a := 10) (by omega) (by omega)
    have PE := P.off0 h1
    rcases q_pt PE (C := E) (fun _ _ => rfl) hi (show k < 10 by omega) with ⟨t0, t1, t2, -⟩ | ⟨l, p, t1, t2, t3, t4, t5, -⟩
    · rw [h1 _ (by omega)] at t1
      obtain ⟨E', e1, e2, e3⟩ := ih (k + 1) (by omega) f (by omega) E h1 (fun b hb => (h2 b hb).trans ⟨fun h => ⟨h.1, fun j hj l hl => by
        by_cases hjk : j = k
        · rw [hjk] at hl; exact absurd (hl.ne t0 t1) id
        · exact h.2 j (by omega) l hl⟩, fun h => ⟨h.1, fun j hj => h.2 j (by omega)⟩⟩)
      refine ⟨E', ?_, e2, e3⟩
      rw [jv_fx_s]
      generalize jv_fx (f_C_releaseAll_2 (nI i)) f = kk at e1 ⊢
      unfold f_C_releaseAll_2
      simp only [h8, if_neg (show ¬ 10 ≤ k by omega), t2, Option.bind_some, q_rel0, nI_1, e1]
    · have t1' := t1.off0 h1
      rw [h1 l t1.pos] at t4
      by_cases hp : p = 0
      · subst hp
        obtain ⟨E', e1, e2, e3⟩ := ih (k + 1) (by omega) f (by omega) E h1 (fun b hb => (h2 b hb).trans ⟨fun h => ⟨h.1, fun j hj m hm => by
          by_cases hjk : j = k
          · rw [hjk] at hm; rw [hm.fn t1', t4, nI_ne (by omega) hb]; omega
          · exact h.2 j (by omega) m hm⟩, fun h => ⟨h.1, fun j hj => h.2 j (by omega)⟩⟩)
        refine ⟨E', ?_, e2, e3⟩
        rw [jv_fx_s]
        generalize jv_fx (f_C_releaseAll_2 (nI i)) f = kk at e1 ⊢
        unfold f_C_releaseAll_2
        simp only [h8, if_neg (show ¬ 10 ≤ k by omega), t5, Option.bind_some, q_rel0, nI_1, e1]
      · obtain ⟨E', e1, e2, e3⟩ := ih (k + 1) (by omega) f (by omega) (upd E 0 (clr (E 0) p)) (fun w hw => by rw [q_updN hw]; exact h1 w hw) (fun b hb => by
          rw [q_updS, b_clr _ (by omega) (by omega) hb, Bool.and_eq_true, h2 b hb, Bool.not_eq_true', decide_eq_false_iff_not]
          constructor
          · rintro ⟨⟨g1, g2⟩, g3⟩
            refine ⟨g1, fun j hj m hm => ?_⟩
            by_cases hjk : j = k
            · rw [hjk] at hm; rw [hm.fn t1', t4, nI_ne (by omega) hb]; exact g3
            · exact g2 j (by omega) m hm
          · rintro ⟨g1, g2⟩
            refine ⟨⟨g1, fun j hj => g2 j (by omega)⟩, ?_⟩
            have := g2 k (by omega) l t1'
            rw [t4, nI_ne (by omega) hb] at this
            exact this)
        refine ⟨E', ?_, e2, e3⟩
        rw [jv_fx_s]
        generalize jv_fx (f_C_releaseAll_2 (nI i)) f = kk at e1 ⊢
        unfold f_C_releaseAll_2
        simp only [h8, if_neg (show ¬ 10 ≤ k by omega), t5, Option.bind_some, q_rel1 (D := E) (show 1 ≤ p by omega) t3, nI_1, e1]
def ownL (D : Nat → Int32) (i l : Nat) : Prop := (∃ w, 4 ≤ w ∧ w ≤ 6 ∧ l = 8 + 8 * i + w) ∨ (∃ q w, 1 ≤ q ∧ q ≤ 20 ∧ w < 8 ∧ D (8 + 8 * i + 6) = nI q ∧ l = 64 + 8 * q + w)
theorem q_ra {D : Nat → Int32} (P : PB D) {i : Nat} (hi : i < 8) : ∃ E, f_C_releaseAll (nI i) D = some E ∧ (∀ w, w ≠ 0 → E w = D w) ∧ ∀ b, b < 32 → (bt (E 0) b = true ↔ (bt (D 0) b = true ∧ ∀ l, ownL D i l → D l ≠ nI (b + 1))) := by
  obtain ⟨E, e1, e2, e3⟩ := q_raN P hi 10 0 rfl 300 (by omega) D (fun _ _ => rfl) (fun b hb => ⟨fun h => ⟨h, fun j hj => by omega⟩, fun h => h.1⟩)
  refine ⟨E, e1, e2, fun b hb => (e3 b hb).trans (and_congr_right fun _ => ?_)⟩
  constructor
  · rintro ⟨h1, h2⟩ l hl
    rcases hl with ⟨w, w1, w2, rfl⟩ | ⟨q, w, q1, q2, q3, q4, rfl⟩
    · by_cases h6 : w = 6
      · subst h6; exact h2
      · exact h1 (w - 4) (by omega) _ (Or.inl ⟨by omega, by omega⟩)
    · exact h1 (w + 2) (by omega) _ (Or.inr ⟨by omega, q, q1, q2, q4, by omega⟩)
  · intro h
    refine ⟨fun j hj l hl => h l ?_, h _ (Or.inl ⟨6, by omega, by omega, rfl⟩)⟩
    rcases hl with ⟨a1, a2⟩ | ⟨a1, q, a2, a3, a4, a5⟩
    · exact Or.inl ⟨4 + j, by omega, by omega, by omega⟩
    · exact Or.inr ⟨q, j - 2, a2, a3, by omega, a4, a5⟩
