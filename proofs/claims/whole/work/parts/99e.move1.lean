/-! move: what is below an inode -/
def St (D : Nat → Int32) : Nat → Nat → Nat → Prop
  | 0, k, i => k = i
  | d + 1, k, i => 1 ≤ k ∧ k < 8 ∧ kd D k ≠ 0 ∧ ∃ p, p < 8 ∧ pa D k = nI p ∧ St D d p i
theorem Fnd.inj {D : Nat → Int32} : ∀ {l r : List Nat} {i : Nat}, gnm l → gnm r → Fnd D l i → Fnd D r i → l = r
  | [], [], _, _, _, _, _ => rfl
  | [], y :: r, i, _, _, h, ⟨q, _, g⟩ => by
    have h0 : i = 0 := h
    have := g.1
    omega
  | x :: l, [], i, _, _, ⟨q, _, g⟩, h => by
    have h0 : i = 0 := h
    have := g.1
    omega
  | x :: l, y :: r, i, hl, hr, ⟨p, h1, h2⟩, ⟨q, g1, g2⟩ => by
    have hx := hl x List.mem_cons_self
    have hy := hr y List.mem_cons_self
    have e1 : x = y := (nI_eq (by omega) (by omega)).mp (h2.2.2.2.2.symm.trans g2.2.2.2.2)
    have hp := Fnd.lt h1
    have hq := Fnd.lt g1
    have e2 : p = q := (nI_eq (by omega) (by omega)).mp (h2.2.2.2.1.symm.trans g2.2.2.2.1)
    subst e1 e2
    rw [Fnd.inj (fun z hz => hl z (List.mem_cons_of_mem _ hz)) (fun z hz => hr z (List.mem_cons_of_mem _ hz)) h1 g1]
theorem St.pfx {D : Nat → Int32} {r : List Nat} {i : Nat} (hr : gnm r) (hi : Fnd D r i) (T : TI D) : ∀ {u : List Nat} {P : Nat}, gnm u → Fnd D u P → ((∃ d, St D d P i) ↔ ∃ k, k ≤ u.length ∧ u.drop k = r)
  | [], P, _, h => by
    have h0 : P = 0 := h
    subst h0
    constructor
    · rintro ⟨d, hd⟩
      cases d with
      | zero =>
        have : (0 : Nat) = i := hd
        subst this
        exact ⟨0, Nat.le_refl _, Fnd.inj (D := D) (fun x hx => absurd hx List.not_mem_nil) hr rfl hi⟩
      | succ d => have := hd.1; omega
    · rintro ⟨k, -, hk⟩
      rw [List.drop_nil] at hk
      subst hk
      exact ⟨0, (show i = 0 from hi).symm⟩
  | x :: u, P, hu, ⟨p, h1, h2⟩ => by
    have hu2 : gnm u := fun z hz => hu z (List.mem_cons_of_mem _ hz)
    have ih := St.pfx hr hi T hu2 h1
    constructor
    · rintro ⟨d, hd⟩
      cases d with
      | zero =>
        have : P = i := hd
        subst this
        exact ⟨0, Nat.zero_le _, Fnd.inj hu hr ⟨p, h1, h2⟩ hi⟩
      | succ d =>
        obtain ⟨-, -, -, q, q1, q2, q3⟩ := hd
        have hp := Fnd.lt h1
        have : q = p := (nI_eq (by omega) (by omega)).mp (q2.symm.trans h2.2.2.2.1)
        subst this
        obtain ⟨k, k1, k2⟩ := ih.mp ⟨d, q3⟩
        exact ⟨k + 1, by show k + 1 ≤ u.length + 1; omega, k2⟩
    · rintro ⟨k, k1, k2⟩
      cases k with
      | zero =>
        have hk : x :: u = r := k2
        subst hk
        exact ⟨0, Fnd.uniq T (show Fnd D (x :: u) P from ⟨p, h1, h2⟩) hi⟩
      | succ k =>
        have k3 : k + 1 ≤ u.length + 1 := k1
        obtain ⟨d, hd⟩ := ih.mpr ⟨k, by omega, k2⟩
        exact ⟨d + 1, h2.1, h2.2.1, h2.2.2.1, p, Fnd.lt h1, h2.2.2.2.1, hd⟩
theorem St.rank {D : Nat → Int32} {r : Nat → Nat} (r2 : ∀ i p, 1 ≤ i → i < 8 → p < 8 → kd D i ≠ 0 → pa D i = nI p → r i = r p + 1 ∧ r i ≤ 4) : ∀ {d k i : Nat}, St D d k i → r k = r i + d
  | 0, k, i, h => by rw [show k = i from h]; rfl
  | d + 1, k, i, ⟨h1, h2, h3, p, p1, p2, p3⟩ => by
    have := St.rank r2 p3
    have := (r2 k p h1 h2 p1 h3 p2).1
    omega
theorem St.le3 {D : Nat → Int32} (T : TI D) {d k i : Nat} (hi : 1 ≤ i) (hi8 : i < 8) (hk : kd D i ≠ 0) (h : St D d k i) : d ≤ 3 := by
  obtain ⟨r, r1, r2⟩ := T.rank
  obtain ⟨p, p1, p2, p3⟩ := T.par i hi hi8 hk
  have e1 := r2 i p hi hi8 p1 hk p2
  have e2 := St.rank r2 h
  cases d with
  | zero => omega
  | succ d =>
    obtain ⟨h1, h2, h3, q, q1, q2, q3⟩ := h
    have := (r2 k q h1 h2 q1 h3 q2).2
    omega
theorem St.uniq {D : Nat → Int32} {r : Nat → Nat} (r2 : ∀ i p, 1 ≤ i → i < 8 → p < 8 → kd D i ≠ 0 → pa D i = nI p → r i = r p + 1 ∧ r i ≤ 4) {d e k i : Nat} (h : St D d k i) (g : St D e k i) : d = e := by
  have := St.rank r2 h
  have := St.rank r2 g
  omega
/-- levels are closed -/
theorem St.down {D : Nat → Int32} {i : Nat} : ∀ {d k : Nat}, St D (d + 1) k i → ∀ e, e ≤ d → ∃ p, St D e p i
  | 0, k, ⟨_, _, _, p, _, _, p3⟩, e, he => by
    have : e = 0 := by omega
    subst this
    exact ⟨p, p3⟩
  | d + 1, k, ⟨_, _, _, p, _, _, p3⟩, e, he => by
    by_cases h : e = d + 1
    · subst h; exact ⟨p, p3⟩
    · exact St.down p3 e (by omega)
theorem q_beN {D mDk : Nat → Int32} {a i : Nat} (ha : a < 6) (hD : ∀ w, w < 232 → D w = mDk (232 * a + w)) (T : TI D) (hi : i < 8) (hi1 : 1 ≤ i) {r : Nat → Nat} (r1 : r 0 = 0) (r2 : ∀ i p, 1 ≤ i → i < 8 → p < 8 → kd D i ≠ 0 → pa D i = nI p → r i = r p + 1 ∧ r i ≤ 4) : ∀ e k, r k = e → k < 8 → (k = 0 ∨ kd D k ≠ 0) → ∀ m, m + e < 8 → ∀ f, e < f → ∃ v : Int32, jv_fx (f_M_below_6 mDk (nI a) (nI i)) f (nI k, nI m) = some v ∧ ((∃ d, St D d k i ∧ v = nI (m + d)) ∨ ((∀ d, ¬ St D d k i) ∧ v = -1)) := by
  intro e
  induction e with
  | zero =>
    intro k hk hk8 hku m hm f hf
    obtain ⟨f, rfl⟩ : ∃ f', f = f' + 1 := ⟨f - 1, by omega⟩
    have h8 : ((8 : Int32) ≤ nI m) = (8 ≤ m) := q_le (a := 8) (by omega) (by omega)
    have hk0 : k = 0 := by
      by_cases h : k = 0
      · exact h
      · have hku2 : kd D k ≠ 0 := by
          rcases hku with h' | h'
          · exact absurd h' h
          · exact h'
        obtain ⟨p, p1, p2, p3⟩ := T.par k (by omega) hk8 hku2
        have := (r2 k p (by omega) hk8 p1 hku2 p2).1
        omega
    subst hk0
    rw [jv_fx_s]
    unfold f_M_below_6
    simp only [h8, if_neg (show ¬ 8 ≤ m by omega), q_eq (show 0 < 2 ^ 31 by omega) (show i < 2 ^ 31 by omega), if_neg (show ¬ 0 = i by omega), show (nI 0 = 0) = True by decide, if_true]
    refine ⟨-1, rfl, Or.inr ⟨fun d hd => ?_, rfl⟩⟩
    cases d with
    | zero => have : (0 : Nat) = i := hd; omega
    | succ d => have := hd.1; omega
  | succ e ih =>
    intro k hk hk8 hku m hm f hf
    obtain ⟨f, rfl⟩ : ∃ f', f = f' + 1 := ⟨f - 1, by omega⟩
    have h8 : ((8 : Int32) ≤ nI m) = (8 ≤ m) := q_le (a := 8) (by omega) (by omega)
    have hk0 : k ≠ 0 := fun h => by rw [h, r1] at hk; omega
    have hku2 : kd D k ≠ 0 := by
      rcases hku with h' | h'
      · exact absurd h' hk0
      · exact h'
    obtain ⟨p, p1, p2, p3⟩ := T.par k (by omega) hk8 hku2
    have hrp := (r2 k p (by omega) hk8 p1 hku2 p2).1
    obtain ⟨-, -, -, -, w1, -⟩ := q_pw ha hD hk8
    by_cases hki : k = i
    · subst hki
      refine ⟨nI m, ?_, Or.inl ⟨0, rfl, rfl⟩⟩
      rw [jv_fx_s]
      unfold f_M_below_6
      simp only [h8, if_neg (show ¬ 8 ≤ m by omega), if_true]
    · obtain ⟨v, v1, v2⟩ := ih p (by omega) p1 (by
        by_cases h : p = 0
        · exact Or.inl h
        · right; rw [p3]; decide) (m + 1) (by omega) f (by omega)
      refine ⟨v, ?_, ?_⟩
      · rw [jv_fx_s, ← v1]
        generalize jv_fx (f_M_below_6 mDk (nI a) (nI i)) f = kk
        unfold f_M_below_6
        simp only [h8, if_neg (show ¬ 8 ≤ m by omega), q_eq (show k < 2 ^ 31 by omega) (show i < 2 ^ 31 by omega), if_neg hki, eq_false (nI_ne0 (n := k) (by omega) (by omega)), if_false, w1, Option.bind_some, p2, nI_1]
      · rcases v2 with ⟨d, d1, d2⟩ | ⟨d1, d2⟩
        · exact Or.inl ⟨d + 1, ⟨by omega, hk8, hku2, p, p1, p2, d1⟩, by rw [d2, show m + 1 + d = m + (d + 1) by omega]⟩
        · refine Or.inr ⟨fun d hd => ?_, d2⟩
          cases d with
          | zero => exact hki hd
          | succ d =>
            obtain ⟨-, -, -, q, q1, q2, q3⟩ := hd
            have : q = p := (nI_eq (by omega) (by omega)).mp (q2.symm.trans p2)
            subst this
            exact d1 d q3
theorem q_be {D mDk : Nat → Int32} {a i : Nat} (ha : a < 6) (hD : ∀ w, w < 232 → D w = mDk (232 * a + w)) (T : TI D) (hi : i < 8) (hi1 : 1 ≤ i) {k : Nat} (hk8 : k < 8) (hku : k = 0 ∨ kd D k ≠ 0) : ∃ v : Int32, f_M_below mDk (nI a) (nI k) (nI i) = some v ∧ ((∃ d, St D d k i ∧ v = nI d) ∨ ((∀ d, ¬ St D d k i) ∧ v = -1)) := by
  obtain ⟨r, r1, r2⟩ := T.rank
  have hr : r k ≤ 4 := by
    by_cases h : k = 0
    · rw [h, r1]; omega
    · have hku2 : kd D k ≠ 0 := by
        rcases hku with h' | h'
        · exact absurd h' h
        · exact h'
      obtain ⟨p, p1, p2, p3⟩ := T.par k (by omega) hk8 hku2
      exact (r2 k p (by omega) hk8 p1 hku2 p2).2
  obtain ⟨v, v1, v2⟩ := q_beN ha hD T hi hi1 r1 r2 (r k) k rfl hk8 hku 0 (by omega) 300 (by omega)
  refine ⟨v, v1, ?_⟩
  rcases v2 with ⟨d, d1, d2⟩ | h
  · exact Or.inl ⟨d, d1, by rw [d2, Nat.zero_add]⟩
  · exact Or.inr h
/-! heights -/
def lvM (D : Nat → Int32) (i d : Nat) (X : Int32) : Prop := ∀ b, b < 32 → (bt X b = true ↔ St D d b i)
theorem q_lv {D : Nat → Int32} (T : TI D) {i d : Nat} {X : Int32} (h : lvM D i d X) : ∃ Y, f_T_childrenOf D X = some Y ∧ lvM D i (d + 1) Y := by
  obtain ⟨Y, y1, y2⟩ := q_co T X
  refine ⟨Y, y1, fun b hb => (y2 b hb).trans ⟨?_, ?_⟩⟩
  · rintro ⟨h1, h2, h3, p, p1, p2, p3⟩
    exact ⟨h1, h2, h3, p, p1, p2, (h p (by omega)).mp p3⟩
  · rintro ⟨h1, h2, h3, p, p1, p2, p3⟩
    exact ⟨h1, h2, h3, p, p1, p2, (h p (by omega)).mpr p3⟩
theorem St.lt {D : Nat → Int32} {d k i : Nat} (h : St D (d + 1) k i) : k < 8 := h.2.1
theorem q_heN {D : Nat → Int32} (T : TI D) {i : Nat} (hi : 1 ≤ i) (hi8 : i < 8) (hk : kd D i ≠ 0) : ∀ e h, h + e = 4 → ∀ f, e < f → ∀ X, lvM D i (h + 1) X → (h = 0 ∨ ∃ k, St D h k i) → ∃ H, jv_fx (f_T_heightOf_13 D) f (nI h, X, nI h) = some (nI H) ∧ (∀ d k, St D d k i → d ≤ H) ∧ (H = 0 ∨ ∃ k, St D H k i) ∧ H ≤ 3 := by
  intro e
  induction e with
  | zero =>
    intro h he f hf X hX hH
    rcases hH with hH | ⟨k, hH⟩
    · omega
    · have := St.le3 T hi hi8 hk hH
      omega
  | succ e ih =>
    intro h he f hf X hX hH
    obtain ⟨f, rfl⟩ : ∃ f', f = f' + 1 := ⟨f - 1, by omega⟩
    have h8 : ((8 : Int32) ≤ nI h) = (8 ≤ h) := q_le (a := 8) (by omega) (by omega)
    obtain ⟨Y, y1, y2⟩ := q_lv T hX
    by_cases hx : X = 0
    · have hno : ∀ k, ¬ St D (h + 1) k i := fun k hk2 => by
        have := (hX k (by have := hk2.lt; omega)).mpr hk2
        rw [hx, b_0] at this
        cases this
      refine ⟨h, ?_, fun d k hd => ?_, hH, ?_⟩
      · rw [jv_fx_s]
        unfold f_T_heightOf_13
        simp only [h8, if_neg (show ¬ 8 ≤ h by omega), hx, if_true]
      · apply Classical.byContradiction
        intro hlt
        obtain ⟨d, rfl⟩ : ∃ d', d = d' + 1 := ⟨d - 1, by omega⟩
        by_cases hd2 : d = h
        · rw [hd2] at hd; exact hno k hd
        · obtain ⟨p, hp⟩ := St.down hd (h + 1) (by omega)
          exact hno p hp
      · omega
    · have hex : ∃ k, St D (h + 1) k i := by
        apply Classical.byContradiction
        intro hn
        apply hx
        rw [pb_z]
        intro b hb
        cases hbt : bt X b with
        | false => rfl
        | true => exact absurd ⟨b, (hX b hb).mp hbt⟩ hn
      obtain ⟨H, H1, H2, H3, H4⟩ := ih (h + 1) (by omega) f (by omega) Y y2 (Or.inr hex)
      refine ⟨H, ?_, H2, H3, H4⟩
      rw [jv_fx_s]
      generalize jv_fx (f_T_heightOf_13 D) f = kk at H1 ⊢
      unfold f_T_heightOf_13
      simp only [h8, if_neg (show ¬ 8 ≤ h by omega), if_neg hx, y1, Option.bind_some, nI_1, H1]
theorem q_he {D : Nat → Int32} (T : TI D) {i : Nat} (hi : 1 ≤ i) (hi8 : i < 8) (hk : kd D i ≠ 0) : ∃ H, f_T_heightOf D (nI i) = some (nI H) ∧ (∀ d k, St D d k i → d ≤ H) ∧ (H = 0 ∨ ∃ k, St D H k i) ∧ H ≤ 3 := by
  have h0 : lvM D i 0 ((1 : Int32) <<< (nI i &&& 31)) := fun b hb => by
    rw [b_bit (by omega) hb, decide_eq_true_iff]
    exact Iff.rfl
  obtain ⟨Y, y1, y2⟩ := q_lv T h0
  obtain ⟨H, H1, H2⟩ := q_heN T hi hi8 hk 4 0 rfl 300 (by omega) Y y2 (Or.inl rfl)
  refine ⟨H, ?_, H2⟩
  unfold f_T_heightOf f_T_heightOf_0
  rw [y1]
  exact H1
/-! startsWith -/
theorem enc_inj : ∀ {l r : List Nat}, gnm l → gnm r → enc l = enc r → l = r
  | [], [], _, _, _ => rfl
  | [], y :: r, _, hr, h => by
    have hy := hr y List.mem_cons_self
    have h2 : 0 = 32 * enc r + y := h
    omega
  | x :: l, [], hl, _, h => by
    have hx := hl x List.mem_cons_self
    have h2 : 32 * enc l + x = 0 := h
    omega
  | x :: l, y :: r, hl, hr, h => by
    have hx := hl x List.mem_cons_self
    have hy := hr y List.mem_cons_self
    have h2 : 32 * enc l + x = 32 * enc r + y := h
    have e1 : x = y := by omega
    have e2 : enc l = enc r := by omega
    rw [e1, enc_inj (fun z hz => hl z (List.mem_cons_of_mem _ hz)) (fun z hz => hr z (List.mem_cons_of_mem _ hz)) e2]
theorem q_swN {u r : List Nat} (hu : gpt u) (hr : gpt r) : ∀ d k, k + d = 4 → ∀ f, d < f → ∃ y : Int32, jv_fx (f_P_startsWith_2 (nI (enc u)) (nI (enc r))) f (nI k) = some y ∧ (y = 0 ∨ y = 1) ∧ (y = 0 ↔ ∀ j, k ≤ j → j < 4 → u.drop j ≠ r) := by
  intro d
  induction d with
  | zero =>
    intro k hk f hf
    obtain ⟨f, rfl⟩ : ∃ f', f = f' + 1 := ⟨f - 1, by omega⟩
    obtain rfl : k = 4 := by omega
    exact ⟨0, rfl, Or.inl rfl, ⟨fun _ j h1 h2 => by omega, fun _ => rfl⟩⟩
  | succ d ih =>
    intro k hk f hf
    obtain ⟨f, rfl⟩ : ∃ f', f = f' + 1 := ⟨f - 1, by omega⟩
    have h4 : ((4 : Int32) ≤ nI k) = (4 ≤ k) := q_le (a := 4) (by omega) (by omega)
    have hd := hu.drop k
    have e0 : (nI (enc (u.drop k)) = nI (enc r)) = (u.drop k = r) := by
      have h1 := enc_lt20 hd
      have h2 := enc_lt20 hr
      rw [q_eq (by omega) (by omega)]
      exact propext ⟨fun h => enc_inj hd.2 hr.2 h, fun h => by rw [h]⟩
    obtain ⟨y, y1, y2, y3⟩ := ih (k + 1) (by omega) f (by omega)
    rw [jv_fx_s]
    generalize jv_fx (f_P_startsWith_2 (nI (enc u)) (nI (enc r))) f = kk at y1 ⊢
    unfold f_P_startsWith_2
    simp only [h4, if_neg (show ¬ 4 ≤ k by omega), q_wo hu (show k < 5 by omega), Option.bind_some, e0, nI_1, y1]
    by_cases h : u.drop k = r
    · rw [if_pos h]
      exact ⟨1, rfl, Or.inr rfl, ⟨fun z => absurd z (by decide), fun z => absurd h (z k (Nat.le_refl _) (by omega))⟩⟩
    · rw [if_neg h]
      refine ⟨y, rfl, y2, y3.trans ⟨fun z j h1 h2 => ?_, fun z j h1 h2 => z j (by omega) h2⟩⟩
      by_cases hj : j = k
      · rw [hj]; exact h
      · exact z j (by omega) h2
theorem q_sw {u r : List Nat} (hu : gpt u) (hr : gpt r) : ∃ y : Int32, f_P_startsWith (nI (enc u)) (nI (enc r)) = some y ∧ (y = 0 ∨ y = 1) ∧ (y = 0 ↔ ∀ j, j < 4 → u.drop j ≠ r) := by
  obtain ⟨y, y1, y2, y3⟩ := q_swN hu hr 4 0 rfl 300 (by omega)
  exact ⟨y, y1, y2, y3.trans ⟨fun z j h => z j (Nat.zero_le _) h, fun z j _ h => z j h⟩⟩
