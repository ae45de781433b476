/-! make: a path is made -/
theorem Fnd.up {D : Nat → Int32} {r : List Nat} {j p : Nat} (h : Fnd D (r.drop j) p) (hj : j < r.length) : ∃ q, Fnd D (r.drop (j + 1)) q := by
  obtain ⟨x, hx, -⟩ := drop_ex (r := r) hj
  rw [hx] at h
  obtain ⟨q, h1, -⟩ := h
  exact ⟨q, h1⟩
theorem Fnd.ups {D : Nat → Int32} {r : List Nat} {j p : Nat} (h : Fnd D (r.drop j) p) : ∀ d, j + d ≤ r.length → ∃ q, Fnd D (r.drop (j + d)) q
  | 0, _ => ⟨p, h⟩
  | d + 1, hd => by
    have hd2 : j + d < r.length := by omega
    obtain ⟨q, hq⟩ := Fnd.ups h d (by omega)
    have := Fnd.up hq hd2
    exact this
theorem isCh.isC {D : Nat → Int32} {p x i : Nat} (h : isCh D p x i) : isC D p x (nI i) := Or.inl ⟨i, h, rfl⟩
theorem lvl {D : Nat → Int32} (r : List Nat) : ∃ j p, j ≤ r.length ∧ Fnd D (r.drop j) p ∧ ∀ k, k < j → ∀ i, ¬ Fnd D (r.drop k) i := by
  have key : ∀ d j, j + d = r.length → (∀ k, k < j → ∀ i, ¬ Fnd D (r.drop k) i) → ∃ j p, j ≤ r.length ∧ Fnd D (r.drop j) p ∧ ∀ k, k < j → ∀ i, ¬ Fnd D (r.drop k) i := by
    intro d
    induction d with
    | zero =>
      intro j hj h
      exact ⟨j, 0, by omega, by rw [show j = r.length by omega, List.drop_length]; rfl, h⟩
    | succ d ih =>
      intro j hj h
      by_cases hp : ∃ p, Fnd D (r.drop j) p
      · obtain ⟨p, hp⟩ := hp
        exact ⟨j, p, by omega, hp, h⟩
      · exact ih (j + 1) (by omega) (fun k hk i hi => by
          by_cases hkj : k = j
          · subst hkj; exact hp ⟨i, hi⟩
          · exact h k (by omega) i hi)
  exact key r.length 0 (by omega) (fun k hk => by omega)
section
variable {mar fu t kind : Int32} {mLb mUs mWr mDk : Nat → Int32} {a : Nat}
theorem q_cr1 {D : Nat → Int32} (T : TI D) {r : List Nat} (hr : gpt r) {j p : Nat} (hj : Fnd D (r.drop j) p) : ∀ d m q, m = j + d → m ≤ r.length → Fnd D (r.drop m) q → ∀ f, d + 20 ≤ f → ∃ f', 20 ≤ f' ∧ jv_fx (f_T_create_10 (nI (enc r)) kind) f (nI q, nI m - 1, D) = jv_fx (f_T_create_10 (nI (enc r)) kind) f' (nI p, nI j - 1, D) := by
  intro d
  have hl := hr.1
  induction d with
  | zero =>
    intro m q hm hm2 hq f hf
    obtain rfl : m = j := by omega
    rw [Fnd.uniq T hq hj]
    exact ⟨f, hf, rfl⟩
  | succ d ih =>
    intro m q hm hm2 hq f hf
    obtain ⟨m, rfl⟩ : ∃ m', m = m' + 1 := ⟨m - 1, by omega⟩
    obtain ⟨f, rfl⟩ : ∃ f', f = f' + 1 := ⟨f - 1, by omega⟩
    obtain ⟨i, hi⟩ := hj.ups (m - j) (by omega)
    rw [show j + (m - j) = m by omega] at hi
    obtain ⟨f', g1, g2⟩ := ih m i (by omega) (by omega) hi f (by omega)
    refine ⟨f', g1, ?_⟩
    obtain ⟨x, hx, hmem⟩ := drop_ex (r := r) (j := m) (by omega)
    have hx2 := hr.2 x hmem
    have hg : gpt (x :: r.drop (m + 1)) := by rw [← hx]; exact hr.drop m
    have hi2 := hi
    rw [hx] at hi2
    obtain ⟨q', e1, e2⟩ := hi2
    have := Fnd.uniq T e1 hq
    subst this
    obtain ⟨v, v1, v2⟩ := q_ch T (Fnd.lt e1) hx2.1 hx2.2
    have hv := isC.fn T v1 e2.isC
    subst hv
    rw [nI_pred, jv_fx_s]
    rw [← g2]
    generalize jv_fx (f_T_create_10 (nI (enc r)) kind) f = kk
    unfold f_T_create_10
    rw [if_neg (nI_pos (n := m) (by omega)), if_neg (fun z => by rw [nI_m1 (k := q') (by have := Fnd.lt e1; omega)] at z; exact z), q_wo hr (show m < 5 by omega), Option.bind_some, hx, q_last hg, Option.bind_some, v2, Option.bind_some, if_neg (fun z => by rw [nI_m1 (k := i) (by have := Fnd.lt hi; omega)] at z; exact z), n_dec]
theorem q_mk1 {D C : Nat → Int32} (ha : a < 6) (hD : ∀ w, w < 232 → D w = mDk (232 * a + w)) (T : TI D) {r : List Nat} (hr : gpt r) {j p : Nat} (hj : Fnd D (r.drop j) p) : ∀ d m q, m = j + d → m ≤ r.length → Fnd D (r.drop m) q → ∀ f, d + 20 ≤ f → ∃ f', 20 ≤ f' ∧ jv_fx (f_M_make_219 mar mLb (nI (enc r)) kind (nI a) (nI r.length) t fu mUs mWr mDk) f (nI q, nI (r.length - m + 1), C) = jv_fx (f_M_make_219 mar mLb (nI (enc r)) kind (nI a) (nI r.length) t fu mUs mWr mDk) f' (nI p, nI (r.length - j + 1), C) := by
  intro d
  have hl := hr.1
  induction d with
  | zero =>
    intro m q hm hm2 hq f hf
    obtain rfl : m = j := by omega
    rw [Fnd.uniq T hq hj]
    exact ⟨f, hf, rfl⟩
  | succ d ih =>
    intro m q hm hm2 hq f hf
    obtain ⟨m, rfl⟩ : ∃ m', m = m' + 1 := ⟨m - 1, by omega⟩
    obtain ⟨f, rfl⟩ : ∃ f', f = f' + 1 := ⟨f - 1, by omega⟩
    obtain ⟨i, hi⟩ := hj.ups (m - j) (by omega)
    rw [show j + (m - j) = m by omega] at hi
    obtain ⟨f', g1, g2⟩ := ih m i (by omega) (by omega) hi f (by omega)
    refine ⟨f', g1, ?_⟩
    obtain ⟨v, v1, -, v2⟩ := q_mf ha hD T (hr.drop m)
    have hv : v = nI i := isR.fn T v1 (Or.inl ⟨i, Fnd.lt hi, hi, rfl⟩)
    subst hv
    rw [jv_fx_s, ← g2]
    generalize jv_fx (f_M_make_219 mar mLb (nI (enc r)) kind (nI a) (nI r.length) t fu mUs mWr mDk) f = kk
    unfold f_M_make_219
    rw [if_neg (nI_nlt (by omega) (by omega)), q_pf hr (show r.length - (m + 1) + 1 ≤ r.length by omega), show r.length - (r.length - (m + 1) + 1) = m by omega, Option.bind_some, v2, Option.bind_some, if_pos (nI_pos' (by have := Fnd.lt hi; omega)), nI_1, show r.length - (m + 1) + 1 + 1 = r.length - m + 1 by omega]
theorem q_248 {C : Nat → Int32} {r : List Nat} (hr : gpt r) {k x p i : Nat} (hk : 1 ≤ k) (hk2 : k ≤ r.length) (hx : r.drop (r.length - k) = x :: r.drop (r.length - k + 1)) (hg : gpt (x :: r.drop (r.length - k + 1))) (T : TI C) (h : fstI C i) {k219 : (Int32 × Int32 × (Nat → Int32)) → Option (Int32 × Int32 × Int32 × (Nat → Int32) × (Nat → Int32) × (Nat → Int32) × (Nat → Int32))} : ∀ d c, c + d = i → ∀ f, d < f → jv_fx (f_M_make_248 mar mLb k219 (nI (enc r)) kind (nI a) (nI r.length) (nI p) (nI k) t fu mUs mWr mDk C) f (nI c) = k219 (nI i, nI (k + 1), adD C i (if r.length ≤ k then kind else 1) p x) := by
  intro d
  have hl := hr.1
  have i8 := h.1
  have e8 : ∀ c : Nat, (8 : Int32) + (8 : Int32) * nI c = nI (8 + 8 * c) := fun c => by rw [show (8 : Int32) = nI 8 from rfl, q_mul, nI_add]
  induction d with
  | zero =>
    intro c hc f hf
    obtain ⟨f, rfl⟩ : ∃ f', f = f' + 1 := ⟨f - 1, by omega⟩
    obtain rfl : c = i := by omega
    have hl2 := enc_lt20 hg
    have hxx := hg.2 x List.mem_cons_self
    have e1 : nI (enc (x :: r.drop (r.length - k + 1))) - nI (enc (x :: r.drop (r.length - k + 1))) / (32 : Int32) * (32 : Int32) = nI x := by
      rw [show (32 : Int32) = nI 32 from rfl, q_mod (b := 32) (by omega) (by omega) (by omega)]
      congr 1
      show (32 * enc (r.drop (r.length - k + 1)) + x) % 32 = x
      omega
    have g294 : ∀ kk : Int32, f_M_make_294 mar mLb k219 (nI (enc r)) kind (nI a) (nI r.length) (nI p) (nI k) (nI c) kk (nI (8 + 8 * c)) t fu mUs mWr mDk C = k219 (nI c, nI (k + 1), adD C c kk p x) := fun kk => by
      unfold f_M_make_294
      rw [q_sa (by omega) (by omega), Option.bind_some, show (1 : Int32) = nI 1 from rfl, e_8i, q_sa (by omega) (by omega), Option.bind_some, q_pf hr hk2, Option.bind_some, hx, e1, show (2 : Int32) = nI 2 from rfl, e_8i, q_sa (by omega) (by omega), Option.bind_some, nI_add]
      rfl
    rw [jv_fx_s]
    unfold f_M_make_248
    rw [e8, q_ga (by omega) (by omega), Option.bind_some, show C (8 + 8 * c) = 0 from h.2.1, if_pos (by decide)]
    by_cases hkn : r.length ≤ k
    · rw [if_pos (nI_le hkn (by omega)), if_pos hkn, g294]
    · rw [if_neg (nI_ge (by omega) (by omega)), if_neg hkn, g294]
  | succ d ih =>
    intro c hc f hf
    obtain ⟨f, rfl⟩ : ∃ f', f = f' + 1 := ⟨f - 1, by omega⟩
    have i1 := ih (c + 1) (by omega) f (by omega)
    rw [jv_fx_s]
    generalize jv_fx (f_M_make_248 mar mLb k219 (nI (enc r)) kind (nI a) (nI r.length) (nI p) (nI k) t fu mUs mWr mDk C) f = kk at i1 ⊢
    unfold f_M_make_248
    rw [e8, q_ga (by omega) (by omega), Option.bind_some, if_neg, nI_1, i1]
    intro z
    have : kd C c = 0 := by
      have hz := T.le0 (i := c) (by omega)
      rw [← hz]; exact z
    exact h.2.2 c (by omega) this
theorem TI.nochild {D : Nat → Int32} (T : TI D) {i p x : Nat} {kk : Int32} (hi : i < 8) (h0 : kd D i = 0) (hp8 : p < 8) (hp : kd D p ≠ 0) (y : Nat) : ∀ k, ¬ isCh (adD D i kk p x) i y k := by
  rintro k ⟨k1, k2, k3, k4, -⟩
  by_cases hki : k = i
  · rw [hki, adD_p] at k4
    have := (nI_eq (by omega) (by omega)).mp k4
    rw [this] at hp
    exact hp h0
  · rw [show kd (adD D i kk p x) k = kd D k from adD_o (by omega)] at k3
    rw [show pa (adD D i kk p x) k = pa D k from adD_o (by omega)] at k4
    obtain ⟨q, q1, q2, q3⟩ := T.par k k1 k2 k3
    have := (nI_eq (by omega) (by omega)).mp (k4.symm.trans q2)
    rw [← this, h0] at q3
    exact absurd q3 (by decide)
theorem q_cr0 (hkd : kind = 1 ∨ kind = 2) {r : List Nat} (hr : gpt r) : ∀ j, j ≤ r.length → ∀ (D : Nat → Int32) (p : Nat), TI D → Fnd D (r.drop j) p → (1 ≤ j → kd D p = 1) → (∀ x, 1 ≤ j → r.drop (j - 1) = x :: r.drop j → ∀ k, ¬ isCh D p x k) → fre D 8 < j → ∀ f, j < f → ∃ D', jv_fx (f_T_create_10 (nI (enc r)) kind) f (nI p, nI j - 1, D) = some (-1, D') := by
  intro j
  have hl := hr.1
  induction j with
  | zero => intro hj D p T hp hk hc hfr; omega
  | succ j ih =>
    intro hj D p T hp hk hc hfr f hf
    obtain ⟨f, rfl⟩ : ∃ f', f = f' + 1 := ⟨f - 1, by omega⟩
    obtain ⟨x, hx, hmem⟩ := drop_ex (r := r) (j := j) (by omega)
    have hx2 := hr.2 x hmem
    have hg : gpt (x :: r.drop (j + 1)) := by rw [← hx]; exact hr.drop j
    have p8 := Fnd.lt hp
    obtain ⟨v, v1, v2⟩ := q_ch T p8 hx2.1 hx2.2
    have hnc := hc x (by omega) hx
    have hv : v = -1 := by
      rcases v1 with ⟨i, h1, -⟩ | ⟨-, h2⟩
      · exact absurd h1 (hnc i)
      · exact h2
    subst hv
    rw [nI_pred, jv_fx_s]
    rcases fstI_ex D with hfull | ⟨i, hi⟩
    · refine ⟨D, ?_⟩
      obtain ⟨f, rfl⟩ : ∃ f', f = f' + 1 := ⟨f - 1, by omega⟩
      have hz : jv_fx (f_T_create_10 (nI (enc r)) kind) (f + 1) (-1, nI j - 1, D) = some (-1, D) := by
        rw [jv_fx_s]
        unfold f_T_create_10
        by_cases h : nI j - 1 < 0
        · rw [if_pos h]
        · rw [if_neg h, if_pos rfl]
      generalize jv_fx (f_T_create_10 (nI (enc r)) kind) (f + 1) = kk at hz ⊢
      unfold f_T_create_10
      rw [if_neg (nI_pos (n := j) (by omega)), if_neg (fun z => by rw [nI_m1 (k := p) (by omega)] at z; exact z), q_wo hr (show j < 5 by omega), Option.bind_some, hx, q_last hg, Option.bind_some, v2, Option.bind_some, if_pos rfl, q_tk0 hfull, q_tk0 hfull, Option.bind_some]
      show (if nI j = 0 then kk (-1, nI j + (-1), D) else kk (-1, nI j + (-1), D)) = _
      rw [n_dec, hz, ite_self]
    · have i8 := hi.1
      have hkk : (if j = 0 then kind else (1 : Int32)) = 1 ∨ (if j = 0 then kind else (1 : Int32)) = 2 := by
        by_cases h : j = 0
        · rw [if_pos h]; exact hkd
        · rw [if_neg h]; exact Or.inl rfl
      have hk0 : (if j = 0 then kind else (1 : Int32)) ≠ 0 := by rcases hkk with h | h <;> rw [h] <;> decide
      have T1 := T.ad (kind := if j = 0 then kind else 1) (hi.pos T) hi.1 hi.2.1 hkk p8 (hk (by omega)) hx2.1 hx2.2 hnc (T.rk hp (by rw [List.length_drop]; omega))
      have hF : Fnd (adD D i (if j = 0 then kind else 1) p x) (r.drop j) i := by
        rw [hx]
        exact ⟨p, Fnd.ad T hi.2.1 hp, hi.pos T, hi.1, by rw [adD_k]; exact hk0, adD_p, adD_n⟩
      have hfr2 := fre_ad (D := D) (kind := if j = 0 then kind else 1) (p := p) (x := x) hi.2.1 hk0 8
      rw [if_pos i8] at hfr2
      obtain ⟨D', d1⟩ := ih (by omega) _ i T1 hF (fun h => by rw [adD_k, if_neg (by omega)]) (fun y _ _ => T.nochild hi.1 hi.2.1 p8 (by rw [hk (by omega)]; decide) y) (by omega) f (by omega)
      refine ⟨D', ?_⟩
      generalize jv_fx (f_T_create_10 (nI (enc r)) kind) f = kk at d1 ⊢
      unfold f_T_create_10
      rw [if_neg (nI_pos (n := j) (by omega)), if_neg (fun z => by rw [nI_m1 (k := p) (by omega)] at z; exact z), q_wo hr (show j < 5 by omega), Option.bind_some, hx, q_last hg, Option.bind_some, v2, Option.bind_some, if_pos rfl, q_tk1 T hi, q_tk1 T hi, Option.bind_some, Option.bind_some, n_dec]
      by_cases h : j = 0
      · rw [if_pos (show nI j = 0 by rw [h]; rfl)]
        rw [if_pos h] at d1
        exact d1
      · rw [if_neg (nI_ne0 (by omega) (by omega))]
        rw [if_neg h] at d1
        exact d1
theorem q_cr2 (hkd : kind = 1 ∨ kind = 2) {r : List Nat} (hr : gpt r) : ∀ j, j ≤ r.length → (∀ k, k < j → f_M_find mDk (nI a) (nI (enc (r.drop k))) = some (-1)) → ∀ (D C : Nat → Int32) (p : Nat), eqd D C → TI D → PI D → Fnd D (r.drop j) p → (1 ≤ j → kd D p = 1) → (∀ x, 1 ≤ j → r.drop (j - 1) = x :: r.drop j → ∀ k, ¬ isCh D p x k) → j ≤ fre D 8 → ∀ f g, j < f → j < g → ∃ i D' C', jv_fx (f_T_create_10 (nI (enc r)) kind) f (nI p, nI j - 1, D) = some (nI i, D') ∧ i < 8 ∧ jv_fx (f_M_make_219 mar mLb (nI (enc r)) kind (nI a) (nI r.length) t fu mUs mWr mDk) g (nI p, nI (r.length - j + 1), C) = ((f_M_finish C' (nI a) (nI i) fu mUs mWr mDk).bind fun x23 => some (x23.1, t, x23.2.1, x23.2.2.1, x23.2.2.2.1, x23.2.2.2.2, C')) ∧ eqd D' C' ∧ TI D' ∧ PI D' := by
  intro j
  have hl := hr.1
  induction j with
  | zero =>
    intro hj hnf D C p e T P hp hk hc hfr f g hf hg
    obtain ⟨f, rfl⟩ : ∃ f', f = f' + 1 := ⟨f - 1, by omega⟩
    obtain ⟨g, rfl⟩ : ∃ g', g = g' + 1 := ⟨g - 1, by omega⟩
    refine ⟨p, D, C, ?_, Fnd.lt hp, ?_, e, T, P⟩
    · rw [jv_fx_s]
      unfold f_T_create_10
      rw [if_pos (show ((nI p, nI 0 - 1, D) : Int32 × Int32 × (Nat → Int32)).2.1 < 0 from by show nI 0 - 1 < 0; decide)]
    · rw [jv_fx_s]
      unfold f_M_make_219
      rw [if_pos (nI_lt (by omega) (by omega))]
  | succ j ih =>
    intro hj hnf D C p e T P hp hk hc hfr f g hf hg
    obtain ⟨f, rfl⟩ : ∃ f', f = f' + 1 := ⟨f - 1, by omega⟩
    obtain ⟨g, rfl⟩ : ∃ g', g = g' + 1 := ⟨g - 1, by omega⟩
    obtain ⟨x, hx, hmem⟩ := drop_ex (r := r) (j := j) (by omega)
    have hx2 := hr.2 x hmem
    have hg2 : gpt (x :: r.drop (j + 1)) := by rw [← hx]; exact hr.drop j
    have p8 := Fnd.lt hp
    obtain ⟨v, v1, v2⟩ := q_ch T p8 hx2.1 hx2.2
    have hnc := hc x (by omega) hx
    have hv : v = -1 := by
      rcases v1 with ⟨i, h1, -⟩ | ⟨-, h2⟩
      · exact absurd h1 (hnc i)
      · exact h2
    subst hv
    rcases fstI_ex D with hfull | ⟨i, hi⟩
    · have := (fre_0 D 8).mpr hfull
      omega
    · have i8 := hi.1
      have hkk : (if j = 0 then kind else (1 : Int32)) = 1 ∨ (if j = 0 then kind else (1 : Int32)) = 2 := by
        by_cases h : j = 0
        · rw [if_pos h]; exact hkd
        · rw [if_neg h]; exact Or.inl rfl
      have hk0 : (if j = 0 then kind else (1 : Int32)) ≠ 0 := by rcases hkk with h | h <;> rw [h] <;> decide
      have T1 := T.ad (kind := if j = 0 then kind else 1) (hi.pos T) hi.1 hi.2.1 hkk p8 (hk (by omega)) hx2.1 hx2.2 hnc (T.rk hp (by rw [List.length_drop]; omega))
      have hF : Fnd (adD D i (if j = 0 then kind else 1) p x) (r.drop j) i := by
        rw [hx]
        exact ⟨p, Fnd.ad T hi.2.1 hp, hi.pos T, hi.1, by rw [adD_k]; exact hk0, adD_p, adD_n⟩
      have hfr2 := fre_ad (D := D) (kind := if j = 0 then kind else 1) (p := p) (x := x) hi.2.1 hk0 8
      rw [if_pos i8] at hfr2
      have hiC : fstI C i := ⟨i8, by rw [show kd C i = kd D i from (e _ (by omega)).symm]; exact hi.2.1, fun k hk2 => by rw [show kd C k = kd D k from (e _ (by omega)).symm]; exact hi.2.2 k hk2⟩
      obtain ⟨i', D', C', d1, d2, d3, d4, d5, d6⟩ := ih (by omega) (fun k hk2 => hnf k (by omega)) _ _ i (e.ad i (if j = 0 then kind else 1) p x) T1 (P.ad hi.1 _ _ _) hF (fun h => by rw [adD_k, if_neg (by omega)]) (fun y _ _ => T.nochild hi.1 hi.2.1 p8 (by rw [hk (by omega)]; decide) y) (by omega) f g (by omega) (by omega)
      refine ⟨i', D', C', ?_, d2, ?_, d4, d5, d6⟩
      · rw [nI_pred, jv_fx_s]
        generalize jv_fx (f_T_create_10 (nI (enc r)) kind) f = kk at d1 ⊢
        unfold f_T_create_10
        rw [if_neg (nI_pos (n := j) (by omega)), if_neg (fun z => by rw [nI_m1 (k := p) (by omega)] at z; exact z), q_wo hr (show j < 5 by omega), Option.bind_some, hx, q_last hg2, Option.bind_some, v2, Option.bind_some, if_pos rfl, q_tk1 T hi, q_tk1 T hi, Option.bind_some, Option.bind_some, n_dec]
        by_cases h : j = 0
        · rw [if_pos (show nI j = 0 by rw [h]; rfl)]
          rw [if_pos h] at d1
          exact d1
        · rw [if_neg (nI_ne0 (by omega) (by omega))]
          rw [if_neg h] at d1
          exact d1
      · have q8 := q_248 (mar := mar) (fu := fu) (t := t) (kind := kind) (mLb := mLb) (mUs := mUs) (mWr := mWr) (mDk := mDk) (a := a) (C := C) hr (k := r.length - (j + 1) + 1) (x := x) (p := p) (i := i) (by omega) (by omega) (by rw [show r.length - (r.length - (j + 1) + 1) = j by omega]; exact hx) (by rw [show r.length - (r.length - (j + 1) + 1) = j by omega]; exact hg2) (T.eqd e) hiC (k219 := jv_fx (f_M_make_219 mar mLb (nI (enc r)) kind (nI a) (nI r.length) t fu mUs mWr mDk) g) i 0 (by omega) 300 (by omega)
        have hc2 : (if r.length ≤ r.length - (j + 1) + 1 then kind else (1 : Int32)) = if j = 0 then kind else 1 := by
          by_cases h : j = 0
          · rw [if_pos h, if_pos (by omega)]
          · rw [if_neg h, if_neg (by omega)]
        rw [hc2, show r.length - (j + 1) + 1 + 1 = r.length - j + 1 by omega, d3] at q8
        rw [jv_fx_s]
        generalize jv_fx (f_M_make_219 mar mLb (nI (enc r)) kind (nI a) (nI r.length) t fu mUs mWr mDk) g = kk at q8 ⊢
        unfold f_M_make_219
        rw [if_neg (nI_nlt (by omega) (by omega)), q_pf hr (show r.length - (j + 1) + 1 ≤ r.length by omega), show r.length - (r.length - (j + 1) + 1) = j by omega, Option.bind_some, hnf j (by omega), Option.bind_some, if_neg (by decide), show (0 : Int32) = nI 0 from rfl]
        exact q8
end
