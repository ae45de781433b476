/-! the reference's find -/
theorem n_dec1 (j : Nat) : nI (j + 1) + (-1 : Int32) = nI j := by rw [n_dec, nI_pred]
theorem q_pfN (n : Nat) (hn : n ≤ 4) : ∀ d, d ≤ 4 → ∀ (r : List Nat), gpt r → ∀ f, d < f → jv_fx (f_M_prefix_7 (nI n)) f (nI (enc r), nI (n + d)) = some (nI (enc (r.drop d))) := by
  intro d
  induction d with
  | zero =>
    intro hd r h f hf
    obtain ⟨f, rfl⟩ : ∃ f', f = f' + 1 := ⟨f - 1, by omega⟩
    rw [jv_fx_s]
    unfold f_M_prefix_7
    rw [if_pos (nI_le (by omega) (by omega))]
    rfl
  | succ d ih =>
    intro hd r h f hf
    obtain ⟨f, rfl⟩ : ∃ f', f = f' + 1 := ⟨f - 1, by omega⟩
    have i1 := ih (by omega) (r.drop 1) (h.drop 1) f (by omega)
    have hl := enc_lt20 h
    have e3 : nI (enc r) / (32 : Int32) = nI (enc (r.drop 1)) := by
      rw [← enc_drop 1 r h.2]
      exact q_div (b := 32) (by omega) (by omega) (by omega)
    rw [jv_fx_s]
    generalize jv_fx (f_M_prefix_7 (nI n)) f = kk at i1 ⊢
    unfold f_M_prefix_7
    rw [if_neg (nI_ge (by omega) (by omega)), show n + (d + 1) = (n + d) + 1 by omega, n_dec1, e3, i1, List.drop_drop, Nat.add_comm]
theorem q_pf {r : List Nat} (h : gpt r) {k : Nat} (hk : k ≤ r.length) : f_M_prefix (nI (enc r)) (nI k) = some (nI (enc (r.drop (r.length - k)))) := by
  have hl := h.1
  unfold f_M_prefix f_M_prefix_0
  rw [q_nmr h]
  have := q_pfN k (by omega) (r.length - k) (by omega) r h 300 (by omega)
  rw [show k + (r.length - k) = r.length by omega] at this
  exact this
theorem q_mcN {D mDk : Nat → Int32} {a : Nat} (ha : a < 6) (hD : ∀ w, w < 232 → D w = mDk (232 * a + w)) (T : TI D) {p x : Nat} {k11 : (Int32 × Int32) → Option Int32} {y1 y3 y4 : Int32} : ∀ d i, i + d = 8 → 1 ≤ i → ∀ f, d < f → ∀ v, ((∃ j, j < i ∧ isCh D p x j ∧ v = nI j) ∨ ((∀ j, j < i → ¬ isCh D p x j) ∧ v = -1)) → ∃ v', isC D p x v' ∧ jv_fx (f_M_find_39 mDk k11 (nI a) y1 (nI p) y3 y4 (nI x)) f (v, nI i) = k11 (v', y4 + 1) := by
  intro d
  induction d with
  | zero =>
    intro i hi h1 f hf v hv
    obtain ⟨f, rfl⟩ : ∃ f', f = f' + 1 := ⟨f - 1, by omega⟩
    obtain rfl : i = 8 := by omega
    refine ⟨v, ?_, rfl⟩
    rcases hv with ⟨j, _, h2, h3⟩ | ⟨h2, h3⟩
    · exact Or.inl ⟨j, h2, h3⟩
    · exact Or.inr ⟨fun j hj => h2 j hj.2.1 hj, h3⟩
  | succ d ih =>
    intro i hi h1 f hf v hv
    obtain ⟨f, rfl⟩ : ∃ f', f = f' + 1 := ⟨f - 1, by omega⟩
    have w0 : f_M_inode mDk (nI a) (nI i) (0 : Int32) = some (kd D i) := by
      rw [show kd D i = mDk (232 * a + (8 + 8 * i + 0)) from hD _ (by omega)]
      exact q_mi (w := 0) ha (by omega) (by omega)
    have w1 : f_M_inode mDk (nI a) (nI i) (1 : Int32) = some (pa D i) := by
      rw [show pa D i = mDk (232 * a + (8 + 8 * i + 1)) from hD _ (by omega)]
      exact q_mi (w := 1) ha (by omega) (by omega)
    have w2 : f_M_inode mDk (nI a) (nI i) (2 : Int32) = some (nm D i) := by
      rw [show nm D i = mDk (232 * a + (8 + 8 * i + 2)) from hD _ (by omega)]
      exact q_mi (w := 2) ha (by omega) (by omega)
    have h8 : ((8 : Int32) ≤ nI i) = (8 ≤ i) := q_le (a := 8) (by omega) (by omega)
    have hk0 : (kd D i ≤ 0) ↔ (kd D i = 0) := by
      rcases T.kinds i (by omega) with h | h | h <;> rw [h] <;> decide
    by_cases hc : isCh D p x i
    · obtain ⟨v', g1, g2⟩ := ih (i + 1) (by omega) (by omega) f (by omega) (nI i) (Or.inl ⟨i, by omega, hc, rfl⟩)
      refine ⟨v', g1, ?_⟩
      rw [jv_fx_s]
      generalize jv_fx (f_M_find_39 mDk k11 (nI a) y1 (nI p) y3 y4 (nI x)) f = kk at g2 ⊢
      unfold f_M_find_39
      simp only [h8, if_neg (show ¬ 8 ≤ i by omega), w0, w1, w2, Option.bind_some, if_neg (show ¬ kd D i ≤ 0 from fun z => hc.2.2.1 (hk0.mp z)), if_pos hc.2.2.2.1, if_pos hc.2.2.2.2, nI_1]
      exact g2
    · obtain ⟨v', g1, g2⟩ := ih (i + 1) (by omega) (by omega) f (by omega) v (by
        rcases hv with ⟨j, h2, h3, h4⟩ | ⟨h3, h4⟩
        · exact Or.inl ⟨j, by omega, h3, h4⟩
        · refine Or.inr ⟨fun j hj hz => ?_, h4⟩
          by_cases hji : j = i
          · subst hji; exact hc hz
          · exact h3 j (by omega) hz)
      refine ⟨v', g1, ?_⟩
      rw [jv_fx_s]
      generalize jv_fx (f_M_find_39 mDk k11 (nI a) y1 (nI p) y3 y4 (nI x)) f = kk at g2 ⊢
      unfold f_M_find_39
      simp only [h8, if_neg (show ¬ 8 ≤ i by omega), w0, w1, w2, Option.bind_some, nI_1, g2]
      by_cases h2 : kd D i ≤ 0
      · rw [if_pos h2]
      · rw [if_neg h2]
        by_cases h3 : pa D i = nI p
        · rw [if_pos h3, if_neg (fun z => hc ⟨h1, by omega, fun z => h2 (hk0.mpr z), h3, z⟩)]
        · rw [if_neg h3]
theorem q_mfN {D mDk : Nat → Int32} {a : Nat} (ha : a < 6) (hD : ∀ w, w < 232 → D w = mDk (232 * a + w)) (T : TI D) {r : List Nat} (h : gpt r) : ∀ j, j ≤ r.length → ∀ f, j < f → ∀ v, isR D (r.drop j) v → ∃ v', isR D r v' ∧ jv_fx (f_M_find_11 mDk (nI a) (nI (enc r)) (nI r.length)) f (v, nI (r.length - j + 1)) = some v' := by
  intro j
  have hl := h.1
  induction j with
  | zero =>
    intro hj f hf v hv
    obtain ⟨f, rfl⟩ : ∃ f', f = f' + 1 := ⟨f - 1, by omega⟩
    refine ⟨v, hv, ?_⟩
    rw [jv_fx_s]
    unfold f_M_find_11
    rw [if_pos (nI_lt (by omega) (by omega))]
  | succ j ih =>
    intro hj f hf v hv
    obtain ⟨f, rfl⟩ : ∃ f', f = f' + 1 := ⟨f - 1, by omega⟩
    rw [jv_fx_s]
    rcases hv with ⟨i, hi, h1, rfl⟩ | ⟨h1, rfl⟩
    · obtain ⟨x, hx, hm⟩ := drop_ex (r := r) (j := j) (by omega)
      have hx2 := h.2 x hm
      have hg : gpt (x :: r.drop (j + 1)) := by rw [← hx]; exact h.drop j
      have hl2 := enc_lt20 hg
      obtain ⟨w, w1, w2⟩ := q_mcN (k11 := jv_fx (f_M_find_11 mDk (nI a) (nI (enc r)) (nI r.length)) f) (y1 := nI (enc r)) (y3 := nI r.length) (y4 := nI (r.length - (j + 1) + 1)) ha hD T (p := i) (x := x) 7 1 rfl (by omega) 300 (by omega) (-1) (Or.inr ⟨fun j hj hz => by have := hz.1; omega, rfl⟩)
      obtain ⟨v', g1, g2⟩ := ih (by omega) f (by omega) w (by rw [hx]; exact isR.step h1 T w1)
      refine ⟨v', g1, ?_⟩
      rw [nI_1, show r.length - (j + 1) + 1 + 1 = r.length - j + 1 by omega, g2] at w2
      generalize jv_fx (f_M_find_11 mDk (nI a) (nI (enc r)) (nI r.length)) f = kk at w2 ⊢
      unfold f_M_find_11
      have e1 : nI (enc (x :: r.drop (j + 1))) - nI (enc (x :: r.drop (j + 1))) / (32 : Int32) * (32 : Int32) = nI x := by
        rw [show (32 : Int32) = nI 32 from rfl, q_mod (b := 32) (by omega) (by omega) (by omega)]
        congr 1
        show (32 * enc (r.drop (j + 1)) + x) % 32 = x
        omega
      rw [if_neg (nI_nlt (by omega) (by omega)), if_neg (nI_pos (n := i) (by omega)), q_pf h (show r.length - (j + 1) + 1 ≤ r.length by omega), show r.length - (r.length - (j + 1) + 1) = j by omega, Option.bind_some, hx, e1]
      exact w2
    · refine ⟨-1, Or.inr ⟨fun i hi => ?_, rfl⟩, ?_⟩
      · have := isR.none h1 (r.take (j + 1)) i
        rw [List.take_append_drop] at this
        exact this hi
      · unfold f_M_find_11
        rw [if_neg (nI_nlt (by omega) (by omega)), if_pos (show ((-1 : Int32), nI (r.length - (j + 1) + 1)).1 < 0 from by show (-1 : Int32) < 0; decide)]
theorem q_mf {D mDk : Nat → Int32} {a : Nat} (ha : a < 6) (hD : ∀ w, w < 232 → D w = mDk (232 * a + w)) (T : TI D) {r : List Nat} (h : gpt r) : ∃ v, isR D r v ∧ f_T_find D (nI (enc r)) = some v ∧ f_M_find mDk (nI a) (nI (enc r)) = some v := by
  have hl := h.1
  obtain ⟨v, h1, h2⟩ := q_mfN ha hD T h r.length (Nat.le_refl _) 300 (by omega) 0 (by rw [List.drop_length]; exact Or.inl ⟨0, by omega, rfl, rfl⟩)
  obtain ⟨w, g1, g2⟩ := q_fd T h
  obtain rfl := isR.fn T h1 g1
  refine ⟨v, h1, g2, ?_⟩
  unfold f_M_find f_M_find_0
  rw [q_nmr h]
  rw [Nat.sub_self] at h2
  exact h2
/-- kinds at a path -/
def isK (D : Nat → Int32) (r : List Nat) (v : Int32) : Prop := (∃ i, i < 8 ∧ Fnd D r i ∧ v = kd D i) ∨ ((∀ i, ¬ Fnd D r i) ∧ v = 0)
theorem q_kd {D mDk : Nat → Int32} {a : Nat} (ha : a < 6) (hD : ∀ w, w < 232 → D w = mDk (232 * a + w)) (T : TI D) {r : List Nat} (h : gpt r) : ∃ v, isK D r v ∧ f_T_kindAt D (nI (enc r)) = some v ∧ f_M_kind mDk (nI a) (nI (enc r)) = some v := by
  obtain ⟨w, h1, h2, h3⟩ := q_mf ha hD T h
  unfold f_T_kindAt f_T_kindAt_0 f_M_kind f_M_kind_0
  rw [h2, h3]
  rcases h1 with ⟨i, hi, h1, rfl⟩ | ⟨h1, rfl⟩
  · refine ⟨kd D i, Or.inl ⟨i, hi, h1, rfl⟩, ?_, ?_⟩
    · rw [Option.bind_some, if_neg (fun z => by rw [nI_m1 (k := i) (by omega)] at z; exact z)]
      unfold f_T_kindOf f_T_kindOf_0
      rw [show (0 : Int32) = nI 0 from rfl, q_iw hi (by omega)]
      rfl
    · rw [Option.bind_some, if_pos (nI_pos' (by omega)), show (0 : Int32) = nI 0 from rfl, q_mi ha hi (by omega), ← hD _ (by omega)]
      rfl
  · exact ⟨0, Or.inr ⟨h1, rfl⟩, rfl, rfl⟩
theorem isK.v {D : Nat → Int32} (T : TI D) {r : List Nat} {v : Int32} (h : isK D r v) : v = 0 ∨ v = 1 ∨ v = 2 := by
  rcases h with ⟨i, hi, _, rfl⟩ | ⟨_, rfl⟩
  · exact T.kinds i hi
  · exact Or.inl rfl
