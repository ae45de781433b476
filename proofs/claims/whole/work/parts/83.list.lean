theorem q_path2 (p : Int32) : (f_P_isPath p = some 0 ∧ f_M_isPath p = some 0) ∨ (∃ r, gpt r ∧ p = nI (enc r) ∧ f_P_isPath p = some 1 ∧ f_M_isPath p = some 1) := by
  unfold f_M_isPath f_M_isPath_0
  rcases q_path p with ⟨h1, h2⟩ | ⟨r, hr, h1, h2, h3⟩
  · refine Or.inl ⟨h1, ?_⟩
    rw [h2]
    rfl
  · refine Or.inr ⟨r, hr, h1, h2, ?_⟩
    have := hr.1
    rw [h3, Option.bind_some, if_neg (nI_pos (by omega))]
theorem q_dm0 : f_V_demand 0 = some (.inl 1) := rfl
theorem q_dm1 : f_V_demand 1 = some (.inr ()) := rfl
theorem q_lkT {n : Nat} {ars : Nat → jv_ar} (hn : n ≤ 6) {p : Int32} {b : Nat} : ∀ d i, i + d = 6 → n ≤ i → ∀ f, d < f → ∀ c, jv_fx (f_V_look_19 n ars p b) f (c, nI i) = some (.inr c) := by
  intro d
  induction d with
  | zero =>
    intro i hi hni f hf c
    obtain ⟨f, rfl⟩ : ∃ f', f = f' + 1 := ⟨f - 1, by omega⟩
    obtain rfl : i = 6 := by omega
    rfl
  | succ d ih =>
    intro i hi hni f hf c
    obtain ⟨f, rfl⟩ : ∃ f', f = f' + 1 := ⟨f - 1, by omega⟩
    have i1 := ih (i + 1) (by omega) (by omega) f (by omega) c
    rw [jv_fx_s]
    generalize jv_fx (f_V_look_19 n ars p b) f = kk at i1 ⊢
    unfold f_V_look_19
    have h6 : ((6 : Int32) ≤ nI i) = (6 ≤ i) := q_le (a := 6) (by omega) (by omega)
    simp only [h6, if_neg (show ¬ 6 ≤ i by omega), q_open0 hn (L := (ars b).1) hni (show i < 6 by omega), Option.bind_some, if_true, nI_1, i1]
theorem q_lkN {n : Nat} {ars : Nat → jv_ar} {mLb mUs mDk : Nat → Int32} (K : Sk n ars mLb mDk) {b s : Nat} (hb : b < n) (hs : s < 4) {r : List Nat} (h : gpt r) : ∀ d i, i + d = n → ∀ f g, d + 7 < f → d < g → ∀ c, ∃ c',
    jv_fx (f_V_look_19 n ars (nI (enc r)) b) f (c, nI i) = some (.inr c') ∧ jv_fx (f_M_look_29 (nI n) mLb mUs mDk (nI (4 * b + s)) (nI (enc r)) 0) g (c, nI i) = some (c', 0) := by
  have hn := K.hn
  intro d
  induction d with
  | zero =>
    intro i hi f g hf hg c
    obtain ⟨g, rfl⟩ : ∃ g', g = g' + 1 := ⟨g - 1, by omega⟩
    obtain rfl : i = n := by omega
    refine ⟨c, q_lkT hn (6 - i) i (by omega) (Nat.le_refl _) f (by omega) c, ?_⟩
    rw [jv_fx_s]
    unfold f_M_look_29
    rw [if_pos (nI_le (Nat.le_refl _) (by omega))]
  | succ d ih =>
    intro i hi f g hf hg c
    obtain ⟨f, rfl⟩ : ∃ f', f = f' + 1 := ⟨f - 1, by omega⟩
    obtain ⟨g, rfl⟩ : ∃ g', g = g' + 1 := ⟨g - 1, by omega⟩
    obtain ⟨o, o1, -, o2, o3⟩ := q_sees hn K.lb hb hs (a := i) (by omega)
    obtain ⟨v, v1, v2, v3⟩ := q_kd (a := i) (by omega) (K.dr i (by omega)) (K.ti i (by omega)) h
    have h6 : ((6 : Int32) ≤ nI i) = (6 ≤ i) := q_le (a := 6) (by omega) (by omega)
    have hm : (nI n ≤ nI i) = (n ≤ i) := q_le (by omega) (by omega)
    rw [jv_fx_s, jv_fx_s]
    have i1 := ih (i + 1) (by omega) f g (by omega) (by omega)
    generalize jv_fx (f_V_look_19 n ars (nI (enc r)) b) f = kk at i1 ⊢
    generalize jv_fx (f_M_look_29 (nI n) mLb mUs mDk (nI (4 * b + s)) (nI (enc r)) 0) g = kg at i1 ⊢
    unfold f_V_look_19 f_M_look_29
    rcases o1 with rfl | rfl
    · simp only [h6, if_neg (show ¬ 6 ≤ i by omega), hm, if_neg (show ¬ n ≤ i by omega), o2, o3, Option.bind_some, if_true, nI_1]
      exact i1 c
    · simp only [h6, if_neg (show ¬ 6 ≤ i by omega), hm, if_neg (show ¬ n ≤ i by omega), o2, o3, Option.bind_some, if_true, nI_1, p10, if_false, q_gi (n := 6) (k := i) (by omega) (by omega), if_pos (show i < n by omega), v2, v3]
      exact i1 _
theorem q_lk1 {n : Nat} {mLb mUs mDk : Nat → Int32} {s p : Int32} : jv_fx (f_M_look_29 (nI n) mLb mUs mDk s p 1) 300 (0, 0) = some (0, 1) := by
  rw [show (300 : Nat) = 299 + 1 from rfl, jv_fx_s]
  unfold f_M_look_29
  by_cases h : nI n ≤ 0
  · rw [if_pos h]
  · rw [if_neg h]
    rfl
theorem pj_12 (S : jv_vs) (vO : Nat → Int64) (M : jv_ms) (p1 p2 : Int32) (hmar : M.2.1 = nI S.1) (hU : pU S.1 S.2.2.2 M.2.2.2.2.2.1) (K : Sk S.1 S.2.2.2 M.2.2.2.1 M.2.2.2.2.2.2.2.1) :
    ∃ (vO' : Nat → Int64) (t : Int32), s_12 S vO M p1 p2 = some (S, vO', t, M.2) := by
  obtain ⟨n, vC, vat, ars⟩ := S
  obtain ⟨m1, m2, m3, mLb, m5, mUs, mWr, mDk, mCp⟩ := M
  replace K : Sk n ars mLb mDk := K
  have hm2 : m2 = nI n := hmar
  replace hU : pU n ars mUs := hU
  have hn := K.hn
  clear hmar
  subst hm2
  unfold s_12 l_look f_V_look f_V_look_0 f_M_look f_M_look_0 f_M_thrown f_M_thrown_0
  rcases q_areaO hn hU p1 with ⟨h1, h2⟩ | ⟨b, s, hb, hs, rfl, h1, h2, h3⟩
  · simp only [h1, h2, Option.bind_some, jv_se, if_true, q_lk1, p10, if_false]
    exact ⟨_, _, rfl⟩
  · simp only [h1, h2, Option.bind_some, jv_se, p10, if_false, if_pos hb]
    rcases q_path2 p2 with ⟨g1, g2⟩ | ⟨r, hr, rfl, g1, g2⟩
    · simp only [g1, g2, Option.bind_some, q_dm0, jv_se, if_true, q_lk1, p10, if_false]
      exact ⟨_, _, rfl⟩
    · obtain ⟨c, c1, c2⟩ := q_lkN (mUs := mUs) K hb hs hr n 0 (by omega) 300 300 (by omega) (by omega) 0
      rw [show nI 0 = (0 : Int32) from rfl] at c1 c2
      simp only [g1, g2, Option.bind_some, q_dm1, jv_se, p10, if_false, c1, c2, if_true, q_out]
      exact ⟨_, _, rfl⟩
/-! list -/
theorem q_pw {D mDk : Nat → Int32} {a : Nat} (ha : a < 6) (hD : ∀ w, w < 232 → D w = mDk (232 * a + w)) {i : Nat} (hi : i < 8) : f_T_kindOf D (nI i) = some (kd D i) ∧ f_T_parentOf D (nI i) = some (pa D i) ∧ f_T_nameOf D (nI i) = some (nm D i) ∧ f_M_inode mDk (nI a) (nI i) (0 : Int32) = some (kd D i) ∧ f_M_inode mDk (nI a) (nI i) (1 : Int32) = some (pa D i) ∧ f_M_inode mDk (nI a) (nI i) (2 : Int32) = some (nm D i) ∧ f_M_inode mDk (nI a) (nI i) (3 : Int32) = some (D (8 + 8 * i + 3)) := by
  unfold f_T_kindOf f_T_kindOf_0 f_T_parentOf f_T_parentOf_0 f_T_nameOf f_T_nameOf_0
  refine ⟨?_, ?_, ?_, ?_, ?_, ?_, ?_⟩
  · rw [show (0 : Int32) = nI 0 from rfl, q_iw hi (by omega)]; rfl
  · rw [show (1 : Int32) = nI 1 from rfl, q_iw hi (by omega)]; rfl
  · rw [show (2 : Int32) = nI 2 from rfl, q_iw hi (by omega)]; rfl
  · rw [show kd D i = mDk (232 * a + (8 + 8 * i + 0)) from hD _ (by omega)]
    exact q_mi (w := 0) ha (by omega) (by omega)
  · rw [show pa D i = mDk (232 * a + (8 + 8 * i + 1)) from hD _ (by omega)]
    exact q_mi (w := 1) ha (by omega) (by omega)
  · rw [show nm D i = mDk (232 * a + (8 + 8 * i + 2)) from hD _ (by omega)]
    exact q_mi (w := 2) ha (by omega) (by omega)
  · rw [show D (8 + 8 * i + 3) = mDk (232 * a + (8 + 8 * i + 3)) from hD _ (by omega)]
    exact q_mi (w := 3) ha (by omega) (by omega)
theorem TI.le0 {D : Nat → Int32} (T : TI D) {i : Nat} (hi : i < 8) : (kd D i ≤ 0) = (kd D i = 0) := by
  rcases T.kinds i hi with h | h | h <;> rw [h] <;> decide
def bor (D : Nat → Int32) (v : Int32) : Nat → Nat → Int32
  | _, 0 => 0
  | i, d + 1 => (if kd D i ≠ 0 ∧ pa D i = v then (1 : Int32) <<< ((nm D i - 1) &&& 31) else 0) ||| bor D v (i + 1) d
theorem q_naN {D : Nat → Int32} {v : Int32} : ∀ d i, i + d = 8 → ∀ f, d < f → ∀ c, jv_fx (f_T_namesAt_11 D v) f (c, nI i) = some (c ||| bor D v i d) := by
  intro d
  induction d with
  | zero =>
    intro i hi f hf c
    obtain ⟨f, rfl⟩ : ∃ f', f = f' + 1 := ⟨f - 1, by omega⟩
    obtain rfl : i = 8 := by omega
    show some c = some (c ||| 0)
    rw [Int32.or_zero]
  | succ d ih =>
    intro i hi f hf c
    obtain ⟨f, rfl⟩ : ∃ f', f = f' + 1 := ⟨f - 1, by omega⟩
    have i1 := ih (i + 1) (by omega) f (by omega)
    obtain ⟨w1, w2, w3, -⟩ := q_pw (a := 0) (by omega) (mDk := D) (D := D) (fun w _ => by rw [Nat.mul_zero, Nat.zero_add]) (i := i) (by omega)
    have h8 : ((8 : Int32) ≤ nI i) = (8 ≤ i) := q_le (a := 8) (by omega) (by omega)
    rw [jv_fx_s]
    generalize jv_fx (f_T_namesAt_11 D v) f = kk at i1 ⊢
    unfold f_T_namesAt_11 bor
    simp only [h8, if_neg (show ¬ 8 ≤ i by omega), w1, w2, w3, Option.bind_some, nI_1, i1]
    by_cases h1 : kd D i = 0
    · rw [if_pos h1, if_neg (fun z => z.1 h1), Int32.zero_or]
    · rw [if_neg h1]
      by_cases h2 : pa D i = v
      · rw [if_pos h2, if_pos ⟨h1, h2⟩, Int32.or_assoc]
      · rw [if_neg h2, if_neg (fun z => h2 z.2), Int32.zero_or]
theorem q_mlN {D mDk : Nat → Int32} {a : Nat} (ha : a < 6) (hD : ∀ w, w < 232 → D w = mDk (232 * a + w)) (T : TI D) {mar : Int32} {mLb mUs : Nat → Int32} {k60 : (Int32 × Int32) → Option (Int32 × Int32)} {y0 y1 v y4 : Int32} : ∀ d i, i + d = 8 → ∀ f, d < f → ∀ c, jv_fx (f_M_list_109 mar mLb mUs mDk k60 y0 y1 (nI a) v y4) f (c, nI i) = k60 (c ||| bor D v i d, nI a + 1) := by
  intro d
  induction d with
  | zero =>
    intro i hi f hf c
    obtain ⟨f, rfl⟩ : ∃ f', f = f' + 1 := ⟨f - 1, by omega⟩
    obtain rfl : i = 8 := by omega
    show k60 (c, nI a + 1) = k60 (c ||| 0, nI a + 1)
    rw [Int32.or_zero]
  | succ d ih =>
    intro i hi f hf c
    obtain ⟨f, rfl⟩ : ∃ f', f = f' + 1 := ⟨f - 1, by omega⟩
    have i1 := ih (i + 1) (by omega) f (by omega)
    obtain ⟨-, -, -, w1, w2, w3, -⟩ := q_pw ha hD (i := i) (by omega)
    have h8 : ((8 : Int32) ≤ nI i) = (8 ≤ i) := q_le (a := 8) (by omega) (by omega)
    rw [jv_fx_s]
    generalize jv_fx (f_M_list_109 mar mLb mUs mDk k60 y0 y1 (nI a) v y4) f = kk at i1 ⊢
    unfold f_M_list_109 bor
    simp only [h8, if_neg (show ¬ 8 ≤ i by omega), w1, w2, w3, Option.bind_some, nI_1 i, i1, T.le0 (show i < 8 by omega)]
    by_cases h1 : kd D i = 0
    · rw [if_pos h1, if_neg (fun z => z.1 h1), Int32.zero_or]
    · rw [if_neg h1]
      by_cases h2 : pa D i = v
      · rw [if_pos h2, if_pos ⟨h1, h2⟩, Int32.or_assoc]
      · rw [if_neg h2, if_neg (fun z => h2 z.2), Int32.zero_or]
/-- what has no directory above has no names -/
theorem bor_0 {D : Nat → Int32} (T : TI D) {v : Int32} (h : ∀ p, p < 8 → kd D p = 1 → v ≠ nI p) : ∀ d i, i + d = 8 → 1 ≤ i → bor D v i d = 0 := by
  intro d
  induction d with
  | zero => intro i _ _; rfl
  | succ d ih =>
    intro i hi h1
    unfold bor
    rw [ih (i + 1) (by omega) (by omega), Int32.or_zero, if_neg]
    intro z
    obtain ⟨p, p1, p2, p3⟩ := T.par i h1 (by omega) z.1
    exact h p p1 p3 (z.2.symm.trans p2)
theorem q_ns1 {D mDk : Nat → Int32} {a : Nat} (ha : a < 6) (hD : ∀ w, w < 232 → D w = mDk (232 * a + w)) (T : TI D) {r : List Nat} (h : gpt r) : ∃ v w, isR D r v ∧ f_M_find mDk (nI a) (nI (enc r)) = some v ∧ f_T_namesAt D (nI (enc r)) = some (bor D v 1 7) ∧ f_M_kind mDk (nI a) (nI (enc r)) = some w ∧ (w ≠ 1 → bor D v 1 7 = 0) := by
  obtain ⟨v, v1, v2, v3⟩ := q_mf ha hD T h
  obtain ⟨w, w1, w2, w3⟩ := q_kd ha hD T h
  refine ⟨v, w, v1, v3, ?_, w3, fun hw => bor_0 T (fun p hp hk z => hw ?_) 7 1 rfl (by omega)⟩
  · unfold f_T_namesAt f_T_namesAt_0
    rw [v2]
    have := q_naN (D := D) (v := v) 7 1 rfl 300 (by omega) 0
    rw [Int32.zero_or] at this
    exact this
  · subst z
    rcases v1 with ⟨i, hi, v4, v5⟩ | ⟨_, v5⟩
    · have : p = i := (nI_eq (by omega) (by omega)).mp v5
      subst this
      rcases w1 with ⟨j, hj, w4, rfl⟩ | ⟨w4, _⟩
      · rw [Fnd.uniq T w4 v4, hk]
      · exact absurd v4 (w4 p)
    · exact absurd v5 (by rw [nI_m1 (by omega)]; exact id)
theorem q_nsT {n : Nat} {ars : Nat → jv_ar} (hn : n ≤ 6) {L p : Int32} : ∀ d i, i + d = 6 → n ≤ i → ∀ f, d < f → ∀ c, jv_fx (f_V_namesSeen_5 n ars L p) f (c, nI i) = some c := by
  intro d
  induction d with
  | zero =>
    intro i hi hni f hf c
    obtain ⟨f, rfl⟩ : ∃ f', f = f' + 1 := ⟨f - 1, by omega⟩
    obtain rfl : i = 6 := by omega
    rfl
  | succ d ih =>
    intro i hi hni f hf c
    obtain ⟨f, rfl⟩ : ∃ f', f = f' + 1 := ⟨f - 1, by omega⟩
    have i1 := ih (i + 1) (by omega) (by omega) f (by omega) c
    rw [jv_fx_s]
    generalize jv_fx (f_V_namesSeen_5 n ars L p) f = kk at i1 ⊢
    unfold f_V_namesSeen_5
    have h6 : ((6 : Int32) ≤ nI i) = (6 ≤ i) := q_le (a := 6) (by omega) (by omega)
    simp only [h6, if_neg (show ¬ 6 ≤ i by omega), q_open0 hn (L := L) hni (show i < 6 by omega), Option.bind_some, if_true, nI_1, i1]
theorem q_nsN {n : Nat} {ars : Nat → jv_ar} {mLb mUs mDk : Nat → Int32} (K : Sk n ars mLb mDk) {b s : Nat} (hb : b < n) (hs : s < 4) {r : List Nat} (h : gpt r) : ∀ d i, i + d = n → ∀ f g, d + 7 < f → d < g → ∀ c, ∃ c',
    jv_fx (f_V_namesSeen_5 n ars (ars b).1 (nI (enc r))) f (c, nI i) = some c' ∧ jv_fx (f_M_list_60 (nI n) mLb mUs mDk (nI (4 * b + s)) (nI (enc r)) 0) g (c, nI i) = some (c', 0) := by
  have hn := K.hn
  intro d
  induction d with
  | zero =>
    intro i hi f g hf hg c
    obtain ⟨g, rfl⟩ : ∃ g', g = g' + 1 := ⟨g - 1, by omega⟩
    obtain rfl : i = n := by omega
    refine ⟨c, q_nsT hn (6 - i) i (by omega) (Nat.le_refl _) f (by omega) c, ?_⟩
    rw [jv_fx_s]
    unfold f_M_list_60
    rw [if_pos (nI_le (Nat.le_refl _) (by omega))]
  | succ d ih =>
    intro i hi f g hf hg c
    obtain ⟨f, rfl⟩ : ∃ f', f = f' + 1 := ⟨f - 1, by omega⟩
    obtain ⟨g, rfl⟩ : ∃ g', g = g' + 1 := ⟨g - 1, by omega⟩
    obtain ⟨o, o1, -, o2, o3⟩ := q_sees hn K.lb hb hs (a := i) (by omega)
    obtain ⟨v, w, v1, v2, v3, v4, v5⟩ := q_ns1 (a := i) (by omega) (K.dr i (by omega)) (K.ti i (by omega)) h
    have h6 : ((6 : Int32) ≤ nI i) = (6 ≤ i) := q_le (a := 6) (by omega) (by omega)
    have hm : (nI n ≤ nI i) = (n ≤ i) := q_le (by omega) (by omega)
    rw [jv_fx_s, jv_fx_s]
    have i1 := ih (i + 1) (by omega) f g (by omega) (by omega)
    generalize jv_fx (f_V_namesSeen_5 n ars (ars b).1 (nI (enc r))) f = kk at i1 ⊢
    generalize jv_fx (f_M_list_60 (nI n) mLb mUs mDk (nI (4 * b + s)) (nI (enc r)) 0) g = kg at i1 ⊢
    have ml := q_mlN (a := i) (by omega) (K.dr i (by omega)) (K.ti i (by omega)) (mar := nI n) (mLb := mLb) (mUs := mUs) (k60 := kg) (y0 := nI (4 * b + s)) (y1 := nI (enc r)) (v := v) (y4 := 0) 7 1 rfl 300 (by omega) c
    rw [nI_1] at ml
    unfold f_V_namesSeen_5 f_M_list_60
    rcases o1 with rfl | rfl
    · simp only [h6, if_neg (show ¬ 6 ≤ i by omega), hm, if_neg (show ¬ n ≤ i by omega), o2, o3, Option.bind_some, if_true, nI_1]
      exact i1 c
    · simp only [h6, if_neg (show ¬ 6 ≤ i by omega), hm, if_neg (show ¬ n ≤ i by omega), o2, o3, Option.bind_some, if_true, nI_1, p10, if_false, q_gi (n := 6) (k := i) (by omega) (by omega), if_pos (show i < n by omega), v2, v3, v4]
      by_cases hw : w = 1
      · rw [if_pos hw, show (1 : Int32) = nI 1 from rfl, ml]
        exact i1 _
      · rw [if_neg hw, v5 hw, Int32.or_zero]
        exact i1 _
theorem q_ls1 {n : Nat} {mLb mUs mDk : Nat → Int32} {s p t : Int32} (ht : t ≠ 0) : jv_fx (f_M_list_60 (nI n) mLb mUs mDk s p t) 300 (0, 0) = some (0, t) := by
  rw [show (300 : Nat) = 299 + 1 from rfl, jv_fx_s]
  unfold f_M_list_60
  by_cases h : nI n ≤ 0
  · rw [if_pos h]
  · rw [if_neg h, if_neg ht]
theorem p_21i : ((2 : Int32) = 1) = False := by decide
theorem p_30 : ((3 : Int32) = 0) = False := by decide
theorem p_31 : ((3 : Nat) = 1) = False := by decide
theorem p_41 : ((4 : Nat) = 1) = False := by decide
theorem p_43 : ((4 : Nat) = 3) = False := by decide
theorem pj_11 (S : jv_vs) (vO : Nat → Int64) (M : jv_ms) (p1 p2 : Int32) (hmar : M.2.1 = nI S.1) (hU : pU S.1 S.2.2.2 M.2.2.2.2.2.1) (K : Sk S.1 S.2.2.2 M.2.2.2.1 M.2.2.2.2.2.2.2.1) :
    ∃ (vO' : Nat → Int64) (t : Int32), s_11 S vO M p1 p2 = some (S, vO', t, M.2) := by
  obtain ⟨n, vC, vat, ars⟩ := S
  obtain ⟨m1, m2, m3, mLb, m5, mUs, mWr, mDk, mCp⟩ := M
  replace K : Sk n ars mLb mDk := K
  have hm2 : m2 = nI n := hmar
  replace hU : pU n ars mUs := hU
  have hn := K.hn
  clear hmar
  subst hm2
  unfold s_11 l_list f_V_list f_V_list_0 f_M_list f_M_list_0 f_M_thrown f_M_thrown_0
  rcases q_areaO hn hU p1 with ⟨h1, h2⟩ | ⟨b, s, hb, hs, rfl, h1, h2, h3⟩
  · simp only [h1, h2, Option.bind_some, jv_se, if_true, p10, if_false]
    exact ⟨_, _, rfl⟩
  · simp only [h1, h2, Option.bind_some, jv_se, p10, if_false, if_pos hb]
    rcases q_path2 p2 with ⟨g1, g2⟩ | ⟨r, hr, rfl, g1, g2⟩
    · simp only [g1, g2, Option.bind_some, q_dm0, jv_se, if_true, p10, if_false]
      exact ⟨_, _, rfl⟩
    · obtain ⟨c, c1, c2, c3, c4⟩ := q_ks K hb hs hr
      obtain ⟨c', e1, e2⟩ := q_nsN (mUs := mUs) K hb hs hr n 0 (by omega) 300 300 (by omega) (by omega) 0
      rw [show nI 0 = (0 : Int32) from rfl] at e1 e2
      replace e1 : f_V_namesSeen n ars (ars b).1 (nI (enc r)) = some c' := e1
      simp only [g1, g2, Option.bind_some, q_dm1, jv_se, p10, if_false, c2, c3, c4, e1, e2, q_ls1 (show (2 : Int32) ≠ 0 by decide), q_ls1 (show (3 : Int32) ≠ 0 by decide)]
      unfold sb0 sb1
      by_cases h0 : c = 0
      · simp only [if_pos h0, if_true, Option.bind_some, p_31, if_false, p_2z]
        exact ⟨_, _, rfl⟩
      · by_cases h1 : c &&& 1 = 0
        · simp only [if_neg h0, if_pos h1, if_true, Option.bind_some, p_41, p_43, if_false, p_30, p10]
          exact ⟨_, _, rfl⟩
        · simp only [if_neg h0, if_neg h1, if_true, Option.bind_some, if_false, p10, q_out]
          exact ⟨_, _, rfl⟩
