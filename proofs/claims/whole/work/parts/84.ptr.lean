/-! Pointers. -/
def isLoc (D : Nat → Int32) (l : Nat) : Prop := (∃ i w, i < 8 ∧ 4 ≤ w ∧ w ≤ 6 ∧ l = 8 + 8 * i + w) ∨ (∃ i q w, i < 8 ∧ 1 ≤ q ∧ q ≤ 20 ∧ w < 8 ∧ D (8 + 8 * i + 6) = nI q ∧ l = 64 + 8 * q + w)
abbrev PI (D : Nat → Int32) : Prop :=
  (∀ i, 20 ≤ i → bt (D 0) i = false) ∧
  (∀ i, i < 8 → ∃ s, s ≤ 80 ∧ D (8 + 8 * i + 3) = nI s) ∧
  (∀ l, isLoc D l → ∃ p, p ≤ 20 ∧ D l = nI p ∧ (1 ≤ p → bt (D 0) (p - 1) = true)) ∧
  (∀ l k, isLoc D l → isLoc D k → D l = D k → D l ≠ 0 → l = k)
theorem PI.map {D : Nat → Int32} (h : PI D) : ∀ i, 20 ≤ i → bt (D 0) i = false := h.1
theorem PI.size {D : Nat → Int32} (h : PI D) : ∀ i, i < 8 → ∃ s, s ≤ 80 ∧ D (8 + 8 * i + 3) = nI s := h.2.1
theorem PI.ptr {D : Nat → Int32} (h : PI D) : ∀ l, isLoc D l → ∃ p, p ≤ 20 ∧ D l = nI p ∧ (1 ≤ p → bt (D 0) (p - 1) = true) := h.2.2.1
theorem PI.inj {D : Nat → Int32} (h : PI D) : ∀ l k, isLoc D l → isLoc D k → D l = D k → D l ≠ 0 → l = k := h.2.2.2
def PB (D : Nat → Int32) : Prop := ∀ l, isLoc D l → ∃ p, p ≤ 20 ∧ D l = nI p
theorem PI.pb {D : Nat → Int32} (P : PI D) : PB D := fun l hl => by
  obtain ⟨p, h1, h2, -⟩ := P.ptr l hl
  exact ⟨p, h1, h2⟩
def eqd (D C : Nat → Int32) : Prop := ∀ w, w < 232 → D w = C w
theorem isLoc.lt {D : Nat → Int32} {l : Nat} (h : isLoc D l) : l < 232 := by
  rcases h with ⟨i, w, h⟩ | ⟨i, q, w, h⟩ <;> omega
theorem isLoc.congr {D C : Nat → Int32} (e : eqd D C) {l : Nat} (h : isLoc D l) : isLoc C l := by
  rcases h with ⟨i, w, h⟩ | ⟨i, q, w, h1, h2, h3, h4, h5, h6⟩
  · exact Or.inl ⟨i, w, h⟩
  · exact Or.inr ⟨i, q, w, h1, h2, h3, h4, (e _ (by omega)).symm.trans h5, h6⟩
theorem eqd.symm {D C : Nat → Int32} (e : eqd D C) : eqd C D := fun w hw => (e w hw).symm
theorem PI.congr {D C : Nat → Int32} (e : eqd D C) (P : PI D) : PI C := by
  refine ⟨fun i hi => ?_, fun i hi => ?_, fun l hl => ?_, fun l k hl hk h1 h2 => ?_⟩
  · rw [← e 0 (by omega)]; exact P.map i hi
  · rw [← e _ (by omega)]; exact P.size i hi
  · have hl2 := hl.congr e.symm
    rw [← e 0 (by omega), ← e l hl.lt]
    exact P.ptr l hl2
  · have hl2 := hl.congr e.symm
    have hk2 := hk.congr e.symm
    rw [← e l hl.lt] at h1 h2
    rw [← e k hk.lt] at h1
    exact P.inj l k hl2 hk2 h1 h2
theorem TI.congr {D C : Nat → Int32} (e : ∀ i w, i < 8 → w < 3 → D (8 + 8 * i + w) = C (8 + 8 * i + w)) (T : TI D) : TI C := by
  have e0 : ∀ i, i < 8 → kd C i = kd D i := fun i hi => (e i 0 hi (by omega)).symm
  have e1 : ∀ i, i < 8 → pa C i = pa D i := fun i hi => (e i 1 hi (by omega)).symm
  have e2 : ∀ i, i < 8 → nm C i = nm D i := fun i hi => (e i 2 hi (by omega)).symm
  refine ⟨?_, ?_, ?_, ?_, ?_, ?_, ?_⟩
  · rw [e0 0 (by omega)]; exact T.root
  · intro i hi; rw [e0 i hi]; exact T.kinds i hi
  · intro i hi h; rw [e0 i hi] at h; rw [e2 i hi]; exact T.free i hi h
  · intro i h1 hi h
    rw [e0 i hi] at h
    obtain ⟨p, h2, h3, h4⟩ := T.par i h1 hi h
    exact ⟨p, h2, by rw [e1 i hi]; exact h3, by rw [e0 p h2]; exact h4⟩
  · intro i h1 hi h; rw [e0 i hi] at h; rw [e2 i hi]; exact T.nam i h1 hi h
  · intro i j h1 hi h2 hj h3 h4 h5 h6
    rw [e0 i hi] at h3
    rw [e0 j hj] at h4
    rw [e1 i hi, e1 j hj] at h5
    rw [e2 i hi, e2 j hj] at h6
    exact T.uniq i j h1 hi h2 hj h3 h4 h5 h6
  · obtain ⟨r, h1, h2⟩ := T.rank
    refine ⟨r, h1, fun i p hi1 hi hp h3 h4 => ?_⟩
    rw [e0 i hi] at h3
    rw [e1 i hi] at h4
    exact h2 i p hi1 hi hp h3 h4
theorem q_get {D : Nat → Int32} {b w : Nat} (h : b * 8 + w < 232) : f_D_get D (nI b) (nI w) = some (D (b * 8 + w)) := by
  unfold f_D_get f_D_get_0
  rw [show nI b * (8 : Int32) = nI (b * 8) from q_mul b 8, nI_add, q_ga h (by omega)]
  rfl
theorem q_put {D : Nat → Int32} {b w : Nat} {v : Int32} (h : b * 8 + w < 232) : f_D_put (nI b) (nI w) v D = some (upd D (b * 8 + w) v) := by
  unfold f_D_put f_D_put_0
  rw [show nI b * (8 : Int32) = nI (b * 8) from q_mul b 8, nI_add, q_sa h (by omega)]
  rfl
theorem q_bb0 : f_C_blockBehind (nI 0) = some (-1) := rfl
theorem q_bb {p : Nat} (h1 : 1 ≤ p) (h2 : p ≤ 20) : f_C_blockBehind (nI p) = some (nI (8 + p)) := by
  unfold f_C_blockBehind f_C_blockBehind_0
  rw [if_neg (show ¬ nI p < (1 : Int32) from nI_nlt (b := 1) h1 (by omega)), if_pos (show nI p ≤ (20 : Int32) from nI_le (b := 20) h2 (by omega)), show (9 : Int32) + nI p = nI (9 + p) from nI_add 9 p, show (1 : Int32) = nI 1 from rfl, q_sub (by omega) (by omega), show 9 + p - 1 = 8 + p by omega]
/-- the place of the pointer to block k of a file -/
def locOf (D : Nat → Int32) (i k l : Nat) : Prop := (k < 2 ∧ l = 8 + 8 * i + 4 + k) ∨ (2 ≤ k ∧ ∃ q, 1 ≤ q ∧ q ≤ 20 ∧ D (8 + 8 * i + 6) = nI q ∧ l = 64 + 8 * q + (k - 2))
theorem locOf.isLoc {D : Nat → Int32} {i k l : Nat} (hi : i < 8) (hk : k < 10) (h : locOf D i k l) : isLoc D l := by
  rcases h with ⟨h1, h2⟩ | ⟨h1, q, h2, h3, h4, h5⟩
  · exact Or.inl ⟨i, 4 + k, hi, by omega, by omega, by omega⟩
  · exact Or.inr ⟨i, q, k - 2, hi, h2, h3, by omega, h4, h5⟩
theorem PB.congr {D C : Nat → Int32} (e : eqd D C) (P : PB D) : PB C := fun l hl => by
  rw [← e l hl.lt]
  exact P l (hl.congr e.symm)
theorem PB.ind {D : Nat → Int32} (P : PB D) {i : Nat} (hi : i < 8) : ∃ q, q ≤ 20 ∧ D (8 + 8 * i + 6) = nI q := by
  obtain ⟨q, h1, h2⟩ := P (8 + 8 * i + 6) (Or.inl ⟨i, 6, hi, by omega, by omega, rfl⟩)
  exact ⟨q, h1, h2⟩
theorem q_hold {D : Nat → Int32} (P : PB D) {i k : Nat} (hi : i < 8) (hk : k < 10) : (2 ≤ k ∧ D (8 + 8 * i + 6) = 0 ∧ f_C_holderOf D (nI i) (nI k) = some (-1)) ∨
    (∃ l h w, locOf D i k l ∧ f_C_holderOf D (nI i) (nI k) = some (nI h) ∧ f_C_wordInHolder (nI k) = some (nI w) ∧ h * 8 + w = l ∧ l < 232 ∧ h < 29) := by
  unfold f_C_holderOf f_C_holderOf_0 f_C_wordInHolder f_C_wordInHolder_0
  have h2 : ((2 : Int32) ≤ nI k) = (2 ≤ k) := q_le (a := 2) (by omega) (by omega)
  by_cases hk2 : 2 ≤ k
  · obtain ⟨q, q1, q2⟩ := P.ind hi
    have g : f_D_get D ((1 : Int32) + nI i) (6 : Int32) = some (nI q) := by
      rw [show (1 : Int32) + nI i = nI (1 + i) from nI_add 1 i, show (6 : Int32) = nI 6 from rfl, q_get (by omega), show (1 + i) * 8 + 6 = 8 + 8 * i + 6 by omega, q2]
    simp only [h2, if_pos hk2, g, Option.bind_some]
    by_cases hq : q = 0
    · subst hq
      exact Or.inl ⟨hk2, q2, rfl⟩
    · rw [q_bb (by omega) q1]
      refine Or.inr ⟨64 + 8 * q + (k - 2), 8 + q, k - 2, Or.inr ⟨hk2, q, by omega, q1, q2, rfl⟩, rfl, ?_, by omega, by omega, by omega⟩
      rw [show (2 : Int32) = nI 2 from rfl, q_sub hk2 (by omega)]
  · simp only [h2, if_neg hk2]
    refine Or.inr ⟨8 + 8 * i + 4 + k, 1 + i, 4 + k, Or.inl ⟨by omega, rfl⟩, ?_, ?_, by omega, by omega, by omega⟩
    · rw [show (1 : Int32) + nI i = nI (1 + i) from nI_add 1 i]
    · rw [show (4 : Int32) + nI k = nI (4 + k) from nI_add 4 k]
theorem q_mp {C : Nat → Int32} (P : PB C) {i k : Nat} (hi : i < 8) (hk : k < 10) : (2 ≤ k ∧ C (8 + 8 * i + 6) = 0 ∧ f_M_pointer C (nI i) (nI k) = some (-1)) ∨ (∃ l, locOf C i k l ∧ l < 232 ∧ f_M_pointer C (nI i) (nI k) = some (nI l)) := by
  unfold f_M_pointer f_M_pointer_0
  have h2 : ((2 : Int32) ≤ nI k) = (2 ≤ k) := q_le (a := 2) (by omega) (by omega)
  have e8 : (8 : Int32) + (8 : Int32) * nI i = nI (8 + 8 * i) := by rw [show (8 : Int32) = nI 8 from rfl, q_mul, nI_add]
  by_cases hk2 : 2 ≤ k
  · obtain ⟨q, q1, q2⟩ := P.ind hi
    rw [if_pos (by rw [h2]; exact hk2), e8, show (6 : Int32) = nI 6 from rfl, nI_add, q_ga (by omega) (by omega), q2, Option.bind_some]
    by_cases hq : q = 0
    · subst hq
      exact Or.inl ⟨hk2, rfl, rfl⟩
    · refine Or.inr ⟨64 + 8 * q + (k - 2), Or.inr ⟨hk2, q, by omega, q1, q2, rfl⟩, by omega, ?_⟩
      rw [if_neg (nI_ne0 (by omega) (by omega)), show (64 : Int32) = nI 64 from rfl, show (8 : Int32) = nI 8 from rfl, q_mul, nI_add, nI_add, show (2 : Int32) = nI 2 from rfl, q_sub (by omega) (by omega), show 64 + 8 * q + k - 2 = 64 + 8 * q + (k - 2) by omega]
  · refine Or.inr ⟨8 + 8 * i + 4 + k, Or.inl ⟨by omega, rfl⟩, by omega, ?_⟩
    rw [if_neg (by rw [h2]; exact hk2), e8, show (4 : Int32) = nI 4 from rfl, nI_add, nI_add]
theorem locOf.fn {D : Nat → Int32} {i k l m : Nat} (h : locOf D i k l) (g : locOf D i k m) : l = m := by
  rcases h with ⟨h1, h2⟩ | ⟨h1, q, h2, h3, h4, h5⟩ <;> rcases g with ⟨g1, g2⟩ | ⟨g1, q', g2, g3, g4, g5⟩
  · omega
  · omega
  · omega
  · have := (nI_eq (by omega) (by omega)).mp (h4.symm.trans g4)
    omega
theorem locOf.congr {D C : Nat → Int32} (e : eqd D C) {i k l : Nat} (hi : i < 8) (h : locOf D i k l) : locOf C i k l := by
  rcases h with ⟨h1, h2⟩ | ⟨h1, q, h2, h3, h4, h5⟩
  · exact Or.inl ⟨h1, h2⟩
  · exact Or.inr ⟨h1, q, h2, h3, (e _ (by omega)).symm.trans h4, h5⟩
theorem locOf.ne {D : Nat → Int32} {i k l : Nat} (hk : 2 ≤ k) (h0 : D (8 + 8 * i + 6) = 0) (h : locOf D i k l) : False := by
  rcases h with ⟨h1, h2⟩ | ⟨h1, q, h2, h3, h4, h5⟩
  · omega
  · exact nI_ne0 (by omega) (by omega) (h4.symm.trans h0)
/-- both at once -/
theorem q_hp {D C : Nat → Int32} (P : PB D) (e : eqd D C) {i k : Nat} (hi : i < 8) (hk : k < 10) : (2 ≤ k ∧ D (8 + 8 * i + 6) = 0 ∧ f_C_holderOf D (nI i) (nI k) = some (-1) ∧ f_M_pointer C (nI i) (nI k) = some (-1)) ∨
    (∃ l h w, locOf D i k l ∧ f_C_holderOf D (nI i) (nI k) = some (nI h) ∧ f_C_wordInHolder (nI k) = some (nI w) ∧ h * 8 + w = l ∧ l < 232 ∧ h < 29 ∧ f_M_pointer C (nI i) (nI k) = some (nI l)) := by
  rcases q_hold P hi hk with ⟨a1, a2, a3⟩ | ⟨l, h, w, a1, a2, a3, a4, a5, a6⟩ <;> rcases q_mp (P.congr e) hi hk with ⟨b1, b2, b3⟩ | ⟨m, b1, b2, b3⟩
  · exact Or.inl ⟨a1, a2, a3, b3⟩
  · exact absurd (b1.congr e.symm hi) (fun z => z.ne a1 a2)
  · exact absurd a1 (fun z => z.ne b1 ((e _ (by omega)).trans b2))
  · obtain rfl := a1.fn (b1.congr e.symm hi)
    exact Or.inr ⟨l, h, w, a1, a2, a3, a4, a5, a6, b3⟩
theorem q_pt {D C : Nat → Int32} (P : PB D) (e : eqd D C) {i k : Nat} (hi : i < 8) (hk : k < 10) : (2 ≤ k ∧ D (8 + 8 * i + 6) = 0 ∧ f_C_pointerTo D (nI i) (nI k) = some (nI 0) ∧ f_M_pointer C (nI i) (nI k) = some (-1)) ∨
    (∃ l p, locOf D i k l ∧ l < 232 ∧ p ≤ 20 ∧ D l = nI p ∧ f_C_pointerTo D (nI i) (nI k) = some (nI p) ∧ f_M_pointer C (nI i) (nI k) = some (nI l)) := by
  unfold f_C_pointerTo f_C_pointerTo_0
  rcases q_hp P e hi hk with ⟨a1, a2, a3, a4⟩ | ⟨l, h, w, a1, a2, a3, a4, a5, a6, a7⟩
  · rw [a3]
    exact Or.inl ⟨a1, a2, rfl, a4⟩
  · obtain ⟨p, p1, p2⟩ := P l (a1.isLoc hi hk)
    refine Or.inr ⟨l, p, a1, a5, p1, p2, ?_, a7⟩
    rw [a2, Option.bind_some, if_neg (fun z => by rw [nI_m1 (by omega)] at z; exact z), a3, Option.bind_some, q_get (by omega), a4, p2]
    rfl
/-! start -/
theorem q_stN {mDk : Nat → Int32} {a : Nat} (ha : a < 6) : ∀ d i, i + d = 232 → ∀ f, d < f → ∀ C : Nat → Int32, ∃ C', jv_fx (f_M_start_2 mDk (nI a)) f (nI i, C) = some C' ∧ ∀ w, C' w = if i ≤ w ∧ w < 232 then mDk (232 * a + w) else C w := by
  intro d
  induction d with
  | zero =>
    intro i hi f hf C
    obtain ⟨f, rfl⟩ : ∃ f', f = f' + 1 := ⟨f - 1, by omega⟩
    obtain rfl : i = 232 := by omega
    exact ⟨C, rfl, fun w => by rw [if_neg (by omega)]⟩
  | succ d ih =>
    intro i hi f hf C
    obtain ⟨f, rfl⟩ : ∃ f', f = f' + 1 := ⟨f - 1, by omega⟩
    obtain ⟨C', h1, h2⟩ := ih (i + 1) (by omega) f (by omega) (upd C i (mDk (232 * a + i)))
    refine ⟨C', ?_, fun w => ?_⟩
    · rw [jv_fx_s]
      generalize jv_fx (f_M_start_2 mDk (nI a)) f = kk at h1 ⊢
      unfold f_M_start_2
      have e : (232 : Int32) * nI a + nI i = nI (232 * a + i) := by rw [show (232 : Int32) = nI 232 from rfl, q_mul, nI_add]
      have h8 : ((232 : Int32) ≤ nI i) = (232 ≤ i) := q_le (a := 232) (by omega) (by omega)
      simp only [h8, if_neg (show ¬ 232 ≤ i by omega), e, q_ga (f := mDk) (n := 1392) (k := 232 * a + i) (by omega) (by omega), Option.bind_some, q_sa (f := C) (n := 232) (k := i) (by omega) (by omega), nI_1, h1]
    · rw [h2 w]
      by_cases h : i + 1 ≤ w ∧ w < 232
      · rw [if_pos h, if_pos (by omega)]
      · rw [if_neg h]
        by_cases h3 : w = i
        · subst h3
          rw [q_updS, if_pos (by omega)]
        · rw [q_updN h3, if_neg (by omega)]
theorem q_st {mDk : Nat → Int32} {a : Nat} (ha : a < 6) (C : Nat → Int32) : ∃ C', f_M_start mDk (nI a) C = some C' ∧ ∀ w, w < 232 → C' w = mDk (232 * a + w) := by
  obtain ⟨C', h1, h2⟩ := q_stN ha 232 0 rfl 300 (by omega) C
  exact ⟨C', h1, fun w hw => by rw [h2 w, if_pos (by omega)]⟩
