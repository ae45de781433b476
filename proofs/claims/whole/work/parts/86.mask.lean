/-! Masks of blocks; which blocks are changed, and how many. -/
theorem b_1 : ∀ i, i < 32 → bt 1 i = decide (i = 0) := by decide +kernel
theorem b_bit {k : Nat} (hk : k < 32) {i : Nat} (hi : i < 32) : bt ((1 : Int32) <<< (nI k &&& 31)) i = decide (i = k) := by
  rw [b_shl k hk _ hi]
  by_cases h : k ≤ i
  · rw [b_1 _ (by omega), decide_eq_true h, Bool.true_and]
    by_cases h2 : i = k
    · rw [decide_eq_true h2, decide_eq_true (by omega)]
    · rw [decide_eq_false h2, decide_eq_false (by omega)]
  · rw [decide_eq_false h, Bool.false_and, decide_eq_false (by omega)]
theorem b_at (x : Int32) {k : Nat} (hk : k < 32) : ((x >>> (nI k &&& 31)) &&& (1 : Int32)) = if bt x k then 1 else 0 := b_ext (fun i hi => by
  rw [b_and, b_1 i hi, b_sshr k hk x hi]
  by_cases h0 : i = 0
  · subst h0
    rw [Nat.add_zero, if_pos hk, decide_eq_true rfl, Bool.and_true]
    cases bt x k <;> decide
  · rw [decide_eq_false h0, Bool.and_false]
    cases bt x k
    · rw [if_neg (by decide), b_0]
    · rw [if_pos rfl, b_1 i hi, decide_eq_false h0])
theorem q_isIn (x : Int32) {k : Nat} (hk : k < 32) : f_D_isIn x (nI k) = some (if bt x k then 1 else 0) := by
  unfold f_D_isIn f_D_isIn_0
  rw [b_at x hk]
  cases bt x k <;> rfl
abbrev smb (P D : Nat → Int32) (b : Nat) : Prop := ∀ w, w < 8 → D (8 * b + w) = P (8 * b + w)
def cch (P D : Nat → Int32) : Nat → Nat → Nat
  | _, 0 => 0
  | b, d + 1 => (if smb P D b then 0 else 1) + cch P D (b + 1) d
theorem cch_le (P D : Nat → Int32) : ∀ d b, cch P D b d ≤ d
  | 0, _ => Nat.le_refl 0
  | d + 1, b => by
    have := cch_le P D d (b + 1)
    show (if smb P D b then 0 else 1) + cch P D (b + 1) d ≤ d + 1
    by_cases h : smb P D b
    · rw [if_pos h]; omega
    · rw [if_neg h]; omega
theorem cch_0 (P D : Nat → Int32) : ∀ d b, cch P D b d = 0 → ∀ k, b ≤ k → k < b + d → smb P D k
  | 0, _, _, k, h1, h2 => by omega
  | d + 1, b, h, k, h1, h2 => by
    replace h : (if smb P D b then 0 else 1) + cch P D (b + 1) d = 0 := h
    by_cases hb : smb P D b
    · by_cases hk : k = b
      · rw [hk]; exact hb
      · exact cch_0 P D d (b + 1) (by omega) k (by omega) (by omega)
    · rw [if_neg hb] at h; omega
theorem cch_c {P D P' D' : Nat → Int32} : ∀ d b, (∀ k, b ≤ k → k < b + d → (smb P D k ↔ smb P' D' k)) → cch P D b d = cch P' D' b d
  | 0, _, _ => rfl
  | d + 1, b, h => by
    show (if smb P D b then 0 else 1) + cch P D (b + 1) d = (if smb P' D' b then 0 else 1) + cch P' D' (b + 1) d
    rw [cch_c d (b + 1) (fun k h1 h2 => h k (by omega) (by omega))]
    by_cases hb : smb P D b
    · rw [if_pos hb, if_pos ((h b (by omega) (by omega)).mp hb)]
    · rw [if_neg hb, if_neg (fun z => hb ((h b (by omega) (by omega)).mpr z))]
theorem smb_eq {P D : Nat → Int32} (h : ∀ k, k < 29 → smb P D k) : eqd D P := fun w hw => by
  have := h (w / 8) (by omega) (w % 8) (by omega)
  rw [show 8 * (w / 8) + w % 8 = w by omega] at this
  exact this
theorem q_cbN {P D : Nat → Int32} : ∀ d i, i + d = 232 → ∀ f, d < f → ∀ x : Int32, (∀ b, b < 32 → (bt x b = true ↔ ∃ j, j < i ∧ j / 8 = b ∧ D j ≠ P j)) → ∃ y, jv_fx (f_D_changedBlocks_4 P D) f (x, nI i) = some y ∧ ∀ b, b < 32 → (bt y b = true ↔ ∃ j, j < 232 ∧ j / 8 = b ∧ D j ≠ P j) := by
  intro d
  induction d with
  | zero =>
    intro i hi f hf x hx
    obtain ⟨f, rfl⟩ : ∃ f', f = f' + 1 := ⟨f - 1, by omega⟩
    obtain rfl : i = 232 := by omega
    exact ⟨x, rfl, hx⟩
  | succ d ih =>
    intro i hi f hf x hx
    obtain ⟨f, rfl⟩ : ∃ f', f = f' + 1 := ⟨f - 1, by omega⟩
    have h8 : ((232 : Int32) ≤ nI i) = (232 ≤ i) := q_le (a := 232) (by omega) (by omega)
    have e8 : nI i / (8 : Int32) = nI (i / 8) := q_div (b := 8) (by omega) (by omega) (by omega)
    by_cases h : D i = P i
    · obtain ⟨y, y1, y2⟩ := ih (i + 1) (by omega) f (by omega) x (fun b hb => (hx b hb).trans ⟨fun ⟨j, j1, j2⟩ => ⟨j, by omega, j2⟩, fun ⟨j, j1, j2, j3⟩ => ⟨j, by
        by_cases hj : j = i
        · subst hj; exact absurd h j3
        · omega, j2, j3⟩⟩)
      refine ⟨y, ?_, y2⟩
      rw [jv_fx_s]
      generalize jv_fx (f_D_changedBlocks_4 P D) f = kk at y1 ⊢
      unfold f_D_changedBlocks_4
      simp only [h8, if_neg (show ¬ 232 ≤ i by omega), q_ga (f := D) (n := 232) (k := i) (by omega) (by omega), q_ga (f := P) (n := 232) (k := i) (by omega) (by omega), Option.bind_some, if_pos h, nI_1, y1]
    · obtain ⟨y, y1, y2⟩ := ih (i + 1) (by omega) f (by omega) (x ||| ((1 : Int32) <<< (nI (i / 8) &&& 31))) (fun b hb => by
        rw [b_or, b_bit (by omega) hb, Bool.or_eq_true, hx b hb, decide_eq_true_iff]
        constructor
        · rintro (⟨j, j1, j2⟩ | h1)
          · exact ⟨j, by omega, j2⟩
          · exact ⟨i, by omega, h1.symm, h⟩
        · rintro ⟨j, j1, j2, j3⟩
          by_cases hj : j = i
          · subst hj; exact Or.inr j2.symm
          · exact Or.inl ⟨j, by omega, j2, j3⟩)
      refine ⟨y, ?_, y2⟩
      rw [jv_fx_s]
      generalize jv_fx (f_D_changedBlocks_4 P D) f = kk at y1 ⊢
      unfold f_D_changedBlocks_4
      simp only [h8, if_neg (show ¬ 232 ≤ i by omega), q_ga (f := D) (n := 232) (k := i) (by omega) (by omega), q_ga (f := P) (n := 232) (k := i) (by omega) (by omega), Option.bind_some, if_neg h, nI_1, e8, y1]
theorem q_cb (P D : Nat → Int32) : ∃ y, f_D_changedBlocks P D = some y ∧ ∀ b, b < 32 → (bt y b = true ↔ (b < 29 ∧ ¬ smb P D b)) := by
  obtain ⟨y, y1, y2⟩ := q_cbN (P := P) (D := D) 232 0 rfl 300 (by omega) 0 (fun b hb => by
    rw [b_0]
    constructor
    · intro h; cases h
    · rintro ⟨j, j1, _⟩; omega)
  refine ⟨y, y1, fun b hb => (y2 b hb).trans ⟨?_, ?_⟩⟩
  · rintro ⟨j, j1, j2, j3⟩
    refine ⟨by omega, fun h => j3 ?_⟩
    have := h (j % 8) (by omega)
    rw [show 8 * b + j % 8 = j by omega] at this
    exact this
  · rintro ⟨h1, h2⟩
    apply Classical.byContradiction
    intro hn
    apply h2
    intro w hw
    apply Classical.byContradiction
    intro hne
    exact hn ⟨8 * b + w, by omega, by omega, hne⟩
/-! the fuse -/
def fuI : Option Nat → Int32
  | none => -1
  | some t => nI t
def fok (t : Option Nat) (c : Nat) : Prop := ∀ k, t = some k → c ≤ k
def fsb (t : Option Nat) (c : Nat) : Option Nat := t.map (fun k => k - c)
theorem fsb_sb (t : Option Nat) (c d : Nat) : fsb (fsb t c) d = fsb t (c + d) := by
  cases t with
  | none => rfl
  | some k => show some (k - c - d) = some (k - (c + d)); congr 1; omega
theorem fsb_0 (t : Option Nat) : fsb t 0 = t := by cases t <;> rfl
theorem q_cw1 {t : Option Nat} (h : fok t 1) (hb : ∀ k, t = some k → k < 2 ^ 31) (wr : Int32) : f_D_countWrite wr (fuI t) = some (1, wr + 1, fuI (fsb t 1)) := by
  unfold f_D_countWrite f_D_countWrite_0 f_Fu_letsPass f_Fu_letsPass_0
  cases t with
  | none => rfl
  | some k =>
    have hk := h k rfl
    have hk2 := hb k rfl
    rw [show fuI (some k) = nI k from rfl, show fuI (fsb (some k) 1) = nI (k - 1) from rfl]
    rw [if_neg (nI_ne0 (by omega) hk2), if_neg (nI_nle (by omega) hk2)]
    show some ((1 : Int32), wr + 1, nI k - 1) = _
    rw [show (1 : Int32) = nI 1 from rfl, q_sub hk hk2]
theorem q_cw0 (wr : Int32) : f_D_countWrite wr (fuI (some 0)) = some (0, wr, fuI (some 0)) := rfl
theorem q_cpB {F G : Nat → Int32} {b : Nat} (hb : b < 29) : ∃ G', f_D_copyBlock F (nI b) G = some G' ∧ ∀ w, G' w = if w / 8 = b then F w else G w := by
  unfold f_D_copyBlock f_D_copyBlock_0
  rw [show nI b * (8 : Int32) = nI (b * 8) from q_mul b 8]
  unfold jv_cp
  have e1 : (nI (b * 8)).toNatClampNeg = b * 8 := nI_clamp (by omega)
  have e2 : (8 : Int32).toNatClampNeg = 8 := by decide
  rw [if_pos ⟨nI_pos (by omega), nI_pos (by omega), by decide, by rw [e1, e2]; omega, by rw [e1, e2]; omega⟩, e1, e2]
  refine ⟨_, rfl, fun w => ?_⟩
  unfold va_cpy
  by_cases h : w / 8 = b
  · rw [if_pos h, if_pos (by omega), show b * 8 + (w - b * 8) = w by omega]
  · rw [if_neg h, if_neg (by omega)]
