/-! The journal is filled, the places are filled. -/
theorem fok_1 {t : Option Nat} {c : Nat} (h : fok t (c + 1)) : fok t 1 ∧ fok (fsb t 1) c := by
  constructor
  · intro k hk; have := h k hk; omega
  · intro k hk
    cases t with
    | none => cases hk
    | some j =>
      have h1 := h j rfl
      have h2 : j - 1 = k := Option.some.inj hk
      omega
theorem fbd {t : Option Nat} (hb : ∀ k, t = some k → k < 2 ^ 31) (c : Nat) : ∀ k, fsb t c = some k → k < 2 ^ 31 := by
  intro k hk
  cases t with
  | none => cases hk
  | some j =>
    have h1 := hb j rfl
    have h2 : j - c = k := Option.some.inj hk
    omega
/-- the mask x has the changed blocks -/
def cmk (P D : Nat → Int32) (x : Int32) : Prop := ∀ b, b < 29 → bt x b = !decide (smb P D b)
theorem q_fj1 {P D : Nat → Int32} {x : Int32} (hx : cmk P D x) : ∀ d b, b + d = 29 → ∀ f, d < f → ∀ (jn wr : Int32) (J : Nat → Int32) (t : Option Nat), (∀ k, t = some k → k < 2 ^ 31) → fok t (cch P D b d) →
    ∃ jn' J', jv_fx (f_D_fillJournal_7 D x) f (nI b, jn, wr, J, fuI t) = some (1, jn', wr + nI (cch P D b d), J', fuI (fsb t (cch P D b d))) ∧ (∀ i, i < 29 → bt jn' i = (bt jn i || (decide (b ≤ i) && !decide (smb P D i)))) ∧ ∀ w, w < 232 → J' w = if b ≤ w / 8 ∧ ¬ smb P D (w / 8) then D w else J w := by
  intro d
  induction d with
  | zero =>
    intro b hb f hf jn wr J t ht hk
    obtain ⟨f, rfl⟩ : ∃ f', f = f' + 1 := ⟨f - 1, by omega⟩
    obtain rfl : b = 29 := by omega
    refine ⟨jn, J, ?_, fun i hi => ?_, fun w hw => ?_⟩
    · rw [show cch P D 29 0 = 0 from rfl, fsb_0, show nI 0 = (0 : Int32) from rfl, Int32.add_zero]
      rfl
    · rw [decide_eq_false (show ¬ 29 ≤ i by omega), Bool.false_and, Bool.or_false]
    · rw [if_neg (by omega)]
  | succ d ih =>
    intro b hb f hf jn wr J t ht hk
    obtain ⟨f, rfl⟩ : ∃ f', f = f' + 1 := ⟨f - 1, by omega⟩
    have h8 : ((29 : Int32) ≤ nI b) = (29 ≤ b) := q_le (a := 29) (by omega) (by omega)
    have ec : cch P D b (d + 1) = (if smb P D b then 0 else 1) + cch P D (b + 1) d := rfl
    have hi := q_isIn x (k := b) (by omega)
    rw [hx b (by omega)] at hi
    by_cases hs : smb P D b
    · rw [if_pos hs, Nat.zero_add] at ec
      rw [ec] at hk ⊢
      obtain ⟨jn', J', g1, g2, g3⟩ := ih (b + 1) (by omega) f (by omega) jn wr J t ht hk
      refine ⟨jn', J', ?_, fun i hi => ?_, fun w hw => ?_⟩
      · rw [jv_fx_s]
        generalize jv_fx (f_D_fillJournal_7 D x) f = kk at g1 ⊢
        unfold f_D_fillJournal_7
        rw [decide_eq_true hs] at hi
        simp only [h8, if_neg (show ¬ 29 ≤ b by omega), hi, Option.bind_some, nI_1]
        exact g1
      · rw [g2 i hi]
        by_cases hb2 : i = b
        · subst hb2
          rw [decide_eq_false (show ¬ i + 1 ≤ i by omega), decide_eq_true hs]
          simp
        · by_cases h3 : b ≤ i
          · rw [decide_eq_true h3, decide_eq_true (show b + 1 ≤ i by omega)]
          · rw [decide_eq_false h3, decide_eq_false (show ¬ b + 1 ≤ i by omega)]
      · rw [g3 w hw]
        by_cases h3 : b + 1 ≤ w / 8 ∧ ¬ smb P D (w / 8)
        · rw [if_pos h3, if_pos ⟨by omega, h3.2⟩]
        · rw [if_neg h3]
          by_cases h4 : b ≤ w / 8 ∧ ¬ smb P D (w / 8)
          · exact absurd hs (by rw [show b = w / 8 from by have := h4.1; by_cases hh : b + 1 ≤ w / 8; exact absurd ⟨hh, h4.2⟩ h3; omega]; exact h4.2)
          · rw [if_neg h4]
    · rw [if_neg hs, Nat.add_comm 1] at ec
      rw [ec] at hk ⊢
      obtain ⟨J1, c1, c2⟩ := q_cpB (F := D) (G := J) (b := b) (by omega)
      obtain ⟨k1, k2⟩ := fok_1 hk
      obtain ⟨jn', J', g1, g2, g3⟩ := ih (b + 1) (by omega) f (by omega) (jn ||| ((1 : Int32) <<< (nI b &&& 31))) (wr + 1) J1 (fsb t 1) (fbd ht 1) k2
      refine ⟨jn', J', ?_, fun i hi => ?_, fun w hw => ?_⟩
      · rw [jv_fx_s]
        generalize jv_fx (f_D_fillJournal_7 D x) f = kk at g1 ⊢
        unfold f_D_fillJournal_7
        rw [decide_eq_false hs] at hi
        simp only [h8, if_neg (show ¬ 29 ≤ b by omega), hi, Option.bind_some, q_cw1 k1 ht wr, c1, Bool.not_false, if_true, p10, if_false]
        rw [nI_1 b, g1, fsb_sb, Int32.add_assoc, show (1 : Int32) + nI (cch P D (b + 1) d) = nI (cch P D (b + 1) d + 1) from by rw [show (1 : Int32) = nI 1 from rfl, nI_add, Nat.add_comm], Nat.add_comm 1]
      · rw [g2 i hi, b_or, b_bit (by omega) (by omega)]
        by_cases hb2 : i = b
        · subst hb2
          rw [decide_eq_true rfl, decide_eq_true (Nat.le_refl _), decide_eq_false hs]
          simp
        · rw [decide_eq_false hb2, Bool.or_false]
          by_cases h3 : b ≤ i
          · rw [decide_eq_true h3, decide_eq_true (show b + 1 ≤ i by omega)]
          · rw [decide_eq_false h3, decide_eq_false (show ¬ b + 1 ≤ i by omega)]
      · rw [g3 w hw, c2 w]
        by_cases h3 : b + 1 ≤ w / 8 ∧ ¬ smb P D (w / 8)
        · rw [if_pos h3, if_pos ⟨by omega, h3.2⟩]
        · rw [if_neg h3]
          by_cases h4 : w / 8 = b
          · rw [if_pos h4, if_pos ⟨by omega, by rw [h4]; exact hs⟩]
          · rw [if_neg h4, if_neg (fun z => h3 ⟨by omega, z.2⟩)]
theorem q_fj0 {P D : Nat → Int32} {x : Int32} (hx : cmk P D x) : ∀ d b, b + d = 29 → ∀ f, d < f → ∀ (jn wr : Int32) (J : Nat → Int32) (t : Nat), t < 2 ^ 31 → t < cch P D b d →
    ∃ jn' J', jv_fx (f_D_fillJournal_7 D x) f (nI b, jn, wr, J, fuI (some t)) = some (0, jn', wr + nI t, J', fuI (some 0)) := by
  intro d
  induction d with
  | zero =>
    intro b hb f hf jn wr J t ht hk
    exact absurd hk (by show ¬ t < 0; omega)
  | succ d ih =>
    intro b hb f hf jn wr J t ht hk
    obtain ⟨f, rfl⟩ : ∃ f', f = f' + 1 := ⟨f - 1, by omega⟩
    have h8 : ((29 : Int32) ≤ nI b) = (29 ≤ b) := q_le (a := 29) (by omega) (by omega)
    have ec : cch P D b (d + 1) = (if smb P D b then 0 else 1) + cch P D (b + 1) d := rfl
    have hi := q_isIn x (k := b) (by omega)
    rw [hx b (by omega)] at hi
    by_cases hs : smb P D b
    · rw [if_pos hs, Nat.zero_add] at ec
      rw [ec] at hk
      obtain ⟨jn', J', g1⟩ := ih (b + 1) (by omega) f (by omega) jn wr J t ht hk
      refine ⟨jn', J', ?_⟩
      rw [jv_fx_s]
      generalize jv_fx (f_D_fillJournal_7 D x) f = kk at g1 ⊢
      unfold f_D_fillJournal_7
      rw [decide_eq_true hs] at hi
      simp only [h8, if_neg (show ¬ 29 ≤ b by omega), hi, Option.bind_some, nI_1]
      exact g1
    · rw [if_neg hs, Nat.add_comm 1] at ec
      rw [ec] at hk
      rw [decide_eq_false hs] at hi
      by_cases ht0 : t = 0
      · subst ht0
        refine ⟨jn, J, ?_⟩
        rw [jv_fx_s]
        unfold f_D_fillJournal_7
        simp only [h8, if_neg (show ¬ 29 ≤ b by omega), hi, Option.bind_some, Bool.not_false, if_true, p10, if_false, q_cw0]
        rw [show nI 0 = (0 : Int32) from rfl, Int32.add_zero]
      · obtain ⟨J1, c1, c2⟩ := q_cpB (F := D) (G := J) (b := b) (by omega)
        obtain ⟨jn', J', g1⟩ := ih (b + 1) (by omega) f (by omega) (jn ||| ((1 : Int32) <<< (nI b &&& 31))) (wr + 1) J1 (t - 1) (by omega) (by omega)
        refine ⟨jn', J', ?_⟩
        rw [jv_fx_s]
        generalize jv_fx (f_D_fillJournal_7 D x) f = kk at g1 ⊢
        unfold f_D_fillJournal_7
        have hw := q_cw1 (t := some t) (fun k hk => by have := Option.some.inj hk; omega) (fun k hk => by have := Option.some.inj hk; omega) wr
        rw [show fsb (some t) 1 = some (t - 1) from rfl] at hw
        simp only [h8, if_neg (show ¬ 29 ≤ b by omega), hi, Option.bind_some, hw, c1, Bool.not_false, if_true, p10, if_false]
        rw [nI_1 b, g1, Int32.add_assoc, show (1 : Int32) + nI (t - 1) = nI t from by rw [show (1 : Int32) = nI 1 from rfl, nI_add, show 1 + (t - 1) = t by omega]]
theorem q_fp1 {P D J : Nat → Int32} {x : Int32} (hx : cmk P D x) : ∀ d b, b + d = 29 → ∀ f, d < f → ∀ (wr : Int32) (Q : Nat → Int32) (t : Option Nat), (∀ k, t = some k → k < 2 ^ 31) → fok t (cch P D b d) →
    ∃ Q', jv_fx (f_D_fillPlaces_2 x J) f (nI b, wr, Q, fuI t) = some (1, wr + nI (cch P D b d), Q', fuI (fsb t (cch P D b d))) ∧ ∀ w, w < 232 → Q' w = if b ≤ w / 8 ∧ ¬ smb P D (w / 8) then J w else Q w := by
  intro d
  induction d with
  | zero =>
    intro b hb f hf wr Q t ht hk
    obtain ⟨f, rfl⟩ : ∃ f', f = f' + 1 := ⟨f - 1, by omega⟩
    obtain rfl : b = 29 := by omega
    refine ⟨Q, ?_, fun w hw => ?_⟩
    · rw [show cch P D 29 0 = 0 from rfl, fsb_0, show nI 0 = (0 : Int32) from rfl, Int32.add_zero]
      rfl
    · rw [if_neg (by omega)]
  | succ d ih =>
    intro b hb f hf wr Q t ht hk
    obtain ⟨f, rfl⟩ : ∃ f', f = f' + 1 := ⟨f - 1, by omega⟩
    have h8 : ((29 : Int32) ≤ nI b) = (29 ≤ b) := q_le (a := 29) (by omega) (by omega)
    have ec : cch P D b (d + 1) = (if smb P D b then 0 else 1) + cch P D (b + 1) d := rfl
    have hi := q_isIn x (k := b) (by omega)
    rw [hx b (by omega)] at hi
    by_cases hs : smb P D b
    · rw [if_pos hs, Nat.zero_add] at ec
      rw [ec] at hk ⊢
      obtain ⟨Q', g1, g3⟩ := ih (b + 1) (by omega) f (by omega) wr Q t ht hk
      refine ⟨Q', ?_, fun w hw => ?_⟩
      · rw [jv_fx_s]
        generalize jv_fx (f_D_fillPlaces_2 x J) f = kk at g1 ⊢
        unfold f_D_fillPlaces_2
        rw [decide_eq_true hs] at hi
        simp only [h8, if_neg (show ¬ 29 ≤ b by omega), hi, Option.bind_some, nI_1]
        exact g1
      · rw [g3 w hw]
        by_cases h3 : b + 1 ≤ w / 8 ∧ ¬ smb P D (w / 8)
        · rw [if_pos h3, if_pos ⟨by omega, h3.2⟩]
        · rw [if_neg h3]
          by_cases h4 : b ≤ w / 8 ∧ ¬ smb P D (w / 8)
          · exact absurd hs (by rw [show b = w / 8 from by have := h4.1; by_cases hh : b + 1 ≤ w / 8; exact absurd ⟨hh, h4.2⟩ h3; omega]; exact h4.2)
          · rw [if_neg h4]
    · rw [if_neg hs, Nat.add_comm 1] at ec
      rw [ec] at hk ⊢
      obtain ⟨Q1, c1, c2⟩ := q_cpB (F := J) (G := Q) (b := b) (by omega)
      obtain ⟨k1, k2⟩ := fok_1 hk
      obtain ⟨Q', g1, g3⟩ := ih (b + 1) (by omega) f (by omega) (wr + 1) Q1 (fsb t 1) (fbd ht 1) k2
      refine ⟨Q', ?_, fun w hw => ?_⟩
      · rw [jv_fx_s]
        generalize jv_fx (f_D_fillPlaces_2 x J) f = kk at g1 ⊢
        unfold f_D_fillPlaces_2
        rw [decide_eq_false hs] at hi
        simp only [h8, if_neg (show ¬ 29 ≤ b by omega), hi, Option.bind_some, q_cw1 k1 ht wr, c1, Bool.not_false, if_true, p10, if_false]
        rw [nI_1 b, g1, fsb_sb, Int32.add_assoc, show (1 : Int32) + nI (cch P D (b + 1) d) = nI (cch P D (b + 1) d + 1) from by rw [show (1 : Int32) = nI 1 from rfl, nI_add, Nat.add_comm], Nat.add_comm 1]
      · rw [g3 w hw, c2 w]
        by_cases h3 : b + 1 ≤ w / 8 ∧ ¬ smb P D (w / 8)
        · rw [if_pos h3, if_pos ⟨by omega, h3.2⟩]
        · rw [if_neg h3]
          by_cases h4 : w / 8 = b
          · rw [if_pos h4, if_pos ⟨by omega, by rw [h4]; exact hs⟩]
          · rw [if_neg h4, if_neg (fun z => h3 ⟨by omega, z.2⟩)]
theorem q_fp0 {P D J : Nat → Int32} {x : Int32} (hx : cmk P D x) : ∀ d b, b + d = 29 → ∀ f, d < f → ∀ (wr : Int32) (Q : Nat → Int32) (t : Nat), t < 2 ^ 31 → t < cch P D b d →
    ∃ Q', jv_fx (f_D_fillPlaces_2 x J) f (nI b, wr, Q, fuI (some t)) = some (0, wr + nI t, Q', fuI (some 0)) ∧ ∀ w, w < 232 → smb P D (w / 8) → Q' w = Q w := by
  intro d
  induction d with
  | zero =>
    intro b hb f hf wr Q t ht hk
    exact absurd hk (by show ¬ t < 0; omega)
  | succ d ih =>
    intro b hb f hf wr Q t ht hk
    obtain ⟨f, rfl⟩ : ∃ f', f = f' + 1 := ⟨f - 1, by omega⟩
    have h8 : ((29 : Int32) ≤ nI b) = (29 ≤ b) := q_le (a := 29) (by omega) (by omega)
    have ec : cch P D b (d + 1) = (if smb P D b then 0 else 1) + cch P D (b + 1) d := rfl
    have hi := q_isIn x (k := b) (by omega)
    rw [hx b (by omega)] at hi
    by_cases hs : smb P D b
    · rw [if_pos hs, Nat.zero_add] at ec
      rw [ec] at hk
      obtain ⟨Q', g1, g2⟩ := ih (b + 1) (by omega) f (by omega) wr Q t ht hk
      refine ⟨Q', ?_, g2⟩
      rw [jv_fx_s]
      generalize jv_fx (f_D_fillPlaces_2 x J) f = kk at g1 ⊢
      unfold f_D_fillPlaces_2
      rw [decide_eq_true hs] at hi
      simp only [h8, if_neg (show ¬ 29 ≤ b by omega), hi, Option.bind_some, nI_1]
      exact g1
    · rw [if_neg hs, Nat.add_comm 1] at ec
      rw [ec] at hk
      rw [decide_eq_false hs] at hi
      by_cases ht0 : t = 0
      · subst ht0
        refine ⟨Q, ?_, fun _ _ _ => rfl⟩
        rw [jv_fx_s]
        unfold f_D_fillPlaces_2
        simp only [h8, if_neg (show ¬ 29 ≤ b by omega), hi, Option.bind_some, Bool.not_false, if_true, p10, if_false, q_cw0]
        rw [show nI 0 = (0 : Int32) from rfl, Int32.add_zero]
      · obtain ⟨Q1, c1, c2⟩ := q_cpB (F := J) (G := Q) (b := b) (by omega)
        obtain ⟨Q', g1, g2⟩ := ih (b + 1) (by omega) f (by omega) (wr + 1) Q1 (t - 1) (by omega) (by omega)
        refine ⟨Q', ?_, fun w hw hsm => ?_⟩
        · rw [jv_fx_s]
          generalize jv_fx (f_D_fillPlaces_2 x J) f = kk at g1 ⊢
          unfold f_D_fillPlaces_2
          have hw := q_cw1 (t := some t) (fun k hk => by have := Option.some.inj hk; omega) (fun k hk => by have := Option.some.inj hk; omega) wr
          rw [show fsb (some t) 1 = some (t - 1) from rfl] at hw
          simp only [h8, if_neg (show ¬ 29 ≤ b by omega), hi, Option.bind_some, hw, c1, Bool.not_false, if_true, p10, if_false]
          rw [nI_1 b, g1, Int32.add_assoc, show (1 : Int32) + nI (t - 1) = nI t from by rw [show (1 : Int32) = nI 1 from rfl, nI_add, show 1 + (t - 1) = t by omega]]
        · rw [g2 w hw hsm, c2 w, if_neg]
          intro z
          rw [z] at hsm
          exact hs hsm
theorem q_rcN {P D J : Nat → Int32} {x y0 : Int32} {E : Nat → Int32} (hx : cmk P D x) : ∀ d b, b + d = 29 → ∀ f, d < f → ∀ Q : Nat → Int32,
    ∃ Q' E', jv_fx (f_D_recover_9 x J y0 E) f (nI b, Q) = some (0, Q', E') ∧ (∀ w, w < 232 → Q' w = if b ≤ w / 8 ∧ ¬ smb P D (w / 8) then J w else Q w) ∧ eqd E' Q' := by
  intro d
  induction d with
  | zero =>
    intro b hb f hf Q
    obtain ⟨f, rfl⟩ : ∃ f', f = f' + 1 := ⟨f - 1, by omega⟩
    obtain rfl : b = 29 := by omega
    obtain ⟨E', e1, e2, -⟩ := q_drop Q E
    refine ⟨Q, E', ?_, fun w hw => by rw [if_neg (by omega)], e2⟩
    rw [jv_fx_s]
    unfold f_D_recover_9
    rw [if_pos (show ((nI 29, Q) : Int32 × (Nat → Int32)).1 ≥ (29 : Int32) from by show (29 : Int32) ≤ nI 29; decide), e1]
    rfl
  | succ d ih =>
    intro b hb f hf Q
    obtain ⟨f, rfl⟩ : ∃ f', f = f' + 1 := ⟨f - 1, by omega⟩
    have h8 : ((29 : Int32) ≤ nI b) = (29 ≤ b) := q_le (a := 29) (by omega) (by omega)
    have hi := q_isIn x (k := b) (by omega)
    rw [hx b (by omega)] at hi
    by_cases hs : smb P D b
    · obtain ⟨Q', E', g1, g2, g3⟩ := ih (b + 1) (by omega) f (by omega) Q
      refine ⟨Q', E', ?_, fun w hw => ?_, g3⟩
      · rw [jv_fx_s]
        generalize jv_fx (f_D_recover_9 x J y0 E) f = kk at g1 ⊢
        unfold f_D_recover_9
        rw [decide_eq_true hs] at hi
        simp only [h8, if_neg (show ¬ 29 ≤ b by omega), hi, Option.bind_some, nI_1]
        exact g1
      · rw [g2 w hw]
        by_cases h3 : b + 1 ≤ w / 8 ∧ ¬ smb P D (w / 8)
        · rw [if_pos h3, if_pos ⟨by omega, h3.2⟩]
        · rw [if_neg h3]
          by_cases h4 : b ≤ w / 8 ∧ ¬ smb P D (w / 8)
          · exact absurd hs (by rw [show b = w / 8 from by have := h4.1; by_cases hh : b + 1 ≤ w / 8; exact absurd ⟨hh, h4.2⟩ h3; omega]; exact h4.2)
          · rw [if_neg h4]
    · obtain ⟨Q1, c1, c2⟩ := q_cpB (F := J) (G := Q) (b := b) (by omega)
      obtain ⟨Q', E', g1, g2, g3⟩ := ih (b + 1) (by omega) f (by omega) Q1
      refine ⟨Q', E', ?_, fun w hw => ?_, g3⟩
      · rw [jv_fx_s]
        generalize jv_fx (f_D_recover_9 x J y0 E) f = kk at g1 ⊢
        unfold f_D_recover_9
        rw [decide_eq_false hs] at hi
        simp only [h8, if_neg (show ¬ 29 ≤ b by omega), hi, Option.bind_some, c1, nI_1, Bool.not_false, if_true, p10, if_false]
        exact g1
      · rw [g2 w hw, c2 w]
        by_cases h3 : b + 1 ≤ w / 8 ∧ ¬ smb P D (w / 8)
        · rw [if_pos h3, if_pos ⟨by omega, h3.2⟩]
        · rw [if_neg h3]
          by_cases h4 : w / 8 = b
          · rw [if_pos h4, if_pos ⟨by omega, by rw [h4]; exact hs⟩]
          · rw [if_neg h4, if_neg (fun z => h3 ⟨by omega, z.2⟩)]
