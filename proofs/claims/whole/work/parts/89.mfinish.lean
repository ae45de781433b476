/-! The reference's finish. -/
section
variable {C mDk mUs mWr : Nat → Int32} {a : Nat} {ans fu : Int32}
theorem q_f22 (ha : a < 6) {k5 : (Int32 × Int32) → Option (Int32 × Int32 × (Nat → Int32) × (Nat → Int32) × (Nat → Int32))} {ch : Int32} {b : Nat} (hb : b < 29) : ∀ d j, j + d = 8 → ∀ f, d < f → ∀ o : Int32, (o = 0 ∨ o = 1) → ∃ o' : Int32, (o' = 0 ∨ o' = 1) ∧ (o' = 0 ↔ (o = 0 ∧ ∀ i, j ≤ i → i < 8 → C (8 * b + i) = mDk (232 * a + (8 * b + i)))) ∧
    jv_fx (f_M_finish_22 C k5 (nI a) ans ch (nI b) fu mUs mWr mDk) f (o, nI (8 * b + j)) = k5 (ch + o', nI b + 1) := by
  have e8 : (8 : Int32) * nI b + (8 : Int32) = nI (8 * b + 8) := by rw [show (8 : Int32) = nI 8 from rfl, q_mul, nI_add]
  intro d
  induction d with
  | zero =>
    intro j hj f hf o ho
    obtain ⟨f, rfl⟩ : ∃ f', f = f' + 1 := ⟨f - 1, by omega⟩
    obtain rfl : j = 8 := by omega
    refine ⟨o, ho, ⟨fun h => ⟨h, fun i h1 h2 => by omega⟩, fun h => h.1⟩, ?_⟩
    rw [jv_fx_s]
    unfold f_M_finish_22
    simp only [e8, q_le (a := 8 * b + 8) (b := 8 * b + 8) (by omega) (by omega), if_pos (Nat.le_refl (8 * b + 8))]
    rcases ho with rfl | rfl
    · rw [if_pos rfl]
    · rw [if_neg (by decide)]
  | succ d ih =>
    intro j hj f hf o ho
    obtain ⟨f, rfl⟩ : ∃ f', f = f' + 1 := ⟨f - 1, by omega⟩
    have eD : (232 : Int32) * nI a + nI (8 * b + j) = nI (232 * a + (8 * b + j)) := by rw [show (232 : Int32) = nI 232 from rfl, q_mul, nI_add]
    rw [jv_fx_s]
    have ih2 := ih (j + 1) (by omega) f (by omega)
    generalize jv_fx (f_M_finish_22 C k5 (nI a) ans ch (nI b) fu mUs mWr mDk) f = kk at ih2 ⊢
    unfold f_M_finish_22
    simp only [e8, q_le (a := 8 * b + 8) (b := 8 * b + j) (by omega) (by omega), if_neg (show ¬ 8 * b + 8 ≤ 8 * b + j by omega), q_ga (f := C) (n := 232) (k := 8 * b + j) (by omega) (by omega), eD, q_ga (f := mDk) (n := 1392) (k := 232 * a + (8 * b + j)) (by omega) (by omega), Option.bind_some, nI_1 (8 * b + j)]
    rw [show 8 * b + (j + 1) = 8 * b + j + 1 by omega] at ih2
    rcases ho with rfl | rfl
    · rw [if_pos rfl]
      by_cases h : C (8 * b + j) = mDk (232 * a + (8 * b + j))
      · rw [if_pos h]
        obtain ⟨o', o1, o2, o3⟩ := ih2 0 (Or.inl rfl)
        refine ⟨o', o1, o2.trans ⟨fun z => ⟨rfl, fun i h1 h2 => ?_⟩, fun z => ⟨rfl, fun i h1 h2 => z.2 i (by omega) h2⟩⟩, o3⟩
        by_cases hi : i = j
        · rw [hi]; exact h
        · exact z.2 i (by omega) h2
      · rw [if_neg h]
        obtain ⟨o', o1, o2, o3⟩ := ih2 1 (Or.inr rfl)
        refine ⟨o', o1, o2.trans ⟨fun z => absurd z.1 (by decide), fun z => absurd (z.2 j (Nat.le_refl _) (by omega)) h⟩, o3⟩
    · rw [if_neg (by decide)]
      obtain ⟨o', o1, o2, o3⟩ := ih2 1 (Or.inr rfl)
      exact ⟨o', o1, o2.trans ⟨fun z => absurd z.1 (by decide), fun z => absurd z.1 (by decide)⟩, o3⟩
abbrev sgD (mDk : Nat → Int32) (a : Nat) : Nat → Int32 := fun w => mDk (232 * a + w)
theorem q_f5 (ha : a < 6) : ∀ d b, b + d = 29 → ∀ f, d < f → ∀ c : Nat, c + d ≤ 29 → jv_fx (f_M_finish_5 C (nI a) ans fu mUs mWr mDk) f (nI c, nI b) = f_M_finish_108 C (nI a) ans (nI (c + cch (sgD mDk a) C b d)) (if c + cch (sgD mDk a) C b d = 0 then 0 else nI (2 * (c + cch (sgD mDk a) C b d) + 2)) fu mUs mWr mDk := by
  intro d
  induction d with
  | zero =>
    intro b hb f hf c hc
    obtain ⟨f, rfl⟩ : ∃ f', f = f' + 1 := ⟨f - 1, by omega⟩
    rw [jv_fx_s, show cch (sgD mDk a) C b 0 = 0 from rfl, Nat.add_zero]
    unfold f_M_finish_5
    have h8 : ((29 : Int32) ≤ nI b) = (29 ≤ b) := q_le (a := 29) (by omega) (by omega)
    have h0 : (nI c = 0) = (c = 0) := q_eq (b := 0) (by omega) (by omega)
    simp only [h8, if_pos (show 29 ≤ b by omega), h0]
    by_cases hc0 : c = 0
    · rw [if_pos hc0, if_pos hc0]
    · rw [if_neg hc0, if_neg hc0, show (2 : Int32) = nI 2 from rfl, q_mul, nI_add]
  | succ d ih =>
    intro b hb f hf c hc
    obtain ⟨f, rfl⟩ : ∃ f', f = f' + 1 := ⟨f - 1, by omega⟩
    have h8 : ((29 : Int32) ≤ nI b) = (29 ≤ b) := q_le (a := 29) (by omega) (by omega)
    have ih2 := ih (b + 1) (by omega) f (by omega)
    rw [jv_fx_s]
    generalize jv_fx (f_M_finish_5 C (nI a) ans fu mUs mWr mDk) f = kk at ih2 ⊢
    obtain ⟨o, o1, o2, o3⟩ := q_f22 (C := C) (mDk := mDk) (mUs := mUs) (mWr := mWr) (ans := ans) (fu := fu) ha (k5 := kk) (ch := nI c) (b := b) (by omega) 8 0 rfl 300 (by omega) 0 (Or.inl rfl)
    have e8 : (8 : Int32) * nI b = nI (8 * b + 0) := q_mul 8 b
    unfold f_M_finish_5
    simp only [h8, if_neg (show ¬ 29 ≤ b by omega), e8]
    rw [o3, nI_1]
    have ec : cch (sgD mDk a) C b (d + 1) = (if smb (sgD mDk a) C b then 0 else 1) + cch (sgD mDk a) C (b + 1) d := rfl
    by_cases hs : smb (sgD mDk a) C b
    · rw [o2.mpr ⟨rfl, fun i _ hi => hs i hi⟩, Int32.add_zero, ih2 c (by omega), ec, if_pos hs, Nat.zero_add]
    · have : o = 1 := by
        rcases o1 with h | h
        · exact absurd (fun i hi => (o2.mp h).2 i (Nat.zero_le _) hi) hs
        · exact h
      rw [this, nI_1, ih2 (c + 1) (by omega), ec, if_neg hs, Nat.add_assoc]
theorem q_f164 (ha : a < 6) {ch all torn made : Int32} {F : Nat → Int32} (hc : torn = 0 ∨ ¬ made ≤ ch) : ∀ d i, i + d = 232 → ∀ f, d < f → ∀ dk : Nat → Int32, ∃ dk', jv_fx (f_M_finish_164 C (nI a) ans ch all torn made fu mUs F) f (nI i, dk) = f_M_finish_209 C ans all torn fu mUs F dk' ∧ ∀ w, dk' w = if 232 * a + i ≤ w ∧ w < 232 * a + 232 then C (w - 232 * a) else dk w := by
  intro d
  induction d with
  | zero =>
    intro i hi f hf dk
    obtain ⟨f, rfl⟩ : ∃ f', f = f' + 1 := ⟨f - 1, by omega⟩
    obtain rfl : i = 232 := by omega
    refine ⟨dk, ?_, fun w => by rw [if_neg (by omega)]⟩
    rw [jv_fx_s]
    unfold f_M_finish_164
    simp only [show ((232 : Int32) ≤ nI 232) = True by decide, if_true]
  | succ d ih =>
    intro i hi f hf dk
    obtain ⟨f, rfl⟩ : ∃ f', f = f' + 1 := ⟨f - 1, by omega⟩
    have h8 : ((232 : Int32) ≤ nI i) = (232 ≤ i) := q_le (a := 232) (by omega) (by omega)
    have eD : (232 : Int32) * nI a + nI i = nI (232 * a + i) := by rw [show (232 : Int32) = nI 232 from rfl, q_mul, nI_add]
    obtain ⟨dk', g1, g2⟩ := ih (i + 1) (by omega) f (by omega) (upd dk (232 * a + i) (C i))
    refine ⟨dk', ?_, fun w => ?_⟩
    · rw [jv_fx_s]
      generalize jv_fx (f_M_finish_164 C (nI a) ans ch all torn made fu mUs F) f = kk at g1 ⊢
      unfold f_M_finish_164 f_M_finish_183
      simp only [h8, if_neg (show ¬ 232 ≤ i by omega), eD, q_ga (f := C) (n := 232) (k := i) (by omega) (by omega), q_sa (f := dk) (n := 1392) (k := 232 * a + i) (by omega) (by omega), Option.bind_some, nI_1, g1]
      rcases hc with h | h
      · rw [if_pos h]
      · rw [if_neg h]
        by_cases h2 : torn = 0
        · rw [if_pos h2]
        · rw [if_neg h2]
    · rw [g2 w]
      by_cases h : 232 * a + (i + 1) ≤ w ∧ w < 232 * a + 232
      · rw [if_pos h, if_pos (by omega)]
      · rw [if_neg h]
        by_cases h3 : w = 232 * a + i
        · subst h3
          rw [q_updS, if_pos (by omega), show 232 * a + i - 232 * a = i by omega]
        · rw [q_updN h3, if_neg (by omega)]
theorem q_crn (y : Int32) (g : Nat → Int32) : f_M_crashNow y g = some (nI (pcnt g 0 24), -1, pzero g 0 24) := by
  unfold f_M_crashNow f_M_crashNow_0
  have h := q_crashN y 24 0 rfl 300 (by omega) 0 g
  rw [show nI 0 = (0 : Int32) from rfl, Int32.zero_add] at h
  exact h
/-- the disk behind a finish that is done -/
def cpD (mDk C : Nat → Int32) (a : Nat) (dk : Nat → Int32) : Prop := ∀ w, dk w = if 232 * a ≤ w ∧ w < 232 * a + 232 then C (w - 232 * a) else mDk w
theorem q_fmA (ha : a < 6) {t : Option Nat} (ht : ∀ k, t = some k → k < 2 ^ 31) {c all : Nat} (hc : c = cch (sgD mDk a) C 0 29) (hall : all = if c = 0 then 0 else 2 * c + 2) (hk : fok t all) : ∃ dk, f_M_finish C (nI a) ans (fuI t) mUs mWr mDk = some (ans, fuI (fsb t all), mUs, upd mWr a (mWr a + nI all), dk) ∧ cpD mDk C a dk := by
  have hle := cch_le (sgD mDk a) C 29 0
  have h5 := q_f5 (C := C) (mDk := mDk) (mUs := mUs) (mWr := mWr) (ans := ans) (fu := fuI t) ha 29 0 rfl 300 (by omega) 0 (by omega)
  rw [Nat.zero_add, ← hc] at h5
  have ea : (if c = 0 then (0 : Int32) else nI (2 * c + 2)) = nI all := by
    rw [hall]
    by_cases h0 : c = 0
    · rw [if_pos h0, if_pos h0]; rfl
    · rw [if_neg h0, if_neg h0]
  have hal : all ≤ 60 := by
    rw [hall]
    by_cases h0 : c = 0
    · rw [if_pos h0]; omega
    · rw [if_neg h0]; omega
  rw [ea] at h5
  obtain ⟨dk, g1, g2⟩ := q_f164 (C := C) (mUs := mUs) (ans := ans) (fu := fuI t) ha (ch := nI c) (all := nI all) (torn := 0) (made := nI all) (F := upd mWr a (mWr a + nI all)) (Or.inl rfl) 232 0 rfl 300 (by omega) mDk
  refine ⟨dk, ?_, g2⟩
  replace h5 : f_M_finish C (nI a) ans (fuI t) mUs mWr mDk = f_M_finish_108 C (nI a) ans (nI c) (nI all) (fuI t) mUs mWr mDk := h5
  have g3 : f_M_finish_132 C (nI a) ans (nI c) (nI all) 0 (fuI t) mUs mWr mDk = some (ans, fuI (fsb t all), mUs, upd mWr a (mWr a + nI all), dk) := by
    unfold f_M_finish_132
    rw [if_pos rfl, q_ga (by omega) (by omega), Option.bind_some, q_sa (by omega) (by omega), Option.bind_some, show ((0 : Int32), mDk) = (nI 0, mDk) from rfl, g1]
    unfold f_M_finish_209
    rw [if_pos rfl]
    cases t with
    | none => rfl
    | some k =>
      have hk1 := hk k rfl
      have hk2 := ht k rfl
      rw [show fuI (some k) = nI k from rfl, if_neg (fun z => by rw [nI_m1 hk2] at z; exact z), q_sub hk1 hk2]
      rfl
  rw [h5]
  unfold f_M_finish_108
  cases t with
  | none => rw [if_pos (show fuI none = (-1 : Int32) from rfl)]; exact g3
  | some k =>
    have hk1 := hk k rfl
    have hk2 := ht k rfl
    rw [if_neg (show ¬ fuI (some k) = (-1 : Int32) from fun z => by rw [show fuI (some k) = nI k from rfl, nI_m1 hk2] at z; exact z), if_pos (show nI all ≤ fuI (some k) from nI_le hk1 hk2)]
    exact g3
theorem q_fmC (ha : a < 6) {k : Nat} (ht : k < 2 ^ 31) {c : Nat} (hc : c = cch (sgD mDk a) C 0 29) (h0 : c ≠ 0) (hk : k < 2 * c + 2) : ∃ dk, f_M_finish C (nI a) ans (nI k) mUs mWr mDk = some (-3, -1, pzero mUs 0 24, upd mWr a (mWr a + nI k), dk) ∧ (k ≤ c → dk = mDk) ∧ (c < k → cpD mDk C a dk) := by
  have hle := cch_le (sgD mDk a) C 29 0
  have h5 := q_f5 (C := C) (mDk := mDk) (mUs := mUs) (mWr := mWr) (ans := ans) (fu := nI k) ha 29 0 rfl 300 (by omega) 0 (by omega)
  rw [Nat.zero_add, ← hc, if_neg h0] at h5
  replace h5 : f_M_finish C (nI a) ans (nI k) mUs mWr mDk = f_M_finish_108 C (nI a) ans (nI c) (nI (2 * c + 2)) (nI k) mUs mWr mDk := h5
  have h9 : ∀ dk, f_M_finish_209 C ans (nI (2 * c + 2)) 1 (nI k) mUs (upd mWr a (mWr a + nI k)) dk = some (-3, -1, pzero mUs 0 24, upd mWr a (mWr a + nI k), dk) := fun dk => by
    unfold f_M_finish_209
    rw [if_neg (by decide), q_crn]
    rfl
  have hs : f_M_finish C (nI a) ans (nI k) mUs mWr mDk = jv_fx (f_M_finish_164 C (nI a) ans (nI c) (nI (2 * c + 2)) 1 (nI k) (nI k) mUs (upd mWr a (mWr a + nI k))) 300 (0, mDk) := by
    rw [h5]
    unfold f_M_finish_108 f_M_finish_132
    rw [if_neg (fun z => by rw [nI_m1 ht] at z; exact z), if_neg (nI_ge hk (by omega)), if_neg (by decide), q_ga (by omega) (by omega), Option.bind_some, q_sa (by omega) (by omega), Option.bind_some]
  by_cases h1 : k ≤ c
  · refine ⟨mDk, ?_, fun _ => rfl, fun h => by omega⟩
    rw [hs, show (300 : Nat) = 299 + 1 from rfl, jv_fx_s]
    unfold f_M_finish_164
    rw [if_neg (show ¬ (232 : Int32) ≤ ((0 : Int32), mDk).1 from by show ¬ (232 : Int32) ≤ 0; decide), if_neg (by decide), if_pos (nI_le h1 (by omega))]
    exact h9 mDk
  · obtain ⟨dk, g1, g2⟩ := q_f164 (C := C) (mUs := mUs) (ans := ans) (fu := nI k) ha (ch := nI c) (all := nI (2 * c + 2)) (torn := 1) (made := nI k) (F := upd mWr a (mWr a + nI k)) (Or.inr (nI_ge (by omega) (by omega))) 232 0 rfl 300 (by omega) mDk
    refine ⟨dk, ?_, fun h => by omega, fun _ => g2⟩
    rw [hs, show ((0 : Int32), mDk) = (nI 0, mDk) from rfl, g1, h9]
end
