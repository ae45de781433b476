/-- an area behind a crash: no users, the draft as the places, all else as it was -/
def pBr (x x' : jv_ar) : Prop := x'.1 = x.1 ∧ (∀ j, j < 4 → x'.2.1 j = -1) ∧ x'.2.2.1 = x.2.2.1 ∧ (∀ w, w < 232 → x'.2.2.2.1 w = x.2.2.1 w) ∧ x'.2.2.2.2.2.2.1 = 0 ∧ x'.2.2.2.2.2.2.2 = x.2.2.2.2.2.2.2
theorem q_breakN {n : Nat} (hn : n ≤ 6) {mUs : Nat → Int32} (hz : ∀ j, 4 * n ≤ j → j < 24 → mUs j = 0) (y : Int32) : ∀ d i, i + d = 6 → ∀ f, d < f → ∀ (c : Int32) (ars : Nat → jv_ar), (∀ a, a < n → i ≤ a → (ars a).2.2.2.2.2.2.1 = 0) → (∀ a, a < n → i ≤ a → ∀ j, j < 4 → ∃ u, u ≤ 4 ∧ mUs (4 * a + j) = nI u ∧ (ars a).2.1 j = nI u - 1) →
    ∃ ars', jv_fx (f_V_breakDown_4 n y) f (c, nI i, ars) = some (c + nI (pcnt mUs (4 * i) (4 * d)), (-1 : Int32), ars') ∧ (∀ a, a < n → i ≤ a → pBr (ars a) (ars' a)) ∧ ∀ a, a < i → ars' a = ars a := by
  intro d
  induction d with
  | zero =>
    intro i hi f hf c ars hmk hu
    obtain ⟨f, rfl⟩ : ∃ f', f = f' + 1 := ⟨f - 1, by omega⟩
    rw [jv_fx_s]
    unfold f_V_breakDown_4
    have h6 : ((6 : Int32) ≤ nI i) = (6 ≤ i) := q_le (a := 6) (by omega) (by omega)
    simp only [h6, if_pos (show 6 ≤ i by omega)]
    refine ⟨ars, ?_, fun a h1 h2 => by omega, fun _ _ => rfl⟩
    rw [show pcnt mUs (4 * i) (4 * 0) = 0 from rfl, show nI 0 = (0 : Int32) from rfl, Int32.add_zero]
  | succ d ih =>
    intro i hi f hf c ars hmk hu
    obtain ⟨f, rfl⟩ : ∃ f', f = f' + 1 := ⟨f - 1, by omega⟩
    have hp : pcnt mUs (4 * i) (4 * (d + 1)) = pcnt mUs (4 * i) 4 + pcnt mUs (4 * (i + 1)) (4 * d) := by
      rw [show 4 * (d + 1) = 4 + 4 * d by omega, pcnt_add, show 4 * i + 4 = 4 * (i + 1) by omega]
    have h6 : ((6 : Int32) ≤ nI i) = (6 ≤ i) := q_le (a := 6) (by omega) (by omega)
    rw [jv_fx_s]
    by_cases hin : i < n
    · obtain ⟨U', f1, f2⟩ := q_fill (-1) (ars i).2.1
      obtain ⟨D', g1, g2, g3⟩ := q_drop (ars i).2.2.1 (ars i).2.2.2.1
      have hc := q_cnt (a := i) (hu i hin (Nat.le_refl _))
      have hd : f_A_dismissAll (ars i).2.1 = some U' := by
        unfold f_A_dismissAll f_A_dismissAll_0
        rw [f1]
        rfl
      have hr : f_D_recover (ars i).2.2.2.2.2.1 (ars i).2.2.2.2.1 (ars i).2.2.2.2.2.2.1 (ars i).2.2.1 (ars i).2.2.2.1 = some (0, (ars i).2.2.1, D') := by
        unfold f_D_recover f_D_recover_0
        rw [if_pos (hmk i hin (Nat.le_refl _)), g1]
        rfl
      have key : ∃ A21 : Nat → jv_ar, f_V_breakDown_4 n y (jv_fx (f_V_breakDown_4 n y) f) (c, nI i, ars) = jv_fx (f_V_breakDown_4 n y) f (c + nI (pcnt mUs (4 * i) 4), nI (i + 1), A21) ∧ pBr (ars i) (A21 i) ∧ ∀ a, a ≠ i → A21 a = ars a := by
        refine ⟨va_up (va_up ars i ((ars i).1, U', (ars i).2.2)) i ((ars i).1, U', (ars i).2.2.1, D', (ars i).2.2.2.2.1, (ars i).2.2.2.2.2.1, 0, (ars i).2.2.2.2.2.2.2), ?_, ?_, fun a ha => ?_⟩
        · generalize jv_fx (f_V_breakDown_4 n y) f = kk
          unfold f_V_breakDown_4
          simp only [h6, if_neg (show ¬ 6 ≤ i by omega), q_gi (n := 6) (k := i) (by omega) (by omega), Option.bind_some, if_pos hin, hc, hd, jv_lt, va_up_self, hr, nI_1]
        · rw [va_up_self]
          exact ⟨rfl, f2, rfl, g2, rfl, rfl⟩
        · rw [va_up_ne _ _ ha, va_up_ne _ _ ha]
      obtain ⟨A21, k1, k2, k3⟩ := key
      obtain ⟨ars', r1, r2, r3⟩ := ih (i + 1) (by omega) f (by omega) (c + nI (pcnt mUs (4 * i) 4)) A21 (fun a h1 h2 => by rw [k3 a (by omega)]; exact hmk a h1 (by omega)) (fun a h1 h2 => by rw [k3 a (by omega)]; exact hu a h1 (by omega))
      refine ⟨ars', ?_, fun a h1 h2 => ?_, fun a h => ?_⟩
      · rw [k1, r1, hp, Int32.add_assoc, nI_add]
      · by_cases h : a = i
        · subst h
          rw [r3 a (by omega)]
          exact k2
        · rw [← k3 a h]
          exact r2 a h1 (by omega)
      · rw [r3 a (by omega), k3 a (by omega)]
    · obtain ⟨ars', r1, r2, r3⟩ := ih (i + 1) (by omega) f (by omega) c ars (fun a h1 h2 => hmk a h1 (by omega)) (fun a h1 h2 => hu a h1 (by omega))
      refine ⟨ars', ?_, fun a h1 h2 => by omega, fun a h => r3 a (by omega)⟩
      have k1 : f_V_breakDown_4 n y (jv_fx (f_V_breakDown_4 n y) f) (c, nI i, ars) = jv_fx (f_V_breakDown_4 n y) f (c, nI (i + 1), ars) := by
        generalize jv_fx (f_V_breakDown_4 n y) f = kk
        unfold f_V_breakDown_4
        simp only [h6, if_neg (show ¬ 6 ≤ i by omega), q_gi (n := 6) (k := i) (by omega) (by omega), Option.bind_some, if_neg hin, nI_1]
      rw [k1, r1, hp, pcnt_0 mUs 4 (4 * i) (fun j h1 h2 => hz j (by omega) (by omega)), Nat.zero_add]
