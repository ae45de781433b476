theorem pU.none {n : Nat} {ars' : Nat → jv_ar} {mUs : Nat → Int32} (hn : n ≤ 6) (h : ∀ a, a < n → ∀ j, j < 4 → (ars' a).2.1 j = -1) : pU n ars' (pzero mUs 0 24) := by
  refine ⟨fun a i ha hi => ⟨0, by omega, ?_, ?_⟩, fun j h1 h2 => ?_⟩
  · unfold pzero
    rw [if_pos (by omega)]
    rfl
  · rw [h a ha i hi]
    decide
  · unfold pzero
    rw [if_pos (by omega)]
theorem q_break {n : Nat} (hn : n ≤ 6) {mUs : Nat → Int32} {ars : Nat → jv_ar} (y : Int32) (hU : pU n ars mUs) (hmk : ∀ a, a < n → (ars a).2.2.2.2.2.2.1 = 0) : ∃ ars', f_V_breakDown n y ars = some (nI (pcnt mUs 0 24), (-1 : Int32), ars') ∧ ∀ a, a < n → pBr (ars a) (ars' a) := by
  obtain ⟨ars', h1, h2, -⟩ := q_breakN hn hU.2 y 6 0 rfl 300 (by omega) 0 ars (fun a h _ => hmk a h) (fun a h _ j hj => hU.1 a j h hj)
  refine ⟨ars', ?_, fun a h => h2 a h (Nat.zero_le _)⟩
  unfold f_V_breakDown f_V_breakDown_0
  rw [show nI 0 = (0 : Int32) from rfl, Int32.zero_add] at h1
  exact h1
theorem pj_14 (S : jv_vs) (vO : Nat → Int64) (M : jv_ms) (hn : S.1 ≤ 6) (hU : pU S.1 S.2.2.2 M.2.2.2.2.2.1) (hmk : ∀ a, a < S.1 → (S.2.2.2 a).2.2.2.2.2.2.1 = 0) : ∃ (t : Int32) (ars' : Nat → jv_ar) (mUs' : Nat → Int32), s_14 S vO M = some ((S.1, S.2.1, -1, ars'), vO, t, M.2.1, -1, M.2.2.2.1, M.2.2.2.2.1, mUs', M.2.2.2.2.2.2) ∧ pU S.1 ars' mUs' ∧ ∀ a, a < S.1 → pBr (S.2.2.2 a) (ars' a) := by
  obtain ⟨ars', h1, h2⟩ := q_break hn S.2.2.1 hU hmk
  unfold s_14 f_V_crash f_V_crash_0
  rw [h1, q_crashM]
  simp only [Option.bind_some, if_true]
  exact ⟨_, _, _, rfl, pU.none hn (fun a ha j hj => (h2 a ha).2.1 j hj), h2⟩
