theorem q_drop (P D : Nat → Int32) : ∃ D', f_D_dropDraft P D = some D' ∧ (∀ w, w < 232 → D' w = P w) ∧ ∀ w, 232 ≤ w → D' w = D w := by
  unfold f_D_dropDraft f_D_dropDraft_0 jv_cp
  rw [if_pos (by decide)]
  refine ⟨_, rfl, fun w hw => ?_, fun w hw => ?_⟩
  · rw [show (0 : Int32).toNatClampNeg = 0 by decide, show (232 : Int32).toNatClampNeg = 232 by decide]
    unfold va_cpy
    simp [hw]
  · rw [show (0 : Int32).toNatClampNeg = 0 by decide, show (232 : Int32).toNatClampNeg = 232 by decide]
    unfold va_cpy
    simp
    omega
theorem pcnt_add (g : Nat → Int32) : ∀ d i e, pcnt g i (d + e) = pcnt g i d + pcnt g (i + d) e
  | 0, i, e => by
    rw [Nat.zero_add, Nat.add_zero]
    show _ = 0 + _
    rw [Nat.zero_add]
  | d + 1, i, e => by
    rw [show d + 1 + e = (d + e) + 1 by omega]
    show (if g i ≤ 0 then 0 else 1) + pcnt g (i + 1) (d + e) = ((if g i ≤ 0 then 0 else 1) + pcnt g (i + 1) d) + _
    rw [pcnt_add g d (i + 1) e, show i + 1 + d = i + (d + 1) by omega]
    omega
theorem pcnt_0 (g : Nat → Int32) : ∀ d i, (∀ j, i ≤ j → j < i + d → g j = 0) → pcnt g i d = 0
  | 0, _, _ => rfl
  | d + 1, i, h => by
    show (if g i ≤ 0 then 0 else 1) + pcnt g (i + 1) d = 0
    rw [h i (by omega) (by omega), if_pos (by decide), pcnt_0 g d (i + 1) (fun j h1 h2 => h j (by omega) (by omega))]
