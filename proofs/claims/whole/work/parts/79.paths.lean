/-! Paths: lists of names, the last name first. -/
def enc : List Nat → Nat
  | [] => 0
  | x :: r => 32 * enc r + x
def gnm (r : List Nat) : Prop := ∀ x ∈ r, 1 ≤ x ∧ x ≤ 26
def gpt (r : List Nat) : Prop := r.length ≤ 4 ∧ gnm r
theorem enc_lt : ∀ r, gnm r → enc r < 32 ^ r.length
  | [], _ => by show 0 < 1; omega
  | x :: r, h => by
    have h1 := enc_lt r (fun y hy => h y (List.mem_cons_of_mem _ hy))
    have h2 := h x List.mem_cons_self
    show 32 * enc r + x < 32 ^ (r.length + 1)
    rw [Nat.pow_succ]
    omega
theorem enc_lt20 {r : List Nat} (h : gpt r) : enc r < 2 ^ 20 := by
  have h1 := enc_lt r h.2
  have h2 : 32 ^ r.length ≤ 32 ^ 4 := Nat.pow_le_pow_right (by omega) h.1
  omega
def gp : Nat → Nat → Bool
  | 0, k => decide (k = 0)
  | j + 1, k => decide (k = 0) || (decide (1 ≤ k % 32) && decide (k % 32 ≤ 26) && gp j (k / 32))
theorem gp_ex : ∀ j k, gp j k = true → ∃ r : List Nat, r.length ≤ j ∧ gnm r ∧ k = enc r := by
  intro j
  induction j with
  | zero =>
    intro k h
    exact ⟨[], Nat.le_refl _, fun x hx => absurd hx List.not_mem_nil, of_decide_eq_true h⟩
  | succ j ih =>
    intro k h
    unfold gp at h
    by_cases h0 : k = 0
    · exact ⟨[], Nat.zero_le _, fun x hx => absurd hx List.not_mem_nil, h0⟩
    · simp [h0] at h
      obtain ⟨r, h1, h2, h3⟩ := ih _ h.2
      refine ⟨(k % 32) :: r, by show r.length + 1 ≤ j + 1; omega, fun x hx => ?_, ?_⟩
      · rcases List.mem_cons.mp hx with hx | hx
        · subst hx
          omega
        · exact h2 x hx
      · show k = 32 * enc r + k % 32
        omega
theorem n_32 {k : Nat} (_ : k < 2 ^ 31) : nI k &&& (31 : Int32) = nI (k % 32) := by
  rw [show (31 : Int32) = nI (2 ^ 5 - 1) from rfl, n_and, Nat.and_two_pow_sub_one_eq_mod]
theorem n_s5 {k : Nat} (hk : k < 2 ^ 31) : nI k >>> ((5 : Int32) &&& 31) = nI (k / 32) := n_sh (n := 5) (by omega) hk
theorem n_neg (x : Int32) : x < 0 ↔ bt x 31 = true := by
  unfold bt
  rw [Int32.lt_iff_toInt_lt, Int32.toInt_zero, show x.toInt = x.toBitVec.toInt from rfl, show x.toBitVec.getLsbD 31 = x.toBitVec.msb from (BitVec.msb_eq_getLsbD_last _).symm, BitVec.msb_eq_toInt]
  exact decide_eq_true_iff.symm
theorem q_ipN : ∀ j, j ≤ 4 → ∀ f, j < f → ∀ k, k < 2 ^ 31 → jv_fx f_P_isPath_4 f (nI k, nI (4 - j)) = some (if gp j k then 1 else 0) := by
  intro j
  induction j with
  | zero =>
    intro hj f hf k hk
    obtain ⟨f, rfl⟩ : ∃ f', f = f' + 1 := ⟨f - 1, by omega⟩
    rw [jv_fx_s]
    unfold f_P_isPath_4
    have e : ((4 : Int32) ≤ nI (4 - 0)) = True := by decide
    have e0 : (nI k = 0) = (k = 0) := q_eq (b := 0) hk (by omega)
    simp only [e, if_true, e0, gp]
    by_cases h : k = 0 <;> simp [h]
  | succ j ih =>
    intro hj f hf k hk
    obtain ⟨f, rfl⟩ : ∃ f', f = f' + 1 := ⟨f - 1, by omega⟩
    have i1 := ih (by omega) f (by omega) (k / 32) (by omega)
    rw [jv_fx_s]
    generalize jv_fx f_P_isPath_4 f = kk at i1 ⊢
    unfold f_P_isPath_4 f_P_lastName f_P_lastName_0 f_P_parentOf f_P_parentOf_0
    have e : ((4 : Int32) ≤ nI (4 - (j + 1))) = False := by
      rw [show (4 : Int32) = nI 4 from rfl, q_le (by omega) (by omega)]
      exact eq_false (by omega)
    have e0 : (nI k = 0) = (k = 0) := q_eq (b := 0) hk (by omega)
    have e1 : (nI (k % 32) = 0) = (k % 32 = 0) := q_eq (b := 0) (by omega) (by omega)
    have e2 : (nI (k % 32) ≤ (26 : Int32)) = (k % 32 ≤ 26) := q_le (b := 26) (by omega) (by omega)
    simp only [e, if_false, e0, Option.bind_some, n_32 hk, n_s5 hk, e1, e2, nI_1, show 4 - (j + 1) + 1 = 4 - j by omega, i1, gp]
    by_cases h : k = 0
    · simp [h]
    · by_cases h1 : k % 32 = 0
      · simp [h, h1]
      · by_cases h2 : k % 32 ≤ 26
        · simp [h, h1, h2, show 1 ≤ k % 32 by omega]
        · simp [h, h1, h2]
theorem q_ipM : ∀ j, j ≤ 4 → ∀ f, j < f → ∀ p : Int32, p < 0 → jv_fx f_P_isPath_4 f (p, nI (4 - j)) = some 0 := by
  intro j
  induction j with
  | zero =>
    intro hj f hf p hp
    obtain ⟨f, rfl⟩ : ∃ f', f = f' + 1 := ⟨f - 1, by omega⟩
    rw [jv_fx_s]
    unfold f_P_isPath_4
    have e : ((4 : Int32) ≤ nI (4 - 0)) = True := by decide
    have e0 : (p = 0) = False := eq_false (fun h => by subst h; revert hp; decide)
    simp only [e, if_true, e0, if_false]
  | succ j ih =>
    intro hj f hf p hp
    obtain ⟨f, rfl⟩ : ∃ f', f = f' + 1 := ⟨f - 1, by omega⟩
    have i1 := ih (by omega) f (by omega) (p >>> ((5 : Int32) &&& 31)) ((n_neg _).mpr (by rw [b_sshr5 p (by omega), if_neg (by omega)]; exact (n_neg p).mp hp))
    rw [jv_fx_s]
    generalize jv_fx f_P_isPath_4 f = kk at i1 ⊢
    unfold f_P_isPath_4 f_P_lastName f_P_lastName_0 f_P_parentOf f_P_parentOf_0
    have e : ((4 : Int32) ≤ nI (4 - (j + 1))) = False := by
      rw [show (4 : Int32) = nI 4 from rfl, q_le (by omega) (by omega)]
      exact eq_false (by omega)
    have e0 : (p = 0) = False := eq_false (fun h => by subst h; revert hp; decide)
    simp only [e, if_false, e0, Option.bind_some, nI_1, show 4 - (j + 1) + 1 = 4 - j by omega, i1]
    by_cases h1 : p &&& 31 = 0
    · rw [if_pos h1]
    · rw [if_neg h1]
      by_cases h2 : p &&& 31 ≤ 26
      · rw [if_pos h2]
      · rw [if_neg h2]
/-! the reference's names -/
theorem q_nm0 : ∀ d, d ≤ 7 → ∀ f, d < f → ∀ (n : Int32) (k : Nat), k < 2 ^ 31 → jv_fx f_M_names_17 f (n, nI k, 0, nI (7 - d)) = some (-1) := by
  intro d
  induction d with
  | zero =>
    intro hj f hf n k hk
    obtain ⟨f, rfl⟩ : ∃ f', f = f' + 1 := ⟨f - 1, by omega⟩
    rfl
  | succ d ih =>
    intro hj f hf n k hk
    obtain ⟨f, rfl⟩ : ∃ f', f = f' + 1 := ⟨f - 1, by omega⟩
    have i1 := fun n => ih (by omega) f (by omega) n (k / 32) (by omega)
    rw [jv_fx_s]
    generalize jv_fx f_M_names_17 f = kk at i1 ⊢
    unfold f_M_names_17
    have e : ((7 : Int32) ≤ nI (7 - (d + 1))) = False := by
      rw [show (7 : Int32) = nI 7 from rfl, q_le (by omega) (by omega)]
      exact eq_false (by omega)
    have e3 : nI k / (32 : Int32) = nI (k / 32) := q_div (b := 32) (by omega) hk (by omega)
    simp only [e, if_false, if_true, nI_1, show 7 - (d + 1) + 1 = 7 - d by omega, e3, i1]
    by_cases h : nI k ≤ 0
    · rw [if_pos h]
    · rw [if_neg h]
theorem q_nm1 : ∀ d, d ≤ 7 → ∀ f, d < f → ∀ (n k : Nat), n + d ≤ 7 → k < 32 ^ d → k < 2 ^ 31 → (jv_fx f_M_names_17 f (nI n, nI k, 1, nI (7 - d)) = some (-1)) ∨ (n ≤ 4 ∧ gp (4 - n) k = true) := by
  intro d
  induction d with
  | zero =>
    intro hj f hf n k hn hk hk2
    obtain ⟨f, rfl⟩ : ∃ f', f = f' + 1 := ⟨f - 1, by omega⟩
    obtain rfl : k = 0 := by rw [Nat.pow_zero] at hk; omega
    rw [jv_fx_s]
    unfold f_M_names_17
    have e : ((7 : Int32) ≤ nI (7 - 0)) = True := by decide
    simp only [e, if_true, p10, if_false, show ((4 : Int32) < nI n) = (4 < n) from q_lt (a := 4) (by omega) (by omega)]
    by_cases h : 4 < n
    · rw [if_pos h]; exact Or.inl rfl
    · refine Or.inr ⟨by omega, ?_⟩
      cases 4 - n <;> rfl
  | succ d ih =>
    intro hj f hf n k hn hk hk2
    obtain ⟨f, rfl⟩ : ∃ f', f = f' + 1 := ⟨f - 1, by omega⟩
    have i1 := ih (by omega) f (by omega) (n + 1) (k / 32) (by omega) (by rw [Nat.pow_succ] at hk; omega) (by omega)
    have i0 := fun n => q_nm0 d (by omega) f (by omega) n (k / 32) (by omega)
    rw [jv_fx_s]
    generalize jv_fx f_M_names_17 f = kk at i1 i0 ⊢
    unfold f_M_names_17
    have e : ((7 : Int32) ≤ nI (7 - (d + 1))) = False := by
      rw [show (7 : Int32) = nI 7 from rfl, q_le (by omega) (by omega)]
      exact eq_false (by omega)
    have em : nI k - nI k / (32 : Int32) * (32 : Int32) = nI (k % 32) := q_mod (b := 32) (by omega) hk2 (by omega)
    have e3 : nI k / (32 : Int32) = nI (k / 32) := q_div (b := 32) (by omega) hk2 (by omega)
    have e4 : (nI k ≤ 0) = (k ≤ 0) := q_le (b := 0) hk2 (by omega)
    have e5 : (nI (k % 32) < 1) = (k % 32 < 1) := q_lt (b := 1) (by omega) (by omega)
    have e6 : ((26 : Int32) < nI (k % 32)) = (26 < k % 32) := q_lt (a := 26) (by omega) (by omega)
    rw [e3] at em
    simp only [e, if_false, e4, p10, show ((4 : Int32) < nI n) = (4 < n) from q_lt (a := 4) (by omega) (by omega), e3, em, nI_1, show 7 - (d + 1) + 1 = 7 - d by omega, i0, e5, e6]
    by_cases h : k ≤ 0
    · rw [if_pos h]
      by_cases h2 : 4 < n
      · rw [if_pos h2]; exact Or.inl rfl
      · refine Or.inr ⟨by omega, ?_⟩
        obtain rfl : k = 0 := by omega
        cases 4 - n <;> rfl
    · rw [if_neg h]
      by_cases h1 : k % 32 < 1
      · rw [if_pos h1]; exact Or.inl rfl
      · rw [if_neg h1]
        by_cases h2 : 26 < k % 32
        · rw [if_pos h2]; exact Or.inl rfl
        · rw [if_neg h2]
          rcases i1 with i1 | ⟨i1, i2⟩
          · exact Or.inl i1
          · refine Or.inr ⟨by omega, ?_⟩
            rw [show 4 - n = (4 - (n + 1)) + 1 by omega]
            unfold gp
            rw [i2]
            simp
            omega
theorem q_nm2 : ∀ (r : List Nat), gnm r → ∀ f, r.length < f → ∀ (n m : Nat), n + r.length ≤ 4 → m + r.length ≤ 4 → jv_fx f_M_names_17 f (nI n, nI (enc r), 1, nI m) = some (nI (n + r.length)) := by
  intro r
  induction r with
  | nil =>
    intro hg f hf n m hn hm
    obtain ⟨f, rfl⟩ : ∃ f', f = f' + 1 := ⟨f - 1, by omega⟩
    replace hn : n ≤ 4 := hn
    replace hm : m ≤ 4 := hm
    rw [jv_fx_s]
    unfold f_M_names_17 enc
    simp only [show ((7 : Int32) ≤ nI m) = (7 ≤ m) from q_le (a := 7) (by omega) (by omega), if_neg (show ¬ 7 ≤ m by omega), show ((4 : Int32) < nI n) = (4 < n) from q_lt (a := 4) (by omega) (by omega), if_neg (show ¬ 4 < n by omega), p10, if_false, show (nI 0 ≤ 0) = True by decide, if_true]
    rfl
  | cons x r ih =>
    intro hg f hf n m hn hm
    obtain ⟨f, rfl⟩ : ∃ f', f = f' + 1 := ⟨f - 1, by omega⟩
    replace hn : n + (r.length + 1) ≤ 4 := hn
    replace hm : m + (r.length + 1) ≤ 4 := hm
    replace hf : r.length + 1 < f + 1 := hf
    have hx := hg x List.mem_cons_self
    have hg2 : gnm r := fun y hy => hg y (List.mem_cons_of_mem _ hy)
    have hl := enc_lt20 (r := r) ⟨by omega, hg2⟩
    have i1 := ih hg2 f (by omega) (n + 1) (m + 1) (by omega) (by omega)
    rw [jv_fx_s]
    generalize jv_fx f_M_names_17 f = kk at i1 ⊢
    unfold f_M_names_17
    have hk2 : enc (x :: r) < 2 ^ 31 := by show 32 * enc r + x < 2 ^ 31; omega
    have ek : enc (x :: r) = 32 * enc r + x := rfl
    have em : nI (enc (x :: r)) - nI (enc (x :: r)) / (32 : Int32) * (32 : Int32) = nI x := by
      rw [show (32 : Int32) = nI 32 from rfl, q_mod (b := 32) (by omega) hk2 (by omega)]
      congr 1
      omega
    have e3 : nI (enc (x :: r)) / (32 : Int32) = nI (enc r) := by
      rw [show (32 : Int32) = nI 32 from rfl, q_div (b := 32) (by omega) hk2 (by omega)]
      congr 1
      omega
    have e4 : (nI (enc (x :: r)) ≤ 0) = (enc (x :: r) ≤ 0) := q_le (b := 0) hk2 (by omega)
    have e5 : (nI x < 1) = (x < 1) := q_lt (b := 1) (by omega) (by omega)
    have e6 : ((26 : Int32) < nI x) = (26 < x) := q_lt (a := 26) (by omega) (by omega)
    rw [e3] at em
    simp only [show ((7 : Int32) ≤ nI m) = (7 ≤ m) from q_le (a := 7) (by omega) (by omega), if_neg (show ¬ 7 ≤ m by omega), e4, if_neg (show ¬ enc (x :: r) ≤ 0 by omega), p10, if_false, e3, em, e5, e6, if_neg (show ¬ x < 1 by omega), if_neg (show ¬ 26 < x by omega), nI_1, i1]
    rw [show n + (x :: r).length = n + 1 + r.length by show n + (r.length + 1) = _; omega]
theorem q_nmr {r : List Nat} (h : gpt r) : f_M_names (nI (enc r)) = some (nI r.length) := by
  have hl := enc_lt20 h
  have h1 := q_nm2 r h.2 300 (by have := h.1; omega) 0 0 (by have := h.1; omega) (by have := h.1; omega)
  unfold f_M_names f_M_names_0
  rw [if_neg (nI_pos (by omega))]
  rw [Nat.zero_add] at h1
  exact h1
theorem gp_enc : ∀ (r : List Nat) (j : Nat), gnm r → r.length ≤ j → gp j (enc r) = true := by
  intro r
  induction r with
  | nil => intro j _ _; cases j <;> rfl
  | cons x r ih =>
    intro j hg hj
    replace hj : r.length + 1 ≤ j := hj
    obtain ⟨j, rfl⟩ : ∃ j', j = j' + 1 := ⟨j - 1, by omega⟩
    have hx := hg x List.mem_cons_self
    have h1 := ih j (fun y hy => hg y (List.mem_cons_of_mem _ hy)) (by omega)
    unfold gp
    rw [show enc (x :: r) = 32 * enc r + x from rfl, show (32 * enc r + x) / 32 = enc r by omega, show (32 * enc r + x) % 32 = x by omega, h1]
    simp
    omega
theorem q_ip1 {r : List Nat} (h : gpt r) : f_P_isPath (nI (enc r)) = some 1 := by
  have hl := enc_lt20 h
  have := q_ipN 4 (by omega) 300 (by omega) (enc r) (by omega)
  rw [gp_enc r 4 h.2 h.1] at this
  exact this
theorem q_path (p : Int32) : (f_P_isPath p = some 0 ∧ f_M_names p = some (-1)) ∨ (∃ r, gpt r ∧ p = nI (enc r) ∧ f_P_isPath p = some 1 ∧ f_M_names p = some (nI r.length)) := by
  rcases q_nn p with hp | ⟨k, hk, rfl⟩
  · refine Or.inl ⟨q_ipM 4 (by omega) 300 (by omega) p hp, ?_⟩
    unfold f_M_names f_M_names_0
    rw [if_pos hp, show (300 : Nat) = 299 + 1 from rfl, jv_fx_s]
    unfold f_M_names_17
    have e : p ≤ 0 := by rw [Int32.le_iff_toInt_le]; rw [Int32.lt_iff_toInt_lt] at hp; omega
    simp only [show ((7 : Int32) ≤ 0) = False by decide, if_false, if_true, e]
  · by_cases h : gp 4 k = true
    · obtain ⟨r, h1, h2, rfl⟩ := gp_ex 4 k h
      exact Or.inr ⟨r, ⟨h1, h2⟩, rfl, q_ip1 ⟨h1, h2⟩, q_nmr ⟨h1, h2⟩⟩
    · refine Or.inl ⟨?_, ?_⟩
      · have := q_ipN 4 (by omega) 300 (by omega) k hk
        rw [if_neg h] at this
        exact this
      · have := q_nm1 7 (by omega) 300 (by omega) 0 k (by omega) (by omega) hk
        rcases this with h2 | ⟨_, h2⟩
        · unfold f_M_names f_M_names_0
          rw [if_neg (nI_pos hk)]
          exact h2
        · exact absurd h2 h
