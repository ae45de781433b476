/-! Where a path leads: the class's way and the reference's. -/
abbrev kd (D : Nat → Int32) (i : Nat) : Int32 := D (8 + 8 * i)
abbrev pa (D : Nat → Int32) (i : Nat) : Int32 := D (8 + 8 * i + 1)
abbrev nm (D : Nat → Int32) (i : Nat) : Int32 := D (8 + 8 * i + 2)
abbrev TI (D : Nat → Int32) : Prop :=
  (kd D 0 = 1) ∧
  (∀ i, i < 8 → kd D i = 0 ∨ kd D i = 1 ∨ kd D i = 2) ∧
  (∀ i, i < 8 → kd D i = 0 → nm D i = 0) ∧
  (∀ i, 1 ≤ i → i < 8 → kd D i ≠ 0 → ∃ p, p < 8 ∧ pa D i = nI p ∧ kd D p = 1) ∧
  (∀ i, 1 ≤ i → i < 8 → kd D i ≠ 0 → ∃ x, 1 ≤ x ∧ x ≤ 26 ∧ nm D i = nI x) ∧
  (∀ i j, 1 ≤ i → i < 8 → 1 ≤ j → j < 8 → kd D i ≠ 0 → kd D j ≠ 0 → pa D i = pa D j → nm D i = nm D j → i = j) ∧
  (∃ r : Nat → Nat, r 0 = 0 ∧ ∀ i p, 1 ≤ i → i < 8 → p < 8 → kd D i ≠ 0 → pa D i = nI p → r i = r p + 1 ∧ r i ≤ 4)
theorem TI.root {D : Nat → Int32} (h : TI D) : kd D 0 = 1 := h.1
theorem TI.kinds {D : Nat → Int32} (h : TI D) : ∀ i, i < 8 → kd D i = 0 ∨ kd D i = 1 ∨ kd D i = 2 := h.2.1
theorem TI.free {D : Nat → Int32} (h : TI D) : ∀ i, i < 8 → kd D i = 0 → nm D i = 0 := h.2.2.1
theorem TI.par {D : Nat → Int32} (h : TI D) : ∀ i, 1 ≤ i → i < 8 → kd D i ≠ 0 → ∃ p, p < 8 ∧ pa D i = nI p ∧ kd D p = 1 := h.2.2.2.1
theorem TI.nam {D : Nat → Int32} (h : TI D) : ∀ i, 1 ≤ i → i < 8 → kd D i ≠ 0 → ∃ x, 1 ≤ x ∧ x ≤ 26 ∧ nm D i = nI x := h.2.2.2.2.1
theorem TI.uniq {D : Nat → Int32} (h : TI D) : ∀ i j, 1 ≤ i → i < 8 → 1 ≤ j → j < 8 → kd D i ≠ 0 → kd D j ≠ 0 → pa D i = pa D j → nm D i = nm D j → i = j := h.2.2.2.2.2.1
theorem TI.rank {D : Nat → Int32} (h : TI D) : ∃ r : Nat → Nat, r 0 = 0 ∧ ∀ i p, 1 ≤ i → i < 8 → p < 8 → kd D i ≠ 0 → pa D i = nI p → r i = r p + 1 ∧ r i ≤ 4 := h.2.2.2.2.2.2
def isCh (D : Nat → Int32) (p x i : Nat) : Prop := 1 ≤ i ∧ i < 8 ∧ kd D i ≠ 0 ∧ pa D i = nI p ∧ nm D i = nI x
def Fnd (D : Nat → Int32) : List Nat → Nat → Prop
  | [], i => i = 0
  | x :: r, i => ∃ p, Fnd D r p ∧ isCh D p x i
def isC (D : Nat → Int32) (p x : Nat) (v : Int32) : Prop := (∃ i, isCh D p x i ∧ v = nI i) ∨ ((∀ i, ¬ isCh D p x i) ∧ v = -1)
def isR (D : Nat → Int32) (r : List Nat) (v : Int32) : Prop := (∃ i, i < 8 ∧ Fnd D r i ∧ v = nI i) ∨ ((∀ i, ¬ Fnd D r i) ∧ v = -1)
theorem isCh.uniq {D : Nat → Int32} (T : TI D) {p x i j : Nat} (h : isCh D p x i) (g : isCh D p x j) : i = j :=
  T.uniq i j h.1 h.2.1 g.1 g.2.1 h.2.2.1 g.2.2.1 (h.2.2.2.1.trans g.2.2.2.1.symm) (h.2.2.2.2.trans g.2.2.2.2.symm)
theorem Fnd.uniq {D : Nat → Int32} (T : TI D) : ∀ {r : List Nat} {i j : Nat}, Fnd D r i → Fnd D r j → i = j
  | [], i, j, h, g => by rw [show i = 0 from h, show j = 0 from g]
  | x :: r, i, j, ⟨p, h1, h2⟩, ⟨q, g1, g2⟩ => by
    have := Fnd.uniq T h1 g1
    subst this
    exact h2.uniq T g2
theorem Fnd.lt {D : Nat → Int32} : ∀ {r : List Nat} {i : Nat}, Fnd D r i → i < 8
  | [], i, h => by rw [show i = 0 from h]; omega
  | x :: r, i, ⟨p, h1, h2⟩ => h2.2.1
theorem Fnd.kd0 {D : Nat → Int32} (T : TI D) : ∀ {r : List Nat} {i : Nat}, Fnd D r i → kd D i ≠ 0
  | [], i, h => by rw [show i = 0 from h, T.root]; decide
  | x :: r, i, ⟨p, h1, h2⟩ => h2.2.2.1
theorem isC.fn {D : Nat → Int32} (T : TI D) {p x : Nat} {v w : Int32} (h : isC D p x v) (g : isC D p x w) : v = w := by
  rcases h with ⟨i, h1, rfl⟩ | ⟨h1, rfl⟩ <;> rcases g with ⟨j, g1, rfl⟩ | ⟨g1, rfl⟩
  · rw [h1.uniq T g1]
  · exact absurd h1 (g1 i)
  · exact absurd g1 (h1 j)
  · rfl
theorem isR.fn {D : Nat → Int32} (T : TI D) {r : List Nat} {v w : Int32} (h : isR D r v) (g : isR D r w) : v = w := by
  rcases h with ⟨i, -, h1, rfl⟩ | ⟨h1, rfl⟩ <;> rcases g with ⟨j, -, g1, rfl⟩ | ⟨g1, rfl⟩
  · rw [h1.uniq T g1]
  · exact absurd h1 (g1 i)
  · exact absurd g1 (h1 j)
  · rfl
theorem nI_m1 {k : Nat} (h : k < 2 ^ 31) : (nI k = (-1 : Int32)) = False := eq_false (fun z => nI_pos h (by rw [z]; decide))
theorem isR.step {D : Nat → Int32} {r : List Nat} {x p : Nat} {v : Int32} (hp : Fnd D r p) (T : TI D) (h : isC D p x v) : isR D (x :: r) v := by
  rcases h with ⟨i, h1, rfl⟩ | ⟨h1, rfl⟩
  · exact Or.inl ⟨i, h1.2.1, ⟨p, hp, h1⟩, rfl⟩
  · refine Or.inr ⟨fun i ⟨q, g1, g2⟩ => ?_, rfl⟩
    rw [Fnd.uniq T g1 hp] at g2
    exact h1 i g2
theorem isR.none {D : Nat → Int32} {r : List Nat} (h : ∀ i, ¬ Fnd D r i) : ∀ s : List Nat, ∀ i, ¬ Fnd D (s ++ r) i
  | [], i => h i
  | _ :: s, _ => fun ⟨p, g1, _⟩ => isR.none h s p g1
theorem q_chN {D : Nat → Int32} (T : TI D) {p x : Nat} (_ : p < 8) (hx : 1 ≤ x) (hx2 : x ≤ 26) : ∀ d i, i + d = 8 → 1 ≤ i → ∀ f, d < f → (∀ j, j < i → ¬ isCh D p x j) → ∃ v, isC D p x v ∧ jv_fx (f_T_childNamed_2 D (nI p) (nI x)) f (nI i) = some v := by
  intro d
  induction d with
  | zero =>
    intro i hi h1 f hf hb
    obtain ⟨f, rfl⟩ : ∃ f', f = f' + 1 := ⟨f - 1, by omega⟩
    obtain rfl : i = 8 := by omega
    exact ⟨-1, Or.inr ⟨fun j hj => hb j hj.2.1 hj, rfl⟩, rfl⟩
  | succ d ih =>
    intro i hi h1 f hf hb
    obtain ⟨f, rfl⟩ : ∃ f', f = f' + 1 := ⟨f - 1, by omega⟩
    have w1 : f_D_inodeWord D (nI i) (1 : Int32) = some (pa D i) := q_iw (w := 1) (by omega) (by omega)
    have w2 : f_D_inodeWord D (nI i) (2 : Int32) = some (nm D i) := q_iw (w := 2) (by omega) (by omega)
    have h8 : ((8 : Int32) ≤ nI i) = (8 ≤ i) := q_le (a := 8) (by omega) (by omega)
    by_cases hc : pa D i = nI p ∧ nm D i = nI x
    · refine ⟨nI i, Or.inl ⟨i, ⟨h1, by omega, fun hz => ?_, hc.1, hc.2⟩, rfl⟩, ?_⟩
      · have := T.free i (by omega) hz
        rw [hc.2] at this
        exact nI_ne0 (by omega) (by omega) this
      · rw [jv_fx_s]
        unfold f_T_childNamed_2
        simp only [h8, if_neg (show ¬ 8 ≤ i by omega), w1, w2, Option.bind_some, hc.1, hc.2, if_true]
    · obtain ⟨v, v1, v2⟩ := ih (i + 1) (by omega) (by omega) f (by omega) (fun j hj hz => by
        by_cases hji : j = i
        · subst hji; exact hc ⟨hz.2.2.2.1, hz.2.2.2.2⟩
        · exact hb j (by omega) hz)
      refine ⟨v, v1, ?_⟩
      rw [jv_fx_s]
      generalize jv_fx (f_T_childNamed_2 D (nI p) (nI x)) f = kk at v2 ⊢
      unfold f_T_childNamed_2
      simp only [h8, if_neg (show ¬ 8 ≤ i by omega), w1, w2, Option.bind_some, nI_1, v2]
      by_cases hq : pa D i = nI p
      · rw [if_pos hq, if_neg (fun z => hc ⟨hq, z⟩)]
      · rw [if_neg hq]
theorem q_ch {D : Nat → Int32} (T : TI D) {p x : Nat} (hp : p < 8) (hx : 1 ≤ x) (hx2 : x ≤ 26) : ∃ v, isC D p x v ∧ f_T_childNamed D (nI p) (nI x) = some v :=
  q_chN T hp hx hx2 7 1 rfl (by omega) 300 (by omega) (fun j hj hz => by have := hz.1; omega)
/-! the class's find -/
theorem enc_drop : ∀ (i : Nat) (r : List Nat), gnm r → enc r / 2 ^ (5 * i) = enc (r.drop i) := by
  intro i
  induction i with
  | zero => intro r _; show enc r / 1 = enc r; omega
  | succ i ih =>
    intro r hg
    cases r with
    | nil => show 0 / _ = 0; exact Nat.zero_div _
    | cons x r =>
      have hx := hg x List.mem_cons_self
      show (32 * enc r + x) / 2 ^ (5 * (i + 1)) = enc (r.drop i)
      rw [← ih r (fun y hy => hg y (List.mem_cons_of_mem _ hy)), show 5 * (i + 1) = 5 + 5 * i by omega, Nat.pow_add, ← Nat.div_div_eq_div_mul, show (32 * enc r + x) / 2 ^ 5 = enc r by omega]
theorem q_wo {r : List Nat} (h : gpt r) {i : Nat} (hi : i < 5) : f_P_without (nI (enc r)) (nI i) = some (nI (enc (r.drop i))) := by
  have hl := enc_lt20 h
  unfold f_P_without f_P_without_0
  rw [show nI i * (5 : Int32) = nI (i * 5) from q_mul i 5, n_sh (by omega) (by omega), Nat.mul_comm, enc_drop i r h.2]
theorem gpt.drop {r : List Nat} (h : gpt r) (i : Nat) : gpt (r.drop i) := ⟨by rw [List.length_drop]; have := h.1; omega, fun x hx => h.2 x (List.mem_of_mem_drop hx)⟩
theorem enc_0 {r : List Nat} (h : gnm r) : enc r = 0 ↔ r.length = 0 := by
  cases r with
  | nil => exact ⟨fun _ => rfl, fun _ => rfl⟩
  | cons x r =>
    have hx := h x List.mem_cons_self
    constructor
    · intro z
      have : 32 * enc r + x = 0 := z
      omega
    · intro z; cases z
theorem q_lenN {r : List Nat} (h : gpt r) : ∀ d i, i + d = 4 → ∀ f, d < f → ∀ c : Nat, jv_fx (f_P_lengthOf_4 (nI (enc r))) f (nI c, nI i) = some (nI (c + (r.length - i))) := by
  intro d
  have hl := h.1
  induction d with
  | zero =>
    intro i hi f hf c
    obtain ⟨f, rfl⟩ : ∃ f', f = f' + 1 := ⟨f - 1, by omega⟩
    obtain rfl : i = 4 := by omega
    rw [show c + (r.length - 4) = c by omega]
    rfl
  | succ d ih =>
    intro i hi f hf c
    obtain ⟨f, rfl⟩ : ∃ f', f = f' + 1 := ⟨f - 1, by omega⟩
    have i1 := ih (i + 1) (by omega) f (by omega)
    rw [jv_fx_s]
    generalize jv_fx (f_P_lengthOf_4 (nI (enc r))) f = kk at i1 ⊢
    unfold f_P_lengthOf_4
    have h4 : ((4 : Int32) ≤ nI i) = (4 ≤ i) := q_le (a := 4) (by omega) (by omega)
    have hd := h.drop i
    have e0 : (nI (enc (r.drop i)) = 0) = (r.length - i = 0) := by
      have h20 := enc_lt20 hd
      rw [show (nI (enc (r.drop i)) = 0) = (enc (r.drop i) = 0) from q_eq (b := 0) (by omega) (by omega), propext (enc_0 hd.2), List.length_drop]
    simp only [h4, if_neg (show ¬ 4 ≤ i by omega), q_wo h (show i < 5 by omega), Option.bind_some, e0, nI_1, i1]
    by_cases h3 : r.length - i = 0
    · rw [if_pos h3]
      congr 2
      omega
    · rw [if_neg h3]
      congr 2
      omega
theorem q_len {r : List Nat} (h : gpt r) : f_P_lengthOf (nI (enc r)) = some (nI r.length) := by
  have := q_lenN h 4 0 rfl 300 (by omega) 0
  rw [Nat.zero_add, Nat.sub_zero] at this
  exact this
theorem drop_ex {r : List Nat} {j : Nat} (h : j < r.length) : ∃ x, r.drop j = x :: r.drop (j + 1) ∧ x ∈ r := ⟨r[j], (List.getElem_cons_drop h).symm, List.getElem_mem h⟩
theorem q_last {x : Nat} {r : List Nat} (h : gpt (x :: r)) : f_P_lastName (nI (enc (x :: r))) = some (nI x) := by
  unfold f_P_lastName f_P_lastName_0
  have hl := enc_lt20 h
  have hx := h.2 x List.mem_cons_self
  rw [n_32 (by omega), show enc (x :: r) % 32 = x by show (32 * enc r + x) % 32 = x; omega]
theorem n_dec (j : Nat) : nI j + (-1 : Int32) = nI j - 1 := (Int32.sub_eq_add_neg _ _).symm
theorem n_m0 : (nI 0 - 1 < 0) = True := by decide
theorem q_fdN {D : Nat → Int32} (T : TI D) {r : List Nat} (h : gpt r) : ∀ j, j ≤ r.length → ∀ f, j < f → ∀ v, isR D (r.drop j) v → ∃ v', isR D r v' ∧ jv_fx (f_T_find_9 D (nI (enc r))) f (v, nI j - 1) = some v' := by
  intro j
  have hl := h.1
  induction j with
  | zero =>
    intro hj f hf v hv
    obtain ⟨f, rfl⟩ : ∃ f', f = f' + 1 := ⟨f - 1, by omega⟩
    refine ⟨v, hv, ?_⟩
    rw [jv_fx_s]
    unfold f_T_find_9
    simp only [n_m0, if_true]
  | succ j ih =>
    intro hj f hf v hv
    obtain ⟨f, rfl⟩ : ∃ f', f = f' + 1 := ⟨f - 1, by omega⟩
    rw [nI_pred, jv_fx_s]
    rcases hv with ⟨i, hi, h1, rfl⟩ | ⟨h1, rfl⟩
    · obtain ⟨x, hx, hm⟩ := drop_ex (r := r) (j := j) (by omega)
      have hx2 := h.2 x hm
      obtain ⟨w, w1, w2⟩ := q_ch T hi hx2.1 hx2.2
      obtain ⟨v', g1, g2⟩ := ih (by omega) f (by omega) w (by rw [hx]; exact isR.step h1 T w1)
      refine ⟨v', g1, ?_⟩
      generalize jv_fx (f_T_find_9 D (nI (enc r))) f = kk at g2 ⊢
      unfold f_T_find_9
      have hg : gpt (x :: r.drop (j + 1)) := by rw [← hx]; exact h.drop j
      have em := n_dec j
      rw [em]
      rw [if_neg (nI_pos (n := j) (by omega)), if_neg (fun z => by rw [nI_m1 (k := i) (by omega)] at z; exact z), q_wo h (show j < 5 by omega), Option.bind_some, hx, q_last hg, Option.bind_some, w2, Option.bind_some]
      exact g2
    · refine ⟨-1, Or.inr ⟨fun i hi => ?_, rfl⟩, ?_⟩
      · have := isR.none h1 (r.take (j + 1)) i
        rw [List.take_append_drop] at this
        exact this hi
      · unfold f_T_find_9
        simp only [q_lt0 (k := j) (by omega), if_false, if_true]
theorem q_fd {D : Nat → Int32} (T : TI D) {r : List Nat} (h : gpt r) : ∃ v, isR D r v ∧ f_T_find D (nI (enc r)) = some v := by
  have hl := h.1
  obtain ⟨v, h1, h2⟩ := q_fdN T h r.length (Nat.le_refl _) 300 (by omega) 0 (by rw [List.drop_length]; exact Or.inl ⟨0, by omega, rfl, rfl⟩)
  refine ⟨v, h1, ?_⟩
  unfold f_T_find f_T_find_0
  rw [q_len h]
  exact h2
