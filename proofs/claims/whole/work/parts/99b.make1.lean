/-! make: inodes that are taken -/
def adD (D : Nat → Int32) (i : Nat) (kind : Int32) (p x : Nat) : Nat → Int32 := upd (upd (upd D (8 + 8 * i) kind) (8 + 8 * i + 1) (nI p)) (8 + 8 * i + 2) (nI x)
theorem adD_k {D : Nat → Int32} {i : Nat} {kind : Int32} {p x : Nat} : kd (adD D i kind p x) i = kind := by
  unfold adD kd
  rw [q_updN (by omega), q_updN (by omega), q_updS]
theorem adD_p {D : Nat → Int32} {i : Nat} {kind : Int32} {p x : Nat} : pa (adD D i kind p x) i = nI p := by
  unfold adD pa
  rw [q_updN (by omega), q_updS]
theorem adD_n {D : Nat → Int32} {i : Nat} {kind : Int32} {p x : Nat} : nm (adD D i kind p x) i = nI x := by
  unfold adD nm
  rw [q_updS]
theorem adD_o {D : Nat → Int32} {i : Nat} {kind : Int32} {p x w : Nat} (h : ¬ (8 + 8 * i ≤ w ∧ w < 8 + 8 * i + 3)) : adD D i kind p x w = D w := by
  unfold adD
  rw [q_updN (by omega), q_updN (by omega), q_updN (by omega)]
theorem eqd.ad {D C : Nat → Int32} (e : eqd D C) (i : Nat) (kind : Int32) (p x : Nat) : eqd (adD D i kind p x) (adD C i kind p x) := ((e.upd _ _).upd _ _).upd _ _
theorem PI.ad {D : Nat → Int32} (P : PI D) {i : Nat} (hi : i < 8) (kind : Int32) (p x : Nat) : PI (adD D i kind p x) := P.gen (fun w => by
  by_cases h : 8 + 8 * i ≤ w ∧ w < 8 + 8 * i + 3
  · right
    refine ⟨by omega, fun j hj => by omega, fun z => ?_⟩
    rcases z with ⟨j, w', g⟩ | ⟨j, q, w', g⟩ <;> omega
  · left; exact adD_o h)
theorem TI.ad {D : Nat → Int32} (T : TI D) {i p x : Nat} {kind : Int32} (h1 : 1 ≤ i) (hi : i < 8) (h0 : kd D i = 0) (hk : kind = 1 ∨ kind = 2) (hp : p < 8) (hp1 : kd D p = 1) (hx : 1 ≤ x) (hx2 : x ≤ 26) (hc : ∀ j, ¬ isCh D p x j) (hr : ∃ r : Nat → Nat, r 0 = 0 ∧ (∀ i p, 1 ≤ i → i < 8 → p < 8 → kd D i ≠ 0 → pa D i = nI p → r i = r p + 1 ∧ r i ≤ 4) ∧ r p ≤ 3) : TI (adD D i kind p x) := by
  have hne : p ≠ i := fun z => by rw [z, h0] at hp1; exact absurd hp1 (by decide)
  have kj : ∀ j, j ≠ i → kd (adD D i kind p x) j = kd D j := fun j b => adD_o (by omega)
  have pj : ∀ j, j ≠ i → pa (adD D i kind p x) j = pa D j := fun j b => adD_o (by omega)
  have nj : ∀ j, j ≠ i → nm (adD D i kind p x) j = nm D j := fun j b => adD_o (by omega)
  have hk0 : kind ≠ 0 := by rcases hk with h | h <;> rw [h] <;> decide
  refine ⟨?_, ?_, ?_, ?_, ?_, ?_, ?_⟩
  · rw [kj 0 (by omega)]; exact T.root
  · intro j hj
    by_cases h : j = i
    · rw [h, adD_k]; exact Or.inr hk
    · rw [kj j h]; exact T.kinds j hj
  · intro j hj hz
    by_cases h : j = i
    · rw [h, adD_k] at hz; exact absurd hz hk0
    · rw [kj j h] at hz; rw [nj j h]; exact T.free j hj hz
  · intro j h2 hj hz
    by_cases h : j = i
    · rw [h]; exact ⟨p, hp, adD_p, by rw [kj p hne]; exact hp1⟩
    · rw [kj j h] at hz
      obtain ⟨q, q1, q2, q3⟩ := T.par j h2 hj hz
      have hqi : q ≠ i := fun z => by rw [z, h0] at q3; exact absurd q3 (by decide)
      exact ⟨q, q1, by rw [pj j h]; exact q2, by rw [kj q hqi]; exact q3⟩
  · intro j h2 hj hz
    by_cases h : j = i
    · rw [h]; exact ⟨x, hx, hx2, adD_n⟩
    · rw [kj j h] at hz; rw [nj j h]; exact T.nam j h2 hj hz
  · intro j k a1 a2 a3 a4 a5 a6 a7 a8
    by_cases h : j = i
    · by_cases g : k = i
      · rw [h, g]
      · rw [kj k g] at a6
        rw [h, adD_p, pj k g] at a7
        rw [h, adD_n, nj k g] at a8
        exact absurd ⟨a3, a4, a6, a7.symm, a8.symm⟩ (hc k)
    · rw [kj j h] at a5
      by_cases g : k = i
      · rw [g, adD_p, pj j h] at a7
        rw [g, adD_n, nj j h] at a8
        exact absurd ⟨a1, a2, a5, a7, a8⟩ (hc j)
      · rw [kj k g] at a6
        rw [pj j h, pj k g] at a7
        rw [nj j h, nj k g] at a8
        exact T.uniq j k a1 a2 a3 a4 a5 a6 a7 a8
  · obtain ⟨r, r1, r2, r3⟩ := hr
    refine ⟨fun j => if j = i then r p + 1 else r j, by show (if 0 = i then _ else _) = _; rw [if_neg (by omega)]; exact r1, fun j q a1 a2 a3 a4 a5 => ?_⟩
    show (if j = i then r p + 1 else r j) = (if q = i then r p + 1 else r q) + 1 ∧ (if j = i then r p + 1 else r j) ≤ 4
    by_cases h : j = i
    · rw [h, adD_p] at a5
      have hq : p = q := (nI_eq (by omega) (by omega)).mp a5
      rw [if_pos h, if_neg (show ¬ q = i by omega), hq]
      rw [hq] at r3
      exact ⟨rfl, by omega⟩
    · rw [kj j h] at a4
      rw [pj j h] at a5
      have hq : q ≠ i := fun z => by
        obtain ⟨q', q1, q2, q3⟩ := T.par j a1 a2 a4
        have := (nI_eq (by omega) (by omega)).mp (a5.symm.trans q2)
        rw [← this, z, h0] at q3
        exact absurd q3 (by decide)
      rw [if_neg h, if_neg hq]
      exact r2 j q a1 a2 a3 a4 a5
theorem rank_len {D : Nat → Int32} {r : Nat → Nat} (r1 : r 0 = 0) (r2 : ∀ i p, 1 ≤ i → i < 8 → p < 8 → kd D i ≠ 0 → pa D i = nI p → r i = r p + 1 ∧ r i ≤ 4) : ∀ {l : List Nat} {p : Nat}, Fnd D l p → r p = l.length
  | [], p, h => by rw [show p = 0 from h]; exact r1
  | x :: l, p, ⟨q, h1, h2⟩ => by
    have := rank_len r1 r2 h1
    have h3 := (r2 p q h2.1 h2.2.1 (Fnd.lt h1) h2.2.2.1 h2.2.2.2.1).1
    rw [h3, this]
    rfl
theorem TI.rk {D : Nat → Int32} (T : TI D) {l : List Nat} {p : Nat} (h : Fnd D l p) (hl : l.length ≤ 3) : ∃ r : Nat → Nat, r 0 = 0 ∧ (∀ i p, 1 ≤ i → i < 8 → p < 8 → kd D i ≠ 0 → pa D i = nI p → r i = r p + 1 ∧ r i ≤ 4) ∧ r p ≤ 3 := by
  obtain ⟨r, r1, r2⟩ := T.rank
  exact ⟨r, r1, r2, by rw [rank_len r1 r2 h]; exact hl⟩
theorem Fnd.ad {D : Nat → Int32} (T : TI D) {i : Nat} (h0 : kd D i = 0) {kind : Int32} {p x : Nat} : ∀ {l : List Nat} {q : Nat}, Fnd D l q → Fnd (adD D i kind p x) l q
  | [], q, h => h
  | y :: l, q, ⟨q', h1, h2⟩ => by
    have hq : q ≠ i := fun z => h2.2.2.1 (by rw [z]; exact h0)
    refine ⟨q', Fnd.ad T h0 h1, h2.1, h2.2.1, ?_, ?_, ?_⟩
    · rw [show kd (adD D i kind p x) q = kd D q from adD_o (by omega)]; exact h2.2.2.1
    · rw [show pa (adD D i kind p x) q = pa D q from adD_o (by omega)]; exact h2.2.2.2.1
    · rw [show nm (adD D i kind p x) q = nm D q from adD_o (by omega)]; exact h2.2.2.2.2
/-- free inodes -/
def fre (D : Nat → Int32) : Nat → Nat
  | 0 => 0
  | b + 1 => fre D b + (if kd D b = 0 then 1 else 0)
def fstI (D : Nat → Int32) (i : Nat) : Prop := i < 8 ∧ kd D i = 0 ∧ ∀ k, k < i → kd D k ≠ 0
theorem fre_0 (D : Nat → Int32) : ∀ b, fre D b = 0 ↔ ∀ j, j < b → kd D j ≠ 0
  | 0 => ⟨fun _ j hj => by omega, fun _ => rfl⟩
  | b + 1 => by
    have ih := fre_0 D b
    have e : fre D (b + 1) = fre D b + (if kd D b = 0 then 1 else 0) := rfl
    rw [e]
    by_cases hb : kd D b = 0
    · rw [if_pos hb]
      exact ⟨fun h => by omega, fun h => absurd hb (h b (by omega))⟩
    · rw [if_neg hb, Nat.add_zero, ih]
      exact ⟨fun h j hj => by
        by_cases hj2 : j = b
        · rw [hj2]; exact hb
        · exact h j (by omega), fun h j hj => h j (by omega)⟩
theorem fre_le (D : Nat → Int32) : ∀ b, fre D b ≤ b
  | 0 => Nat.le_refl 0
  | b + 1 => by
    have := fre_le D b
    show fre D b + (if kd D b = 0 then 1 else 0) ≤ b + 1
    by_cases hb : kd D b = 0
    · rw [if_pos hb]; omega
    · rw [if_neg hb]; omega
theorem fre_ad {D : Nat → Int32} {i : Nat} {kind : Int32} {p x : Nat} (h0 : kd D i = 0) (hk : kind ≠ 0) : ∀ c, fre (adD D i kind p x) c + (if i < c then 1 else 0) = fre D c
  | 0 => by rw [if_neg (by omega)]; rfl
  | c + 1 => by
    have ih := fre_ad (kind := kind) (p := p) (x := x) h0 hk c
    show fre (adD D i kind p x) c + (if kd (adD D i kind p x) c = 0 then 1 else 0) + (if i < c + 1 then 1 else 0) = fre D c + (if kd D c = 0 then 1 else 0)
    by_cases h : c = i
    · subst h
      rw [if_neg (by omega)] at ih
      rw [adD_k, if_neg hk, if_pos (show c < c + 1 by omega), if_pos h0]
      omega
    · rw [show kd (adD D i kind p x) c = kd D c from adD_o (by omega)]
      generalize (if kd D c = 0 then 1 else 0) = z
      by_cases h2 : i < c
      · rw [if_pos h2] at ih
        rw [if_pos (show i < c + 1 by omega)]
        omega
      · rw [if_neg h2] at ih
        rw [if_neg (show ¬ i < c + 1 by omega)]
        omega
theorem fstI_ex (D : Nat → Int32) : (∀ j, j < 8 → kd D j ≠ 0) ∨ ∃ i, fstI D i := by
  have key : ∀ d c, c + d = 8 → (∀ j, j < c → kd D j ≠ 0) → (∀ j, j < 8 → kd D j ≠ 0) ∨ ∃ i, fstI D i := by
    intro d
    induction d with
    | zero =>
      intro c hc h
      obtain rfl : c = 8 := by omega
      exact Or.inl h
    | succ d ih =>
      intro c hc h
      by_cases hb : kd D c = 0
      · exact Or.inr ⟨c, by omega, hb, h⟩
      · exact ih (c + 1) (by omega) (fun j hj => by
          by_cases hj2 : j = c
          · rw [hj2]; exact hb
          · exact h j (by omega))
  exact key 8 0 rfl (fun j hj => by omega)
theorem fstI.pos {D : Nat → Int32} (T : TI D) {i : Nat} (h : fstI D i) : 1 ≤ i := by
  by_cases h0 : i = 0
  · have := h.2.1
    rw [h0, T.root] at this
    exact absurd this (by decide)
  · omega
theorem q_fiN {D mDk : Nat → Int32} {a : Nat} (ha : a < 6) (hD : ∀ w, w < 232 → D w = mDk (232 * a + w)) : ∀ d i, i + d = 8 → ∀ f, d < f → jv_fx (f_M_freeInodes_4 mDk (nI a)) f (nI (fre D i), nI i) = some (nI (fre D 8)) := by
  intro d
  induction d with
  | zero =>
    intro i hi f hf
    obtain ⟨f, rfl⟩ : ∃ f', f = f' + 1 := ⟨f - 1, by omega⟩
    obtain rfl : i = 8 := by omega
    rfl
  | succ d ih =>
    intro i hi f hf
    obtain ⟨f, rfl⟩ : ∃ f', f = f' + 1 := ⟨f - 1, by omega⟩
    have i1 := ih (i + 1) (by omega) f (by omega)
    have h8 : ((8 : Int32) ≤ nI i) = (8 ≤ i) := q_le (a := 8) (by omega) (by omega)
    obtain ⟨-, -, -, w0, -⟩ := q_pw ha hD (i := i) (by omega)
    have n1 : fre D (i + 1) = fre D i + (if kd D i = 0 then 1 else 0) := rfl
    rw [jv_fx_s]
    generalize jv_fx (f_M_freeInodes_4 mDk (nI a)) f = kk at i1 ⊢
    unfold f_M_freeInodes_4
    simp only [h8, if_neg (show ¬ 8 ≤ i by omega), w0, Option.bind_some, nI_1, Int32.add_zero]
    by_cases h : kd D i = 0
    · rw [if_pos h] at n1 ⊢
      rw [n1] at i1
      exact i1
    · rw [if_neg h] at n1 ⊢
      rw [n1] at i1
      exact i1
theorem q_fi {D mDk : Nat → Int32} {a : Nat} (ha : a < 6) (hD : ∀ w, w < 232 → D w = mDk (232 * a + w)) : f_M_freeInodes mDk (nI a) = some (nI (fre D 8)) := q_fiN ha hD 8 0 rfl 300 (by omega)
theorem q_tkN {D : Nat → Int32} {kind : Int32} {p x : Nat} : ∀ d c, c + d = 8 → ∀ f, d < f → ((∀ j, c ≤ j → j < 8 → kd D j ≠ 0) → jv_fx (f_T_take_3 kind (nI p) (nI x) D) f (nI c) = some (-1, D)) ∧ ∀ i, c ≤ i → i < 8 → kd D i = 0 → (∀ j, c ≤ j → j < i → kd D j ≠ 0) → jv_fx (f_T_take_3 kind (nI p) (nI x) D) f (nI c) = some (nI i, adD D i kind p x) := by
  intro d
  induction d with
  | zero =>
    intro c hc f hf
    obtain ⟨f, rfl⟩ : ∃ f', f = f' + 1 := ⟨f - 1, by omega⟩
    obtain rfl : c = 8 := by omega
    exact ⟨fun _ => rfl, fun b h1 h2 => by omega⟩
  | succ d ih =>
    intro c hc f hf
    obtain ⟨f, rfl⟩ : ∃ f', f = f' + 1 := ⟨f - 1, by omega⟩
    obtain ⟨i1, i2⟩ := ih (c + 1) (by omega) f (by omega)
    have h8 : ((8 : Int32) ≤ nI c) = (8 ≤ c) := q_le (a := 8) (by omega) (by omega)
    obtain ⟨w1, -⟩ := q_pw (a := 0) (by omega) (mDk := D) (D := D) (fun w _ => by rw [Nat.mul_zero, Nat.zero_add]) (i := c) (by omega)
    rw [jv_fx_s]
    generalize jv_fx (f_T_take_3 kind (nI p) (nI x) D) f = kk at i1 i2 ⊢
    unfold f_T_take_3
    simp only [h8, if_neg (show ¬ 8 ≤ c by omega), w1, Option.bind_some, nI_1]
    refine ⟨fun h => ?_, fun i h1 h2 h3 h4 => ?_⟩
    · rw [if_neg (h c (Nat.le_refl _) (by omega))]
      exact i1 (fun j g1 g2 => h j (by omega) g2)
    · by_cases hic : i = c
      · subst hic
        unfold f_T_hang f_T_hang_0
        rw [if_pos h3, show (0 : Int32) = nI 0 from rfl, q_piw (by omega) (by omega), Option.bind_some, show (1 : Int32) = nI 1 from rfl, q_piw (by omega) (by omega), Option.bind_some, show (2 : Int32) = nI 2 from rfl, q_piw (by omega) (by omega)]
        rfl
      · rw [if_neg (h4 c (Nat.le_refl _) (by omega))]
        exact i2 i (by omega) h2 h3 (fun j g1 g2 => h4 j (by omega) g2)
theorem q_tk0 {D : Nat → Int32} {kind : Int32} {p x : Nat} (h : ∀ j, j < 8 → kd D j ≠ 0) : f_T_take kind (nI p) (nI x) D = some (-1, D) := (q_tkN 7 1 rfl 300 (by omega)).1 (fun j _ hj => h j hj)
theorem q_tk1 {D : Nat → Int32} (T : TI D) {kind : Int32} {p x i : Nat} (h : fstI D i) : f_T_take kind (nI p) (nI x) D = some (nI i, adD D i kind p x) := (q_tkN 7 1 rfl 300 (by omega)).2 i (h.pos T) h.1 h.2.1 (fun j _ hj => h.2.2 j hj)
