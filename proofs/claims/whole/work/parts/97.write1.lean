/-! write: blocks that are taken -/
def fcl (m : Int32) : Nat → Nat
  | 0 => 0
  | b + 1 => fcl m b + (if bt m b then 0 else 1)
theorem fcl_le (m : Int32) : ∀ b, fcl m b ≤ b
  | 0 => Nat.le_refl 0
  | b + 1 => by
    have := fcl_le m b
    show fcl m b + (if bt m b then 0 else 1) ≤ b + 1
    cases bt m b
    · rw [if_neg (by decide)]; omega
    · rw [if_pos rfl]; omega
theorem fcl_0 (m : Int32) : ∀ b, fcl m b = 0 ↔ ∀ j, j < b → bt m j = true
  | 0 => ⟨fun _ j hj => by omega, fun _ => rfl⟩
  | b + 1 => by
    have ih := fcl_0 m b
    have e : fcl m (b + 1) = fcl m b + (if bt m b then 0 else 1) := rfl
    rw [e]
    cases hb : bt m b
    · rw [if_neg (by decide)]
      exact ⟨fun h => by omega, fun h => by have := h b (by omega); rw [hb] at this; cases this⟩
    · rw [if_pos rfl, Nat.add_zero, ih]
      exact ⟨fun h j hj => by
        by_cases hj2 : j = b
        · rw [hj2]; exact hb
        · exact h j (by omega), fun h j hj => h j (by omega)⟩
theorem fcl_set {m : Int32} {b : Nat} (hb : b < 32) (h0 : bt m b = false) : ∀ c, c ≤ 32 → fcl (m ||| ((1 : Int32) <<< (nI b &&& 31))) c + (if b < c then 1 else 0) = fcl m c
  | 0, _ => by rw [if_neg (by omega)]; rfl
  | c + 1, hc => by
    have ih := fcl_set hb h0 c (by omega)
    show fcl _ c + (if bt (m ||| ((1 : Int32) <<< (nI b &&& 31))) c then 0 else 1) + (if b < c + 1 then 1 else 0) = fcl m c + (if bt m c then 0 else 1)
    rw [b_or, b_bit hb (by omega)]
    by_cases h : c = b
    · rw [if_neg (by omega)] at ih
      rw [decide_eq_true h, Bool.or_true, if_pos rfl, if_pos (by omega), h, h0, if_neg (by decide)]
      rw [h] at ih
      omega
    · rw [decide_eq_false h, Bool.or_false]
      generalize (if bt m c = true then 0 else 1) = z
      by_cases h2 : b < c
      · rw [if_pos h2] at ih
        rw [if_pos (show b < c + 1 by omega)]
        omega
      · rw [if_neg h2] at ih
        rw [if_neg (show ¬ b < c + 1 by omega)]
        omega
theorem q_fbN2 {mDk : Nat → Int32} {a : Nat} (ha : a < 6) {m : Int32} (hD : mDk (232 * a) = m) : ∀ d b, b + d = 20 → ∀ f, d < f → jv_fx (f_M_freeBlocks_4 mDk (nI a)) f (nI (fcl m b), nI b) = some (nI (fcl m 20)) := by
  intro d
  induction d with
  | zero =>
    intro b hb f hf
    obtain ⟨f, rfl⟩ : ∃ f', f = f' + 1 := ⟨f - 1, by omega⟩
    obtain rfl : b = 20 := by omega
    rfl
  | succ d ih =>
    intro b hb f hf
    obtain ⟨f, rfl⟩ : ∃ f', f = f' + 1 := ⟨f - 1, by omega⟩
    have i1 := ih (b + 1) (by omega) f (by omega)
    rw [jv_fx_s]
    generalize jv_fx (f_M_freeBlocks_4 mDk (nI a)) f = kf at i1 ⊢
    unfold f_M_freeBlocks_4
    have h20 : ((20 : Int32) ≤ nI b) = (20 ≤ b) := q_le (a := 20) (by omega) (by omega)
    have e0 : (232 : Int32) * nI a = nI (232 * a) := q_mul 232 a
    have e1 := b_at m (k := b) (by omega)
    simp only [h20, if_neg (show ¬ 20 ≤ b by omega), e0, q_ga (f := mDk) (n := 1392) (k := 232 * a) (by omega) (by omega), hD, Option.bind_some, e1, nI_1, Int32.add_zero]
    have n1 : fcl m (b + 1) = fcl m b + (if bt m b then 0 else 1) := rfl
    cases hb2 : bt m b
    · rw [hb2, if_neg (by decide)] at n1
      rw [n1] at i1
      rw [if_pos (by decide)]
      exact i1
    · rw [hb2, if_pos rfl, Nat.add_zero] at n1
      rw [n1] at i1
      rw [if_neg (by decide)]
      exact i1
theorem q_fb2 {mDk : Nat → Int32} {a : Nat} (ha : a < 6) {m : Int32} (hD : mDk (232 * a) = m) : f_M_freeBlocks mDk (nI a) = some (nI (fcl m 20)) := q_fbN2 ha hD 20 0 rfl 300 (by omega)
/-- a disk with a block taken -/
def tkD (D : Nat → Int32) (b : Nat) : Nat → Int32 := fun x => if 72 + 8 * b ≤ x ∧ x < 80 + 8 * b then 0 else upd D 0 (D 0 ||| ((1 : Int32) <<< (nI b &&& 31))) x
def fstB (m : Int32) (b : Nat) : Prop := b < 20 ∧ bt m b = false ∧ ∀ j, j < b → bt m j = true
theorem fst_ex (m : Int32) : (∀ j, j < 20 → bt m j = true) ∨ ∃ b, fstB m b := by
  have key : ∀ d c, c + d = 20 → (∀ j, j < c → bt m j = true) → (∀ j, j < 20 → bt m j = true) ∨ ∃ b, fstB m b := by
    intro d
    induction d with
    | zero =>
      intro c hc h
      obtain rfl : c = 20 := by omega
      exact Or.inl h
    | succ d ih =>
      intro c hc h
      cases hb : bt m c
      · exact Or.inr ⟨c, by omega, hb, h⟩
      · exact ih (c + 1) (by omega) (fun j hj => by
          by_cases hj2 : j = c
          · rw [hj2]; exact hb
          · exact h j (by omega))
  exact key 20 0 rfl (fun j hj => by omega)
theorem q_tpN {D : Nat → Int32} : ∀ d c, c + d = 20 → ∀ f, d < f → ((∀ j, c ≤ j → j < 20 → bt (D 0) j = true) → jv_fx (f_C_takePointer_12 (D 0) D) f (nI c) = some (0, D)) ∧ ∀ b, c ≤ b → b < 20 → bt (D 0) b = false → (∀ j, c ≤ j → j < b → bt (D 0) j = true) → jv_fx (f_C_takePointer_12 (D 0) D) f (nI c) = some (nI (b + 1), tkD D b) := by
  intro d
  induction d with
  | zero =>
    intro c hc f hf
    obtain ⟨f, rfl⟩ : ∃ f', f = f' + 1 := ⟨f - 1, by omega⟩
    obtain rfl : c = 20 := by omega
    exact ⟨fun _ => rfl, fun b h1 h2 => by omega⟩
  | succ d ih =>
    intro c hc f hf
    obtain ⟨f, rfl⟩ : ∃ f', f = f' + 1 := ⟨f - 1, by omega⟩
    obtain ⟨i1, i2⟩ := ih (c + 1) (by omega) f (by omega)
    have h20 : ((20 : Int32) ≤ nI c) = (20 ≤ c) := q_le (a := 20) (by omega) (by omega)
    have e1 := b_at (D 0) (k := c) (by omega)
    rw [jv_fx_s]
    generalize jv_fx (f_C_takePointer_12 (D 0) D) f = kk at i1 i2 ⊢
    unfold f_C_takePointer_12
    simp only [h20, if_neg (show ¬ 20 ≤ c by omega), e1, nI_1]
    refine ⟨fun h => ?_, fun b h1 h2 h3 h4 => ?_⟩
    · rw [h c (Nat.le_refl _) (by omega), if_neg (by decide)]
      exact i1 (fun j g1 g2 => h j (by omega) g2)
    · by_cases hbc : b = c
      · subst hbc
        obtain ⟨E, z1, z2⟩ := q_zf (b := 9 + b) (w := 0) (by omega) (by omega) (upd D 0 (D 0 ||| ((1 : Int32) <<< (nI b &&& 31))))
        have hE : E = tkD D b := by
          funext x
          rw [z2 x]
          unfold tkD
          by_cases h : 72 + 8 * b ≤ x ∧ x < 80 + 8 * b
          · rw [if_pos h, if_pos (by omega)]
          · rw [if_neg h, if_neg (by omega)]
        rw [h3, if_pos (by decide), q_p00, Option.bind_some, show (9 : Int32) + nI b = nI (9 + b) from nI_add 9 b, show (0 : Int32) = nI 0 from rfl, z1, hE]
        rfl
      · rw [h4 c (Nat.le_refl _) (by omega), if_neg (by decide)]
        exact i2 b (by omega) h2 h3 (fun j g1 g2 => h4 j (by omega) g2)
theorem q_tp0 {D : Nat → Int32} (h : ∀ j, j < 20 → bt (D 0) j = true) : f_C_takePointer D = some (0, D) := by
  unfold f_C_takePointer f_C_takePointer_0
  rw [q_g00, Option.bind_some]
  exact (q_tpN 20 0 rfl 300 (by omega)).1 (fun j _ hj => h j hj)
theorem q_tp1 {D : Nat → Int32} {b : Nat} (h : fstB (D 0) b) : f_C_takePointer D = some (nI (b + 1), tkD D b) := by
  unfold f_C_takePointer f_C_takePointer_0
  rw [q_g00, Option.bind_some]
  exact (q_tpN 20 0 rfl 300 (by omega)).2 b (Nat.zero_le _) h.1 h.2.1 (fun j _ hj => h.2.2 j hj)
theorem e_72 (b w : Nat) : (72 : Int32) + (8 : Int32) * nI b + nI w = nI (72 + 8 * b + w) := by rw [show (72 : Int32) = nI 72 from rfl, show (8 : Int32) = nI 8 from rfl, q_mul, nI_add, nI_add]
theorem q_mt40 {b : Nat} (hb : b < 20) : ∀ d w, w + d = 8 → ∀ f, d < f → ∀ C : Nat → Int32, ∃ C', jv_fx (f_M_takeBlock_40 (nI b)) f (nI w, C) = some (nI (b + 1), C') ∧ ∀ x, C' x = if 72 + 8 * b + w ≤ x ∧ x < 80 + 8 * b then 0 else C x := by
  intro d
  induction d with
  | zero =>
    intro w hw f hf C
    obtain ⟨f, rfl⟩ : ∃ f', f = f' + 1 := ⟨f - 1, by omega⟩
    obtain rfl : w = 8 := by omega
    refine ⟨C, ?_, fun x => by rw [if_neg (by omega)]⟩
    rw [jv_fx_s]
    unfold f_M_takeBlock_40
    simp only [show ((8 : Int32) ≤ nI 8) = True by decide, if_true, nI_1]
  | succ d ih =>
    intro w hw f hf C
    obtain ⟨f, rfl⟩ : ∃ f', f = f' + 1 := ⟨f - 1, by omega⟩
    have h8 : ((8 : Int32) ≤ nI w) = (8 ≤ w) := q_le (a := 8) (by omega) (by omega)
    obtain ⟨C', h1, h2⟩ := ih (w + 1) (by omega) f (by omega) (upd C (72 + 8 * b + w) 0)
    refine ⟨C', ?_, fun x => ?_⟩
    · rw [← h1, jv_fx_s]
      generalize jv_fx (f_M_takeBlock_40 (nI b)) f = kk
      unfold f_M_takeBlock_40
      simp only [h8, if_neg (show ¬ 8 ≤ w by omega), e_72, q_sa (f := C) (n := 232) (k := 72 + 8 * b + w) (by omega) (by omega), Option.bind_some, nI_1]
    · rw [h2 x]
      by_cases h : 72 + 8 * b + (w + 1) ≤ x ∧ x < 80 + 8 * b
      · rw [if_pos h, if_pos (by omega)]
      · rw [if_neg h]
        by_cases h3 : x = 72 + 8 * b + w
        · subst h3
          rw [q_updS, if_pos (by omega)]
        · rw [q_updN h3, if_neg (by omega)]
theorem q_mtN {C : Nat → Int32} {b : Nat} (h : fstB (C 0) b) : ∀ d c, c + d = b → ∀ f, d < f → jv_fx (f_M_takeBlock_2 C) f (nI c) = some (nI (b + 1), tkD C b) := by
  intro d
  have hb := h.1
  induction d with
  | zero =>
    intro c hc f hf
    obtain ⟨f, rfl⟩ : ∃ f', f = f' + 1 := ⟨f - 1, by omega⟩
    obtain rfl : c = b := by omega
    obtain ⟨E, z1, z2⟩ := q_mt40 (b := c) h.1 8 0 rfl 300 (by omega) (upd C 0 (C 0 ||| ((1 : Int32) <<< (nI c &&& 31))))
    have hE : E = tkD C c := by
      funext x
      rw [z2 x]
      rfl
    have e1 := b_at (C 0) (k := c) (by omega)
    rw [h.2.1] at e1
    rw [jv_fx_s]
    unfold f_M_takeBlock_2
    rw [q_ga0, Option.bind_some, e1, if_neg (by decide), Option.bind_some, q_sa0, Option.bind_some, show ((0 : Int32), upd C 0 (C 0 ||| ((1 : Int32) <<< (nI c &&& 31)))) = (nI 0, upd C 0 (C 0 ||| ((1 : Int32) <<< (nI c &&& 31)))) from rfl, z1, hE]
  | succ d ih =>
    intro c hc f hf
    obtain ⟨f, rfl⟩ : ∃ f', f = f' + 1 := ⟨f - 1, by omega⟩
    have i1 := ih (c + 1) (by omega) f (by omega)
    have e1 := b_at (C 0) (k := c) (by omega)
    rw [h.2.2 c (by omega)] at e1
    rw [jv_fx_s]
    generalize jv_fx (f_M_takeBlock_2 C) f = kk at i1 ⊢
    unfold f_M_takeBlock_2
    rw [q_ga0, Option.bind_some, e1, if_pos rfl, if_pos rfl, nI_1, i1]
theorem q_mtb {C : Nat → Int32} {b : Nat} (h : fstB (C 0) b) : f_M_takeBlock C = some (nI (b + 1), tkD C b) := q_mtN h b 0 (by omega) 300 (by have := h.1; omega)
theorem eqd.tk {D C : Nat → Int32} (e : eqd D C) (b : Nat) : eqd (tkD D b) (tkD C b) := fun w hw => by
  unfold tkD
  by_cases h : 72 + 8 * b ≤ w ∧ w < 80 + 8 * b
  · rw [if_pos h, if_pos h]
  · rw [if_neg h, if_neg h, ← e 0 (by omega)]
    exact e.upd 0 _ w hw
theorem tkD_0 {D : Nat → Int32} {b : Nat} : tkD D b 0 = D 0 ||| ((1 : Int32) <<< (nI b &&& 31)) := by
  unfold tkD
  rw [if_neg (by omega), q_updS]
theorem tkD_n {D : Nat → Int32} {b x : Nat} (h0 : x ≠ 0) (h : ¬ (72 + 8 * b ≤ x ∧ x < 80 + 8 * b)) : tkD D b x = D x := by
  unfold tkD
  rw [if_neg h, q_updN h0]
/-- a place of a pointer is not in a free block -/
theorem PI.nfree {D : Nat → Int32} (P : PI D) {l b : Nat} (h : isLoc D l) (hb : b < 20) (h0 : bt (D 0) b = false) : ¬ (72 + 8 * b ≤ l ∧ l < 80 + 8 * b) := by
  intro z
  rcases h with ⟨i, w, g⟩ | ⟨i, q, w, g1, g2, g3, g4, g5, g6⟩
  · omega
  · obtain ⟨p, p1, p2, p3⟩ := P.ptr (8 + 8 * i + 6) (Or.inl ⟨i, 6, g1, by omega, by omega, rfl⟩)
    have hq : p = q := (nI_eq (by omega) (by omega)).mp (p2.symm.trans g5)
    subst hq
    have := p3 g2
    rw [show p - 1 = b by omega, h0] at this
    cases this
theorem PI.take {D : Nat → Int32} (P : PI D) {l b : Nat} (h : isLoc D l) (hl0 : D l = 0) (hb : b < 20) (h0 : bt (D 0) b = false) : PI (upd (tkD D b) l (nI (b + 1))) := by
  have l0 := h.ne0
  have lf := P.nfree h hb h0
  have em : upd (tkD D b) l (nI (b + 1)) 0 = D 0 ||| ((1 : Int32) <<< (nI b &&& 31)) := by rw [q_updN (by omega), tkD_0]
  have e0 : ∀ x, x ≠ 0 → x ≠ l → ¬ (72 + 8 * b ≤ x ∧ x < 80 + 8 * b) → upd (tkD D b) l (nI (b + 1)) x = D x := fun x a1 a2 a3 => by rw [q_updN a2, tkD_n a1 a3]
  have hcl : ∀ k, isLoc (upd (tkD D b) l (nI (b + 1))) k → (k = l) ∨ (upd (tkD D b) l (nI (b + 1)) k = 0) ∨ (k ≠ l ∧ isLoc D k ∧ upd (tkD D b) l (nI (b + 1)) k = D k) := fun k hk => by
    by_cases hkl : k = l
    · exact Or.inl hkl
    · right
      rcases hk with ⟨i, w, g1, g2, g3, g4⟩ | ⟨i, q, w, g1, g2, g3, g4, g5, g6⟩
      · exact Or.inr ⟨hkl, Or.inl ⟨i, w, g1, g2, g3, g4⟩, e0 k (by omega) hkl (by omega)⟩
      · by_cases h6 : 8 + 8 * i + 6 = l
        · left
          rw [h6, q_updS] at g5
          have hq : b + 1 = q := (nI_eq (by omega) (by omega)).mp g5
          rw [q_updN hkl]
          unfold tkD
          rw [if_pos (by omega)]
        · rw [e0 _ (by omega) h6 (by omega)] at g5
          have hk2 : isLoc D k := Or.inr ⟨i, q, w, g1, g2, g3, g4, g5, g6⟩
          exact Or.inr ⟨hkl, hk2, e0 k (by omega) hkl (P.nfree hk2 hb h0)⟩
  have hbit : ∀ j, bt (D 0) j = true → bt (D 0 ||| ((1 : Int32) <<< (nI b &&& 31))) j = true := fun j hj => by rw [b_or, hj, Bool.true_or]
  refine ⟨fun j hj => ?_, fun j hj => ?_, fun k hk => ?_, fun k k' hk hk' z1 z2 => ?_⟩
  · rw [em]
    rcases Nat.lt_or_ge j 32 with h3 | h3
    · rw [b_or, P.map j hj, b_bit (by omega) h3, decide_eq_false (by omega)]; rfl
    · exact b_big h3
  · rw [e0 _ (by omega) (fun z => by rcases h with ⟨i, w, g⟩ | ⟨i, q, w, g⟩ <;> omega) (by omega)]
    exact P.size j hj
  · rcases hcl k hk with rfl | hz | ⟨a1, a2, a3⟩
    · refine ⟨b + 1, by omega, q_updS, fun _ => ?_⟩
      rw [em, show b + 1 - 1 = b by omega, b_or, b_bit (by omega) (by omega), decide_eq_true rfl, Bool.or_true]
    · exact ⟨0, by omega, hz, fun z => by omega⟩
    · obtain ⟨p, p1, p2, p3⟩ := P.ptr k a2
      exact ⟨p, p1, a3.trans p2, fun z => by rw [em]; exact hbit _ (p3 z)⟩
  · have hno : ∀ x, isLoc D x → D x ≠ nI (b + 1) := fun x hx z => by
      obtain ⟨p, p1, p2, p3⟩ := P.ptr x hx
      have hq : p = b + 1 := (nI_eq (by omega) (by omega)).mp (p2.symm.trans z)
      have := p3 (by omega)
      rw [hq, show b + 1 - 1 = b by omega, h0] at this
      cases this
    rcases hcl k hk with rfl | hz | ⟨a1, a2, a3⟩
    · rcases hcl k' hk' with rfl | hz' | ⟨b1, b2, b3⟩
      · rfl
      · exact absurd (z1.trans hz') z2
      · rw [q_updS, b3] at z1
        exact absurd z1.symm (hno k' b2)
    · exact absurd hz z2
    · rcases hcl k' hk' with rfl | hz' | ⟨b1, b2, b3⟩
      · rw [a3, q_updS] at z1
        exact absurd z1 (hno k a2)
      · exact absurd (z1.trans hz') z2
      · rw [a3, b3] at z1
        rw [a3] at z2
        exact P.inj k k' a2 b2 z1 z2
theorem q_tb1 {D : Nat → Int32} {h w p : Nat} (hl : h * 8 + w < 232) (hp : D (h * 8 + w) = nI p) (h1 : 1 ≤ p) (h2 : p ≤ 20) : f_C_takeBehind (nI h) (nI w) D = some (nI (8 + p), D) := by
  unfold f_C_takeBehind f_C_takeBehind_0
  rw [q_get hl, Option.bind_some, hp, if_neg (nI_ne0 (by omega) (by omega)), Option.bind_some, q_bb h1 h2]
  rfl
theorem q_tb0 {D : Nat → Int32} {h w : Nat} (hl : h * 8 + w < 232) (hp : D (h * 8 + w) = 0) (hf : ∀ j, j < 20 → bt (D 0) j = true) : f_C_takeBehind (nI h) (nI w) D = some (-1, D) := by
  unfold f_C_takeBehind f_C_takeBehind_0
  rw [q_get hl, Option.bind_some, hp, if_pos rfl, q_tp0 hf, Option.bind_some, q_put hl, Option.bind_some, upd_id hp, q_get hl, Option.bind_some, hp]
  rfl
theorem q_tb2 {D : Nat → Int32} {h w b : Nat} (hl : h * 8 + w < 232) (hp : D (h * 8 + w) = 0) (hb : fstB (D 0) b) : f_C_takeBehind (nI h) (nI w) D = some (nI (8 + (b + 1)), upd (tkD D b) (h * 8 + w) (nI (b + 1))) := by
  have := hb.1
  unfold f_C_takeBehind f_C_takeBehind_0
  rw [q_get hl, Option.bind_some, hp, if_pos rfl, q_tp1 hb, Option.bind_some, q_put hl, Option.bind_some, q_get hl, q_updS, Option.bind_some, q_bb (by omega) (by omega)]
  rfl
