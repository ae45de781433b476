theorem bd_1 : ∀ c, c < 256 → bc2 (bc1 c) % 16 ≤ 4 ∧ bc2 (bc1 c) / 16 ≤ 4 := by decide +kernel
theorem bt_1 {c0 c1 c2 : Nat} (h0 : c0 < 256) (h1 : c1 < 256) (h2 : c2 < 256) : ((c0 + 256 * (c1 + 256 * c2)) / 2) &&& 1431655765 = (c0 / 2 &&& 85) + 256 * ((c1 / 2 &&& 85) + 256 * (c2 / 2 &&& 85)) := by
  rw [show 1431655765 = 256 * (256 * (256 * 85 + 85) + 85) + 85 from rfl, bs_1 h0, bs_1 h1]
  have := bs_1 (c := c2) (r := 0) (M := 85) h2
  rw [show c2 + 256 * 0 = c2 by omega, show (0 / 2 &&& 85) = 0 from rfl] at this
  rw [this]
  omega
theorem bt_2 {c0 c1 c2 : Nat} (h0 : c0 < 256) (h1 : c1 < 256) (h2 : c2 < 256) : ((c0 + 256 * (c1 + 256 * c2)) / 4) &&& 858993459 = (c0 / 4 &&& 51) + 256 * ((c1 / 4 &&& 51) + 256 * (c2 / 4 &&& 51)) := by
  rw [show 858993459 = 256 * (256 * (256 * 51 + 51) + 51) + 51 from rfl, bs_2 h0, bs_2 h1]
  have := bs_2 (c := c2) (r := 0) (M := 51) h2
  rw [show c2 + 256 * 0 = c2 by omega, show (0 / 4 &&& 51) = 0 from rfl] at this
  rw [this]
  omega
theorem bt_3 {c0 c1 c2 d : Nat} (h0 : c0 < 256) (h1 : c1 < 256) (h2 : c2 < 256) (hd : d < 256) : (c0 + 256 * (c1 + 256 * c2)) &&& (256 * (256 * (256 * d + d) + d) + d) = (c0 &&& d) + 256 * ((c1 &&& d) + 256 * (c2 &&& d)) := by
  rw [bs_3 h0 hd, bs_3 h1 hd]
  have := bs_3 (c := c2) (r := 0) (M := d) h2 hd
  rw [show c2 + 256 * 0 = c2 by omega, Nat.zero_and] at this
  rw [this]
  omega
theorem bc_fin {x y z : Nat} (g0 : x ≤ 8) (g1 : y ≤ 8) (g2 : z ≤ 8) : some (nI ((x + 256 * (y + 256 * z) + (x + 256 * (y + 256 * z)) / 2 ^ 8 + (x + 256 * (y + 256 * z) + (x + 256 * (y + 256 * z)) / 2 ^ 8) / 2 ^ 16) % 2 ^ 6)) = some (nI (x + y + z)) := by
  have a1 : (x + 256 * (y + 256 * z)) / 2 ^ 8 = y + 256 * z := by omega
  rw [a1]
  have a2 : (x + 256 * (y + 256 * z) + (y + 256 * z)) / 2 ^ 16 = z := by omega
  rw [a2]
  congr 2
  omega
theorem q_bc {c0 c1 c2 : Nat} (h0 : c0 < 256) (h1 : c1 < 256) (h2 : c2 < 16) : f_J_bitCount (nI (c0 + 256 * (c1 + 256 * c2))) = some (nI (bcs c0 + bcs c1 + bcs c2)) := by
  have h2' : c2 < 256 := by omega
  unfold f_J_bitCount f_J_bitCount_0 f_J_bitCount_10 f_J_bitCount_24 f_J_bitCount_34 f_J_bitCount_41 f_J_bitCount_48
  have l0 := bc_1l c0 h0
  have l1 := bc_1l c1 h1
  have l2 := bc_1l c2 h2'
  have s1 : nI (c0 + 256 * (c1 + 256 * c2)) - (((nI (c0 + 256 * (c1 + 256 * c2))).toUInt32 >>> ((1 : Int32).toUInt32 &&& Int32.toUInt32 31)).toInt32 &&& (1431655765 : Int32)) = nI (bc1 c0 + 256 * (bc1 c1 + 256 * bc1 c2)) := by
    rw [show (1 : Int32) = nI 1 from rfl, n_ush (by omega) (by omega), show (1431655765 : Int32) = nI 1431655765 from rfl, n_and, show 2 ^ 1 = 2 from rfl, bt_1 h0 h1 h2', q_sub (by omega) (by omega)]
    unfold bc1
    congr 1
    omega
  rw [s1]
  have m0 := bc_2l (bc1 c0) l0.2
  have m1 := bc_2l (bc1 c1) l1.2
  have m2 := bc_2l (bc1 c2) l2.2
  have t2 : bc1 c2 ≤ c2 := by unfold bc1; omega
  have s2 : (nI (bc1 c0 + 256 * (bc1 c1 + 256 * bc1 c2)) &&& (858993459 : Int32)) + (((nI (bc1 c0 + 256 * (bc1 c1 + 256 * bc1 c2))).toUInt32 >>> ((2 : Int32).toUInt32 &&& Int32.toUInt32 31)).toInt32 &&& (858993459 : Int32)) = nI (bc2 (bc1 c0) + 256 * (bc2 (bc1 c1) + 256 * bc2 (bc1 c2))) := by
    rw [show (2 : Int32) = nI 2 from rfl, n_ush (by omega) (by omega), show (858993459 : Int32) = nI 858993459 from rfl, n_and, n_and, show 2 ^ 2 = 4 from rfl, bt_2 l0.2 l1.2 l2.2, show 858993459 = 256 * (256 * (256 * 51 + 51) + 51) + 51 from rfl, bt_3 l0.2 l1.2 l2.2 (by omega), nI_add]
    unfold bc2
    congr 1
    omega
  rw [s2]
  have n0 := bd_1 c0 h0
  have n1 := bd_1 c1 h1
  have n2 := bd_1 c2 h2'
  have e0 := bc_e c0 h0
  have e1 := bc_e c1 h1
  have e2 := bc_e c2 h2'
  have g0 := bc_8 c0 h0
  have g1 := bc_8 c1 h1
  have g2 := bc_8 c2 h2'
  generalize bc2 (bc1 c0) = d0 at *
  generalize bc2 (bc1 c1) = d1 at *
  generalize bc2 (bc1 c2) = d2 at *
  have s3 : ((nI (d0 + 256 * (d1 + 256 * d2)) + ((nI (d0 + 256 * (d1 + 256 * d2))).toUInt32 >>> ((4 : Int32).toUInt32 &&& Int32.toUInt32 31)).toInt32) &&& (252645135 : Int32)) = nI (bc3 d0 + 256 * (bc3 d1 + 256 * bc3 d2)) := by
    rw [show (4 : Int32) = nI 4 from rfl, n_ush (by omega) (by omega), show (252645135 : Int32) = nI (256 * (256 * (256 * 15 + 15) + 15) + 15) from rfl, nI_add, n_and, show d0 + 256 * (d1 + 256 * d2) + (d0 + 256 * (d1 + 256 * d2)) / 2 ^ 4 = (d0 + (d0 / 16 + 16 * (d1 % 16))) + 256 * ((d1 + (d1 / 16 + 16 * (d2 % 16))) + 256 * (d2 + (d2 / 16 + 16 * 0))) by omega, bt_3 (by omega) (by omega) (by omega) (by omega)]
    rw [bc_3 d0 (by omega) (by omega) (d1 % 16) (by omega) (by omega) (by omega), bc_3 d1 (by omega) (by omega) (d2 % 16) (by omega) (by omega) (by omega), bc_3 d2 (by omega) (by omega) 0 (by omega) (by omega) (by omega)]
  rw [s3, e0, e1, e2, show (8 : Int32) = nI 8 from rfl, n_ush (by omega) (by omega), nI_add, show (16 : Int32) = nI 16 from rfl, n_ush (by omega) (by omega), nI_add, show (63 : Int32) = nI 63 from rfl, n_and, show (63 : Nat) = 2 ^ 6 - 1 from rfl, Nat.and_two_pow_sub_one_eq_mod]
  exact bc_fin g0 g1 g2
/-- the reference's count of free blocks -/
def nsum (k : Nat) : Nat → Nat
  | 0 => 0
  | b + 1 => nsum k b + k / 2 ^ b % 2
theorem nsum_le (k : Nat) : ∀ b, nsum k b ≤ b := by
  intro b
  induction b with
  | zero => exact Nat.le_refl 0
  | succ b ih => show nsum k b + k / 2 ^ b % 2 ≤ b + 1; omega
theorem q_fbN {mDk : Nat → Int32} {a k : Nat} (ha : a < 6) (hk : k < 2 ^ 20) (hD : mDk (232 * a) = nI k) : ∀ d b, b + d = 20 → ∀ f, d < f → jv_fx (f_M_freeBlocks_4 mDk (nI a)) f (nI (b - nsum k b), nI b) = some (nI (20 - nsum k 20)) := by
  intro d
  induction d with
  | zero =>
    intro b hb f hf
    obtain ⟨f, rfl⟩ : ∃ f', f = f' + 1 := ⟨f - 1, by omega⟩
    obtain rfl : b = 20 := by omega
    rfl
  | succ d ih =>
    intro b hb f hf
    obtain ⟨f, rfl⟩ : ∃ f', f = f' + 1 := ⟨f - 1, by omega⟩
    have i1 := ih (b + 1) (by omega) f (by omega)
    rw [jv_fx_s]
    generalize jv_fx (f_M_freeBlocks_4 mDk (nI a)) f = kf at i1 ⊢
    unfold f_M_freeBlocks_4
    have h20 : ((20 : Int32) ≤ nI b) = (20 ≤ b) := q_le (a := 20) (by omega) (by omega)
    have e0 : (232 : Int32) * nI a = nI (232 * a) := q_mul 232 a
    have e1 := n_bit (k := k) (n := b) (by omega) (by omega)
    have e2 : (nI (k / 2 ^ b % 2) = 0) = (k / 2 ^ b % 2 = 0) := q_eq (b := 0) (by omega) (by omega)
    simp only [h20, if_neg (show ¬ 20 ≤ b by omega), e0, q_ga (f := mDk) (n := 1392) (k := 232 * a) (by omega) (by omega), hD, Option.bind_some, e1, e2, nI_1, Int32.add_zero]
    have := nsum_le k b
    have n1 : nsum k (b + 1) = nsum k b + k / 2 ^ b % 2 := rfl
    by_cases h : k / 2 ^ b % 2 = 0
    · rw [if_pos h]
      rw [n1, h, show b + 1 - (nsum k b + 0) = b - nsum k b + 1 by omega] at i1
      exact i1
    · rw [if_neg h]
      rw [n1, show b + 1 - (nsum k b + k / 2 ^ b % 2) = b - nsum k b by omega] at i1
      exact i1
theorem q_fb {mDk : Nat → Int32} {a k : Nat} (ha : a < 6) (hk : k < 2 ^ 20) (hD : mDk (232 * a) = nI k) : f_M_freeBlocks mDk (nI a) = some (nI (20 - nsum k 20)) := q_fbN ha hk hD 20 0 rfl 300 (by omega)
theorem nb_lo (k b : Nat) (hb : b < 8) : k / 2 ^ b % 2 = k % 256 / 2 ^ b % 2 := by
  obtain ⟨m, hm⟩ : ∃ m, 256 = 2 ^ b * (2 * m) := ⟨2 ^ (7 - b), by rw [show 256 = 2 ^ 8 from rfl, show 8 = b + (1 + (7 - b)) by omega, Nat.pow_add, Nat.pow_add]⟩
  rw [hm, Nat.mod_mul_right_div_self, Nat.mod_mul_right_mod]
theorem nb_hi (k c b : Nat) : k / 2 ^ (c + b) % 2 = k / 2 ^ c / 2 ^ b % 2 := by
  rw [Nat.pow_add, Nat.div_div_eq_div_mul]
theorem nsum_20 (k : Nat) (hk : k < 2 ^ 20) : nsum k 20 = bcs (k % 256) + bcs (k / 256 % 256) + bcs (k / 65536) := by
  have h0 := nb_lo k 0 (by omega)
  have h1 := nb_lo k 1 (by omega)
  have h2 := nb_lo k 2 (by omega)
  have h3 := nb_lo k 3 (by omega)
  have h4 := nb_lo k 4 (by omega)
  have h5 := nb_lo k 5 (by omega)
  have h6 := nb_lo k 6 (by omega)
  have h7 := nb_lo k 7 (by omega)
  have h8 := (nb_hi k 8 0).trans (nb_lo (k / 2 ^ 8) 0 (by omega))
  have h9 := (nb_hi k 8 1).trans (nb_lo (k / 2 ^ 8) 1 (by omega))
  have h10 := (nb_hi k 8 2).trans (nb_lo (k / 2 ^ 8) 2 (by omega))
  have h11 := (nb_hi k 8 3).trans (nb_lo (k / 2 ^ 8) 3 (by omega))
  have h12 := (nb_hi k 8 4).trans (nb_lo (k / 2 ^ 8) 4 (by omega))
  have h13 := (nb_hi k 8 5).trans (nb_lo (k / 2 ^ 8) 5 (by omega))
  have h14 := (nb_hi k 8 6).trans (nb_lo (k / 2 ^ 8) 6 (by omega))
  have h15 := (nb_hi k 8 7).trans (nb_lo (k / 2 ^ 8) 7 (by omega))
  have h16 := nb_hi k 16 0
  have h17 := nb_hi k 16 1
  have h18 := nb_hi k 16 2
  have h19 := nb_hi k 16 3
  have hz : ∀ j, 4 ≤ j → k / 2 ^ 16 / 2 ^ j % 2 = 0 := fun j hj => by
    rw [Nat.div_div_eq_div_mul, ← Nat.pow_add, Nat.div_eq_of_lt]
    exact Nat.lt_of_lt_of_le hk (Nat.pow_le_pow_right (by omega) (by omega))
  have b0 : ∀ c, bcs c = nsum c 8 := fun c => by simp only [bcs, nsum, Nat.zero_add, Nat.pow_zero, Nat.div_one]
  rw [b0, b0, b0]
  simp only [nsum, show (256 : Nat) = 2 ^ 8 from rfl, show 65536 = 2 ^ 16 from rfl]
  simp only [show (256 : Nat) = 2 ^ 8 from rfl] at *
  rw [h0, h1, h2, h3, h4, h5, h6, h7, h8, h9, h10, h11, h12, h13, h14, h15, h16, h17, h18, h19, hz 4 (by omega), hz 5 (by omega), hz 6 (by omega), hz 7 (by omega)]
  simp only [Nat.add_assoc, Nat.zero_add, Nat.add_zero]
theorem q_cf {D : Nat → Int32} {k : Nat} (hk : k < 2 ^ 20) (hD : D 0 = nI k) : f_C_countFree D = some (nI (20 - nsum k 20)) := by
  unfold f_C_countFree f_C_countFree_0 f_D_get f_D_get_0
  have e : (0 : Int32) * (8 : Int32) + (0 : Int32) = nI 0 := rfl
  have e2 := q_bc (c0 := k % 256) (c1 := k / 256 % 256) (c2 := k / 65536) (by omega) (by omega) (by omega)
  rw [show k % 256 + 256 * (k / 256 % 256 + 256 * (k / 65536)) = k by omega, ← nsum_20 k hk] at e2
  rw [e, q_ga (f := D) (n := 232) (k := 0) (by omega) (by omega), hD]
  have := nsum_le k 20
  simp only [Option.bind_some, e2]
  rw [show (20 : Int32) = nI 20 from rfl, q_sub this (by omega)]
