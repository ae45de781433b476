/-! Bits of numbers. -/
theorem n_bt (k : Nat) {i : Nat} (hi : i < 32) : bt (nI k) i = k.testBit i := by
  unfold bt nI
  rw [show (Int32.ofNat k).toBitVec = BitVec.ofNat 32 k from rfl, BitVec.getLsbD_ofNat]
  simp [hi]
theorem n_and (a b : Nat) : nI a &&& nI b = nI (a &&& b) := b_ext (fun i hi => by rw [b_and, n_bt a hi, n_bt b hi, n_bt _ hi, Nat.testBit_and])
theorem n_or (a b : Nat) : nI a ||| nI b = nI (a ||| b) := b_ext (fun i hi => by rw [b_or, n_bt a hi, n_bt b hi, n_bt _ hi, Nat.testBit_or])
theorem n_ush {k n : Nat} (hn : n < 32) (hk : k < 2 ^ 32) : (((nI k).toUInt32 >>> ((nI n).toUInt32 &&& Int32.toUInt32 31)).toInt32) = nI (k / 2 ^ n) := b_ext (fun i hi => by
  rw [b_ushr n hn, n_bt _ hi, Nat.testBit_div_two_pow]
  by_cases h : n + i < 32
  · rw [n_bt _ h, Nat.add_comm]
  · rw [b_big (by omega), Nat.testBit_lt_two_pow]
    exact Nat.lt_of_lt_of_le hk (Nat.pow_le_pow_right (by omega) (by omega)))
theorem n_sh {k n : Nat} (hn : n < 32) (hk : k < 2 ^ 31) : nI k >>> (nI n &&& 31) = nI (k / 2 ^ n) := b_ext (fun i hi => by
  rw [b_sshr n hn _ hi, n_bt _ hi, Nat.testBit_div_two_pow]
  by_cases h : n + i < 32
  · rw [if_pos h, n_bt _ h, Nat.add_comm]
  · rw [if_neg h, n_bt _ (by omega), Nat.testBit_lt_two_pow, Nat.testBit_lt_two_pow]
    · exact Nat.lt_of_lt_of_le hk (Nat.pow_le_pow_right (by omega) (by omega))
    · exact hk)
theorem n_bit {k n : Nat} (hn : n < 32) (hk : k < 2 ^ 31) : ((nI k >>> (nI n &&& 31)) &&& (1 : Int32)) = nI (k / 2 ^ n % 2) := by
  rw [n_sh hn hk, show (1 : Int32) = nI 1 from rfl, n_and, Nat.and_one_is_mod]
/-- a byte's stages -/
def bc1 (c : Nat) : Nat := c - ((c / 2) &&& 85)
def bc2 (c : Nat) : Nat := (c &&& 51) + ((c / 4) &&& 51)
def bc3 (c : Nat) : Nat := (c + c / 16) &&& 15
def bcs (c : Nat) : Nat := c % 2 + c / 2 % 2 + c / 4 % 2 + c / 8 % 2 + c / 16 % 2 + c / 32 % 2 + c / 64 % 2 + c / 128 % 2
theorem bc_e : ∀ c, c < 256 → bc3 (bc2 (bc1 c)) = bcs c := by decide +kernel
theorem bc_8 : ∀ c, c < 256 → bcs c ≤ 8 := by decide +kernel
theorem bc_1 : ∀ c, c < 256 → ∀ e, e < 2 → ((c / 2 + 128 * e) &&& 85) = ((c / 2) &&& 85) := by decide +kernel
theorem bc_1l : ∀ c, c < 256 → ((c / 2) &&& 85) ≤ c ∧ bc1 c < 256 := by decide +kernel
theorem bc_2 : ∀ c, c < 256 → ∀ e, e < 4 → ((c / 4 + 64 * e) &&& 51) = ((c / 4) &&& 51) := by decide +kernel
theorem bc_2l : ∀ c, c < 256 → bc2 c < 256 ∧ (c &&& 51) < 256 ∧ ((c / 4) &&& 51) < 256 := by decide +kernel
theorem bc_3 : ∀ c, c < 256 → c / 16 < 16 → ∀ e, e < 16 → c + c / 16 + 16 * e < 512 → c + (c / 16 + 16 * e) < 256 → ((c + (c / 16 + 16 * e)) &&& 15) = bc3 c := by decide +kernel
/-- stage 1 -/
theorem bs_1 {c r M : Nat} (hc : c < 256) : ((c + 256 * r) / 2) &&& (256 * M + 85) = 256 * ((r / 2) &&& M) + ((c / 2) &&& 85) := by
  rw [show (c + 256 * r) / 2 = 2 ^ 8 * (r / 2) + (c / 2 + 128 * (r % 2)) by omega, show 256 * M + 85 = 2 ^ 8 * M + 85 from rfl, n_andf 8 _ _ _ _ (by omega) (by omega), bc_1 c hc (r % 2) (by omega)]
theorem bs_2 {c r M : Nat} (hc : c < 256) : ((c + 256 * r) / 4) &&& (256 * M + 51) = 256 * ((r / 4) &&& M) + ((c / 4) &&& 51) := by
  rw [show (c + 256 * r) / 4 = 2 ^ 8 * (r / 4) + (c / 4 + 64 * (r % 4)) by omega, show 256 * M + 51 = 2 ^ 8 * M + 51 from rfl, n_andf 8 _ _ _ _ (by omega) (by omega), bc_2 c hc (r % 4) (by omega)]
theorem bs_3 {c r M d : Nat} (hc : c < 256) (hd : d < 256) : (c + 256 * r) &&& (256 * M + d) = 256 * (r &&& M) + (c &&& d) := by
  rw [show c + 256 * r = 2 ^ 8 * r + c by omega, show 256 * M + d = 2 ^ 8 * M + d from rfl, n_andf 8 _ _ _ _ (by omega) (by omega)]
