theorem n_andf (j a b c d : Nat) (ha : a < 2 ^ j) (hc : c < 2 ^ j) : (2 ^ j * b + a) &&& (2 ^ j * d + c) = 2 ^ j * (b &&& d) + (a &&& c) := by
  have h : a &&& c < 2 ^ j := Nat.lt_of_le_of_lt Nat.and_le_left ha
  refine Nat.eq_of_testBit_eq (fun i => ?_)
  rw [Nat.testBit_and, Nat.testBit_two_pow_mul_add b ha, Nat.testBit_two_pow_mul_add d hc, Nat.testBit_two_pow_mul_add (b &&& d) h]
  by_cases hi : i < j
  · rw [if_pos hi, if_pos hi, if_pos hi, Nat.testBit_and]
  · rw [if_neg hi, if_neg hi, if_neg hi, Nat.testBit_and]
