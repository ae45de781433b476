/-! The claim. -/
theorem i_vc : Claimed_1_1 ∧ Claimed_1_2 := jv_claim JJ_0 JJ_s
