/-! ===== the claim ===== -/
theorem mj_law : mj_Law := by
  sorry
theorem i_vc : Claimed_1_1 ∧ Claimed_1_2 := mj_claim mj_law
