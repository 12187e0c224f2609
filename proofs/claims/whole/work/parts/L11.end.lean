/-! ===== what is owed ===== -/
theorem i_vc : Claimed_1_1 ∧ Claimed_1_2 := am_end j_goal
