/-! p1: one call on fresh objects -/
theorem i_vc : Claimed_1_1 ∧ Claimed_1_2 := lw_vc pure_4
