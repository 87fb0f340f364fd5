/-! the ten calls, and the claim -/
theorem pure_2048 : pureOK 2048 := ⟨Rel, Rel_start, fun _ _ _ hj h => ⟨t_put hj h, t_request hj h, t_reply hj h, t_tick hj h, t_sheet hj h, t_stop hj h, t_restart hj h, t_job hj h, t_pixel hj h, t_count hj h⟩, fun _ _ _ hj h => Rel.idle hj h⟩
theorem i_vc : Claimed_1_1 ∧ Claimed_1_2 := lw_vc pure_2048
