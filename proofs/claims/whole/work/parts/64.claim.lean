/-! THE CLAIM -/
theorem i_vc : Claimed_1_1 ∧ Claimed_1_2 := i_vc_open (fun L xs hL => law_pure L xs hL)
