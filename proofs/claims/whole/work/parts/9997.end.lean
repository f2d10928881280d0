/-! THE CLAIM -/
theorem good_LK : Good LK := ⟨g1_ok, g2_ok, g3_ok, g4_ok, g5_ok, g6_ok, g7_ok, g8_ok, g9_ok, g10_ok, g11_ok, g12_ok, g13_ok⟩
theorem pure_law : PureLaw := law_of good_LK LK.start
theorem i_vc : Claimed_1_1 ∧ Claimed_1_2 := claim_of_law pure_law
