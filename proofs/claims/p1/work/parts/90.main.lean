theorem i_vc : Claimed_1_1 ∧ Claimed_1_2 := jclaim fun L xs hL => k_p1 L xs hL
