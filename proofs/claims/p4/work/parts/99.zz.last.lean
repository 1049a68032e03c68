theorem i_vc : Claimed_1_1 ∧ Claimed_1_2 := i_vc_of (fun _ hx => L_law (m := 1069) (b0 := 600964) (b1 := 7293000) hx (by decide) (by decide))
