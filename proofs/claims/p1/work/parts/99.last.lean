theorem i_vc : Claimed_1_1 ∧ Claimed_1_2 := i_vc_of (fun _ hx => l_law4 (m := 1191) (b0 := 599942) hx (by decide))
