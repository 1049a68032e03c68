section MAC
variable {call : Nat → List Value → mj_H → (mj_R → Prop) → Prop} {cst : Nat → Option (Nat × (Nat → Int32))} {nw : mj_N} {hd : Nat → Nat → Option (Option (Nat × Nat))} {code : mj_C} {J : Nat → mj_L → List Value → mj_H → Prop} {Q : mj_R → Prop} {pc F : Nat} {ls : mj_L} {st : List Value} {b0 b1 : Nat} {op : Bool} {tl : List mj_O} {s : cS} {r : rM} {a d : Nat}
set_option maxRecDepth 10000
theorem sg_st {i : Instr} {h : mj_H} (hc : mj_nth code pc = some (false, i)) (hs : mj_stp call cst nw hd Q (mj_sg call cst nw hd code J Q F false) i pc ls st h) : mj_sg call cst nw hd code J Q (F + 1) false pc ls st h := by
  show (match mj_nth code pc with
    | none => False
    | some (cu, i) => match cu, false with
      | true, false => J pc ls st h
      | _, _ => mj_stp call cst nw hd Q (mj_sg call cst nw hd code J Q F false) i pc ls st h)
  rw [hc]
  exact hs
theorem sg_pinc (h0 : mj_nth code pc = some (false, .aload 0)) (h1 : mj_nth code (pc + 1) = some (false, .dup)) (h2 : mj_nth code (pc + 1 + 1) = some (false, .getfield 2576)) (h3 : mj_nth code (pc + 1 + 1 + 1) = some (false, .iconst 1)) (h4 : mj_nth code (pc + 1 + 1 + 1 + 1) = some (false, .iadd)) (h5 : mj_nth code (pc + 1 + 1 + 1 + 1 + 1) = some (false, .putfield 2576)) (hl : mj_nth ls 0 = some (some (.ref 27))) (h : mj_sg call cst nw hd code J Q F false (pc + 6) ls st (cW s (rW (pdR r (a + 1) d) tl), b0, b1, op)) : mj_sg call cst nw hd code J Q (F + 6) false pc ls st (cW s (rW (pdR r a d) tl), b0, b1, op) := by
  have e : nI (a + 1) = nI a + Int32.ofInt 1 := nI_succ a
  unfold pdR at h
  rw [e] at h
  refine sg_st (F := F + 5) h0 ?_
  show (match mj_nth ls 0 with
    | some (some (.ref x)) => mj_sg call cst nw hd code J Q (F + 5) false (pc + 1) ls (.ref x :: st) (cW s (rW (pdR r a d) tl), b0, b1, op)
    | _ => False)
  rw [hl]
  refine sg_st (F := F + 4) h1 ?_
  refine sg_st (F := F + 3) h2 ?_
  refine sg_st (F := F + 2) h3 ?_
  refine sg_st (F := F + 1) h4 ?_
  refine sg_st (F := F) h5 ?_
  exact h
end MAC
