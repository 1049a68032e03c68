section RHF
variable {cst : Nat → Option (Nat × (Nat → Int32))} {m b0 b1 : Nat} {op : Bool} {tl : List mj_O} {Q : mj_R → Prop} {s : cS} {r : rM} {H T : Nat → Vl} {M : Nat → Prop}
set_option maxRecDepth 10000
theorem R_showAllE {a : Nat} (ha : a < 250) (h0 : r.reg 0 = nI a) (hM : SMc r H T M) (ma : M a) (hQ : ∀ (p : sP) (n : Nat) (pl : Nat → Int32), PRC (shw H T 120 [] (fun _ => vNil) 0 (H a)).1 p → Q (.inl none, (cW s (rW (phR (gR r (r.headKind a) (r.head a)) p n pl) tl), b0, b1, op))) : mj_Mt gT cst gnw (m + 4) y_R_showAll [.ref 27] (cW s (rW r tl), b0, b1, op) Q := by
  intro J hJ
  have hM2 : SMc (gR r (r.headKind a) (r.head a)) H T M := hM
  have loop := R_showLoopE (r := gR r (r.headKind a) (r.head a)) (s := s) (tl := tl) (b0 := b0) (b1 := b1) (op := op) hJ hM2
  obtain ⟨hz, hM3⟩ := hM2
  obtain ⟨ua, ⟨vH, vT⟩, ⟨sH, sT⟩, mH, mT⟩ := hM3 a ma
  refine hJ _ _ _ _ ?_
  refine r_peek0 (r := phR r (0, r.show_) 0 r.pile) ha h0 ?_
  change mj_sg _ _ _ _ _ _ _ _ _ _ _ _ (cW s (rW (phR (gR r (r.headKind a) (r.head a)) (0, r.show_) 0 r.pile) tl), b0, b1, op)
  refine R_sayHeadV (p := (0, r.show_)) hz vH (Nat.zero_le 120) (by decide) (fun c ec => ?_) (fun nk => ?_)
  · have e : shw H T 120 [] (fun _ => vNil) 0 (H a) = shw H T 119 ([] ++ [40]) (upW (fun _ => vNil) 0 (ofV T (H a))) (0 + 1) (ofV H (H a)) := shw_p (u := 119) (by decide) (by rw [ec]; rfl)
    rw [e, ec] at hQ
    exact loop 119 ([] ++ [40]) (fun _ => vNil) 0 c _ _ (fun _ => 0) _ _ (PRC_syI (by decide) (by decide) (PRC_nil r.show_)) (by decide) (by decide) (mH c (by rw [ec]; rfl)) (if_pos rfl) (fun i hi => absurd hi (Nat.not_lt_zero i)) hQ
  · have e : (shw H T 120 [] (fun _ => vNil) 0 (H a)).1 = shA (H a) := (shw_a (u := 119) (by decide) nk).trans (if_pos rfl)
    rw [e] at hQ
    have h1 := PRC_atS vH nk sH (PRC_nil r.show_)
    refine hJ _ _ _ _ ?_
    exact And.intro (fun _ => hQ _ 0 _ h1) (fun (g : ¬ nI 0 ≤ 0) => absurd (by decide) g)
end RHF
def RSH (r : rM) (H T : Nat → Vl) (S : Vl) : Prop := (∃ M, SMc r H T M ∧ inU M S) → ∃ p : sP, (r.shown = nI p.1 ∧ r.show_ = p.2) ∧ PRC (shw H T 120 [] (fun _ => vNil) 0 (ofV H S)).1 p
