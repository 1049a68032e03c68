theorem lg_eq {x y : Int64} : lg_cmp x y = 0 ↔ x = y := by
  unfold lg_cmp
  split
  · rename_i h
    refine ⟨fun q => absurd q (by decide), fun q => ?_⟩
    subst q
    exact absurd h Int64.lt_irrefl
  · split
    · rename_i h
      exact ⟨fun _ => h, fun _ => rfl⟩
    · rename_i h
      exact ⟨fun q => absurd q (by decide), fun q => absurd q h⟩
def sameV (x y : Vl) : Bool := decide (encV x = encV y) && decide (cV x = -1)
section P2e
variable {cst : Nat → Option (Nat × (Nat → Int32))} {m b0 b1 : Nat} {op : Bool} {tl : List mj_O} {Q : mj_R → Prop}
variable {o0 o1 o2 o3 o4 o5 o6 o7 o8 o9 o10 o11 o12 o13 o14 o15 : mj_O} {S E C D : Vl} {mode colls taken steps : Int32} {z : Nat} {H T : Nat → Vl} {fr : Nat → Nat} {mk rc : Nat → Int32} {f : Nat} {rN cN : Int32}
set_option maxRecDepth 10000
theorem k_variable {n : Nat} (hn : n < 10000) (hv : (encV (ofV H (ofV T C))).toInt32 = nI n) (hz : z ≤ 250) (hA : okA z H) (hB : okA z T) (hfr : ∀ j, j < z → fr j < z) (hS : okV z S) (hE : okV z E) (hC : okV z C) (hD : okV z D) (hf : f + 1 ≤ z) (h1 : ¬ kV (behV T (n / 16) E) = 3 → Q (.inl (some (.int 0)), (mW o0 o1 o2 o3 o4 o5 o6 o7 o8 o9 o10 o11 o12 o13 o14 o15 (encV S) (encV E) (encV C) (encV D) mode colls taken steps z (eH H) (eH T) (eN fr) mk rc (nI (f + 1)) rN cN tl, b0, b1, op))) (h2 : kV (behV T (n / 16) E) = 3 → ¬ kV (behV T (n % 16) (ofV H (behV T (n / 16) E))) = 3 → Q (.inl (some (.int 0)), (mW o0 o1 o2 o3 o4 o5 o6 o7 o8 o9 o10 o11 o12 o13 o14 o15 (encV S) (encV E) (encV C) (encV D) mode colls taken steps z (eH H) (eH T) (eN fr) mk rc (nI (f + 1)) rN cN tl, b0, b1, op))) (h3 : kV (behV T (n / 16) E) = 3 → kV (behV T (n % 16) (ofV H (behV T (n / 16) E))) = 3 → Q (.inl (some (.int 1)), (mW o0 o1 o2 o3 o4 o5 o6 o7 o8 o9 o10 o11 o12 o13 o14 o15 (encV (vPr (fr f))) (encV E) (encV (ofV (upW T (fr f) S) (ofV T C))) (encV D) mode colls taken steps z (eH (upW H (fr f) (ofV H (behV T (n % 16) (ofV H (behV T (n / 16) E)))))) (eH (upW T (fr f) S)) (eN fr) mk rc (nI f) rN cN tl, b0, b1, op))) : mj_Mt gT cst gnw (m + 4) y_Machine_variable [.ref 16] (mW o0 o1 o2 o3 o4 o5 o6 o7 o8 o9 o10 o11 o12 o13 o14 o15 (encV S) (encV E) (encV C) (encV D) mode colls taken steps z (eH H) (eH T) (eN fr) mk rc (nI (f + 1)) rN cN tl, b0, b1, op) Q := by
  intro J hJ
  refine hJ _ _ _ _ ?_
  refine s_tail hz hC ?_
  refine s_head hz (okV_of hB hC) ?_
  refine v_content ?_
  rw [hv]
  refine And.intro (by decide) ?_
  rw [(nI_16 (n := n) (by omega)).1]
  refine s_behind hz (by omega) hB hE ?_
  refine v_isPair ?_
  by_cases c1 : kV (behV T (n / 16) E) = 3
  · rw [show (kV (behV T (n / 16) E) == 3) = true by simp [c1]]
    refine And.intro (fun _ => ?_) (fun g => absurd g (by decide))
    refine s_head hz (okV_beh hB (n / 16) _ hE) ?_
    refine And.intro (by decide) ?_
    rw [(nI_16 (n := n) (by omega)).2]
    refine s_behind hz (by omega) hB (okV_of hA (okV_beh hB (n / 16) _ hE)) ?_
    refine v_isPair ?_
    by_cases c2 : kV (behV T (n % 16) (ofV H (behV T (n / 16) E))) = 3
    · rw [show (kV (behV T (n % 16) (ofV H (behV T (n / 16) E))) == 3) = true by simp [c2]]
      refine And.intro (fun _ => ?_) (fun g => absurd g (by decide))
      refine s_head hz (okV_beh hB (n % 16) _ (okV_of hA (okV_beh hB (n / 16) _ hE))) ?_
      refine s_newPair hz (by omega) (hfr _ (by omega)) ?_
      refine s_tail hz (okV_of hB hC) ?_
      exact And.intro (Or.inr rfl) (h3 c1 c2)
    · rw [show (kV (behV T (n % 16) (ofV H (behV T (n / 16) E))) == 3) = false by simp [c2]]
      refine And.intro (fun g => absurd rfl g) (fun _ => ?_)
      exact And.intro (Or.inl rfl) (h2 c1 c2)
  · rw [show (kV (behV T (n / 16) E) == 3) = false by simp [c1]]
    refine And.intro (fun g => absurd rfl g) (fun _ => ?_)
    exact And.intro (Or.inl rfl) (h1 c1)
theorem k_same (hz : z ≤ 250) (hA : okA z H) (hB : okA z T) (hfr : ∀ j, j < z → fr j < z) (hS : okV z S) (hE : okV z E) (hC : okV z C) (hD : okV z D) (hf : f + 1 ≤ z) (hQ1 : sameV (ofV H (ofV T S)) (ofV H S) = true → Q (.inl (some (.int 1)), (mW o0 o1 o2 o3 o4 o5 o6 o7 o8 o9 o10 o11 o12 o13 o14 o15 (encV (vPr (fr f))) (encV E) (encV (ofV (upW T (fr f) (behV T 2 S)) C)) (encV D) mode colls taken steps z (eH (upW H (fr f) (vInt 1))) (eH (upW T (fr f) (behV T 2 S))) (eN fr) mk rc (nI f) rN cN tl, b0, b1, op))) (hQ0 : sameV (ofV H (ofV T S)) (ofV H S) = false → Q (.inl (some (.int 1)), (mW o0 o1 o2 o3 o4 o5 o6 o7 o8 o9 o10 o11 o12 o13 o14 o15 (encV (vPr (fr f))) (encV E) (encV (ofV (upW T (fr f) (behV T 2 S)) C)) (encV D) mode colls taken steps z (eH (upW H (fr f) (vInt 0))) (eH (upW T (fr f) (behV T 2 S))) (eN fr) mk rc (nI f) rN cN tl, b0, b1, op))) : mj_Mt gT cst gnw (m + 5) y_Machine_same [.ref 16] (mW o0 o1 o2 o3 o4 o5 o6 o7 o8 o9 o10 o11 o12 o13 o14 o15 (encV S) (encV E) (encV C) (encV D) mode colls taken steps z (eH H) (eH T) (eN fr) mk rc (nI (f + 1)) rN cN tl, b0, b1, op) Q := by
  intro J hJ
  refine hJ _ _ _ _ ?_
  refine s_head hz hS ?_
  refine s_tail hz hS ?_
  refine s_head hz (okV_of hB hS) ?_
  refine And.intro (fun g => ?_) (fun g => ?_)
  · have h0 := hQ0 (by unfold sameV; rw [show decide (encV (ofV H (ofV T S)) = encV (ofV H S)) = false by simpa using fun q => g (lg_eq.mpr q)]; rfl)
    refine And.intro (fun _ => ?_) (fun g => absurd rfl g)
    refine v_number (x := 0) ?_
    refine k_replace (n := 2) (by decide) trivial hz hA hB hfr hS hE hC hD (by omega) ?_
    exact And.intro (Or.inr rfl) h0
  · refine v_cell ?_
    refine And.intro (fun (g2 : ¬ cV (ofV H (ofV T S)) = -1) => ?_) (fun (g2 : cV (ofV H (ofV T S)) = -1) => ?_)
    · have h0 := hQ0 (by unfold sameV; rw [show decide (cV (ofV H (ofV T S)) = -1) = false by simpa using g2]; simp)
      refine And.intro (fun _ => ?_) (fun g => absurd rfl g)
      refine v_number (x := 0) ?_
      refine k_replace (n := 2) (by decide) trivial hz hA hB hfr hS hE hC hD (by omega) ?_
      exact And.intro (Or.inr rfl) h0
    · have h1 := hQ1 (by unfold sameV; rw [show decide (encV (ofV H (ofV T S)) = encV (ofV H S)) = true by simpa using lg_eq.mp g, show decide (cV (ofV H (ofV T S)) = -1) = true by simpa using g2]; rfl)
      refine And.intro (fun g => absurd g (by decide)) (fun _ => ?_)
      refine v_number (x := 1) ?_
      refine k_replace (n := 2) (by decide) trivial hz hA hB hfr hS hE hC hD (by omega) ?_
      exact And.intro (Or.inr rfl) h1
theorem k_setRegisters {V : Vl} (hQ : Q (.inl none, (mW o0 o1 o2 o3 o4 o5 o6 o7 o8 o9 o10 o11 o12 o13 o14 o15 (encV vNil) (encV vNil) (encV V) (encV vNil) mode colls taken steps z (eH H) (eH T) (eN fr) mk rc (nI f) rN cN tl, b0, b1, op))) : mj_Mt gT cst gnw (m + 1) y_Machine_setRegisters [.ref 16, .long (encV V)] (mW o0 o1 o2 o3 o4 o5 o6 o7 o8 o9 o10 o11 o12 o13 o14 o15 (encV S) (encV E) (encV C) (encV D) mode colls taken steps z (eH H) (eH T) (eN fr) mk rc (nI f) rN cN tl, b0, b1, op) Q := by
  intro J hJ
  refine hJ _ _ _ _ ?_
  exact hQ
theorem k_collect {c : Nat} {g : gS} (hz : z ≤ 250) (hc : c ≤ z) (hA : okA z H) (hB : okA z T) (hS : okV z S) (hE : okV z E) (hC : okV z C) (hD : okV z D) (hQ : Q (.inl none, (mW o0 o1 o2 o3 o4 o5 o6 o7 o8 o9 o10 o11 o12 o13 o14 o15 (encV S) (encV E) (encV C) (encV D) mode (colls + 1) (taken + (nI (fuN (mrk z H T S E C D (if c = 0 then vNil else vPr 0) g).1 z 0 (fr, 0)).2 - nI f)) steps z (eH H) (eH T) (eN (fuN (mrk z H T S E C D (if c = 0 then vNil else vPr 0) g).1 z 0 (fr, 0)).1) (eB (mrk z H T S E C D (if c = 0 then vNil else vPr 0) g).1) (eN (mrk z H T S E C D (if c = 0 then vNil else vPr 0) g).2.1) (nI (fuN (mrk z H T S E C D (if c = 0 then vNil else vPr 0) g).1 z 0 (fr, 0)).2) (nI (mrk z H T S E C D (if c = 0 then vNil else vPr 0) g).2.2) (nI c) tl, b0, b1, op))) : mj_Mt gT cst gnw (m + 4) y_Machine_collect [.ref 16] (mW o0 o1 o2 o3 o4 o5 o6 o7 o8 o9 o10 o11 o12 o13 o14 o15 (encV S) (encV E) (encV C) (encV D) mode colls taken steps z (eH H) (eH T) (eN fr) (eB g.1) (eN g.2.1) (nI f) (nI g.2.2) (nI c) tl, b0, b1, op) Q := by
  intro J hJ
  refine hJ _ _ _ _ ?_
  refine s_mark (g := g) hz hc hA hB hS hE hC hD ?_
  refine s_freeUnmarked (p := (fr, f)) hz ?_
  exact hQ
end P2e
