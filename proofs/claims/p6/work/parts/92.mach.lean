def mW (o0 o1 o2 o3 o4 o5 o6 o7 o8 o9 o10 o11 o12 o13 o14 o15 : mj_O) (S E C D : Int64) (mode colls taken steps : Int32) (z : Nat) (H T : Nat → Int64) (fr mk rc : Nat → Int32) (fN rN cN : Int32) (tl : List mj_O) : List mj_O :=
  sW o0 o1 o2 o3 o4 o5 o6 o7 o8 o9 o10 o11 o12 o13 o14 o15 (oF 6 [.ref 17, .ref 23, .long S, .long E, .long C, .long D, .int mode, .int colls, .int taken, .int steps]) z H T fr mk rc fN rN cN tl
def okA (z : Nat) (g : Nat → Vl) : Prop := ∀ i, i < z → okV z (g i)
theorem okV_of {z : Nat} {g : Nat → Vl} {v : Vl} (hg : okA z g) (hv : okV z v) : okV z (ofV g v) := by
  rcases v with u | x | x | i | i
  · exact trivial
  · exact trivial
  · exact trivial
  · exact hg i hv
  · exact hg i hv
theorem okA_upd {z k : Nat} {g : Nat → Vl} {x : Vl} (hg : okA z g) (hx : okV z x) : okA z (upW g k x) := by
  intro i hi
  unfold upW
  split
  · exact hx
  · exact hg i hi
theorem nI_16 {n : Nat} (h : n < 2 ^ 31) : nI n / Int32.ofInt 16 = nI (n / 16) ∧ nI n - nI n / Int32.ofInt 16 * Int32.ofInt 16 = nI (n % 16) := by
  have h1 : nI n / Int32.ofInt 16 = nI (n / 16) := by
    apply Int32.toInt_inj.mp
    rw [Int32.toInt_div, nI_toInt h, nI_toInt (by omega), show (Int32.ofInt 16).toInt = 16 by decide]
    rw [show ((n : Int).tdiv 16) = ((n / 16 : Nat) : Int) by rw [Int.tdiv_eq_ediv_of_nonneg (by omega)]; rfl]
    apply Int.bmod_eq_of_le <;> omega
  refine ⟨h1, ?_⟩
  rw [h1, show Int32.ofInt 16 = nI 16 by decide]
  have h2 : nI (n / 16) * nI 16 = nI (n / 16 * 16) := (Int32.ofNat_mul _ _).symm
  rw [h2]
  have h3 : nI n = nI (n % 16) + nI (n / 16 * 16) := by
    rw [nI_add]
    congr 1
    omega
  rw [h3, Int32.add_sub_cancel]
section P2c
variable {cst : Nat → Option (Nat × (Nat → Int32))} {m b0 b1 : Nat} {op : Bool} {tl : List mj_O} {Q : mj_R → Prop}
variable {o0 o1 o2 o3 o4 o5 o6 o7 o8 o9 o10 o11 o12 o13 o14 o15 : mj_O} {S E C D : Vl} {mode colls taken steps : Int32} {z : Nat} {H T : Nat → Vl} {fr : Nat → Nat} {mk rc : Nat → Int32} {f : Nat} {rN cN : Int32}
set_option maxRecDepth 10000
theorem k_constant (hz : z ≤ 250) (hA : okA z H) (hB : okA z T) (hfr : ∀ j, j < z → fr j < z) (hS : okV z S) (hE : okV z E) (hC : okV z C) (hD : okV z D) (hf : f + 1 ≤ z) (hQ : Q (.inl (some (.int 1)), (mW o0 o1 o2 o3 o4 o5 o6 o7 o8 o9 o10 o11 o12 o13 o14 o15 (encV (vPr (fr f))) (encV E) (encV (ofV (upW T (fr f) S) (ofV T C))) (encV D) mode colls taken steps z (eH (upW H (fr f) (ofV H (ofV T C)))) (eH (upW T (fr f) S)) (eN fr) mk rc (nI f) rN cN tl, b0, b1, op))) : mj_Mt gT cst gnw (m + 3) y_Machine_constant [.ref 16] (mW o0 o1 o2 o3 o4 o5 o6 o7 o8 o9 o10 o11 o12 o13 o14 o15 (encV S) (encV E) (encV C) (encV D) mode colls taken steps z (eH H) (eH T) (eN fr) mk rc (nI (f + 1)) rN cN tl, b0, b1, op) Q := by
  intro J hJ
  refine hJ _ _ _ _ ?_
  refine s_tail hz hC ?_
  refine s_head hz (okV_of hB hC) ?_
  refine s_newPair hz (by omega) (hfr _ (by omega)) ?_
  refine s_tail hz (okV_of hB hC) ?_
  exact And.intro (Or.inr rfl) hQ
theorem k_function (hz : z ≤ 250) (hA : okA z H) (hB : okA z T) (hfr : ∀ j, j < z → fr j < z) (hS : okV z S) (hE : okV z E) (hC : okV z C) (hD : okV z D) (hf : f + 2 ≤ z) (hQ : Q (.inl (some (.int 1)), (mW o0 o1 o2 o3 o4 o5 o6 o7 o8 o9 o10 o11 o12 o13 o14 o15 (encV (vPr (fr f))) (encV E) (encV (ofV (upW (upW T (fr (f + 1)) E) (fr f) S) (ofV T C))) (encV D) mode colls taken steps z (eH (upW (upW H (fr (f + 1)) (ofV H (ofV T C))) (fr f) (vFn (fr (f + 1))))) (eH (upW (upW T (fr (f + 1)) E) (fr f) S)) (eN fr) mk rc (nI f) rN cN tl, b0, b1, op))) : mj_Mt gT cst gnw (m + 3) y_Machine_function [.ref 16] (mW o0 o1 o2 o3 o4 o5 o6 o7 o8 o9 o10 o11 o12 o13 o14 o15 (encV S) (encV E) (encV C) (encV D) mode colls taken steps z (eH H) (eH T) (eN fr) mk rc (nI (f + 2)) rN cN tl, b0, b1, op) Q := by
  intro J hJ
  refine hJ _ _ _ _ ?_
  refine s_tail hz hC ?_
  refine s_head hz (okV_of hB hC) ?_
  refine s_newFunction hz (by omega) (hfr _ (by omega)) ?_
  refine s_newPair hz (by omega) (hfr _ (by omega)) ?_
  refine s_tail hz (okV_of hB hC) ?_
  exact And.intro (Or.inr rfl) hQ
theorem k_giveBack (hz : z ≤ 250) (hA : okA z H) (hB : okA z T) (hfr : ∀ j, j < z → fr j < z) (hS : okV z S) (hE : okV z E) (hC : okV z C) (hD : okV z D) (hf : f + 1 ≤ z) (hQ : Q (.inl (some (.int 1)), (mW o0 o1 o2 o3 o4 o5 o6 o7 o8 o9 o10 o11 o12 o13 o14 o15 (encV (vPr (fr f))) (encV (ofV (upW H (fr f) (ofV H S)) (ofV T D))) (encV (ofV (upW H (fr f) (ofV H S)) (ofV T (ofV T D)))) (encV (ofV (upW T (fr f) (ofV H D)) (ofV T (ofV T D)))) mode colls taken steps z (eH (upW H (fr f) (ofV H S))) (eH (upW T (fr f) (ofV H D))) (eN fr) mk rc (nI f) rN cN tl, b0, b1, op))) : mj_Mt gT cst gnw (m + 3) y_Machine_giveBack [.ref 16] (mW o0 o1 o2 o3 o4 o5 o6 o7 o8 o9 o10 o11 o12 o13 o14 o15 (encV S) (encV E) (encV C) (encV D) mode colls taken steps z (eH H) (eH T) (eN fr) mk rc (nI (f + 1)) rN cN tl, b0, b1, op) Q := by
  intro J hJ
  refine hJ _ _ _ _ ?_
  refine s_head hz hS ?_
  refine s_tail hz hD ?_
  refine s_tail hz (okV_of hB hD) ?_
  refine s_head hz hD ?_
  refine s_newPair hz (by omega) (hfr _ (by omega)) ?_
  refine s_head hz (okV_of hB hD) ?_
  refine s_head hz (okV_of hB (okV_of hB hD)) ?_
  refine s_tail hz (okV_of hB (okV_of hB hD)) ?_
  exact And.intro (Or.inr rfl) hQ
theorem k_frame (hz : z ≤ 250) (hA : okA z H) (hB : okA z T) (hfr : ∀ j, j < z → fr j < z) (hS : okV z S) (hE : okV z E) (hC : okV z C) (hD : okV z D) (hf : f + 1 ≤ z) (hQ : Q (.inl (some (.int 1)), (mW o0 o1 o2 o3 o4 o5 o6 o7 o8 o9 o10 o11 o12 o13 o14 o15 (encV S) (encV (vPr (fr f))) (encV (ofV (upW T (fr f) E) C)) (encV D) mode colls taken steps z (eH (upW H (fr f) vNil)) (eH (upW T (fr f) E)) (eN fr) mk rc (nI f) rN cN tl, b0, b1, op))) : mj_Mt gT cst gnw (m + 3) y_Machine_frame [.ref 16] (mW o0 o1 o2 o3 o4 o5 o6 o7 o8 o9 o10 o11 o12 o13 o14 o15 (encV S) (encV E) (encV C) (encV D) mode colls taken steps z (eH H) (eH T) (eN fr) mk rc (nI (f + 1)) rN cN tl, b0, b1, op) Q := by
  intro J hJ
  refine hJ _ _ _ _ ?_
  refine s_newPair (h := vNil) hz (by omega) (hfr _ (by omega)) ?_
  refine s_tail hz hC ?_
  exact And.intro (Or.inr rfl) hQ
theorem k_rejoin (hz : z ≤ 250) (hA : okA z H) (hB : okA z T) (hfr : ∀ j, j < z → fr j < z) (hS : okV z S) (hE : okV z E) (hC : okV z C) (hD : okV z D) (hQ : Q (.inl (some (.int 1)), (mW o0 o1 o2 o3 o4 o5 o6 o7 o8 o9 o10 o11 o12 o13 o14 o15 (encV S) (encV E) (encV (ofV H D)) (encV (ofV T D)) mode colls taken steps z (eH H) (eH T) (eN fr) mk rc (nI f) rN cN tl, b0, b1, op))) : mj_Mt gT cst gnw (m + 3) y_Machine_rejoin [.ref 16] (mW o0 o1 o2 o3 o4 o5 o6 o7 o8 o9 o10 o11 o12 o13 o14 o15 (encV S) (encV E) (encV C) (encV D) mode colls taken steps z (eH H) (eH T) (eN fr) mk rc (nI f) rN cN tl, b0, b1, op) Q := by
  intro J hJ
  refine hJ _ _ _ _ ?_
  refine s_head hz hD ?_
  refine s_tail hz hD ?_
  exact And.intro (Or.inr rfl) hQ
theorem k_save {V : Vl} (hV : okV z V) (hz : z ≤ 250) (hA : okA z H) (hB : okA z T) (hfr : ∀ j, j < z → fr j < z) (hS : okV z S) (hE : okV z E) (hC : okV z C) (hD : okV z D) (hf : f + 3 ≤ z) (hQ : Q (.inl none, (mW o0 o1 o2 o3 o4 o5 o6 o7 o8 o9 o10 o11 o12 o13 o14 o15 (encV vNil) (encV E) (encV C) (encV (vPr (fr f))) mode colls taken steps z (eH (upW (upW (upW H (fr (f + 2)) (ofV T C)) (fr (f + 1)) V) (fr f) (ofV T (ofV T S)))) (eH (upW (upW (upW T (fr (f + 2)) D) (fr (f + 1)) (vPr (fr (f + 2)))) (fr f) (vPr (fr (f + 1))))) (eN fr) mk rc (nI f) rN cN tl, b0, b1, op))) : mj_Mt gT cst gnw (m + 3) y_Machine_save [.ref 16, .long (encV V)] (mW o0 o1 o2 o3 o4 o5 o6 o7 o8 o9 o10 o11 o12 o13 o14 o15 (encV S) (encV E) (encV C) (encV D) mode colls taken steps z (eH H) (eH T) (eN fr) mk rc (nI (f + 3)) rN cN tl, b0, b1, op) Q := by
  intro J hJ
  refine hJ _ _ _ _ ?_
  refine s_tail hz hS ?_
  refine s_tail hz (okV_of hB hS) ?_
  refine s_tail hz hC ?_
  refine s_newPair hz (by omega) (hfr _ (by omega)) ?_
  refine s_newPair hz (by omega) (hfr _ (by omega)) ?_
  refine s_newPair hz (by omega) (hfr _ (by omega)) ?_
  exact hQ
theorem k_replace {V : Vl} {n : Nat} (hn : n < 1000) (hV : okV z V) (hz : z ≤ 250) (hA : okA z H) (hB : okA z T) (hfr : ∀ j, j < z → fr j < z) (hS : okV z S) (hE : okV z E) (hC : okV z C) (hD : okV z D) (hf : f + 1 ≤ z) (hQ : Q (.inl none, (mW o0 o1 o2 o3 o4 o5 o6 o7 o8 o9 o10 o11 o12 o13 o14 o15 (encV (vPr (fr f))) (encV E) (encV (ofV (upW T (fr f) (behV T n S)) C)) (encV D) mode colls taken steps z (eH (upW H (fr f) V)) (eH (upW T (fr f) (behV T n S))) (eN fr) mk rc (nI f) rN cN tl, b0, b1, op))) : mj_Mt gT cst gnw (m + 4) y_Machine_replace [.ref 16, .int (nI n), .long (encV V)] (mW o0 o1 o2 o3 o4 o5 o6 o7 o8 o9 o10 o11 o12 o13 o14 o15 (encV S) (encV E) (encV C) (encV D) mode colls taken steps z (eH H) (eH T) (eN fr) mk rc (nI (f + 1)) rN cN tl, b0, b1, op) Q := by
  intro J hJ
  refine hJ _ _ _ _ ?_
  refine s_behind hz (by omega) hB hS ?_
  refine s_newPair hz (by omega) (hfr _ (by omega)) ?_
  refine s_tail hz hC ?_
  exact hQ
theorem k_apply (hz : z ≤ 250) (hA : okA z H) (hB : okA z T) (hfr : ∀ j, j < z → fr j < z) (hS : okV z S) (hE : okV z E) (hC : okV z C) (hD : okV z D) (hf : f + 4 ≤ z) (h1 : ¬ kV (ofV H S) = 4 → Q (.inl (some (.int 0)), (mW o0 o1 o2 o3 o4 o5 o6 o7 o8 o9 o10 o11 o12 o13 o14 o15 (encV S) (encV E) (encV C) (encV D) mode colls taken steps z (eH H) (eH T) (eN fr) mk rc (nI (f + 4)) rN cN tl, b0, b1, op))) (h2 : kV (ofV H S) = 4 → Q (.inl (some (.int 1)), (mW o0 o1 o2 o3 o4 o5 o6 o7 o8 o9 o10 o11 o12 o13 o14 o15 (encV vNil) (encV (vPr (fr f))) (encV (ofV (upW (upW (upW (upW H (fr (f + 3)) (ofV T C)) (fr (f + 2)) E) (fr (f + 1)) (ofV T (ofV T S))) (fr f) (ofV H (ofV T S))) (ofV H S))) (encV (vPr (fr (f + 1)))) mode colls taken steps z (eH (upW (upW (upW (upW H (fr (f + 3)) (ofV T C)) (fr (f + 2)) E) (fr (f + 1)) (ofV T (ofV T S))) (fr f) (ofV H (ofV T S)))) (eH (upW (upW (upW (upW T (fr (f + 3)) D) (fr (f + 2)) (vPr (fr (f + 3)))) (fr (f + 1)) (vPr (fr (f + 2)))) (fr f) (ofV (upW (upW (upW T (fr (f + 3)) D) (fr (f + 2)) (vPr (fr (f + 3)))) (fr (f + 1)) (vPr (fr (f + 2)))) (ofV H S)))) (eN fr) mk rc (nI f) rN cN tl, b0, b1, op))) : mj_Mt gT cst gnw (m + 4) y_Machine_apply [.ref 16] (mW o0 o1 o2 o3 o4 o5 o6 o7 o8 o9 o10 o11 o12 o13 o14 o15 (encV S) (encV E) (encV C) (encV D) mode colls taken steps z (eH H) (eH T) (eN fr) mk rc (nI (f + 4)) rN cN tl, b0, b1, op) Q := by
  intro J hJ
  refine hJ _ _ _ _ ?_
  refine s_head hz hS ?_
  refine v_isFunction ?_
  by_cases h4 : kV (ofV H S) = 4
  · rw [show (kV (ofV H S) == 4) = true by simp [h4]]
    refine And.intro (fun _ => ?_) (fun g => absurd g (by decide))
    refine s_tail hz hS ?_
    refine s_head hz (okV_of hB hS) ?_
    refine k_save (f := f + 1) hE hz hA hB hfr hS hE hC hD (by omega) ?_
    refine s_tail hz (okV_of hA hS) ?_
    refine s_newPair hz (by omega) (hfr _ (by omega)) ?_
    refine s_head hz (okV_of hA hS) ?_
    exact And.intro (Or.inr rfl) (h2 h4)
  · rw [show (kV (ofV H S) == 4) = false by simp [h4]]
    refine And.intro (fun g => absurd rfl g) (fun _ => ?_)
    exact And.intro (Or.inl rfl) (h1 h4)
theorem k_choose (hz : z ≤ 250) (hA : okA z H) (hB : okA z T) (hfr : ∀ j, j < z → fr j < z) (hS : okV z S) (hE : okV z E) (hC : okV z C) (hD : okV z D) (hf : f + 1 ≤ z) (h1 : ¬ kV (ofV H S) = 1 → Q (.inl (some (.int 0)), (mW o0 o1 o2 o3 o4 o5 o6 o7 o8 o9 o10 o11 o12 o13 o14 o15 (encV S) (encV E) (encV C) (encV D) mode colls taken steps z (eH H) (eH T) (eN fr) mk rc (nI (f + 1)) rN cN tl, b0, b1, op))) (h2 : kV (ofV H S) = 1 → ¬ (encV (ofV H S)).toInt32 = 0 → Q (.inl (some (.int 1)), (mW o0 o1 o2 o3 o4 o5 o6 o7 o8 o9 o10 o11 o12 o13 o14 o15 (encV (ofV T S)) (encV E) (encV (ofV (upW H (fr f) (ofV T (ofV T (ofV T C)))) (ofV T C))) (encV (vPr (fr f))) mode colls taken steps z (eH (upW H (fr f) (ofV T (ofV T (ofV T C))))) (eH (upW T (fr f) D)) (eN fr) mk rc (nI f) rN cN tl, b0, b1, op))) (h3 : kV (ofV H S) = 1 → (encV (ofV H S)).toInt32 = 0 → Q (.inl (some (.int 1)), (mW o0 o1 o2 o3 o4 o5 o6 o7 o8 o9 o10 o11 o12 o13 o14 o15 (encV (ofV T S)) (encV E) (encV (ofV (upW H (fr f) (ofV T (ofV T (ofV T C)))) (ofV T (ofV T C)))) (encV (vPr (fr f))) mode colls taken steps z (eH (upW H (fr f) (ofV T (ofV T (ofV T C))))) (eH (upW T (fr f) D)) (eN fr) mk rc (nI f) rN cN tl, b0, b1, op))) : mj_Mt gT cst gnw (m + 3) y_Machine_choose [.ref 16] (mW o0 o1 o2 o3 o4 o5 o6 o7 o8 o9 o10 o11 o12 o13 o14 o15 (encV S) (encV E) (encV C) (encV D) mode colls taken steps z (eH H) (eH T) (eN fr) mk rc (nI (f + 1)) rN cN tl, b0, b1, op) Q := by
  intro J hJ
  refine hJ _ _ _ _ ?_
  refine s_head hz hS ?_
  refine v_isNumber ?_
  by_cases h4 : kV (ofV H S) = 1
  · rw [show (kV (ofV H S) == 1) = true by simp [h4]]
    refine And.intro (fun _ => ?_) (fun g => absurd g (by decide))
    refine s_tail hz hC ?_
    refine s_tail hz (okV_of hB hC) ?_
    refine s_tail hz hS ?_
    refine s_tail hz (okV_of hB (okV_of hB hC)) ?_
    refine s_newPair hz (by omega) (hfr _ (by omega)) ?_
    refine v_content ?_
    refine And.intro (fun g => ?_) (fun g => ?_)
    · refine s_head hz (okV_of hB (okV_of hB hC)) ?_
      exact And.intro (Or.inr rfl) (h3 h4 g)
    · refine s_head hz (okV_of hB hC) ?_
      exact And.intro (Or.inr rfl) (h2 h4 g)
  · rw [show (kV (ofV H S) == 1) = false by simp [h4]]
    refine And.intro (fun g => absurd rfl g) (fun _ => ?_)
    exact And.intro (Or.inl rfl) (h1 h4)
theorem k_applyInFrame (hz : z ≤ 250) (hA : okA z H) (hB : okA z T) (hfr : ∀ j, j < z → fr j < z) (hS : okV z S) (hE : okV z E) (hC : okV z C) (hD : okV z D) (hf : f + 3 ≤ z) (h1 : ¬ kV (ofV H S) = 4 → Q (.inl (some (.int 0)), (mW o0 o1 o2 o3 o4 o5 o6 o7 o8 o9 o10 o11 o12 o13 o14 o15 (encV S) (encV E) (encV C) (encV D) mode colls taken steps z (eH H) (eH T) (eN fr) mk rc (nI (f + 3)) rN cN tl, b0, b1, op))) (h2 : kV (ofV H S) = 4 → ∀ i, cV (ofV (upW (upW (upW T (fr (f + 2)) D) (fr (f + 1)) (vPr (fr (f + 2)))) (fr f) (vPr (fr (f + 1)))) (ofV H S)) = nI i → i < z → Q (.inl (some (.int 1)), (mW o0 o1 o2 o3 o4 o5 o6 o7 o8 o9 o10 o11 o12 o13 o14 o15 (encV vNil) (encV (ofV (upW (upW (upW T (fr (f + 2)) D) (fr (f + 1)) (vPr (fr (f + 2)))) (fr f) (vPr (fr (f + 1)))) (ofV H S))) (encV (ofV (upW (upW (upW (upW H (fr (f + 2)) (ofV T C)) (fr (f + 1)) (ofV T E)) (fr f) (ofV T (ofV T S))) i (ofV H (ofV T S))) (ofV H S))) (encV (vPr (fr f))) mode colls taken steps z (eH (upW (upW (upW (upW H (fr (f + 2)) (ofV T C)) (fr (f + 1)) (ofV T E)) (fr f) (ofV T (ofV T S))) i (ofV H (ofV T S)))) (eH (upW (upW (upW T (fr (f + 2)) D) (fr (f + 1)) (vPr (fr (f + 2)))) (fr f) (vPr (fr (f + 1))))) (eN fr) mk rc (nI f) rN cN tl, b0, b1, op))) (h3 : kV (ofV H S) = 4 → cV (ofV (upW (upW (upW T (fr (f + 2)) D) (fr (f + 1)) (vPr (fr (f + 2)))) (fr f) (vPr (fr (f + 1)))) (ofV H S)) = -1 → Q (.inl (some (.int 1)), (mW o0 o1 o2 o3 o4 o5 o6 o7 o8 o9 o10 o11 o12 o13 o14 o15 (encV vNil) (encV (ofV (upW (upW (upW T (fr (f + 2)) D) (fr (f + 1)) (vPr (fr (f + 2)))) (fr f) (vPr (fr (f + 1)))) (ofV H S))) (encV (ofV (upW (upW (upW H (fr (f + 2)) (ofV T C)) (fr (f + 1)) (ofV T E)) (fr f) (ofV T (ofV T S))) (ofV H S))) (encV (vPr (fr f))) mode colls taken steps z (eH (upW (upW (upW H (fr (f + 2)) (ofV T C)) (fr (f + 1)) (ofV T E)) (fr f) (ofV T (ofV T S)))) (eH (upW (upW (upW T (fr (f + 2)) D) (fr (f + 1)) (vPr (fr (f + 2)))) (fr f) (vPr (fr (f + 1))))) (eN fr) mk rc (nI f) rN cN tl, b0, b1, op))) : mj_Mt gT cst gnw (m + 4) y_Machine_applyInFrame [.ref 16] (mW o0 o1 o2 o3 o4 o5 o6 o7 o8 o9 o10 o11 o12 o13 o14 o15 (encV S) (encV E) (encV C) (encV D) mode colls taken steps z (eH H) (eH T) (eN fr) mk rc (nI (f + 3)) rN cN tl, b0, b1, op) Q := by
  intro J hJ
  refine hJ _ _ _ _ ?_
  refine s_head hz hS ?_
  refine v_isFunction ?_
  by_cases h4 : kV (ofV H S) = 4
  · rw [show (kV (ofV H S) == 4) = true by simp [h4]]
    refine And.intro (fun _ => ?_) (fun g => absurd g (by decide))
    refine s_tail hz hS ?_
    refine s_head hz (okV_of hB hS) ?_
    refine s_tail hz hE ?_
    refine k_save (f := f) (okV_of hB hE) hz hA hB hfr hS hE hC hD (by omega) ?_
    refine s_tail hz (okV_of hA hS) ?_
    refine s_setHead hz (okV_of (okA_upd (okA_upd (okA_upd hB hD) (hfr _ (by omega))) (hfr _ (by omega))) (okV_of hA hS)) (fun i hi hiz => ?_) (fun hi => ?_)
    · refine s_head hz (okV_of hA hS) ?_
      exact And.intro (Or.inr rfl) (h2 h4 i hi hiz)
    · refine s_head hz (okV_of hA hS) ?_
      exact And.intro (Or.inr rfl) (h3 h4 hi)
  · rw [show (kV (ofV H S) == 4) = false by simp [h4]]
    refine And.intro (fun g => absurd rfl g) (fun _ => ?_)
    exact And.intro (Or.inl rfl) (h1 h4)
theorem k_pair (hz : z ≤ 250) (hA : okA z H) (hB : okA z T) (hfr : ∀ j, j < z → fr j < z) (hS : okV z S) (hE : okV z E) (hC : okV z C) (hD : okV z D) (hf : f + 2 ≤ z) (hQ : Q (.inl (some (.int 1)), (mW o0 o1 o2 o3 o4 o5 o6 o7 o8 o9 o10 o11 o12 o13 o14 o15 (encV (vPr (fr f))) (encV E) (encV (ofV (upW (upW T (fr (f + 1)) (ofV H (ofV T S))) (fr f) (behV (upW T (fr (f + 1)) (ofV H (ofV T S))) 2 S)) C)) (encV D) mode colls taken steps z (eH (upW (upW H (fr (f + 1)) (ofV H S)) (fr f) (vPr (fr (f + 1))))) (eH (upW (upW T (fr (f + 1)) (ofV H (ofV T S))) (fr f) (behV (upW T (fr (f + 1)) (ofV H (ofV T S))) 2 S))) (eN fr) mk rc (nI f) rN cN tl, b0, b1, op))) : mj_Mt gT cst gnw (m + 5) y_Machine_pair [.ref 16] (mW o0 o1 o2 o3 o4 o5 o6 o7 o8 o9 o10 o11 o12 o13 o14 o15 (encV S) (encV E) (encV C) (encV D) mode colls taken steps z (eH H) (eH T) (eN fr) mk rc (nI (f + 2)) rN cN tl, b0, b1, op) Q := by
  intro J hJ
  refine hJ _ _ _ _ ?_
  refine s_head hz hS ?_
  refine s_tail hz hS ?_
  refine s_head hz (okV_of hB hS) ?_
  refine s_newPair hz (by omega) (hfr _ (by omega)) ?_
  refine k_replace (n := 2) (by decide) (hfr _ (by omega)) hz (okA_upd hA (okV_of hA hS)) (okA_upd hB (okV_of hA (okV_of hB hS))) hfr hS hE hC hD (by omega) ?_
  exact And.intro (Or.inr rfl) hQ
theorem k_isNoPair (hz : z ≤ 250) (hA : okA z H) (hB : okA z T) (hfr : ∀ j, j < z → fr j < z) (hS : okV z S) (hE : okV z E) (hC : okV z C) (hD : okV z D) (hf : f + 1 ≤ z) (h1 : kV (ofV H S) = 3 → Q (.inl (some (.int 1)), (mW o0 o1 o2 o3 o4 o5 o6 o7 o8 o9 o10 o11 o12 o13 o14 o15 (encV (vPr (fr f))) (encV E) (encV (ofV (upW T (fr f) (behV T 1 S)) C)) (encV D) mode colls taken steps z (eH (upW H (fr f) (vInt 0))) (eH (upW T (fr f) (behV T 1 S))) (eN fr) mk rc (nI f) rN cN tl, b0, b1, op))) (h2 : ¬ kV (ofV H S) = 3 → Q (.inl (some (.int 1)), (mW o0 o1 o2 o3 o4 o5 o6 o7 o8 o9 o10 o11 o12 o13 o14 o15 (encV (vPr (fr f))) (encV E) (encV (ofV (upW T (fr f) (behV T 1 S)) C)) (encV D) mode colls taken steps z (eH (upW H (fr f) (vInt 1))) (eH (upW T (fr f) (behV T 1 S))) (eN fr) mk rc (nI f) rN cN tl, b0, b1, op))) : mj_Mt gT cst gnw (m + 5) y_Machine_isNoPair [.ref 16] (mW o0 o1 o2 o3 o4 o5 o6 o7 o8 o9 o10 o11 o12 o13 o14 o15 (encV S) (encV E) (encV C) (encV D) mode colls taken steps z (eH H) (eH T) (eN fr) mk rc (nI (f + 1)) rN cN tl, b0, b1, op) Q := by
  intro J hJ
  refine hJ _ _ _ _ ?_
  refine s_head hz hS ?_
  refine v_isPair ?_
  by_cases h4 : kV (ofV H S) = 3
  · rw [show (kV (ofV H S) == 3) = true by simp [h4]]
    refine And.intro (fun g => absurd g (by decide)) (fun _ => ?_)
    refine v_number (x := 0) ?_
    refine k_replace (n := 1) (by decide) trivial hz hA hB hfr hS hE hC hD (by omega) ?_
    exact And.intro (Or.inr rfl) (h1 h4)
  · rw [show (kV (ofV H S) == 3) = false by simp [h4]]
    refine And.intro (fun _ => ?_) (fun g => absurd rfl g)
    refine v_number (x := 1) ?_
    refine k_replace (n := 1) (by decide) trivial hz hA hB hfr hS hE hC hD (by omega) ?_
    exact And.intro (Or.inr rfl) (h2 h4)
theorem k_partOfPair {w : Int32} (hz : z ≤ 250) (hA : okA z H) (hB : okA z T) (hfr : ∀ j, j < z → fr j < z) (hS : okV z S) (hE : okV z E) (hC : okV z C) (hD : okV z D) (hf : f + 1 ≤ z) (h1 : ¬ kV (ofV H S) = 3 → Q (.inl (some (.int 0)), (mW o0 o1 o2 o3 o4 o5 o6 o7 o8 o9 o10 o11 o12 o13 o14 o15 (encV S) (encV E) (encV C) (encV D) mode colls taken steps z (eH H) (eH T) (eN fr) mk rc (nI (f + 1)) rN cN tl, b0, b1, op))) (h2 : kV (ofV H S) = 3 → w = 10 → Q (.inl (some (.int 1)), (mW o0 o1 o2 o3 o4 o5 o6 o7 o8 o9 o10 o11 o12 o13 o14 o15 (encV (vPr (fr f))) (encV E) (encV (ofV (upW T (fr f) (behV T 1 S)) C)) (encV D) mode colls taken steps z (eH (upW H (fr f) (ofV H (ofV H S)))) (eH (upW T (fr f) (behV T 1 S))) (eN fr) mk rc (nI f) rN cN tl, b0, b1, op))) (h3 : kV (ofV H S) = 3 → ¬ w = 10 → Q (.inl (some (.int 1)), (mW o0 o1 o2 o3 o4 o5 o6 o7 o8 o9 o10 o11 o12 o13 o14 o15 (encV (vPr (fr f))) (encV E) (encV (ofV (upW T (fr f) (behV T 1 S)) C)) (encV D) mode colls taken steps z (eH (upW H (fr f) (ofV T (ofV H S)))) (eH (upW T (fr f) (behV T 1 S))) (eN fr) mk rc (nI f) rN cN tl, b0, b1, op))) : mj_Mt gT cst gnw (m + 5) y_Machine_partOfPair [.ref 16, .int w] (mW o0 o1 o2 o3 o4 o5 o6 o7 o8 o9 o10 o11 o12 o13 o14 o15 (encV S) (encV E) (encV C) (encV D) mode colls taken steps z (eH H) (eH T) (eN fr) mk rc (nI (f + 1)) rN cN tl, b0, b1, op) Q := by
  intro J hJ
  refine hJ _ _ _ _ ?_
  refine s_head hz hS ?_
  refine v_isPair ?_
  by_cases h4 : kV (ofV H S) = 3
  · rw [show (kV (ofV H S) == 3) = true by simp [h4]]
    refine And.intro (fun _ => ?_) (fun g => absurd g (by decide))
    refine And.intro (fun (g : ¬ w = 10) => ?_) (fun (g : w = 10) => ?_)
    · refine s_tail hz (okV_of hA hS) ?_
      refine k_replace (n := 1) (by decide) (okV_of hB (okV_of hA hS)) hz hA hB hfr hS hE hC hD (by omega) ?_
      exact And.intro (Or.inr rfl) (h3 h4 g)
    · refine s_head hz (okV_of hA hS) ?_
      refine k_replace (n := 1) (by decide) (okV_of hA (okV_of hA hS)) hz hA hB hfr hS hE hC hD (by omega) ?_
      exact And.intro (Or.inr rfl) (h2 h4 g)
  · rw [show (kV (ofV H S) == 3) = false by simp [h4]]
    refine And.intro (fun g => absurd rfl g) (fun _ => ?_)
    exact And.intro (Or.inl rfl) (h1 h4)
def calV (w x y : Int32) : Int32 := if w = 15 then x + y else if w = 16 then x - y else if w = 17 then x * y else if x < y then 1 else 0
theorem k_calculated {h : mj_H} {w x y : Int32} (hQ : Q (.inl (some (.int (calV w x y))), h)) : mj_Mt gT cst gnw (m + 1) y_Machine_calculated [.int w, .int x, .int y] h Q := by
  intro J hJ
  refine hJ _ _ _ _ ?_
  unfold calV at hQ
  refine And.intro (fun (g : w = 15) => ?_) (fun (g : ¬ w = 15) => And.intro (fun (g2 : w = 16) => ?_) (fun (g2 : ¬ w = 16) => And.intro (fun (g3 : w = 17) => ?_) (fun (g3 : ¬ w = 17) => ?_)))
  · rw [if_pos g] at hQ
    exact hQ
  · rw [if_neg g, if_pos g2] at hQ
    exact hQ
  · rw [if_neg g, if_neg g2, if_pos g3] at hQ
    exact hQ
  · rw [if_neg g, if_neg g2, if_neg g3] at hQ
    refine And.intro (fun (g4 : y ≤ x) => ?_) (fun (g4 : ¬ y ≤ x) => ?_)
    · rw [if_neg (Int32.not_lt.mpr g4)] at hQ
      exact hQ
    · rw [if_pos (Int32.not_le.mp g4)] at hQ
      exact hQ
theorem k_calculate {w : Int32} (hz : z ≤ 250) (hA : okA z H) (hB : okA z T) (hfr : ∀ j, j < z → fr j < z) (hS : okV z S) (hE : okV z E) (hC : okV z C) (hD : okV z D) (hf : f + 1 ≤ z) (h1 : ¬ (kV (ofV H (ofV T S)) = 1 ∧ kV (ofV H S) = 1) → Q (.inl (some (.int 0)), (mW o0 o1 o2 o3 o4 o5 o6 o7 o8 o9 o10 o11 o12 o13 o14 o15 (encV S) (encV E) (encV C) (encV D) mode colls taken steps z (eH H) (eH T) (eN fr) mk rc (nI (f + 1)) rN cN tl, b0, b1, op))) (h2 : kV (ofV H (ofV T S)) = 1 → kV (ofV H S) = 1 → Q (.inl (some (.int 1)), (mW o0 o1 o2 o3 o4 o5 o6 o7 o8 o9 o10 o11 o12 o13 o14 o15 (encV (vPr (fr f))) (encV E) (encV (ofV (upW T (fr f) (behV T 2 S)) C)) (encV D) mode colls taken steps z (eH (upW H (fr f) (vInt (calV w (encV (ofV H (ofV T S))).toInt32 (encV (ofV H S)).toInt32)))) (eH (upW T (fr f) (behV T 2 S))) (eN fr) mk rc (nI f) rN cN tl, b0, b1, op))) : mj_Mt gT cst gnw (m + 5) y_Machine_calculate [.ref 16, .int w] (mW o0 o1 o2 o3 o4 o5 o6 o7 o8 o9 o10 o11 o12 o13 o14 o15 (encV S) (encV E) (encV C) (encV D) mode colls taken steps z (eH H) (eH T) (eN fr) mk rc (nI (f + 1)) rN cN tl, b0, b1, op) Q := by
  intro J hJ
  refine hJ _ _ _ _ ?_
  refine s_head hz hS ?_
  refine s_tail hz hS ?_
  refine s_head hz (okV_of hB hS) ?_
  refine v_isNumber ?_
  by_cases h4 : kV (ofV H (ofV T S)) = 1
  · rw [show (kV (ofV H (ofV T S)) == 1) = true by simp [h4]]
    refine And.intro (fun g => absurd g (by decide)) (fun _ => ?_)
    refine v_isNumber ?_
    by_cases h5 : kV (ofV H S) = 1
    · rw [show (kV (ofV H S) == 1) = true by simp [h5]]
      refine And.intro (fun _ => ?_) (fun g => absurd g (by decide))
      refine v_content ?_
      refine v_content ?_
      refine k_calculated ?_
      refine v_number ?_
      refine k_replace (n := 2) (by decide) trivial hz hA hB hfr hS hE hC hD (by omega) ?_
      exact And.intro (Or.inr rfl) (h2 h4 h5)
    · rw [show (kV (ofV H S) == 1) = false by simp [h5]]
      refine And.intro (fun g => absurd rfl g) (fun _ => ?_)
      exact And.intro (Or.inl rfl) (h1 (fun q => h5 q.2))
  · rw [show (kV (ofV H (ofV T S)) == 1) = false by simp [h4]]
    refine And.intro (fun _ => ?_) (fun g => absurd rfl g)
    exact And.intro (Or.inl rfl) (h1 (fun q => h4 q.1))
theorem k_instruction (hz : z ≤ 250) (hA : okA z H) (hB : okA z T) (hfr : ∀ j, j < z → fr j < z) (hS : okV z S) (hE : okV z E) (hC : okV z C) (hD : okV z D) (hQ : Q (.inl (some (.int (encV (ofV H C)).toInt32)), (mW o0 o1 o2 o3 o4 o5 o6 o7 o8 o9 o10 o11 o12 o13 o14 o15 (encV S) (encV E) (encV C) (encV D) mode colls taken steps z (eH H) (eH T) (eN fr) mk rc (nI f) rN cN tl, b0, b1, op))) : mj_Mt gT cst gnw (m + 3) y_Machine_instruction [.ref 16] (mW o0 o1 o2 o3 o4 o5 o6 o7 o8 o9 o10 o11 o12 o13 o14 o15 (encV S) (encV E) (encV C) (encV D) mode colls taken steps z (eH H) (eH T) (eN fr) mk rc (nI f) rN cN tl, b0, b1, op) Q := by
  intro J hJ
  refine hJ _ _ _ _ ?_
  refine s_head hz hC ?_
  exact v_content hQ
end P2c
