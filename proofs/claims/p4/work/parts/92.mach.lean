section
def mW (o0 o1 o2 o3 o4 o5 o6 o7 o8 o9 o10 o11 o12 o13 o14 o15 : mj_O) (S E C D : Int64) (mode colls taken steps : Int32) (z : Nat) (H T : Nat → Int64) (fr mk rc : Nat → Int32) (fN rN cN : Int32) (tl : List mj_O) : List mj_O :=
  sW o0 o1 o2 o3 o4 o5 o6 o7 o8 o9 o10 o11 o12 o13 o14 o15 (oF 6 [.ref 17, .ref 23, .long S, .long E, .long C, .long D, .int mode, .int colls, .int taken, .int steps]) z H T fr mk rc fN rN cN tl
def okA (z : Nat) (g : Nat → Vl) : Prop := ∀ i, i < z → okV z (g i)
theorem okV_of {z : Nat} {g : Nat → Vl} {v : Vl} (hg : okA z g) (hv : okV z v) : okV z (ofV g v) := by
  rcases v with u | x | x | i | i
  · exact trivial
  · exact trivial
  · exact trivial
  · exact hg i hv
  · exact hg i hv
theorem okA_upd {z k : Nat} {g : Nat → Vl} {x : Vl} (hg : okA z g) (hx : okV z x) : okA z (upW g k x) := by
  intro i hi
  unfold upW
  split
  · exact hx
  · exact hg i hi
theorem nI_16 {n : Nat} (h : n < 2 ^ 31) : nI n / Int32.ofInt 16 = nI (n / 16) ∧ nI n - nI n / Int32.ofInt 16 * Int32.ofInt 16 = nI (n % 16) := by
  have h1 : nI n / Int32.ofInt 16 = nI (n / 16) := by
    apply Int32.toInt_inj.mp
    rw [Int32.toInt_div, nI_toInt h, nI_toInt (by omega), show (Int32.ofInt 16).toInt = 16 by decide]
    rw [show ((n : Int).tdiv 16) = ((n / 16 : Nat) : Int) by rw [Int.tdiv_eq_ediv_of_nonneg (by omega)]; rfl]
    apply Int.bmod_eq_of_le <;> omega
  refine ⟨h1, ?_⟩
  rw [h1, show Int32.ofInt 16 = nI 16 by decide]
  have h2 : nI (n / 16) * nI 16 = nI (n / 16 * 16) := (Int32.ofNat_mul _ _).symm
  rw [h2]
  have h3 : nI n = nI (n % 16) + nI (n / 16 * 16) := by
    rw [nI_add]
    congr 1
    omega
  rw [h3, Int32.add_sub_cancel]
section P2c
variable {cst : Nat → Option (Nat × (Nat → Int32))} {m b0 b1 : Nat} {op : Bool} {tl : List mj_O} {Q : mj_R → Prop}
variable {o0 o1 o2 o3 o4 o5 o6 o7 o8 o9 o10 o11 o12 o13 o14 o15 : mj_O} {S E C D : Vl} {mode colls taken steps : Int32} {z : Nat} {H T : Nat → Vl} {fr : Nat → Nat} {mk rc : Nat → Int32} {f : Nat} {rN cN : Int32}
set_option maxRecDepth 10000
theorem k_constant (hz : z ≤ 250) (hA : okA z H) (hB : okA z T) (hfr : ∀ j, j < z → fr j < z) (hS : okV z S) (hE : okV z E) (hC : okV z C) (hD : okV z D) (hf : f + 1 ≤ z) (hQ : Q (.inl (some (.int 1)), (mW o0 o1 o2 o3 o4 o5 o6 o7 o8 o9 o10 o11 o12 o13 o14 o15 (encV (vPr (fr f))) (encV E) (encV (ofV (upW T (fr f) S) (ofV T C))) (encV D) mode colls taken steps z (eH (upW H (fr f) (ofV H (ofV T C)))) (eH (upW T (fr f) S)) (eN fr) mk rc (nI f) rN cN tl, b0, b1, op))) : mj_Mt gT cst gnw (m + 3) y_Machine_constant [.ref 16] (mW o0 o1 o2 o3 o4 o5 o6 o7 o8 o9 o10 o11 o12 o13 o14 o15 (encV S) (encV E) (encV C) (encV D) mode colls taken steps z (eH H) (eH T) (eN fr) mk rc (nI (f + 1)) rN cN tl, b0, b1, op) Q := by
  intro J hJ
  refine hJ _ _ _ _ ?_
  refine s_tail hz hC ?_
  refine s_head hz (okV_of hB hC) ?_
  refine s_newPair hz (by omega) (hfr _ (by omega)) ?_
  refine s_tail hz (okV_of hB hC) ?_
  exact And.intro (Or.inr rfl) hQ
theorem k_function (hz : z ≤ 250) (hA : okA z H) (hB : okA z T) (hfr : ∀ j, j < z → fr j < z) (hS : okV z S) (hE : okV z E) (hC : okV z C) (hD : okV z D) (hf : f + 2 ≤ z) (hQ : Q (.inl (some (.int 1)), (mW o0 o1 o2 o3 o4 o5 o6 o7 o8 o9 o10 o11 o12 o13 o14 o15 (encV (vPr (fr f))) (encV E) (encV (ofV (upW (upW T (fr (f + 1)) E) (fr f) S) (ofV T C))) (encV D) mode colls taken steps z (eH (upW (upW H (fr (f + 1)) (ofV H (ofV T C))) (fr f) (vFn (fr (f + 1))))) (eH (upW (upW T (fr (f + 1)) E) (fr f) S)) (eN fr) mk rc (nI f) rN cN tl, b0, b1, op))) : mj_Mt gT cst gnw (m + 3) y_Machine_function [.ref 16] (mW o0 o1 o2 o3 o4 o5 o6 o7 o8 o9 o10 o11 o12 o13 o14 o15 (encV S) (encV E) (encV C) (encV D) mode colls taken steps z (eH H) (eH T) (eN fr) mk rc (nI (f + 2)) rN cN tl, b0, b1, op) Q := by
  intro J hJ
  refine hJ _ _ _ _ ?_
  refine s_tail hz hC ?_
  refine s_head hz (okV_of hB hC) ?_
  refine s_newFunction hz (by omega) (hfr _ (by omega)) ?_
  refine s_newPair hz (by omega) (hfr _ (by omega)) ?_
  refine s_tail hz (okV_of hB hC) ?_
  exact And.intro (Or.inr rfl) hQ
theorem k_giveBack (hz : z ≤ 250) (hA : okA z H) (hB : okA z T) (hfr : ∀ j, j < z → fr j < z) (hS : okV z S) (hE : okV z E) (hC : okV z C) (hD : okV z D) (hf : f + 1 ≤ z) (hQ : Q (.inl (some (.int 1)), (mW o0 o1 o2 o3 o4 o5 o6 o7 o8 o9 o10 o11 o12 o13 o14 o15 (encV (vPr (fr f))) (encV (ofV (upW H (fr f) (ofV H S)) (ofV T D))) (encV (ofV (upW H (fr f) (ofV H S)) (ofV T (ofV T D)))) (encV (ofV (upW T (fr f) (ofV H D)) (ofV T (ofV T D)))) mode colls taken steps z (eH (upW H (fr f) (ofV H S))) (eH (upW T (fr f) (ofV H D))) (eN fr) mk rc (nI f) rN cN tl, b0, b1, op))) : mj_Mt gT cst gnw (m + 3) y_Machine_giveBack [.ref 16] (mW o0 o1 o2 o3 o4 o5 o6 o7 o8 o9 o10 o11 o12 o13 o14 o15 (encV S) (encV E) (encV C) (encV D) mode colls taken steps z (eH H) (eH T) (eN fr) mk rc (nI (f + 1)) rN cN tl, b0, b1, op) Q := by
  intro J hJ
  refine hJ _ _ _ _ ?_
  refine s_head hz hS ?_
  refine s_tail hz hD ?_
  refine s_tail hz (okV_of hB hD) ?_
  refine s_head hz hD ?_
  refine s_newPair hz (by omega) (hfr _ (by omega)) ?_
  refine s_head hz (okV_of hB hD) ?_
  refine s_head hz (okV_of hB (okV_of hB hD)) ?_
  refine s_tail hz (okV_of hB (okV_of hB hD)) ?_
  exact And.intro (Or.inr rfl) hQ
theorem k_frame (hz : z ≤ 250) (hA : okA z H) (hB : okA z T) (hfr : ∀ j, j < z → fr j < z) (hS : okV z S) (hE : okV z E) (hC : okV z C) (hD : okV z D) (hf : f + 1 ≤ z) (hQ : Q (.inl (some (.int 1)), (mW o0 o1 o2 o3 o4 o5 o6 o7 o8 o9 o10 o11 o12 o13 o14 o15 (encV S) (encV (vPr (fr f))) (encV (ofV (upW T (fr f) E) C)) (encV D) mode colls taken steps z (eH (upW H (fr f) vNil)) (eH (upW T (fr f) E)) (eN fr) mk rc (nI f) rN cN tl, b0, b1, op))) : mj_Mt gT cst gnw (m + 3) y_Machine_frame [.ref 16] (mW o0 o1 o2 o3 o4 o5 o6 o7 o8 o9 o10 o11 o12 o13 o14 o15 (encV S) (encV E) (encV C) (encV D) mode colls taken steps z (eH H) (eH T) (eN fr) mk rc (nI (f + 1)) rN cN tl, b0, b1, op) Q := by
  intro J hJ
  refine hJ _ _ _ _ ?_
  refine s_newPair (h := vNil) hz (by omega) (hfr _ (by omega)) ?_
  refine s_tail hz hC ?_
  exact And.intro (Or.inr rfl) hQ
theorem k_rejoin (hz : z ≤ 250) (hA : okA z H) (hB : okA z T) (hfr : ∀ j, j < z → fr j < z) (hS : okV z S) (hE : okV z E) (hC : okV z C) (hD : okV z D) (hQ : Q (.inl (some (.int 1)), (mW o0 o1 o2 o3 o4 o5 o6 o7 o8 o9 o10 o11 o12 o13 o14 o15 (encV S) (encV E) (encV (ofV H D)) (encV (ofV T D)) mode colls taken steps z (eH H) (eH T) (eN fr) mk rc (nI f) rN cN tl, b0, b1, op))) : mj_Mt gT cst gnw (m + 3) y_Machine_rejoin [.ref 16] (mW o0 o1 o2 o3 o4 o5 o6 o7 o8 o9 o10 o11 o12 o13 o14 o15 (encV S) (encV E) (encV C) (encV D) mode colls taken steps z (eH H) (eH T) (eN fr) mk rc (nI f) rN cN tl, b0, b1, op) Q := by
  intro J hJ
  refine hJ _ _ _ _ ?_
  refine s_head hz hD ?_
  refine s_tail hz hD ?_
  exact And.intro (Or.inr rfl) hQ
theorem k_save {V : Vl} (hV : okV z V) (hz : z ≤ 250) (hA : okA z H) (hB : okA z T) (hfr : ∀ j, j < z → fr j < z) (hS : okV z S) (hE : okV z E) (hC : okV z C) (hD : okV z D) (hf : f + 3 ≤ z) (hQ : Q (.inl none, (mW o0 o1 o2 o3 o4 o5 o6 o7 o8 o9 o10 o11 o12 o13 o14 o15 (encV vNil) (encV E) (encV C) (encV (vPr (fr f))) mode colls taken steps z (eH (upW (upW (upW H (fr (f + 2)) (ofV T C)) (fr (f + 1)) V) (fr f) (ofV T (ofV T S)))) (eH (upW (upW (upW T (fr (f + 2)) D) (fr (f + 1)) (vPr (fr (f + 2)))) (fr f) (vPr (fr (f + 1))))) (eN fr) mk rc (nI f) rN cN tl, b0, b1, op))) : mj_Mt gT cst gnw (m + 3) y_Machine_save [.ref 16, .long (encV V)] (mW o0 o1 o2 o3 o4 o5 o6 o7 o8 o9 o10 o11 o12 o13 o14 o15 (encV S) (encV E) (encV C) (encV D) mode colls taken steps z (eH H) (eH T) (eN fr) mk rc (nI (f + 3)) rN cN tl, b0, b1, op) Q := by
  intro J hJ
  refine hJ _ _ _ _ ?_
  refine s_tail hz hS ?_
  refine s_tail hz (okV_of hB hS) ?_
  refine s_tail hz hC ?_
  refine s_newPair hz (by omega) (hfr _ (by omega)) ?_
  refine s_newPair hz (by omega) (hfr _ (by omega)) ?_
  refine s_newPair hz (by omega) (hfr _ (by omega)) ?_
  exact hQ
theorem k_replace {V : Vl} {n : Nat} (hn : n < 1000) (hV : okV z V) (hz : z ≤ 250) (hA : okA z H) (hB : okA z T) (hfr : ∀ j, j < z → fr j < z) (hS : okV z S) (hE : okV z E) (hC : okV z C) (hD : okV z D) (hf : f + 1 ≤ z) (hQ : Q (.inl none, (mW o0 o1 o2 o3 o4 o5 o6 o7 o8 o9 o10 o11 o12 o13 o14 o15 (encV (vPr (fr f))) (encV E) (encV (ofV (upW T (fr f) (behV T n S)) C)) (encV D) mode colls taken steps z (eH (upW H (fr f) V)) (eH (upW T (fr f) (behV T n S))) (eN fr) mk rc (nI f) rN cN tl, b0, b1, op))) : mj_Mt gT cst gnw (m + 4) y_Machine_replace [.ref 16, .int (nI n), .long (encV V)] (mW o0 o1 o2 o3 o4 o5 o6 o7 o8 o9 o10 o11 o12 o13 o14 o15 (encV S) (encV E) (encV C) (encV D) mode colls taken steps z (eH H) (eH T) (eN fr) mk rc (nI (f + 1)) rN cN tl, b0, b1, op) Q := by
  intro J hJ
  refine hJ _ _ _ _ ?_
  refine s_behind hz (by omega) hB hS ?_
  refine s_newPair hz (by omega) (hfr _ (by omega)) ?_
  refine s_tail hz hC ?_
  exact hQ
theorem k_apply (hz : z ≤ 250) (hA : okA z H) (hB : okA z T) (hfr : ∀ j, j < z → fr j < z) (hS : okV z S) (hE : okV z E) (hC : okV z C) (hD : okV z D) (hf : f + 4 ≤ z) (h1 : ¬ kV (ofV H S) = 4 → Q (.inl (some (.int 0)), (mW o0 o1 o2 o3 o4 o5 o6 o7 o8 o9 o10 o11 o12 o13 o14 o15 (encV S) (encV E) (encV C) (encV D) mode colls taken steps z (eH H) (eH T) (eN fr) mk rc (nI (f + 4)) rN cN tl, b0, b1, op))) (h2 : kV (ofV H S) = 4 → Q (.inl (some (.int 1)), (mW o0 o1 o2 o3 o4 o5 o6 o7 o8 o9 o10 o11 o12 o13 o14 o15 (encV vNil) (encV (vPr (fr f))) (encV (ofV (upW (upW (upW (upW H (fr (f + 3)) (ofV T C)) (fr (f + 2)) E) (fr (f + 1)) (ofV T (ofV T S))) (fr f) (ofV H (ofV T S))) (ofV H S))) (encV (vPr (fr (f + 1)))) mode colls taken steps z (eH (upW (upW (upW (upW H (fr (f + 3)) (ofV T C)) (fr (f + 2)) E) (fr (f + 1)) (ofV T (ofV T S))) (fr f) (ofV H (ofV T S)))) (eH (upW (upW (upW (upW T (fr (f + 3)) D) (fr (f + 2)) (vPr (fr (f + 3)))) (fr (f + 1)) (vPr (fr (f + 2)))) (fr f) (ofV (upW (upW (upW T (fr (f + 3)) D) (fr (f + 2)) (vPr (fr (f + 3)))) (fr (f + 1)) (vPr (fr (f + 2)))) (ofV H S)))) (eN fr) mk rc (nI f) rN cN tl, b0, b1, op))) : mj_Mt gT cst gnw (m + 4) y_Machine_apply [.ref 16] (mW o0 o1 o2 o3 o4 o5 o6 o7 o8 o9 o10 o11 o12 o13 o14 o15 (encV S) (encV E) (encV C) (encV D) mode colls taken steps z (eH H) (eH T) (eN fr) mk rc (nI (f + 4)) rN cN tl, b0, b1, op) Q := by
  intro J hJ
  refine hJ _ _ _ _ ?_
  refine s_head hz hS ?_
  refine v_isFunction ?_
  by_cases h4 : kV (ofV H S) = 4
  · rw [show (kV (ofV H S) == 4) = true by simp [h4]]
    refine And.intro (fun _ => ?_) (fun g => absurd g (by decide))
    refine s_tail hz hS ?_
    refine s_head hz (okV_of hB hS) ?_
    refine k_save (f := f + 1) hE hz hA hB hfr hS hE hC hD (by omega) ?_
    refine s_tail hz (okV_of hA hS) ?_
    refine s_newPair hz (by omega) (hfr _ (by omega)) ?_
    refine s_head hz (okV_of hA hS) ?_
    exact And.intro (Or.inr rfl) (h2 h4)
  · rw [show (kV (ofV H S) == 4) = false by simp [h4]]
    refine And.intro (fun g => absurd rfl g) (fun _ => ?_)
    exact And.intro (Or.inl rfl) (h1 h4)
theorem k_choose (hz : z ≤ 250) (hA : okA z H) (hB : okA z T) (hfr : ∀ j, j < z → fr j < z) (hS : okV z S) (hE : okV z E) (hC : okV z C) (hD : okV z D) (hf : f + 1 ≤ z) (h1 : ¬ kV (ofV H S) = 1 → Q (.inl (some (.int 0)), (mW o0 o1 o2 o3 o4 o5 o6 o7 o8 o9 o10 o11 o12 o13 o14 o15 (encV S) (encV E) (encV C) (encV D) mode colls taken steps z (eH H) (eH T) (eN fr) mk rc (nI (f + 1)) rN cN tl, b0, b1, op))) (h2 : kV (ofV H S) = 1 → ¬ (encV (ofV H S)).toInt32 = 0 → Q (.inl (some (.int 1)), (mW o0 o1 o2 o3 o4 o5 o6 o7 o8 o9 o10 o11 o12 o13 o14 o15 (encV (ofV T S)) (encV E) (encV (ofV (upW H (fr f) (ofV T (ofV T (ofV T C)))) (ofV T C))) (encV (vPr (fr f))) mode colls taken steps z (eH (upW H (fr f) (ofV T (ofV T (ofV T C))))) (eH (upW T (fr f) D)) (eN fr) mk rc (nI f) rN cN tl, b0, b1, op))) (h3 : kV (ofV H S) = 1 → (encV (ofV H S)).toInt32 = 0 → Q (.inl (some (.int 1)), (mW o0 o1 o2 o3 o4 o5 o6 o7 o8 o9 o10 o11 o12 o13 o14 o15 (encV (ofV T S)) (encV E) (encV (ofV (upW H (fr f) (ofV T (ofV T (ofV T C)))) (ofV T (ofV T C)))) (encV (vPr (fr f))) mode colls taken steps z (eH (upW H (fr f) (ofV T (ofV T (ofV T C))))) (eH (upW T (fr f) D)) (eN fr) mk rc (nI f) rN cN tl, b0, b1, op))) : mj_Mt gT cst gnw (m + 3) y_Machine_choose [.ref 16] (mW o0 o1 o2 o3 o4 o5 o6 o7 o8 o9 o10 o11 o12 o13 o14 o15 (encV S) (encV E) (encV C) (encV D) mode colls taken steps z (eH H) (eH T) (eN fr) mk rc (nI (f + 1)) rN cN tl, b0, b1, op) Q := by
  intro J hJ
  refine hJ _ _ _ _ ?_
  refine s_head hz hS ?_
  refine v_isNumber ?_
  by_cases h4 : kV (ofV H S) = 1
  · rw [show (kV (ofV H S) == 1) = true by simp [h4]]
    refine And.intro (fun _ => ?_) (fun g => absurd g (by decide))
    refine s_tail hz hC ?_
    refine s_tail hz (okV_of hB hC) ?_
    refine s_tail hz hS ?_
    refine s_tail hz (okV_of hB (okV_of hB hC)) ?_
    refine s_newPair hz (by omega) (hfr _ (by omega)) ?_
    refine v_content ?_
    refine And.intro (fun g => ?_) (fun g => ?_)
    · refine s_head hz (okV_of hB (okV_of hB hC)) ?_
      exact And.intro (Or.inr rfl) (h3 h4 g)
    · refine s_head hz (okV_of hB hC) ?_
      exact And.intro (Or.inr rfl) (h2 h4 g)
  · rw [show (kV (ofV H S) == 1) = false by simp [h4]]
    refine And.intro (fun g => absurd rfl g) (fun _ => ?_)
    exact And.intro (Or.inl rfl) (h1 h4)
theorem k_applyInFrame (hz : z ≤ 250) (hA : okA z H) (hB : okA z T) (hfr : ∀ j, j < z → fr j < z) (hS : okV z S) (hE : okV z E) (hC : okV z C) (hD : okV z D) (hf : f + 3 ≤ z) (h1 : ¬ kV (ofV H S) = 4 → Q (.inl (some (.int 0)), (mW o0 o1 o2 o3 o4 o5 o6 o7 o8 o9 o10 o11 o12 o13 o14 o15 (encV S) (encV E) (encV C) (encV D) mode colls taken steps z (eH H) (eH T) (eN fr) mk rc (nI (f + 3)) rN cN tl, b0, b1, op))) (h2 : kV (ofV H S) = 4 → ∀ i, cV (ofV (upW (upW (upW T (fr (f + 2)) D) (fr (f + 1)) (vPr (fr (f + 2)))) (fr f) (vPr (fr (f + 1)))) (ofV H S)) = nI i → i < z → Q (.inl (some (.int 1)), (mW o0 o1 o2 o3 o4 o5 o6 o7 o8 o9 o10 o11 o12 o13 o14 o15 (encV vNil) (encV (ofV (upW (upW (upW T (fr (f + 2)) D) (fr (f + 1)) (vPr (fr (f + 2)))) (fr f) (vPr (fr (f + 1)))) (ofV H S))) (encV (ofV (upW (upW (upW (upW H (fr (f + 2)) (ofV T C)) (fr (f + 1)) (ofV T E)) (fr f) (ofV T (ofV T S))) i (ofV H (ofV T S))) (ofV H S))) (encV (vPr (fr f))) mode colls taken steps z (eH (upW (upW (upW (upW H (fr (f + 2)) (ofV T C)) (fr (f + 1)) (ofV T E)) (fr f) (ofV T (ofV T S))) i (ofV H (ofV T S)))) (eH (upW (upW (upW T (fr (f + 2)) D) (fr (f + 1)) (vPr (fr (f + 2)))) (fr f) (vPr (fr (f + 1))))) (eN fr) mk rc (nI f) rN cN tl, b0, b1, op))) (h3 : kV (ofV H S) = 4 → cV (ofV (upW (upW (upW T (fr (f + 2)) D) (fr (f + 1)) (vPr (fr (f + 2)))) (fr f) (vPr (fr (f + 1)))) (ofV H S)) = -1 → Q (.inl (some (.int 1)), (mW o0 o1 o2 o3 o4 o5 o6 o7 o8 o9 o10 o11 o12 o13 o14 o15 (encV vNil) (encV (ofV (upW (upW (upW T (fr (f + 2)) D) (fr (f + 1)) (vPr (fr (f + 2)))) (fr f) (vPr (fr (f + 1)))) (ofV H S))) (encV (ofV (upW (upW (upW H (fr (f + 2)) (ofV T C)) (fr (f + 1)) (ofV T E)) (fr f) (ofV T (ofV T S))) (ofV H S))) (encV (vPr (fr f))) mode colls taken steps z (eH (upW (upW (upW H (fr (f + 2)) (ofV T C)) (fr (f + 1)) (ofV T E)) (fr f) (ofV T (ofV T S)))) (eH (upW (upW (upW T (fr (f + 2)) D) (fr (f + 1)) (vPr (fr (f + 2)))) (fr f) (vPr (fr (f + 1))))) (eN fr) mk rc (nI f) rN cN tl, b0, b1, op))) : mj_Mt gT cst gnw (m + 4) y_Machine_applyInFrame [.ref 16] (mW o0 o1 o2 o3 o4 o5 o6 o7 o8 o9 o10 o11 o12 o13 o14 o15 (encV S) (encV E) (encV C) (encV D) mode colls taken steps z (eH H) (eH T) (eN fr) mk rc (nI (f + 3)) rN cN tl, b0, b1, op) Q := by
  intro J hJ
  refine hJ _ _ _ _ ?_
  refine s_head hz hS ?_
  refine v_isFunction ?_
  by_cases h4 : kV (ofV H S) = 4
  · rw [show (kV (ofV H S) == 4) = true by simp [h4]]
    refine And.intro (fun _ => ?_) (fun g => absurd g (by decide))
    refine s_tail hz hS ?_
    refine s_head hz (okV_of hB hS) ?_
    refine s_tail hz hE ?_
    refine k_save (f := f) (okV_of hB hE) hz hA hB hfr hS hE hC hD (by omega) ?_
    refine s_tail hz (okV_of hA hS) ?_
    refine s_setHead hz (okV_of (okA_upd (okA_upd (okA_upd hB hD) (hfr _ (by omega))) (hfr _ (by omega))) (okV_of hA hS)) (fun i hi hiz => ?_) (fun hi => ?_)
    · refine s_head hz (okV_of hA hS) ?_
      exact And.intro (Or.inr rfl) (h2 h4 i hi hiz)
    · refine s_head hz (okV_of hA hS) ?_
      exact And.intro (Or.inr rfl) (h3 h4 hi)
  · rw [show (kV (ofV H S) == 4) = false by simp [h4]]
    refine And.intro (fun g => absurd rfl g) (fun _ => ?_)
    exact And.intro (Or.inl rfl) (h1 h4)
theorem k_pair (hz : z ≤ 250) (hA : okA z H) (hB : okA z T) (hfr : ∀ j, j < z → fr j < z) (hS : okV z S) (hE : okV z E) (hC : okV z C) (hD : okV z D) (hf : f + 2 ≤ z) (hQ : Q (.inl (some (.int 1)), (mW o0 o1 o2 o3 o4 o5 o6 o7 o8 o9 o10 o11 o12 o13 o14 o15 (encV (vPr (fr f))) (encV E) (encV (ofV (upW (upW T (fr (f + 1)) (ofV H (ofV T S))) (fr f) (behV (upW T (fr (f + 1)) (ofV H (ofV T S))) 2 S)) C)) (encV D) mode colls taken steps z (eH (upW (upW H (fr (f + 1)) (ofV H S)) (fr f) (vPr (fr (f + 1))))) (eH (upW (upW T (fr (f + 1)) (ofV H (ofV T S))) (fr f) (behV (upW T (fr (f + 1)) (ofV H (ofV T S))) 2 S))) (eN fr) mk rc (nI f) rN cN tl, b0, b1, op))) : mj_Mt gT cst gnw (m + 5) y_Machine_pair [.ref 16] (mW o0 o1 o2 o3 o4 o5 o6 o7 o8 o9 o10 o11 o12 o13 o14 o15 (encV S) (encV E) (encV C) (encV D) mode colls taken steps z (eH H) (eH T) (eN fr) mk rc (nI (f + 2)) rN cN tl, b0, b1, op) Q := by
  intro J hJ
  refine hJ _ _ _ _ ?_
  refine s_head hz hS ?_
  refine s_tail hz hS ?_
  refine s_head hz (okV_of hB hS) ?_
  refine s_newPair hz (by omega) (hfr _ (by omega)) ?_
  refine k_replace (n := 2) (by decide) (hfr _ (by omega)) hz (okA_upd hA (okV_of hA hS)) (okA_upd hB (okV_of hA (okV_of hB hS))) hfr hS hE hC hD (by omega) ?_
  exact And.intro (Or.inr rfl) hQ
theorem k_isNoPair (hz : z ≤ 250) (hA : okA z H) (hB : okA z T) (hfr : ∀ j, j < z → fr j < z) (hS : okV z S) (hE : okV z E) (hC : okV z C) (hD : okV z D) (hf : f + 1 ≤ z) (h1 : kV (ofV H S) = 3 → Q (.inl (some (.int 1)), (mW o0 o1 o2 o3 o4 o5 o6 o7 o8 o9 o10 o11 o12 o13 o14 o15 (encV (vPr (fr f))) (encV E) (encV (ofV (upW T (fr f) (behV T 1 S)) C)) (encV D) mode colls taken steps z (eH (upW H (fr f) (vInt 0))) (eH (upW T (fr f) (behV T 1 S))) (eN fr) mk rc (nI f) rN cN tl, b0, b1, op))) (h2 : ¬ kV (ofV H S) = 3 → Q (.inl (some (.int 1)), (mW o0 o1 o2 o3 o4 o5 o6 o7 o8 o9 o10 o11 o12 o13 o14 o15 (encV (vPr (fr f))) (encV E) (encV (ofV (upW T (fr f) (behV T 1 S)) C)) (encV D) mode colls taken steps z (eH (upW H (fr f) (vInt 1))) (eH (upW T (fr f) (behV T 1 S))) (eN fr) mk rc (nI f) rN cN tl, b0, b1, op))) : mj_Mt gT cst gnw (m + 5) y_Machine_isNoPair [.ref 16] (mW o0 o1 o2 o3 o4 o5 o6 o7 o8 o9 o10 o11 o12 o13 o14 o15 (encV S) (encV E) (encV C) (encV D) mode colls taken steps z (eH H) (eH T) (eN fr) mk rc (nI (f + 1)) rN cN tl, b0, b1, op) Q := by
  intro J hJ
  refine hJ _ _ _ _ ?_
  refine s_head hz hS ?_
  refine v_isPair ?_
  by_cases h4 : kV (ofV H S) = 3
  · rw [show (kV (ofV H S) == 3) = true by simp [h4]]
    refine And.intro (fun g => absurd g (by decide)) (fun _ => ?_)
    refine v_number (x := 0) ?_
    refine k_replace (n := 1) (by decide) trivial hz hA hB hfr hS hE hC hD (by omega) ?_
    exact And.intro (Or.inr rfl) (h1 h4)
  · rw [show (kV (ofV H S) == 3) = false by simp [h4]]
    refine And.intro (fun _ => ?_) (fun g => absurd rfl g)
    refine v_number (x := 1) ?_
    refine k_replace (n := 1) (by decide) trivial hz hA hB hfr hS hE hC hD (by omega) ?_
    exact And.intro (Or.inr rfl) (h2 h4)
theorem k_partOfPair {w : Int32} (hz : z ≤ 250) (hA : okA z H) (hB : okA z T) (hfr : ∀ j, j < z → fr j < z) (hS : okV z S) (hE : okV z E) (hC : okV z C) (hD : okV z D) (hf : f + 1 ≤ z) (h1 : ¬ kV (ofV H S) = 3 → Q (.inl (some (.int 0)), (mW o0 o1 o2 o3 o4 o5 o6 o7 o8 o9 o10 o11 o12 o13 o14 o15 (encV S) (encV E) (encV C) (encV D) mode colls taken steps z (eH H) (eH T) (eN fr) mk rc (nI (f + 1)) rN cN tl, b0, b1, op))) (h2 : kV (ofV H S) = 3 → w = 10 → Q (.inl (some (.int 1)), (mW o0 o1 o2 o3 o4 o5 o6 o7 o8 o9 o10 o11 o12 o13 o14 o15 (encV (vPr (fr f))) (encV E) (encV (ofV (upW T (fr f) (behV T 1 S)) C)) (encV D) mode colls taken steps z (eH (upW H (fr f) (ofV H (ofV H S)))) (eH (upW T (fr f) (behV T 1 S))) (eN fr) mk rc (nI f) rN cN tl, b0, b1, op))) (h3 : kV (ofV H S) = 3 → ¬ w = 10 → Q (.inl (some (.int 1)), (mW o0 o1 o2 o3 o4 o5 o6 o7 o8 o9 o10 o11 o12 o13 o14 o15 (encV (vPr (fr f))) (encV E) (encV (ofV (upW T (fr f) (behV T 1 S)) C)) (encV D) mode colls taken steps z (eH (upW H (fr f) (ofV T (ofV H S)))) (eH (upW T (fr f) (behV T 1 S))) (eN fr) mk rc (nI f) rN cN tl, b0, b1, op))) : mj_Mt gT cst gnw (m + 5) y_Machine_partOfPair [.ref 16, .int w] (mW o0 o1 o2 o3 o4 o5 o6 o7 o8 o9 o10 o11 o12 o13 o14 o15 (encV S) (encV E) (encV C) (encV D) mode colls taken steps z (eH H) (eH T) (eN fr) mk rc (nI (f + 1)) rN cN tl, b0, b1, op) Q := by
  intro J hJ
  refine hJ _ _ _ _ ?_
  refine s_head hz hS ?_
  refine v_isPair ?_
  by_cases h4 : kV (ofV H S) = 3
  · rw [show (kV (ofV H S) == 3) = true by simp [h4]]
    refine And.intro (fun _ => ?_) (fun g => absurd g (by decide))
    refine And.intro (fun (g : ¬ w = 10) => ?_) (fun (g : w = 10) => ?_)
    · refine s_tail hz (okV_of hA hS) ?_
      refine k_replace (n := 1) (by decide) (okV_of hB (okV_of hA hS)) hz hA hB hfr hS hE hC hD (by omega) ?_
      exact And.intro (Or.inr rfl) (h3 h4 g)
    · refine s_head hz (okV_of hA hS) ?_
      refine k_replace (n := 1) (by decide) (okV_of hA (okV_of hA hS)) hz hA hB hfr hS hE hC hD (by omega) ?_
      exact And.intro (Or.inr rfl) (h2 h4 g)
  · rw [show (kV (ofV H S) == 3) = false by simp [h4]]
    refine And.intro (fun g => absurd rfl g) (fun _ => ?_)
    exact And.intro (Or.inl rfl) (h1 h4)
def calV (w x y : Int32) : Int32 := if w = 15 then x + y else if w = 16 then x - y else if w = 17 then x * y else if x < y then 1 else 0
theorem k_calculated {h : mj_H} {w x y : Int32} (hQ : Q (.inl (some (.int (calV w x y))), h)) : mj_Mt gT cst gnw (m + 1) y_Machine_calculated [.int w, .int x, .int y] h Q := by
  intro J hJ
  refine hJ _ _ _ _ ?_
  unfold calV at hQ
  refine And.intro (fun (g : w = 15) => ?_) (fun (g : ¬ w = 15) => And.intro (fun (g2 : w = 16) => ?_) (fun (g2 : ¬ w = 16) => And.intro (fun (g3 : w = 17) => ?_) (fun (g3 : ¬ w = 17) => ?_)))
  · rw [if_pos g] at hQ
    exact hQ
  · rw [if_neg g, if_pos g2] at hQ
    exact hQ
  · rw [if_neg g, if_neg g2, if_pos g3] at hQ
    exact hQ
  · rw [if_neg g, if_neg g2, if_neg g3] at hQ
    refine And.intro (fun (g4 : y ≤ x) => ?_) (fun (g4 : ¬ y ≤ x) => ?_)
    · rw [if_neg (Int32.not_lt.mpr g4)] at hQ
      exact hQ
    · rw [if_pos (Int32.not_le.mp g4)] at hQ
      exact hQ
theorem k_calculate {w : Int32} (hz : z ≤ 250) (hA : okA z H) (hB : okA z T) (hfr : ∀ j, j < z → fr j < z) (hS : okV z S) (hE : okV z E) (hC : okV z C) (hD : okV z D) (hf : f + 1 ≤ z) (h1 : ¬ (kV (ofV H (ofV T S)) = 1 ∧ kV (ofV H S) = 1) → Q (.inl (some (.int 0)), (mW o0 o1 o2 o3 o4 o5 o6 o7 o8 o9 o10 o11 o12 o13 o14 o15 (encV S) (encV E) (encV C) (encV D) mode colls taken steps z (eH H) (eH T) (eN fr) mk rc (nI (f + 1)) rN cN tl, b0, b1, op))) (h2 : kV (ofV H (ofV T S)) = 1 → kV (ofV H S) = 1 → Q (.inl (some (.int 1)), (mW o0 o1 o2 o3 o4 o5 o6 o7 o8 o9 o10 o11 o12 o13 o14 o15 (encV (vPr (fr f))) (encV E) (encV (ofV (upW T (fr f) (behV T 2 S)) C)) (encV D) mode colls taken steps z (eH (upW H (fr f) (vInt (calV w (encV (ofV H (ofV T S))).toInt32 (encV (ofV H S)).toInt32)))) (eH (upW T (fr f) (behV T 2 S))) (eN fr) mk rc (nI f) rN cN tl, b0, b1, op))) : mj_Mt gT cst gnw (m + 5) y_Machine_calculate [.ref 16, .int w] (mW o0 o1 o2 o3 o4 o5 o6 o7 o8 o9 o10 o11 o12 o13 o14 o15 (encV S) (encV E) (encV C) (encV D) mode colls taken steps z (eH H) (eH T) (eN fr) mk rc (nI (f + 1)) rN cN tl, b0, b1, op) Q := by
  intro J hJ
  refine hJ _ _ _ _ ?_
  refine s_head hz hS ?_
  refine s_tail hz hS ?_
  refine s_head hz (okV_of hB hS) ?_
  refine v_isNumber ?_
  by_cases h4 : kV (ofV H (ofV T S)) = 1
  · rw [show (kV (ofV H (ofV T S)) == 1) = true by simp [h4]]
    refine And.intro (fun g => absurd g (by decide)) (fun _ => ?_)
    refine v_isNumber ?_
    by_cases h5 : kV (ofV H S) = 1
    · rw [show (kV (ofV H S) == 1) = true by simp [h5]]
      refine And.intro (fun _ => ?_) (fun g => absurd g (by decide))
      refine v_content ?_
      refine v_content ?_
      refine k_calculated ?_
      refine v_number ?_
      refine k_replace (n := 2) (by decide) trivial hz hA hB hfr hS hE hC hD (by omega) ?_
      exact And.intro (Or.inr rfl) (h2 h4 h5)
    · rw [show (kV (ofV H S) == 1) = false by simp [h5]]
      refine And.intro (fun g => absurd rfl g) (fun _ => ?_)
      exact And.intro (Or.inl rfl) (h1 (fun q => h5 q.2))
  · rw [show (kV (ofV H (ofV T S)) == 1) = false by simp [h4]]
    refine And.intro (fun _ => ?_) (fun g => absurd rfl g)
    exact And.intro (Or.inl rfl) (h1 (fun q => h4 q.1))
theorem k_instruction (hz : z ≤ 250) (hA : okA z H) (hB : okA z T) (hfr : ∀ j, j < z → fr j < z) (hS : okV z S) (hE : okV z E) (hC : okV z C) (hD : okV z D) (hQ : Q (.inl (some (.int (encV (ofV H C)).toInt32)), (mW o0 o1 o2 o3 o4 o5 o6 o7 o8 o9 o10 o11 o12 o13 o14 o15 (encV S) (encV E) (encV C) (encV D) mode colls taken steps z (eH H) (eH T) (eN fr) mk rc (nI f) rN cN tl, b0, b1, op))) : mj_Mt gT cst gnw (m + 3) y_Machine_instruction [.ref 16] (mW o0 o1 o2 o3 o4 o5 o6 o7 o8 o9 o10 o11 o12 o13 o14 o15 (encV S) (encV E) (encV C) (encV D) mode colls taken steps z (eH H) (eH T) (eN fr) mk rc (nI f) rN cN tl, b0, b1, op) Q := by
  intro J hJ
  refine hJ _ _ _ _ ?_
  refine s_head hz hC ?_
  exact v_content hQ
end P2c
end
section
abbrev eB (g : Nat → Bool) : Nat → Int32 := fun i => bI (g i)
theorem upd_bI (g : Nat → Bool) (k : Nat) (x : Bool) : upd (eB g) k (vp_nar .boolean (bI x)) = eB (upW g k x) := by
  funext j
  show (if j = k then vp_nar .boolean (bI x) else bI (g j)) = bI (if j = k then x else g j)
  split
  · cases x <;> decide
  · rfl
abbrev gS : Type := (Nat → Bool) × (Nat → Nat) × Nat
def ceV (v : Vl) : Option Nat := match v with
  | .inr (.inr (.inr (.inl i))) => some i
  | .inr (.inr (.inr (.inr i))) => some i
  | _ => none
def rch (z : Nat) (v : Vl) (g : gS) : gS := match ceV v with
  | none => g
  | some i => if g.1 i = false ∧ g.2.2 < z then (upW g.1 i true, upW g.2.1 g.2.2 i, g.2.2 + 1) else g
def okG (z : Nat) (g : gS) : Prop := g.2.2 ≤ z ∧ ∀ k, k < g.2.2 → g.2.1 k < z
theorem ceV_cases (z : Nat) (v : Vl) (hv : okV z v) : (cV v = -1 ∧ ceV v = none) ∨ ∃ i, i < z ∧ cV v = nI i ∧ ceV v = some i := by
  rcases v with u | x | x | i | i
  · exact Or.inl ⟨rfl, rfl⟩
  · exact Or.inl ⟨rfl, rfl⟩
  · exact Or.inl ⟨rfl, rfl⟩
  · exact Or.inr ⟨i, hv, rfl, rfl⟩
  · exact Or.inr ⟨i, hv, rfl, rfl⟩
theorem okG_rch {z : Nat} {v : Vl} {g : gS} (hv : okV z v) (hg : okG z g) : okG z (rch z v g) := by
  unfold rch
  rcases ceV_cases z v hv with ⟨-, e⟩ | ⟨i, hi, -, e⟩
  · rw [e]
    exact hg
  · rw [e]
    show okG z (if g.1 i = false ∧ g.2.2 < z then _ else g)
    split
    · rename_i h
      refine ⟨h.2, fun k hk => ?_⟩
      show upW g.2.1 g.2.2 i k < z
      unfold upW
      split
      · exact hi
      · exact hg.2 k (by have : k < g.2.2 + 1 := hk; omega)
    · exact hg
def bfs (z : Nat) (H T : Nat → Vl) : Nat → Nat → gS → gS
  | 0, _, g => g
  | n + 1, k, g => if k < g.2.2 then bfs z H T n (k + 1) (rch z (T ((rch z (H (g.2.1 k)) g).2.1 k)) (rch z (H (g.2.1 k)) g)) else g
theorem rch_keep {z k : Nat} {v : Vl} {g : gS} (hk : k < g.2.2) : (rch z v g).2.1 k = g.2.1 k ∧ k < (rch z v g).2.2 := by
  unfold rch
  split
  · exact ⟨rfl, hk⟩
  · split
    · refine ⟨?_, by show k < g.2.2 + 1; omega⟩
      show upW g.2.1 g.2.2 _ k = g.2.1 k
      unfold upW
      rw [if_neg (by omega)]
    · exact ⟨rfl, hk⟩
def clr (k : Nat) (f : Nat → Bool) : Nat → Bool := fun i => if i < k then false else f i
theorem clr_step (k : Nat) (f : Nat → Bool) : upd (eB (clr k f)) k (vp_nar .boolean 0) = eB (clr (k + 1) f) := by
  have e : vp_nar .boolean 0 = vp_nar .boolean (bI false) := rfl
  rw [e, upd_bI]
  congr 1
  funext j
  unfold upW clr
  by_cases h : j = k
  · rw [if_pos h, if_pos (by omega)]
  · rw [if_neg h]
    by_cases h2 : j < k
    · rw [if_pos h2, if_pos (by omega)]
    · rw [if_neg h2, if_neg (by omega)]
theorem clr_0 (f : Nat → Bool) : clr 0 f = f := by
  funext j
  unfold clr
  rw [if_neg (by omega)]
def mrk (z : Nat) (H T : Nat → Vl) (S E C D K : Vl) : gS → gS := fun g => bfs z H T z 0 (rch z K (rch z D (rch z C (rch z E (rch z S (clr z g.1, g.2.1, 0))))))
def fuN (mk : Nat → Bool) : Nat → Nat → (Nat → Nat) × Nat → (Nat → Nat) × Nat
  | 0, _, p => p
  | n + 1, c, p => if mk c then fuN mk n (c + 1) p else fuN mk n (c + 1) (upW p.1 p.2 c, p.2 + 1)
def faN : Nat → Nat → (Nat → Nat) × Nat → (Nat → Nat) × Nat
  | 0, _, p => p
  | n + 1, c, p => faN n (c + 1) (upW p.1 p.2 c, p.2 + 1)
def lenN (T : Nat → Vl) : Nat → Vl → Nat
  | 0, _ => 0
  | n + 1, v => match v with
    | .inr (.inr (.inr (.inl i))) => lenN T n (T i) + 1
    | _ => 0
section P2d
variable {cst : Nat → Option (Nat × (Nat → Int32))} {m b0 b1 : Nat} {op : Bool} {tl : List mj_O} {Q : mj_R → Prop}
variable {o0 o1 o2 o3 o4 o5 o6 o7 o8 o9 o10 o11 o12 o13 o14 o15 o16 : mj_O} {z : Nat} {H T : Nat → Vl} {hR tR : Nat → Int64} {fr : Nat → Nat} {frR mkR rcR : Nat → Int32} {f : Nat} {fN rN cN : Int32} {g : gS}
set_option maxRecDepth 10000
theorem s_reach {v : Vl} (hz : z ≤ 250) (hv : okV z v) (hg : okG z g) (hQ : Q (.inl none, (sW o0 o1 o2 o3 o4 o5 o6 o7 o8 o9 o10 o11 o12 o13 o14 o15 o16 z hR tR frR (eB (rch z v g).1) (eN (rch z v g).2.1) fN (nI (rch z v g).2.2) cN tl, b0, b1, op))) : mj_Mt gT cst gnw (m + 2) y_Store_reach [.ref 17, .long (encV v)] (sW o0 o1 o2 o3 o4 o5 o6 o7 o8 o9 o10 o11 o12 o13 o14 o15 o16 z hR tR frR (eB g.1) (eN g.2.1) fN (nI g.2.2) cN tl, b0, b1, op) Q := by
  obtain ⟨mk, rc, n⟩ := g
  intro J hJ
  refine hJ _ _ _ _ ?_
  refine v_cell ?_
  rcases ceV_cases z v hv with ⟨e, e2⟩ | ⟨i, hi, e, e2⟩
  · have e3 : rch z v (mk, rc, n) = (mk, rc, n) := by
      unfold rch
      rw [e2]
    rw [e3] at hQ
    rw [e]
    exact And.intro (fun _ => hQ) (fun g => absurd (by decide) g)
  · have e3 : rch z v (mk, rc, n) = if mk i = false ∧ n < z then (upW mk i true, upW rc n i, n + 1) else (mk, rc, n) := by
      unfold rch
      rw [e2]
    have hn : n ≤ z := hg.1
    rw [e3] at hQ
    rw [e]
    have ei : (nI i).toNatClampNeg = i := nI_clamp (by omega)
    refine And.intro (fun (q : nI i < 0) => absurd q (nI_pos (by omega))) (fun _ => ?_)
    refine And.intro (fun (q : nI z ≤ nI i) => absurd q (nI_ge hi (by omega))) (fun _ => ?_)
    refine And.intro (vp_in_nI hi (by omega)) ?_
    refine And.intro (fun (q : ¬ bI (mk (nI i).toNatClampNeg) = 0) => ?_) (fun (q : bI (mk (nI i).toNatClampNeg) = 0) => ?_)
    · rw [ei] at q
      have hm : ¬ mk i = false := fun h => q (by rw [h]; rfl)
      rw [if_neg (fun h => hm h.1)] at hQ
      exact hQ
    · rw [ei] at q
      have hm : mk i = false := by
        cases h : mk i with
        | false => rfl
        | true => rw [h] at q; exact absurd q (by decide)
      by_cases hnz : n < z
      · rw [if_pos ⟨hm, hnz⟩] at hQ
        refine And.intro (fun (q : nI z ≤ nI n) => absurd q (nI_ge hnz (by omega))) (fun _ => ?_)
        refine And.intro (vp_in_nI hi (by omega)) ?_
        refine And.intro (vp_in_nI hnz (by omega)) ?_
        have key : ∀ (a b : Nat) (x : Int32), a = i → b = n → x = nI (n + 1) → Q (.inl none, (sW o0 o1 o2 o3 o4 o5 o6 o7 o8 o9 o10 o11 o12 o13 o14 o15 o16 z hR tR frR (upd (eB mk) a (vp_nar .boolean (bI true))) (upd (eN rc) b (nI i)) fN x cN tl, b0, b1, op)) := by
          rintro a b x rfl rfl rfl
          rw [upd_bI, upd_nI]
          exact hQ
        exact key _ _ _ ei (nI_clamp (show n < 2 ^ 31 by omega)) (nI_succ n).symm
      · rw [if_neg (fun h => hnz h.2)] at hQ
        exact And.intro (fun _ => hQ) (fun (q : ¬ nI z ≤ nI n) => absurd (nI_le (by omega) (by omega)) q)
theorem s_length {v : Vl} (hz : z ≤ 250) (hT : okA z T) (hv : okV z v) (hQ : Q (.inl (some (.int (nI (lenN T z v)))), (sW o0 o1 o2 o3 o4 o5 o6 o7 o8 o9 o10 o11 o12 o13 o14 o15 o16 z hR (eH T) frR mkR rcR fN rN cN tl, b0, b1, op))) : mj_Mt gT cst gnw (m + 3) y_Store_length [.ref 17, .long (encV v)] (sW o0 o1 o2 o3 o4 o5 o6 o7 o8 o9 o10 o11 o12 o13 o14 o15 o16 z hR (eH T) frR mkR rcR fN rN cN tl, b0, b1, op) Q := by
  intro J hJ
  have loop : ∀ (j k : Nat) (u : Vl), j + k = z → okV z u → lenN T j u + k = lenN T z v → J 4 [some (.ref 17), some (.long (encV v)), none, some (.int (nI k)), some (.long (encV u)), none] [] (sW o0 o1 o2 o3 o4 o5 o6 o7 o8 o9 o10 o11 o12 o13 o14 o15 o16 z hR (eH T) frR mkR rcR fN rN cN tl, b0, b1, op) := by
    intro j
    induction j with
    | zero =>
      intro k u hk hu e
      have e' : k = lenN T z v := by
        have : lenN T 0 u = 0 := rfl
        omega
      refine hJ _ _ _ _ ?_
      refine v_isPair ?_
      have hQ' : Q (.inl (some (.int (nI k))), (sW o0 o1 o2 o3 o4 o5 o6 o7 o8 o9 o10 o11 o12 o13 o14 o15 o16 z hR (eH T) frR mkR rcR fN rN cN tl, b0, b1, op)) := by rw [e']; exact hQ
      by_cases h3 : kV u = 3
      · rw [show (kV u == 3) = true by simp [h3]]
        refine And.intro (fun g => absurd g (by decide)) (fun _ => ?_)
        exact And.intro (fun _ => hQ') (fun (g : ¬ nI z ≤ nI k) => absurd (nI_le (by omega) (by omega)) g)
      · rw [show (kV u == 3) = false by simp [h3]]
        exact And.intro (fun _ => hQ') (fun g => absurd rfl g)
    | succ j ih =>
      intro k u hk hu e
      refine hJ _ _ _ _ ?_
      refine v_isPair ?_
      by_cases h3 : kV u = 3
      · rw [show (kV u == 3) = true by simp [h3]]
        refine And.intro (fun g => absurd g (by decide)) (fun _ => ?_)
        refine And.intro (fun (g : nI z ≤ nI k) => absurd g (nI_ge (by omega) (by omega))) (fun _ => ?_)
        refine s_tail hz hu ?_
        rcases u with u | x | x | i | i
        · exact absurd h3 (by simp [kV])
        · exact absurd h3 (by simp [kV])
        · exact absurd h3 (by simp [kV])
        · have key : ∀ x : Int32, x = nI (k + 1) → J 4 [some (.ref 17), some (.long (encV v)), none, some (.int x), some (.long (encV (T i))), none] [] (sW o0 o1 o2 o3 o4 o5 o6 o7 o8 o9 o10 o11 o12 o13 o14 o15 o16 z hR (eH T) frR mkR rcR fN rN cN tl, b0, b1, op) := by
            rintro x rfl
            have e2 : lenN T (j + 1) (vPr i) = lenN T j (T i) + 1 := rfl
            exact ih (k + 1) (T i) (by omega) (hT i hu) (by rw [e2] at e; omega)
          exact key _ (nI_succ k).symm
        · exact absurd h3 (by simp [kV])
      · have e2 : lenN T (j + 1) u = 0 := by
          rcases u with u | x | x | i | i
          · rfl
          · rfl
          · rfl
          · exact absurd rfl h3
          · rfl
        have hQ' : Q (.inl (some (.int (nI k))), (sW o0 o1 o2 o3 o4 o5 o6 o7 o8 o9 o10 o11 o12 o13 o14 o15 o16 z hR (eH T) frR mkR rcR fN rN cN tl, b0, b1, op)) := by
          rw [show k = lenN T z v by omega]
          exact hQ
        rw [show (kV u == 3) = false by simp [h3]]
        exact And.intro (fun _ => hQ') (fun g => absurd rfl g)
  refine hJ _ _ _ _ ?_
  exact loop z 0 v (by omega) hv (by omega)
theorem s_code {c : Nat} (hc : c ≤ 250) (hQ : Q (.inl (some (.long (encV (if c = 0 then vNil else vPr 0)))), (sW o0 o1 o2 o3 o4 o5 o6 o7 o8 o9 o10 o11 o12 o13 o14 o15 o16 z hR tR frR mkR rcR fN rN (nI c) tl, b0, b1, op))) : mj_Mt gT cst gnw (m + 2) y_Store_code [.ref 17] (sW o0 o1 o2 o3 o4 o5 o6 o7 o8 o9 o10 o11 o12 o13 o14 o15 o16 z hR tR frR mkR rcR fN rN (nI c) tl, b0, b1, op) Q := by
  intro J hJ
  refine hJ _ _ _ _ ?_
  by_cases h : c = 0
  · rw [if_pos h] at hQ
    exact And.intro (fun _ => hQ) (fun (q : ¬ nI c ≤ 0) => absurd (by rw [h]; decide) q)
  · rw [if_neg h] at hQ
    refine And.intro (fun (q : nI c ≤ 0) => absurd q (nI_nle (by omega) (by omega))) (fun _ => ?_)
    exact v_pair (a := 0) hQ
theorem s_mark {S E C D : Vl} {c : Nat} (hz : z ≤ 250) (hc : c ≤ z) (hH : okA z H) (hT : okA z T) (hS : okV z S) (hE : okV z E) (hC : okV z C) (hD : okV z D) (hQ : Q (.inl (some (.int (nI (mrk z H T S E C D (if c = 0 then vNil else vPr 0) g).2.2))), (sW o0 o1 o2 o3 o4 o5 o6 o7 o8 o9 o10 o11 o12 o13 o14 o15 o16 z (eH H) (eH T) frR (eB (mrk z H T S E C D (if c = 0 then vNil else vPr 0) g).1) (eN (mrk z H T S E C D (if c = 0 then vNil else vPr 0) g).2.1) fN (nI (mrk z H T S E C D (if c = 0 then vNil else vPr 0) g).2.2) (nI c) tl, b0, b1, op))) : mj_Mt gT cst gnw (m + 3) y_Store_mark [.ref 17, .long (encV S), .long (encV E), .long (encV C), .long (encV D)] (sW o0 o1 o2 o3 o4 o5 o6 o7 o8 o9 o10 o11 o12 o13 o14 o15 o16 z (eH H) (eH T) frR (eB g.1) (eN g.2.1) fN (nI g.2.2) (nI c) tl, b0, b1, op) Q := by
  obtain ⟨mk, rc, n⟩ := g
  have hK : okV z (if c = 0 then vNil else vPr 0) := by
    split
    · exact trivial
    · show 0 < z
      omega
  generalize hKe : (if c = 0 then vNil else vPr 0) = K at hQ hK
  intro J hJ
  have loop2 : ∀ (j k : Nat) (g : gS), j + k = z → okG z g → bfs z H T j k g = mrk z H T S E C D K (mk, rc, n) → J 34 [some (.ref 17), some (.long (encV S)), none, some (.long (encV E)), none, some (.long (encV C)), none, some (.long (encV D)), none, some (.int (nI k))] [] (sW o0 o1 o2 o3 o4 o5 o6 o7 o8 o9 o10 o11 o12 o13 o14 o15 o16 z (eH H) (eH T) frR (eB g.1) (eN g.2.1) fN (nI g.2.2) (nI c) tl, b0, b1, op) := by
    intro j
    induction j with
    | zero =>
      intro k g hk hg e
      change g = _ at e
      subst e
      have h1 := hg.1
      refine hJ _ _ _ _ ?_
      exact And.intro (fun _ => hQ) (fun _ => And.intro (fun _ => hQ) (fun (q : ¬ nI z ≤ nI k) => absurd (nI_le (by omega) (by omega)) q))
    | succ j ih =>
      intro k g hk hg e
      have h1 := hg.1
      have e2 : bfs z H T (j + 1) k g = if k < g.2.2 then bfs z H T j (k + 1) (rch z (T ((rch z (H (g.2.1 k)) g).2.1 k)) (rch z (H (g.2.1 k)) g)) else g := rfl
      rw [e2] at e
      refine hJ _ _ _ _ ?_
      by_cases hkn : k < g.2.2
      · rw [if_pos hkn] at e
        have hc1 := hg.2 k hkn
        have hg1 := okG_rch (hH _ hc1) hg
        obtain ⟨k1, k2⟩ := rch_keep (z := z) (v := H (g.2.1 k)) hkn
        have hc2 := hg1.2 k k2
        have hg2 := okG_rch (hT _ hc2) hg1
        refine And.intro (fun (q : nI g.2.2 ≤ nI k) => absurd q (nI_ge hkn (by omega))) (fun _ => ?_)
        refine And.intro (fun (q : nI z ≤ nI k) => absurd q (nI_ge (by omega) (by omega))) (fun _ => ?_)
        have ek : (nI k).toNatClampNeg = k := nI_clamp (by omega)
        refine And.intro (vp_in_nI (show k < z by omega) (by omega)) ?_
        rw [ek]
        refine And.intro (vp_in_nI hc1 (by omega)) ?_
        rw [show (nI (g.2.1 k)).toNatClampNeg = g.2.1 k from nI_clamp (by omega)]
        refine s_reach hz (hH _ hc1) hg ?_
        refine And.intro (vp_in_nI (show k < z by omega) (by omega)) ?_
        rw [ek]
        refine And.intro (vp_in_nI hc2 (by omega)) ?_
        rw [show (nI ((rch z (H (g.2.1 k)) g).2.1 k)).toNatClampNeg = (rch z (H (g.2.1 k)) g).2.1 k from nI_clamp (by omega)]
        refine s_reach hz (hT _ hc2) hg1 ?_
        have key : ∀ x : Int32, x = nI (k + 1) → J 34 [some (.ref 17), some (.long (encV S)), none, some (.long (encV E)), none, some (.long (encV C)), none, some (.long (encV D)), none, some (.int x)] [] (sW o0 o1 o2 o3 o4 o5 o6 o7 o8 o9 o10 o11 o12 o13 o14 o15 o16 z (eH H) (eH T) frR (eB (rch z (T ((rch z (H (g.2.1 k)) g).2.1 k)) (rch z (H (g.2.1 k)) g)).1) (eN (rch z (T ((rch z (H (g.2.1 k)) g).2.1 k)) (rch z (H (g.2.1 k)) g)).2.1) fN (nI (rch z (T ((rch z (H (g.2.1 k)) g).2.1 k)) (rch z (H (g.2.1 k)) g)).2.2) (nI c) tl, b0, b1, op) := by
          rintro x rfl
          exact ih (k + 1) _ (by omega) hg2 e
        exact key _ (nI_succ k).symm
      · rw [if_neg hkn] at e
        rw [← e] at hQ
        exact And.intro (fun _ => hQ) (fun (q : ¬ nI g.2.2 ≤ nI k) => absurd (nI_le (by omega) (by omega)) q)
  have loop1 : ∀ (j k : Nat), j + k = z → J 2 [some (.ref 17), some (.long (encV S)), none, some (.long (encV E)), none, some (.long (encV C)), none, some (.long (encV D)), none, some (.int (nI k))] [] (sW o0 o1 o2 o3 o4 o5 o6 o7 o8 o9 o10 o11 o12 o13 o14 o15 o16 z (eH H) (eH T) frR (eB (clr k mk)) (eN rc) fN (nI n) (nI c) tl, b0, b1, op) := by
    intro j
    induction j with
    | zero =>
      intro k hk
      have e : k = z := by omega
      subst e
      refine hJ _ _ _ _ ?_
      refine And.intro (fun _ => ?_) (fun (q : ¬ nI k ≤ nI k) => absurd (nI_le (by omega) (by omega)) q)
      have g0 : okG k (clr k mk, rc, 0) := ⟨by show 0 ≤ k; omega, fun i hi => absurd hi (by show ¬ i < 0; omega)⟩
      have g1 := okG_rch hS g0
      have g2 := okG_rch hE g1
      have g3 := okG_rch hC g2
      have g4 := okG_rch hD g3
      have g5 := okG_rch hK g4
      refine s_reach (g := (clr k mk, rc, 0)) hz hS g0 ?_
      refine s_reach hz hE g1 ?_
      refine s_reach hz hC g2 ?_
      refine s_reach hz hD g3 ?_
      refine s_code (by omega) ?_
      rw [hKe]
      refine s_reach hz hK g4 ?_
      exact loop2 k 0 _ (by omega) g5 rfl
    | succ j ih =>
      intro k hk
      refine hJ _ _ _ _ ?_
      refine And.intro (fun (q : nI z ≤ nI k) => absurd q (nI_ge (by omega) (by omega))) (fun _ => ?_)
      refine And.intro (vp_in_nI (show k < z by omega) (by omega)) ?_
      have key : ∀ (i : Nat) (x : Int32), i = k → x = nI (k + 1) → J 2 [some (.ref 17), some (.long (encV S)), none, some (.long (encV E)), none, some (.long (encV C)), none, some (.long (encV D)), none, some (.int x)] [] (sW o0 o1 o2 o3 o4 o5 o6 o7 o8 o9 o10 o11 o12 o13 o14 o15 o16 z (eH H) (eH T) frR (upd (eB (clr k mk)) i (vp_nar .boolean 0)) (eN rc) fN (nI n) (nI c) tl, b0, b1, op) := by
        rintro i x rfl rfl
        rw [clr_step]
        exact ih (i + 1) (by omega)
      exact key _ _ (nI_clamp (by omega)) (nI_succ k).symm
  refine hJ _ _ _ _ ?_
  have h0 := loop1 z 0 (by omega)
  rw [clr_0] at h0
  exact h0
variable {mk : Nat → Bool} {p : (Nat → Nat) × Nat}
theorem fuN_le (mk : Nat → Bool) : ∀ (j c : Nat) (p : (Nat → Nat) × Nat), (fuN mk j c p).2 ≤ p.2 + j := by
  intro j
  induction j with
  | zero => intro c p; exact Nat.le_refl _
  | succ j ih =>
    intro c p
    have e : fuN mk (j + 1) c p = if mk c then fuN mk j (c + 1) p else fuN mk j (c + 1) (upW p.1 p.2 c, p.2 + 1) := rfl
    rw [e]
    split
    · have := ih (c + 1) p
      omega
    · have h1 := ih (c + 1) (upW p.1 p.2 c, p.2 + 1)
      have h2 : (upW p.1 p.2 c, p.2 + 1).2 = p.2 + 1 := rfl
      omega
theorem s_freeUnmarked (hz : z ≤ 250) (hQ : Q (.inl (some (.int (nI (fuN mk z 0 (p.1, 0)).2 - nI p.2))), (sW o0 o1 o2 o3 o4 o5 o6 o7 o8 o9 o10 o11 o12 o13 o14 o15 o16 z hR tR (eN (fuN mk z 0 (p.1, 0)).1) (eB mk) rcR (nI (fuN mk z 0 (p.1, 0)).2) rN cN tl, b0, b1, op))) : mj_Mt gT cst gnw (m + 1) y_Store_freeUnmarked [.ref 17] (sW o0 o1 o2 o3 o4 o5 o6 o7 o8 o9 o10 o11 o12 o13 o14 o15 o16 z hR tR (eN p.1) (eB mk) rcR (nI p.2) rN cN tl, b0, b1, op) Q := by
  obtain ⟨fr, f⟩ := p
  intro J hJ
  have loop : ∀ (j c : Nat) (p : (Nat → Nat) × Nat), j + c = z → p.2 ≤ c → fuN mk j c p = fuN mk z 0 (fr, 0) → J 8 [some (.ref 17), some (.int (nI f)), some (.int (nI c))] [] (sW o0 o1 o2 o3 o4 o5 o6 o7 o8 o9 o10 o11 o12 o13 o14 o15 o16 z hR tR (eN p.1) (eB mk) rcR (nI p.2) rN cN tl, b0, b1, op) := by
    intro j
    induction j with
    | zero =>
      intro c p hc hp e
      change p = _ at e
      have ec : c = z := by omega
      subst ec
      rw [← e] at hQ
      refine hJ _ _ _ _ ?_
      exact And.intro (fun _ => hQ) (fun (q : ¬ nI c ≤ nI c) => absurd (nI_le (by omega) (by omega)) q)
    | succ j ih =>
      intro c p hc hp e
      have e2 : fuN mk (j + 1) c p = if mk c then fuN mk j (c + 1) p else fuN mk j (c + 1) (upW p.1 p.2 c, p.2 + 1) := rfl
      rw [e2] at e
      have ec : (nI c).toNatClampNeg = c := nI_clamp (by omega)
      refine hJ _ _ _ _ ?_
      refine And.intro (fun (q : nI z ≤ nI c) => absurd q (nI_ge (by omega) (by omega))) (fun _ => ?_)
      refine And.intro (vp_in_nI (show c < z by omega) (by omega)) ?_
      rw [ec]
      refine And.intro (fun (q : ¬ bI (mk c) = 0) => ?_) (fun (q : bI (mk c) = 0) => ?_)
      · have hm : mk c = true := by
          cases h : mk c with
          | true => rfl
          | false => rw [h] at q; exact absurd rfl q
        rw [hm, if_pos rfl] at e
        have key : ∀ x : Int32, x = nI (c + 1) → J 8 [some (.ref 17), some (.int (nI f)), some (.int x)] [] (sW o0 o1 o2 o3 o4 o5 o6 o7 o8 o9 o10 o11 o12 o13 o14 o15 o16 z hR tR (eN p.1) (eB mk) rcR (nI p.2) rN cN tl, b0, b1, op) := by
          rintro x rfl
          exact ih (c + 1) p (by omega) (by omega) e
        exact key _ (nI_succ c).symm
      · have hm : mk c = false := by
          cases h : mk c with
          | false => rfl
          | true => rw [h] at q; exact absurd q (by decide)
        rw [hm] at e
        rw [if_neg (by decide)] at e
        refine And.intro (vp_in_nI (show p.2 < z by omega) (by omega)) ?_
        have key : ∀ (i : Nat) (x y : Int32), i = p.2 → x = nI (c + 1) → y = nI (p.2 + 1) → J 8 [some (.ref 17), some (.int (nI f)), some (.int x)] [] (sW o0 o1 o2 o3 o4 o5 o6 o7 o8 o9 o10 o11 o12 o13 o14 o15 o16 z hR tR (upd (eN p.1) i (nI c)) (eB mk) rcR y rN cN tl, b0, b1, op) := by
          rintro i x y rfl rfl rfl
          rw [upd_nI]
          exact ih (c + 1) (upW p.1 p.2 c, p.2 + 1) (by omega) (by show p.2 + 1 ≤ c + 1; omega) e
        exact key _ _ _ (nI_clamp (by omega)) (nI_succ c).symm (nI_succ p.2).symm
  refine hJ _ _ _ _ ?_
  exact loop z 0 (fr, 0) (by omega) (by show 0 ≤ 0; omega) rfl
theorem s_freeAllButCode {c : Nat} (hz : z ≤ 250) (hc : c ≤ z) (hQ : Q (.inl none, (sW o0 o1 o2 o3 o4 o5 o6 o7 o8 o9 o10 o11 o12 o13 o14 o15 o16 z hR tR (eN (faN (z - c) c (fr, 0)).1) mkR rcR (nI (faN (z - c) c (fr, 0)).2) rN (nI c) tl, b0, b1, op))) : mj_Mt gT cst gnw (m + 1) y_Store_freeAllButCode [.ref 17] (sW o0 o1 o2 o3 o4 o5 o6 o7 o8 o9 o10 o11 o12 o13 o14 o15 o16 z hR tR (eN fr) mkR rcR fN rN (nI c) tl, b0, b1, op) Q := by
  intro J hJ
  have loop : ∀ (j k : Nat) (p : (Nat → Nat) × Nat), j + k = z → p.2 ≤ k → faN j k p = faN (z - c) c (fr, 0) → J 6 [some (.ref 17), some (.int (nI k))] [] (sW o0 o1 o2 o3 o4 o5 o6 o7 o8 o9 o10 o11 o12 o13 o14 o15 o16 z hR tR (eN p.1) mkR rcR (nI p.2) rN (nI c) tl, b0, b1, op) := by
    intro j
    induction j with
    | zero =>
      intro k p hk hp e
      change p = _ at e
      have ek : k = z := by omega
      subst ek
      rw [← e] at hQ
      refine hJ _ _ _ _ ?_
      exact And.intro (fun _ => hQ) (fun (q : ¬ nI k ≤ nI k) => absurd (nI_le (by omega) (by omega)) q)
    | succ j ih =>
      intro k p hk hp e
      refine hJ _ _ _ _ ?_
      refine And.intro (fun (q : nI z ≤ nI k) => absurd q (nI_ge (by omega) (by omega))) (fun _ => ?_)
      refine And.intro (vp_in_nI (show p.2 < z by omega) (by omega)) ?_
      have key : ∀ (i : Nat) (x y : Int32), i = p.2 → x = nI (k + 1) → y = nI (p.2 + 1) → J 6 [some (.ref 17), some (.int x)] [] (sW o0 o1 o2 o3 o4 o5 o6 o7 o8 o9 o10 o11 o12 o13 o14 o15 o16 z hR tR (upd (eN p.1) i (nI k)) mkR rcR y rN (nI c) tl, b0, b1, op) := by
        rintro i x y rfl rfl rfl
        rw [upd_nI]
        exact ih (k + 1) (upW p.1 p.2 k, p.2 + 1) (by omega) (by show p.2 + 1 ≤ k + 1; omega) e
      exact key _ _ _ (nI_clamp (by omega)) (nI_succ k).symm (nI_succ p.2).symm
  refine hJ _ _ _ _ ?_
  exact loop (z - c) c (fr, 0) (by omega) (by show 0 ≤ c; omega) rfl
end P2d
end
section
theorem lg_eq {x y : Int64} : lg_cmp x y = 0 ↔ x = y := by
  unfold lg_cmp
  split
  · rename_i h
    refine ⟨fun q => absurd q (by decide), fun q => ?_⟩
    subst q
    exact absurd h Int64.lt_irrefl
  · split
    · rename_i h
      exact ⟨fun _ => h, fun _ => rfl⟩
    · rename_i h
      exact ⟨fun q => absurd q (by decide), fun q => absurd q h⟩
def sameV (x y : Vl) : Bool := decide (encV x = encV y) && decide (cV x = -1)
section P2e
variable {cst : Nat → Option (Nat × (Nat → Int32))} {m b0 b1 : Nat} {op : Bool} {tl : List mj_O} {Q : mj_R → Prop}
variable {o0 o1 o2 o3 o4 o5 o6 o7 o8 o9 o10 o11 o12 o13 o14 o15 : mj_O} {S E C D : Vl} {mode colls taken steps : Int32} {z : Nat} {H T : Nat → Vl} {fr : Nat → Nat} {mk rc : Nat → Int32} {f : Nat} {rN cN : Int32}
set_option maxRecDepth 10000
theorem k_variable {n : Nat} (hn : n < 10000) (hv : (encV (ofV H (ofV T C))).toInt32 = nI n) (hz : z ≤ 250) (hA : okA z H) (hB : okA z T) (hfr : ∀ j, j < z → fr j < z) (hS : okV z S) (hE : okV z E) (hC : okV z C) (hD : okV z D) (hf : f + 1 ≤ z) (h1 : ¬ kV (behV T (n / 16) E) = 3 → Q (.inl (some (.int 0)), (mW o0 o1 o2 o3 o4 o5 o6 o7 o8 o9 o10 o11 o12 o13 o14 o15 (encV S) (encV E) (encV C) (encV D) mode colls taken steps z (eH H) (eH T) (eN fr) mk rc (nI (f + 1)) rN cN tl, b0, b1, op))) (h2 : kV (behV T (n / 16) E) = 3 → ¬ kV (behV T (n % 16) (ofV H (behV T (n / 16) E))) = 3 → Q (.inl (some (.int 0)), (mW o0 o1 o2 o3 o4 o5 o6 o7 o8 o9 o10 o11 o12 o13 o14 o15 (encV S) (encV E) (encV C) (encV D) mode colls taken steps z (eH H) (eH T) (eN fr) mk rc (nI (f + 1)) rN cN tl, b0, b1, op))) (h3 : kV (behV T (n / 16) E) = 3 → kV (behV T (n % 16) (ofV H (behV T (n / 16) E))) = 3 → Q (.inl (some (.int 1)), (mW o0 o1 o2 o3 o4 o5 o6 o7 o8 o9 o10 o11 o12 o13 o14 o15 (encV (vPr (fr f))) (encV E) (encV (ofV (upW T (fr f) S) (ofV T C))) (encV D) mode colls taken steps z (eH (upW H (fr f) (ofV H (behV T (n % 16) (ofV H (behV T (n / 16) E)))))) (eH (upW T (fr f) S)) (eN fr) mk rc (nI f) rN cN tl, b0, b1, op))) : mj_Mt gT cst gnw (m + 4) y_Machine_variable [.ref 16] (mW o0 o1 o2 o3 o4 o5 o6 o7 o8 o9 o10 o11 o12 o13 o14 o15 (encV S) (encV E) (encV C) (encV D) mode colls taken steps z (eH H) (eH T) (eN fr) mk rc (nI (f + 1)) rN cN tl, b0, b1, op) Q := by
  intro J hJ
  refine hJ _ _ _ _ ?_
  refine s_tail hz hC ?_
  refine s_head hz (okV_of hB hC) ?_
  refine v_content ?_
  rw [hv]
  refine And.intro (by decide) ?_
  rw [(nI_16 (n := n) (by omega)).1]
  refine s_behind hz (by omega) hB hE ?_
  refine v_isPair ?_
  by_cases c1 : kV (behV T (n / 16) E) = 3
  · rw [show (kV (behV T (n / 16) E) == 3) = true by simp [c1]]
    refine And.intro (fun _ => ?_) (fun g => absurd g (by decide))
    refine s_head hz (okV_beh hB (n / 16) _ hE) ?_
    refine And.intro (by decide) ?_
    rw [(nI_16 (n := n) (by omega)).2]
    refine s_behind hz (by omega) hB (okV_of hA (okV_beh hB (n / 16) _ hE)) ?_
    refine v_isPair ?_
    by_cases c2 : kV (behV T (n % 16) (ofV H (behV T (n / 16) E))) = 3
    · rw [show (kV (behV T (n % 16) (ofV H (behV T (n / 16) E))) == 3) = true by simp [c2]]
      refine And.intro (fun _ => ?_) (fun g => absurd g (by decide))
      refine s_head hz (okV_beh hB (n % 16) _ (okV_of hA (okV_beh hB (n / 16) _ hE))) ?_
      refine s_newPair hz (by omega) (hfr _ (by omega)) ?_
      refine s_tail hz (okV_of hB hC) ?_
      exact And.intro (Or.inr rfl) (h3 c1 c2)
    · rw [show (kV (behV T (n % 16) (ofV H (behV T (n / 16) E))) == 3) = false by simp [c2]]
      refine And.intro (fun g => absurd rfl g) (fun _ => ?_)
      exact And.intro (Or.inl rfl) (h2 c1 c2)
  · rw [show (kV (behV T (n / 16) E) == 3) = false by simp [c1]]
    refine And.intro (fun g => absurd rfl g) (fun _ => ?_)
    exact And.intro (Or.inl rfl) (h1 c1)
theorem k_same (hz : z ≤ 250) (hA : okA z H) (hB : okA z T) (hfr : ∀ j, j < z → fr j < z) (hS : okV z S) (hE : okV z E) (hC : okV z C) (hD : okV z D) (hf : f + 1 ≤ z) (hQ1 : sameV (ofV H (ofV T S)) (ofV H S) = true → Q (.inl (some (.int 1)), (mW o0 o1 o2 o3 o4 o5 o6 o7 o8 o9 o10 o11 o12 o13 o14 o15 (encV (vPr (fr f))) (encV E) (encV (ofV (upW T (fr f) (behV T 2 S)) C)) (encV D) mode colls taken steps z (eH (upW H (fr f) (vInt 1))) (eH (upW T (fr f) (behV T 2 S))) (eN fr) mk rc (nI f) rN cN tl, b0, b1, op))) (hQ0 : sameV (ofV H (ofV T S)) (ofV H S) = false → Q (.inl (some (.int 1)), (mW o0 o1 o2 o3 o4 o5 o6 o7 o8 o9 o10 o11 o12 o13 o14 o15 (encV (vPr (fr f))) (encV E) (encV (ofV (upW T (fr f) (behV T 2 S)) C)) (encV D) mode colls taken steps z (eH (upW H (fr f) (vInt 0))) (eH (upW T (fr f) (behV T 2 S))) (eN fr) mk rc (nI f) rN cN tl, b0, b1, op))) : mj_Mt gT cst gnw (m + 5) y_Machine_same [.ref 16] (mW o0 o1 o2 o3 o4 o5 o6 o7 o8 o9 o10 o11 o12 o13 o14 o15 (encV S) (encV E) (encV C) (encV D) mode colls taken steps z (eH H) (eH T) (eN fr) mk rc (nI (f + 1)) rN cN tl, b0, b1, op) Q := by
  intro J hJ
  refine hJ _ _ _ _ ?_
  refine s_head hz hS ?_
  refine s_tail hz hS ?_
  refine s_head hz (okV_of hB hS) ?_
  refine And.intro (fun g => ?_) (fun g => ?_)
  · have h0 := hQ0 (by unfold sameV; rw [show decide (encV (ofV H (ofV T S)) = encV (ofV H S)) = false by simpa using fun q => g (lg_eq.mpr q)]; rfl)
    refine And.intro (fun _ => ?_) (fun g => absurd rfl g)
    refine v_number (x := 0) ?_
    refine k_replace (n := 2) (by decide) trivial hz hA hB hfr hS hE hC hD (by omega) ?_
    exact And.intro (Or.inr rfl) h0
  · refine v_cell ?_
    refine And.intro (fun (g2 : ¬ cV (ofV H (ofV T S)) = -1) => ?_) (fun (g2 : cV (ofV H (ofV T S)) = -1) => ?_)
    · have h0 := hQ0 (by unfold sameV; rw [show decide (cV (ofV H (ofV T S)) = -1) = false by simpa using g2]; simp)
      refine And.intro (fun _ => ?_) (fun g => absurd rfl g)
      refine v_number (x := 0) ?_
      refine k_replace (n := 2) (by decide) trivial hz hA hB hfr hS hE hC hD (by omega) ?_
      exact And.intro (Or.inr rfl) h0
    · have h1 := hQ1 (by unfold sameV; rw [show decide (encV (ofV H (ofV T S)) = encV (ofV H S)) = true by simpa using lg_eq.mp g, show decide (cV (ofV H (ofV T S)) = -1) = true by simpa using g2]; rfl)
      refine And.intro (fun g => absurd g (by decide)) (fun _ => ?_)
      refine v_number (x := 1) ?_
      refine k_replace (n := 2) (by decide) trivial hz hA hB hfr hS hE hC hD (by omega) ?_
      exact And.intro (Or.inr rfl) h1
theorem k_setRegisters {V : Vl} (hQ : Q (.inl none, (mW o0 o1 o2 o3 o4 o5 o6 o7 o8 o9 o10 o11 o12 o13 o14 o15 (encV vNil) (encV vNil) (encV V) (encV vNil) mode colls taken steps z (eH H) (eH T) (eN fr) mk rc (nI f) rN cN tl, b0, b1, op))) : mj_Mt gT cst gnw (m + 1) y_Machine_setRegisters [.ref 16, .long (encV V)] (mW o0 o1 o2 o3 o4 o5 o6 o7 o8 o9 o10 o11 o12 o13 o14 o15 (encV S) (encV E) (encV C) (encV D) mode colls taken steps z (eH H) (eH T) (eN fr) mk rc (nI f) rN cN tl, b0, b1, op) Q := by
  intro J hJ
  refine hJ _ _ _ _ ?_
  exact hQ
theorem k_collect {c : Nat} {g : gS} (hz : z ≤ 250) (hc : c ≤ z) (hA : okA z H) (hB : okA z T) (hS : okV z S) (hE : okV z E) (hC : okV z C) (hD : okV z D) (hQ : Q (.inl none, (mW o0 o1 o2 o3 o4 o5 o6 o7 o8 o9 o10 o11 o12 o13 o14 o15 (encV S) (encV E) (encV C) (encV D) mode (colls + 1) (taken + (nI (fuN (mrk z H T S E C D (if c = 0 then vNil else vPr 0) g).1 z 0 (fr, 0)).2 - nI f)) steps z (eH H) (eH T) (eN (fuN (mrk z H T S E C D (if c = 0 then vNil else vPr 0) g).1 z 0 (fr, 0)).1) (eB (mrk z H T S E C D (if c = 0 then vNil else vPr 0) g).1) (eN (mrk z H T S E C D (if c = 0 then vNil else vPr 0) g).2.1) (nI (fuN (mrk z H T S E C D (if c = 0 then vNil else vPr 0) g).1 z 0 (fr, 0)).2) (nI (mrk z H T S E C D (if c = 0 then vNil else vPr 0) g).2.2) (nI c) tl, b0, b1, op))) : mj_Mt gT cst gnw (m + 4) y_Machine_collect [.ref 16] (mW o0 o1 o2 o3 o4 o5 o6 o7 o8 o9 o10 o11 o12 o13 o14 o15 (encV S) (encV E) (encV C) (encV D) mode colls taken steps z (eH H) (eH T) (eN fr) (eB g.1) (eN g.2.1) (nI f) (nI g.2.2) (nI c) tl, b0, b1, op) Q := by
  intro J hJ
  refine hJ _ _ _ _ ?_
  refine s_mark (g := g) hz hc hA hB hS hE hC hD ?_
  refine s_freeUnmarked (p := (fr, f)) hz ?_
  exact hQ
end P2e
end
section
def ffN (u : Nat → Int32) : Nat → Nat → Nat
  | 0, k => k
  | n + 1, k => if u k = 0 then k else ffN u n (k + 1)
theorem ffN_le (u : Nat → Int32) : ∀ n k, ffN u n k ≤ k + n := by
  intro n
  induction n with
  | zero => intro k; exact Nat.le_refl _
  | succ n ih =>
    intro k
    have e : ffN u (n + 1) k = if u k = 0 then k else ffN u n (k + 1) := rfl
    rw [e]
    split
    · omega
    · have := ih (k + 1)
      omega
def rsN (r : rM) (k : Nat) : Int32 := if r.tailKind k = 3 then r.tail k else -1
def hlN (r : rM) (k : Nat) : Int32 := if r.headKind k = 3 then r.head k else -1
section P2f
variable {cst : Nat → Option (Nat × (Nat → Int32))} {m b0 b1 : Nat} {op : Bool} {tl : List mj_O} {Q : mj_R → Prop} {s : cS} {r : rM}
set_option maxRecDepth 10000
theorem r_rest {k : Nat} (hk : k < 250) (hQ : Q (.inl (some (.int (rsN r k))), (cW s (rW r tl), b0, b1, op))) : mj_Mt gT cst gnw (m + 1) y_R_rest [.ref 27, .int (nI k)] (cW s (rW r tl), b0, b1, op) Q := by
  have ek : (nI k).toNatClampNeg = k := nI_clamp (by omega)
  unfold rsN at hQ
  intro J hJ
  refine hJ _ _ _ _ ?_
  refine And.intro (vp_in_nI hk (by decide)) ?_
  rw [ek]
  refine And.intro (fun (g : ¬ r.tailKind k = 3) => ?_) (fun (g : r.tailKind k = 3) => ?_)
  · rw [if_neg g] at hQ
    exact hQ
  · rw [if_pos g] at hQ
    refine And.intro (vp_in_nI hk (by decide)) ?_
    rw [ek]
    exact hQ
theorem r_headList {k : Nat} (hk : k < 250) (hQ : Q (.inl (some (.int (hlN r k))), (cW s (rW r tl), b0, b1, op))) : mj_Mt gT cst gnw (m + 1) y_R_headList [.ref 27, .int (nI k)] (cW s (rW r tl), b0, b1, op) Q := by
  have ek : (nI k).toNatClampNeg = k := nI_clamp (by omega)
  unfold hlN at hQ
  intro J hJ
  refine hJ _ _ _ _ ?_
  refine And.intro (vp_in_nI hk (by decide)) ?_
  rw [ek]
  refine And.intro (fun (g : ¬ r.headKind k = 3) => ?_) (fun (g : r.headKind k = 3) => ?_)
  · rw [if_neg g] at hQ
    exact hQ
  · rw [if_pos g] at hQ
    refine And.intro (vp_in_nI hk (by decide)) ?_
    rw [ek]
    exact hQ
theorem r_make {a b c : Int32} (hz : r.z ≤ 250) (hz1 : 1 ≤ r.z) (hQ : ∀ k, k = ffN r.used (r.z - 1) 0 → Q (.inl (some (.int (nI k))), (cW s (rW ((((((r.s_used (upd r.used k 1)).s_function (upd r.function k 0)).s_headKind (upd r.headKind k a)).s_head (upd r.head k b)).s_tailKind (upd r.tailKind k (if c < 0 then 0 else 3))).s_tail (upd r.tail k (if c < 0 then 0 else c))) tl), b0, b1, op))) : mj_Mt gT cst gnw (m + 1) y_R_make [.ref 27, .int a, .int b, .int c] (cW s (rW r tl), b0, b1, op) Q := by
  intro J hJ
  have fin : ∀ k, k = ffN r.used (r.z - 1) 0 → k < 250 → ∀ F : Nat, mj_sg (mj_Mt gT cst gnw m) cst gnw (mj_hd (mj_off kO_R_make) kH_R_make) kC_R_make J Q (F + 60) false 15 [some (.ref 27), some (.int a), some (.int b), some (.int c), some (.int (nI k))] [] (cW s (rW r tl), b0, b1, op) := by
    intro k hk hlt F
    have ek : (nI k).toNatClampNeg = k := nI_clamp (by omega)
    have h9 := hQ k hk
    have hin : vp_in (nI k) 250 := vp_in_nI hlt (by decide)
    refine And.intro hin ?_
    rw [ek]
    change mj_sg _ _ _ _ _ _ _ _ _ 20 [some (.ref 27), some (.int a), some (.int b), some (.int c), some (.int (nI k))] [] (cW s (rW (r.s_used (upd r.used k 1)) tl), b0, b1, op)
    refine And.intro hin ?_
    rw [ek]
    change mj_sg _ _ _ _ _ _ _ _ _ 25 [some (.ref 27), some (.int a), some (.int b), some (.int c), some (.int (nI k))] [] (cW s (rW ((r.s_used (upd r.used k 1)).s_function (upd r.function k 0)) tl), b0, b1, op)
    refine And.intro hin ?_
    rw [ek]
    change mj_sg _ _ _ _ _ _ _ _ _ 30 [some (.ref 27), some (.int a), some (.int b), some (.int c), some (.int (nI k))] [] (cW s (rW (((r.s_used (upd r.used k 1)).s_function (upd r.function k 0)).s_headKind (upd r.headKind k a)) tl), b0, b1, op)
    refine And.intro hin ?_
    rw [ek]
    change mj_sg _ _ _ _ _ _ _ _ _ 35 [some (.ref 27), some (.int a), some (.int b), some (.int c), some (.int (nI k))] [] (cW s (rW ((((r.s_used (upd r.used k 1)).s_function (upd r.function k 0)).s_headKind (upd r.headKind k a)).s_head (upd r.head k b)) tl), b0, b1, op)
    by_cases hc : c < 0
    · rw [if_pos hc, if_pos hc] at h9
      refine And.intro (fun (g : 0 ≤ c) => absurd hc (Int32.not_lt.mpr g)) (fun _ => ?_)
      refine And.intro hin ?_
      rw [ek]
      change mj_sg _ _ _ _ _ _ _ _ _ 44 [some (.ref 27), some (.int a), some (.int b), some (.int c), some (.int (nI k))] [] (cW s (rW (((((r.s_used (upd r.used k 1)).s_function (upd r.function k 0)).s_headKind (upd r.headKind k a)).s_head (upd r.head k b)).s_tailKind (upd r.tailKind k 0)) tl), b0, b1, op)
      refine And.intro (fun (g : 0 ≤ c) => absurd hc (Int32.not_lt.mpr g)) (fun _ => ?_)
      refine And.intro hin ?_
      rw [ek]
      exact h9
    · rw [if_neg hc, if_neg hc] at h9
      refine And.intro (fun _ => ?_) (fun (g : ¬ 0 ≤ c) => absurd (Int32.not_lt.mp hc) g)
      refine And.intro hin ?_
      rw [ek]
      change mj_sg _ _ _ _ _ _ _ _ _ 44 [some (.ref 27), some (.int a), some (.int b), some (.int c), some (.int (nI k))] [] (cW s (rW (((((r.s_used (upd r.used k 1)).s_function (upd r.function k 0)).s_headKind (upd r.headKind k a)).s_head (upd r.head k b)).s_tailKind (upd r.tailKind k 3)) tl), b0, b1, op)
      refine And.intro (fun _ => ?_) (fun (g : ¬ 0 ≤ c) => absurd (Int32.not_lt.mp hc) g)
      refine And.intro hin ?_
      rw [ek]
      exact h9
  have e1 : nI r.z - Int32.ofInt 1 = nI (r.z - 1) := by
    have := nI_pred (r.z - 1)
    rw [show r.z - 1 + 1 = r.z by omega] at this
    exact this
  have loop : ∀ (n k : Nat), n + k = r.z - 1 → ffN r.used n k = ffN r.used (r.z - 1) 0 → J 2 [some (.ref 27), some (.int a), some (.int b), some (.int c), some (.int (nI k))] [] (cW s (rW r tl), b0, b1, op) := by
    intro n
    induction n with
    | zero =>
      intro k hk e
      refine hJ _ _ _ _ ?_
      refine And.intro (fun _ => ?_) (fun (g : ¬ nI r.z - Int32.ofInt 1 ≤ nI k) => absurd (by rw [e1]; exact nI_le (by omega) (by omega)) g)
      exact fin k e (by omega) _
    | succ n ih =>
      intro k hk e
      have e2 : ffN r.used (n + 1) k = if r.used k = 0 then k else ffN r.used n (k + 1) := rfl
      rw [e2] at e
      have ek : (nI k).toNatClampNeg = k := nI_clamp (by omega)
      refine hJ _ _ _ _ ?_
      refine And.intro (fun (g : nI r.z - Int32.ofInt 1 ≤ nI k) => absurd g (by rw [e1]; exact nI_ge (by omega) (by omega))) (fun _ => ?_)
      refine And.intro (vp_in_nI (show k < 250 by omega) (by decide)) ?_
      rw [ek]
      refine And.intro (fun (g : r.used k = 0) => ?_) (fun (g : ¬ r.used k = 0) => ?_)
      · rw [if_pos g] at e
        exact fin k e (by omega) _
      · rw [if_neg g] at e
        have key : ∀ x : Int32, x = nI (k + 1) → J 2 [some (.ref 27), some (.int a), some (.int b), some (.int c), some (.int x)] [] (cW s (rW r tl), b0, b1, op) := by
          rintro x rfl
          exact ih (k + 1) (by omega) e
        exact key _ (nI_succ k).symm
  refine hJ _ _ _ _ ?_
  exact loop (r.z - 1) 0 (by omega) rfl
theorem r_makeOf {b c : Int32} (hz : r.z ≤ 250) (hz1 : 1 ≤ r.z) (hQ : ∀ k, k = ffN r.used (r.z - 1) 0 → Q (.inl (some (.int (nI k))), (cW s (rW ((((((r.s_used (upd r.used k 1)).s_function (upd r.function k 0)).s_headKind (upd r.headKind k (if b < 0 then 0 else 3))).s_head (upd r.head k (if b < 0 then 0 else b))).s_tailKind (upd r.tailKind k (if c < 0 then 0 else 3))).s_tail (upd r.tail k (if c < 0 then 0 else c))) tl), b0, b1, op))) : mj_Mt gT cst gnw (m + 2) y_R_makeOf [.ref 27, .int b, .int c] (cW s (rW r tl), b0, b1, op) Q := by
  intro J hJ
  refine hJ _ _ _ _ ?_
  by_cases hb : b < 0
  · rw [if_pos hb, if_pos hb] at hQ
    refine And.intro (fun (g : 0 ≤ b) => absurd hb (Int32.not_lt.mpr g)) (fun _ => ?_)
    refine And.intro (fun (g : 0 ≤ b) => absurd hb (Int32.not_lt.mpr g)) (fun _ => ?_)
    exact r_make hz hz1 hQ
  · rw [if_neg hb, if_neg hb] at hQ
    refine And.intro (fun _ => ?_) (fun (g : ¬ 0 ≤ b) => absurd (Int32.not_lt.mp hb) g)
    refine And.intro (fun _ => ?_) (fun (g : ¬ 0 ≤ b) => absurd (Int32.not_lt.mp hb) g)
    exact r_make hz hz1 hQ
theorem r_stop {x : Int32} (hQ : Q (.inl none, (cW s (rW (r.s_state x) tl), b0, b1, op))) : mj_Mt gT cst gnw (m + 1) y_R_stop [.ref 27, .int x] (cW s (rW r tl), b0, b1, op) Q := by
  intro J hJ
  refine hJ _ _ _ _ ?_
  exact hQ
theorem r_peek0 {k : Nat} (hk : k < 250) (h0 : r.reg 0 = nI k) (hQ : Q (.inl none, (cW s (rW ((r.s_gotKind (r.headKind k)).s_got (r.head k)) tl), b0, b1, op))) : mj_Mt gT cst gnw (m + 2) y_R_peek [.ref 27, .int 0] (cW s (rW r tl), b0, b1, op) Q := by
  have ek : (nI k).toNatClampNeg = k := nI_clamp (by omega)
  intro J hJ
  have key : ∀ x : Int32, x = nI k → J 7 [some (.ref 27), some (.int 0), some (.int x), some (.int 0)] [] (cW s (rW r tl), b0, b1, op) := by
    rintro x rfl
    refine hJ _ _ _ _ ?_
    refine And.intro (fun _ => ?_) (fun (g : ¬ (0 : Int32) ≤ 0) => absurd (by decide) g)
    refine And.intro (vp_in_nI hk (by decide)) ?_
    rw [ek]
    refine And.intro (vp_in_nI hk (by decide)) ?_
    rw [ek]
    exact hQ
  refine hJ _ _ _ _ ?_
  refine And.intro (in0 (by decide)) ?_
  exact key _ h0
theorem r_peek1 {k j : Nat} (hk : k < 250) (hj : j < 250) (h0 : r.reg 0 = nI j) (h1 : rsN r j = nI k) (hQ : Q (.inl none, (cW s (rW ((r.s_gotKind (r.headKind k)).s_got (r.head k)) tl), b0, b1, op))) : mj_Mt gT cst gnw (m + 2) y_R_peek [.ref 27, .int 1] (cW s (rW r tl), b0, b1, op) Q := by
  have ek : (nI k).toNatClampNeg = k := nI_clamp (by omega)
  intro J hJ
  have key2 : ∀ x : Int32, x = nI k → J 7 [some (.ref 27), some (.int 1), some (.int x), some (.int 1)] [] (cW s (rW r tl), b0, b1, op) := by
    rintro x rfl
    refine hJ _ _ _ _ ?_
    refine And.intro (fun _ => ?_) (fun (g : ¬ (1 : Int32) ≤ 1) => absurd (by decide) g)
    refine And.intro (vp_in_nI hk (by decide)) ?_
    rw [ek]
    refine And.intro (vp_in_nI hk (by decide)) ?_
    rw [ek]
    exact hQ
  have key : ∀ x : Int32, x = nI j → J 7 [some (.ref 27), some (.int 1), some (.int x), some (.int 0)] [] (cW s (rW r tl), b0, b1, op) := by
    rintro x rfl
    refine hJ _ _ _ _ ?_
    refine And.intro (fun (g : (1 : Int32) ≤ 0) => absurd g (by decide)) (fun _ => ?_)
    refine r_rest hj ?_
    exact key2 _ h1
  refine hJ _ _ _ _ ?_
  refine And.intro (in0 (by decide)) ?_
  exact key _ h0
theorem r_drop {j : Nat} (hj : j < 250) (h0 : r.reg 0 = nI j) (hQ : Q (.inl none, (cW s (rW (r.s_reg (upd r.reg 0 (rsN r j))) tl), b0, b1, op))) : mj_Mt gT cst gnw (m + 2) y_R_drop [.ref 27] (cW s (rW r tl), b0, b1, op) Q := by
  intro J hJ
  refine hJ _ _ _ _ ?_
  refine And.intro (in0 (by decide)) ?_
  have key : ∀ x : Int32, x = nI j → ∀ Q' : mj_R → Prop, Q' (.inl (some (.int (rsN r j))), (cW s (rW r tl), b0, b1, op)) → mj_Mt gT cst gnw (m + 1) y_R_rest [.ref 27, .int x] (cW s (rW r tl), b0, b1, op) Q' := by
    rintro x rfl Q' hQ'
    exact r_rest hj hQ'
  refine key _ h0 _ ?_
  exact And.intro (in0 (by decide)) hQ
theorem r_push {a b : Int32} (hz : r.z ≤ 250) (hz1 : 1 ≤ r.z) (hQ : ∀ k, k = ffN r.used (r.z - 1) 0 → Q (.inl none, (cW s (rW (((((((r.s_used (upd r.used k 1)).s_function (upd r.function k 0)).s_headKind (upd r.headKind k a)).s_head (upd r.head k b)).s_tailKind (upd r.tailKind k (if (r.reg 0) < 0 then 0 else 3))).s_tail (upd r.tail k (if (r.reg 0) < 0 then 0 else (r.reg 0)))).s_reg (upd r.reg 0 (nI k))) tl), b0, b1, op))) : mj_Mt gT cst gnw (m + 2) y_R_push [.ref 27, .int a, .int b] (cW s (rW r tl), b0, b1, op) Q := by
  intro J hJ
  refine hJ _ _ _ _ ?_
  refine And.intro (in0 (by decide)) ?_
  refine r_make hz hz1 (fun k hk => ?_)
  exact And.intro (in0 (by decide)) (hQ k hk)
def rnd (i : Int32) : Int32 := if i = 4 then 4 else if i = 7 then 3 else if i = 3 ∨ i = 13 then 2 else if i = 9 ∨ i = 19 then 0 else 1
theorem r_needs {h : mj_H} {i : Int32} (hQ : Q (.inl (some (.int (rnd i))), h)) : mj_Mt gT cst gnw (m + 1) y_R_needs [.int i] h Q := by
  unfold rnd at hQ
  intro J hJ
  refine hJ _ _ _ _ ?_
  refine And.intro (fun (g : ¬ i = 4) => ?_) (fun (g : i = 4) => ?_)
  · rw [if_neg g] at hQ
    refine And.intro (fun (g2 : ¬ i = 7) => ?_) (fun (g2 : i = 7) => ?_)
    · rw [if_neg g2] at hQ
      refine And.intro (fun (g3 : i = 3) => ?_) (fun (g3 : ¬ i = 3) => ?_)
      · rw [if_pos (Or.inl g3)] at hQ
        exact hQ
      · refine And.intro (fun (g4 : ¬ i = 13) => ?_) (fun (g4 : i = 13) => ?_)
        · rw [if_neg (fun q => q.elim g3 g4)] at hQ
          refine And.intro (fun (g5 : i = 9) => ?_) (fun (g5 : ¬ i = 9) => ?_)
          · rw [if_pos (Or.inl g5)] at hQ
            exact hQ
          · refine And.intro (fun (g6 : ¬ i = 19) => ?_) (fun (g6 : i = 19) => ?_)
            · rw [if_neg (fun q => q.elim g5 g6)] at hQ
              exact hQ
            · rw [if_pos (Or.inr g6)] at hQ
              exact hQ
        · rw [if_pos (Or.inr g4)] at hQ
          exact hQ
    · rw [if_pos g2] at hQ
      exact hQ
  · rw [if_pos g] at hQ
    exact hQ
end P2f
end
section
def chN (r : rM) : Nat → Int32 → Prop
  | 0, x => x < 0
  | n + 1, x => ∃ k, k < 250 ∧ x = nI k ∧ chN r n (rsN r k)
def czN (u : Nat → Int32) : Nat → Nat → Nat → Nat
  | 0, _, a => a
  | n + 1, k, a => czN u n (k + 1) (if u k = 0 then a + 1 else a)
theorem czN_le (u : Nat → Int32) : ∀ n k a, czN u n k a ≤ a + n := by
  intro n
  induction n with
  | zero => intro k a; exact Nat.le_refl _
  | succ n ih =>
    intro k a
    have e : czN u (n + 1) k a = czN u n (k + 1) (if u k = 0 then a + 1 else a) := rfl
    rw [e]
    split
    · have := ih (k + 1) (a + 1)
      omega
    · have := ih (k + 1) a
      omega
section P2g
variable {cst : Nat → Option (Nat × (Nat → Int32))} {m b0 b1 : Nat} {op : Bool} {tl : List mj_O} {Q : mj_R → Prop} {s : cS} {r : rM}
set_option maxRecDepth 10000
theorem r_lengthOf {n : Nat} {x : Int32} (hn : n < 2 ^ 31) (hc : chN r n x) (hQ : Q (.inl (some (.int (nI n))), (cW s (rW r tl), b0, b1, op))) : mj_Mt gT cst gnw (m + 2) y_R_lengthOf [.ref 27, .int x] (cW s (rW r tl), b0, b1, op) Q := by
  intro J hJ
  have loop : ∀ (j a : Nat) (y : Int32), j + a = n → chN r j y → J 4 [some (.ref 27), some (.int x), some (.int (nI a)), some (.int y)] [] (cW s (rW r tl), b0, b1, op) := by
    intro j
    induction j with
    | zero =>
      intro a y ha hy
      have e : a = n := by omega
      subst e
      refine hJ _ _ _ _ ?_
      exact And.intro (fun _ => hQ) (fun g => absurd hy g)
    | succ j ih =>
      intro a y ha hy
      obtain ⟨k, hk, rfl, h2⟩ := hy
      refine hJ _ _ _ _ ?_
      refine And.intro (fun (g : nI k < 0) => absurd g (nI_pos (by omega))) (fun _ => ?_)
      refine r_rest hk ?_
      have key : ∀ z : Int32, z = nI (a + 1) → J 4 [some (.ref 27), some (.int x), some (.int z), some (.int (rsN r k))] [] (cW s (rW r tl), b0, b1, op) := by
        rintro z rfl
        exact ih (a + 1) _ (by omega) h2
      exact key _ (nI_succ a).symm
  refine hJ _ _ _ _ ?_
  exact loop n 0 x (by omega) hc
theorem r_free (hz : r.z ≤ 250) (hQ : Q (.inl (some (.int (nI (czN r.used r.z 0 0)))), (cW s (rW r tl), b0, b1, op))) : mj_Mt gT cst gnw (m + 1) y_R_free [.ref 27] (cW s (rW r tl), b0, b1, op) Q := by
  intro J hJ
  have loop : ∀ (n k a : Nat), n + k = r.z → czN r.used n k a = czN r.used r.z 0 0 → J 4 [some (.ref 27), some (.int (nI a)), some (.int (nI k))] [] (cW s (rW r tl), b0, b1, op) := by
    intro n
    induction n with
    | zero =>
      intro k a hk e
      change a = _ at e
      rw [← e] at hQ
      refine hJ _ _ _ _ ?_
      exact And.intro (fun _ => hQ) (fun (g : ¬ nI r.z ≤ nI k) => absurd (nI_le (by omega) (by omega)) g)
    | succ n ih =>
      intro k a hk e
      have e2 : czN r.used (n + 1) k a = czN r.used n (k + 1) (if r.used k = 0 then a + 1 else a) := rfl
      rw [e2] at e
      have ek : (nI k).toNatClampNeg = k := nI_clamp (by omega)
      refine hJ _ _ _ _ ?_
      refine And.intro (fun (g : nI r.z ≤ nI k) => absurd g (nI_ge (by omega) (by omega))) (fun _ => ?_)
      refine And.intro (vp_in_nI (show k < 250 by omega) (by decide)) ?_
      rw [ek]
      refine And.intro (fun (g : r.used k = 0) => ?_) (fun (g : ¬ r.used k = 0) => ?_)
      · rw [if_pos g] at e
        have key : ∀ x y : Int32, x = nI (a + 1) → y = nI (k + 1) → J 4 [some (.ref 27), some (.int x), some (.int y)] [] (cW s (rW r tl), b0, b1, op) := by
          rintro x y rfl rfl
          exact ih (k + 1) (a + 1) (by omega) e
        exact key _ _ (nI_succ a).symm (nI_succ k).symm
      · rw [if_neg g] at e
        have key : ∀ y : Int32, y = nI (k + 1) → J 4 [some (.ref 27), some (.int (nI a)), some (.int y)] [] (cW s (rW r tl), b0, b1, op) := by
          rintro y rfl
          exact ih (k + 1) a (by omega) e
        exact key _ (nI_succ k).symm
  refine hJ _ _ _ _ ?_
  exact loop r.z 0 0 (by omega) rfl
theorem r_isFunction (hg : r.gotKind = 3 → ∃ k, k < 250 ∧ r.got = nI k) (h1 : ∀ k, r.gotKind = 3 → r.got = nI k → k < 250 → ¬ r.function k = 0 → Q (.inl (some (.int 1)), (cW s (rW r tl), b0, b1, op))) (h0 : (¬ r.gotKind = 3 ∨ ∃ k, k < 250 ∧ r.got = nI k ∧ r.function k = 0) → Q (.inl (some (.int 0)), (cW s (rW r tl), b0, b1, op))) : mj_Mt gT cst gnw (m + 1) y_R_isFunction [.ref 27] (cW s (rW r tl), b0, b1, op) Q := by
  intro J hJ
  refine hJ _ _ _ _ ?_
  refine And.intro (fun (g : ¬ r.gotKind = 3) => And.intro (Or.inl rfl) (h0 (Or.inl g))) (fun (g : r.gotKind = 3) => ?_)
  obtain ⟨k, hk, e⟩ := hg g
  have ek : r.got.toNatClampNeg = k := by rw [e]; exact nI_clamp (by omega)
  refine And.intro (show vp_in r.got 250 by rw [e]; exact vp_in_nI hk (by decide)) ?_
  rw [ek]
  refine And.intro (fun (g2 : r.function k = 0) => ?_) (fun (g2 : ¬ r.function k = 0) => ?_)
  · exact And.intro (Or.inl rfl) (h0 (Or.inr ⟨k, hk, e, g2⟩))
  · exact And.intro (Or.inr rfl) (h1 k g e hk g2)
theorem r_isPair (hg : r.gotKind = 3 → ∃ k, k < 250 ∧ r.got = nI k) (h1 : ∀ k, r.gotKind = 3 → r.got = nI k → k < 250 → r.function k = 0 → Q (.inl (some (.int 1)), (cW s (rW r tl), b0, b1, op))) (h0 : (¬ r.gotKind = 3 ∨ ∃ k, k < 250 ∧ r.got = nI k ∧ ¬ r.function k = 0) → Q (.inl (some (.int 0)), (cW s (rW r tl), b0, b1, op))) : mj_Mt gT cst gnw (m + 1) y_R_isPair [.ref 27] (cW s (rW r tl), b0, b1, op) Q := by
  intro J hJ
  refine hJ _ _ _ _ ?_
  refine And.intro (fun (g : ¬ r.gotKind = 3) => And.intro (Or.inl rfl) (h0 (Or.inl g))) (fun (g : r.gotKind = 3) => ?_)
  obtain ⟨k, hk, e⟩ := hg g
  have ek : r.got.toNatClampNeg = k := by rw [e]; exact nI_clamp (by omega)
  refine And.intro (show vp_in r.got 250 by rw [e]; exact vp_in_nI hk (by decide)) ?_
  rw [ek]
  refine And.intro (fun (g2 : ¬ r.function k = 0) => ?_) (fun (g2 : r.function k = 0) => ?_)
  · exact And.intro (Or.inl rfl) (h0 (Or.inr ⟨k, hk, e, g2⟩))
  · exact And.intro (Or.inr rfl) (h1 k g e hk g2)
end P2g
end
section
def rmk (kd x : Int32) (g : gS) : gS := if kd = 3 ∧ g.1 x.toNatClampNeg = false then (upW g.1 x.toNatClampNeg true, upW g.2.1 g.2.2 x.toNatClampNeg, g.2.2 + 1) else g
def dfs (hk hd tk tv : Nat → Int32) : Nat → Nat → gS → Option (Nat × gS)
  | 0, _, _ => none
  | f + 1, c, g => match g.2.2 with
    | 0 => some (c, g)
    | n + 1 => if n < 250 ∧ g.2.1 n < 250 then dfs hk hd tk tv f (c + 1) (rmk (tk (g.2.1 n)) (tv (g.2.1 n)) (rmk (hk (g.2.1 n)) (hd (g.2.1 n)) (g.1, g.2.1, n))) else none
def rgs (reg : Nat → Int32) : Nat → Nat → gS → gS
  | 0, _, g => g
  | n + 1, k, g => rgs reg n (k + 1) (rmk (if reg k < 0 then 0 else 3) (reg k) g)
theorem rmk_len (kd x : Int32) (g : gS) : (rmk kd x g).2.2 ≤ g.2.2 + 1 ∧ g.2.2 ≤ (rmk kd x g).2.2 := by
  unfold rmk
  split
  · exact ⟨Nat.le_refl _, Nat.le_succ _⟩
  · exact ⟨Nat.le_succ _, Nat.le_refl _⟩
section P2h
variable {cst : Nat → Option (Nat × (Nat → Int32))} {m b0 b1 : Nat} {op : Bool} {tl : List mj_O} {Q : mj_R → Prop} {s : cS} {r : rM} {g : gS}
set_option maxRecDepth 10000
theorem r_mark {kd x : Int32} (hv : kd = 3 → ∃ j, j < 250 ∧ x = nI j) (hn : g.2.2 < 260) (hQ : Q (.inl none, (cW s (rW (((r.s_marked (eB (rmk kd x g).1)).s_pile (eN (rmk kd x g).2.1)).s_piled (nI (rmk kd x g).2.2)) tl), b0, b1, op))) : mj_Mt gT cst gnw (m + 1) y_R_mark [.ref 27, .int kd, .int x] (cW s (rW (((r.s_marked (eB g.1)).s_pile (eN g.2.1)).s_piled (nI g.2.2)) tl), b0, b1, op) Q := by
  obtain ⟨mk, pl, n⟩ := g
  have hn : n < 260 := hn
  have e0 : rmk kd x (mk, pl, n) = if kd = 3 ∧ mk x.toNatClampNeg = false then (upW mk x.toNatClampNeg true, upW pl n x.toNatClampNeg, n + 1) else (mk, pl, n) := rfl
  rw [e0] at hQ
  intro J hJ
  refine hJ _ _ _ _ ?_
  refine And.intro (fun (q : ¬ kd = 3) => ?_) (fun (q : kd = 3) => ?_)
  · rw [if_neg (fun h => q h.1)] at hQ
    exact hQ
  · obtain ⟨j, hj, rfl⟩ := hv q
    have ej : (nI j).toNatClampNeg = j := nI_clamp (by omega)
    rw [ej] at hQ
    refine And.intro (vp_in_nI hj (by decide)) ?_
    rw [ej]
    refine And.intro (fun (q2 : ¬ bI (mk j) = 0) => ?_) (fun (q2 : bI (mk j) = 0) => ?_)
    · have hm : ¬ mk j = false := fun h => q2 (by rw [h]; rfl)
      rw [if_neg (fun h => hm h.2)] at hQ
      exact hQ
    · have hm : mk j = false := by
        cases h : mk j with
        | false => rfl
        | true => rw [h] at q2; exact absurd q2 (by decide)
      rw [if_pos ⟨q, hm⟩] at hQ
      refine And.intro (vp_in_nI hj (by decide)) ?_
      refine And.intro (vp_in_nI (show n < 260 from hn) (by decide)) ?_
      have key : ∀ (a b : Nat) (y : Int32), a = j → b = n → y = nI (n + 1) → Q (.inl none, (cW s (rW (((r.s_marked (upd (eB mk) a (vp_nar .boolean (bI true)))).s_pile (upd (eN pl) b (nI j))).s_piled y) tl), b0, b1, op)) := by
        rintro a b y rfl rfl rfl
        rw [upd_bI, upd_nI]
        exact hQ
      exact key _ _ _ ej (nI_clamp (by omega)) (nI_succ n).symm
theorem r_reach {c : Nat} {g' : gS} (hz : r.z ≤ 250) (hreg : ∀ k, k < 5 → ¬ r.reg k < 0 → ∃ j, j < 250 ∧ r.reg k = nI j) (hh : ∀ k, k < 250 → r.headKind k = 3 → ∃ j, j < 250 ∧ r.head k = nI j) (ht : ∀ k, k < 250 → r.tailKind k = 3 → ∃ j, j < 250 ∧ r.tail k = nI j)
    (hd : dfs r.headKind r.head r.tailKind r.tail 600 0 (rgs r.reg 5 0 (clr r.z g.1, g.2.1, 0)) = some (c, g')) (hQ : Q (.inl (some (.int (nI c))), (cW s (rW (((r.s_marked (eB g'.1)).s_pile (eN g'.2.1)).s_piled (nI g'.2.2)) tl), b0, b1, op))) : mj_Mt gT cst gnw (m + 2) y_R_reach [.ref 27] (cW s (rW (((r.s_marked (eB g.1)).s_pile (eN g.2.1)).s_piled (nI g.2.2)) tl), b0, b1, op) Q := by
  obtain ⟨mk, pl, n0⟩ := g
  intro J hJ
  have loop3 : ∀ (f a : Nat) (g : gS) (x2 : Option Value), dfs r.headKind r.head r.tailKind r.tail f a g = some (c, g') → J 39 [some (.ref 27), some (.int (nI a)), x2] [] (cW s (rW (((r.s_marked (eB g.1)).s_pile (eN g.2.1)).s_piled (nI g.2.2)) tl), b0, b1, op) := by
    intro f
    induction f with
    | zero => intro a g x2 e; cases e
    | succ f ih =>
      intro a g x2 e
      obtain ⟨mk, pl, n⟩ := g
      cases n with
      | zero =>
        cases e
        refine hJ _ _ _ _ ?_
        exact And.intro (fun _ => hQ) (fun (q : ¬ nI 0 ≤ 0) => absurd (by decide) q)
      | succ n =>
        have e2 : dfs r.headKind r.head r.tailKind r.tail (f + 1) a (mk, pl, n + 1) = if n < 250 ∧ pl n < 250 then dfs r.headKind r.head r.tailKind r.tail f (a + 1) (rmk (r.tailKind (pl n)) (r.tail (pl n)) (rmk (r.headKind (pl n)) (r.head (pl n)) (mk, pl, n))) else none := rfl
        rw [e2] at e
        by_cases hc : n < 250 ∧ pl n < 250
        · rw [if_pos hc] at e
          obtain ⟨hn, hp⟩ := hc
          refine hJ _ _ _ _ ?_
          refine And.intro (fun (q : nI (n + 1) ≤ 0) => absurd q (nI_nle (by omega) (by omega))) (fun _ => ?_)
          have e1 : nI (n + 1) - Int32.ofInt 1 = nI n := nI_pred n
          have e3 : (nI (n + 1) - Int32.ofInt 1).toNatClampNeg = n := by rw [e1]; exact nI_clamp (by omega)
          refine And.intro (show vp_in (nI (n + 1) - Int32.ofInt 1) 260 by rw [e1]; exact vp_in_nI (by omega) (by decide)) ?_
          have key1 : ∀ (i : Nat) (y : Int32), i = n → y = nI n → mj_sg (mj_Mt gT cst gnw (m + 1)) cst gnw (mj_hd (mj_off kO_R_reach) kH_R_reach) kC_R_reach J Q 386 false 53 [some (.ref 27), some (.int (nI a)), x2] [.int (nI (pl i))] (cW s (rW (((r.s_marked (eB mk)).s_pile (eN pl)).s_piled y) tl), b0, b1, op) := by
            rintro i y rfl rfl
            have ep : (nI (pl i)).toNatClampNeg = pl i := nI_clamp (by omega)
            refine And.intro (vp_in_nI hp (by decide)) ?_
            rw [ep]
            refine And.intro (vp_in_nI hp (by decide)) ?_
            rw [ep]
            refine r_mark (r := r) (g := (mk, pl, i)) (hh _ hp) (show i < 260 by omega) ?_
            refine And.intro (vp_in_nI hp (by decide)) ?_
            rw [ep]
            refine And.intro (vp_in_nI hp (by decide)) ?_
            rw [ep]
            have hl := (rmk_len (r.headKind (pl i)) (r.head (pl i)) (mk, pl, i)).1
            have hl2 : (mk, pl, i).2.2 = i := rfl
            refine r_mark (r := r) (g := rmk (r.headKind (pl i)) (r.head (pl i)) (mk, pl, i)) (ht _ hp) (by omega) ?_
            have key : ∀ y : Int32, y = nI (a + 1) → J 39 [some (.ref 27), some (.int y), some (.int (nI (pl i)))] [] (cW s (rW (((r.s_marked (eB (rmk (r.tailKind (pl i)) (r.tail (pl i)) (rmk (r.headKind (pl i)) (r.head (pl i)) (mk, pl, i))).1)).s_pile (eN (rmk (r.tailKind (pl i)) (r.tail (pl i)) (rmk (r.headKind (pl i)) (r.head (pl i)) (mk, pl, i))).2.1)).s_piled (nI (rmk (r.tailKind (pl i)) (r.tail (pl i)) (rmk (r.headKind (pl i)) (r.head (pl i)) (mk, pl, i))).2.2)) tl), b0, b1, op) := by
              rintro y rfl
              exact ih (a + 1) _ _ e
            exact key _ (nI_succ a).symm
          exact key1 _ _ e3 e1
        · rw [if_neg hc] at e
          cases e
  have loop2 : ∀ (n k : Nat) (g : gS) (x2 : Option Value), n + k = 5 → g.2.2 ≤ k → dfs r.headKind r.head r.tailKind r.tail 600 0 (rgs r.reg n k g) = some (c, g') → (∀ g x2, dfs r.headKind r.head r.tailKind r.tail 600 0 g = some (c, g') → J 39 [some (.ref 27), some (.int 0), x2] [] (cW s (rW (((r.s_marked (eB g.1)).s_pile (eN g.2.1)).s_piled (nI g.2.2)) tl), b0, b1, op)) → J 18 [some (.ref 27), some (.int (nI k)), x2] [] (cW s (rW (((r.s_marked (eB g.1)).s_pile (eN g.2.1)).s_piled (nI g.2.2)) tl), b0, b1, op) := by
    intro n
    induction n with
    | zero =>
      intro k g x2 hk hg e h39
      have ek : k = 5 := by omega
      subst ek
      refine hJ _ _ _ _ ?_
      refine And.intro (fun _ => ?_) (fun (q : ¬ nI 5 ≤ nI 5) => absurd (by decide) q)
      exact h39 g x2 e
    | succ n ih =>
      intro k g x2 hk hg e h39
      have e2 : rgs r.reg (n + 1) k g = rgs r.reg n (k + 1) (rmk (if r.reg k < 0 then 0 else 3) (r.reg k) g) := rfl
      rw [e2] at e
      have ek : (nI k).toNatClampNeg = k := nI_clamp (by omega)
      have hl := (rmk_len (if r.reg k < 0 then 0 else 3) (r.reg k) g).1
      have fin : ∀ y : Int32, y = nI (k + 1) → J 18 [some (.ref 27), some (.int y), x2] [] (cW s (rW (((r.s_marked (eB (rmk (if r.reg k < 0 then 0 else 3) (r.reg k) g).1)).s_pile (eN (rmk (if r.reg k < 0 then 0 else 3) (r.reg k) g).2.1)).s_piled (nI (rmk (if r.reg k < 0 then 0 else 3) (r.reg k) g).2.2)) tl), b0, b1, op) := by
        rintro y rfl
        exact ih (k + 1) _ x2 (by omega) (by omega) e h39
      refine hJ _ _ _ _ ?_
      refine And.intro (fun (q : nI 5 ≤ nI k) => absurd q (nI_ge (by omega) (by omega))) (fun _ => ?_)
      refine And.intro (vp_in_nI (show k < 5 by omega) (by decide)) ?_
      rw [ek]
      by_cases hn : r.reg k < 0
      · rw [if_pos hn] at fin
        refine And.intro (fun (q : 0 ≤ r.reg k) => absurd hn (Int32.not_lt.mpr q)) (fun _ => ?_)
        refine And.intro (vp_in_nI (show k < 5 by omega) (by decide)) ?_
        rw [ek]
        refine r_mark (r := r) (g := g) (fun q => absurd q (by decide)) (by omega) ?_
        exact fin _ (nI_succ k).symm
      · rw [if_neg hn] at fin
        refine And.intro (fun _ => ?_) (fun (q : ¬ 0 ≤ r.reg k) => absurd (Int32.not_lt.mp hn) q)
        refine And.intro (vp_in_nI (show k < 5 by omega) (by decide)) ?_
        rw [ek]
        refine r_mark (r := r) (g := g) (fun _ => hreg k (by omega) hn) (by omega) ?_
        exact fin _ (nI_succ k).symm
  have loop1 : ∀ (n k : Nat), n + k = r.z → J 2 [some (.ref 27), some (.int (nI k)), none] [] (cW s (rW (((r.s_marked (eB (clr k mk))).s_pile (eN pl)).s_piled (nI n0)) tl), b0, b1, op) := by
    intro n
    induction n with
    | zero =>
      intro k hk
      have ek : k = r.z := by omega
      subst ek
      refine hJ _ _ _ _ ?_
      refine And.intro (fun _ => ?_) (fun (q : ¬ nI r.z ≤ nI r.z) => absurd (nI_le (by omega) (by omega)) q)
      exact loop2 5 0 (clr r.z mk, pl, 0) none rfl (Nat.le_refl _) hd (fun g x2 e => loop3 600 0 g x2 e)
    | succ n ih =>
      intro k hk
      refine hJ _ _ _ _ ?_
      refine And.intro (fun (q : nI r.z ≤ nI k) => absurd q (nI_ge (by omega) (by omega))) (fun _ => ?_)
      refine And.intro (vp_in_nI (show k < 250 by omega) (by decide)) ?_
      have key : ∀ (i : Nat) (x : Int32), i = k → x = nI (k + 1) → J 2 [some (.ref 27), some (.int x), none] [] (cW s (rW (((r.s_marked (upd (eB (clr k mk)) i (vp_nar .boolean 0))).s_pile (eN pl)).s_piled (nI n0)) tl), b0, b1, op) := by
        rintro i x rfl rfl
        rw [clr_step]
        exact ih (i + 1) (by omega)
      exact key _ _ (nI_clamp (by omega)) (nI_succ k).symm
  refine hJ _ _ _ _ ?_
  have h0 := loop1 r.z 0 (by omega)
  rw [clr_0] at h0
  exact h0
end P2h
end
section
def swU (k : Nat) (u : Nat → Int32) (mk : Nat → Bool) : Nat → Int32 := fun i => if i < k then bI (mk i) else u i
theorem swU_0 (u : Nat → Int32) (mk : Nat → Bool) : swU 0 u mk = u := by
  funext i
  unfold swU
  rw [if_neg (by omega)]
theorem swU_at (k : Nat) (u : Nat → Int32) (mk : Nat → Bool) : swU k u mk k = u k := by
  unfold swU
  rw [if_neg (by omega)]
theorem swU_step (k : Nat) (u : Nat → Int32) (mk : Nat → Bool) : upd (swU k u mk) k (vp_nar .boolean (bI (mk k))) = swU (k + 1) u mk := by
  funext j
  have e : vp_nar .boolean (bI (mk k)) = bI (mk k) := by cases mk k <;> decide
  rw [e]
  show (if j = k then bI (mk k) else swU k u mk j) = swU (k + 1) u mk j
  unfold swU
  by_cases h : j = k
  · subst h
    rw [if_pos rfl, if_pos (by omega)]
  · rw [if_neg h]
    by_cases h2 : j < k
    · rw [if_pos h2, if_pos (by omega)]
    · rw [if_neg h2, if_neg (by omega)]
def swN (u : Nat → Int32) (mk : Nat → Bool) : Nat → Nat → Nat → Nat
  | 0, _, a => a
  | n + 1, k, a => swN u mk n (k + 1) (if ¬ u k = 0 ∧ mk k = false then a + 1 else a)
section P2i
variable {cst : Nat → Option (Nat × (Nat → Int32))} {m b0 b1 : Nat} {op : Bool} {tl : List mj_O} {Q : mj_R → Prop} {s : cS} {r : rM}
set_option maxRecDepth 10000
theorem r_sweepLoop {c : Nat} {mk : Nat → Bool} {J : Nat → mj_L → List Value → mj_H → Prop} (hc : c < 2 ^ 31) (hz : r.z ≤ 250) (hJ : ∀ pc ls st h, mj_sg (mj_Mt gT cst gnw m) cst gnw (mj_hd (mj_off kO_R_sweep) kH_R_sweep) kC_R_sweep J Q 400 true pc ls st h → J pc ls st h)
    (hQ : Q (.inl (some (.int (nI (swN r.used mk r.z 0 0)))), (cW s (rW ((r.s_used (swU r.z r.used mk)).s_marked (eB mk)) tl), b0, b1, op))) : ∀ (n k a : Nat), n + k = r.z → swN r.used mk n k a = swN r.used mk r.z 0 0 → J 7 [some (.ref 27), some (.int (nI c)), some (.int (nI a)), some (.int (nI k))] [] (cW s (rW ((r.s_used (swU k r.used mk)).s_marked (eB mk)) tl), b0, b1, op) := by
  intro n
  induction n with
  | zero =>
    intro k a hk e
    change a = _ at e
    rw [← e] at hQ
    have ek : k = r.z := by omega
    subst ek
    refine hJ _ _ _ _ ?_
    refine And.intro (fun _ => ?_) (fun (g : ¬ nI r.z ≤ nI r.z) => absurd (nI_le (by omega) (by omega)) g)
    exact And.intro (fun (g : nI c < 0) => absurd g (nI_pos hc)) (fun _ => hQ)
  | succ n ih =>
    intro k a hk e
    have e2 : swN r.used mk (n + 1) k a = swN r.used mk n (k + 1) (if ¬ r.used k = 0 ∧ mk k = false then a + 1 else a) := rfl
    rw [e2] at e
    have ek : (nI k).toNatClampNeg = k := nI_clamp (by omega)
    have hin : vp_in (nI k) 250 := vp_in_nI (by omega) (by decide)
    have fin : ∀ (i : Nat) (x y : Int32) (v : Int32), i = k → v = bI (mk k) → y = nI (k + 1) → x = nI (if ¬ r.used k = 0 ∧ mk k = false then a + 1 else a) → J 7 [some (.ref 27), some (.int (nI c)), some (.int x), some (.int y)] [] (cW s (rW ((r.s_used (upd (swU k r.used mk) i (vp_nar .boolean v))).s_marked (eB mk)) tl), b0, b1, op) := by
      rintro i x y v rfl rfl rfl rfl
      rw [swU_step]
      exact ih (i + 1) _ (by omega) e
    refine hJ _ _ _ _ ?_
    refine And.intro (fun (g : nI r.z ≤ nI k) => absurd g (nI_ge (by omega) (by omega))) (fun _ => ?_)
    refine And.intro hin ?_
    have eu : swU k r.used mk (nI k).toNatClampNeg = r.used k := by rw [ek]; exact swU_at k r.used mk
    refine And.intro (fun (g : swU k r.used mk (nI k).toNatClampNeg = 0) => ?_) (fun (g : ¬ swU k r.used mk (nI k).toNatClampNeg = 0) => ?_)
    · rw [eu] at g
      refine And.intro hin (And.intro hin ?_)
      exact fin _ _ _ _ ek (by rw [ek]; rfl) (nI_succ k).symm (by rw [if_neg (fun q => q.1 g)])
    · rw [eu] at g
      refine And.intro hin ?_
      refine And.intro (fun (g2 : ¬ bI (mk (nI k).toNatClampNeg) = 0) => ?_) (fun (g2 : bI (mk (nI k).toNatClampNeg) = 0) => ?_)
      · rw [ek] at g2
        have hm : ¬ mk k = false := fun h => g2 (by rw [h]; rfl)
        refine And.intro hin (And.intro hin ?_)
        exact fin _ _ _ _ ek (by rw [ek]; rfl) (nI_succ k).symm (by rw [if_neg (fun q => hm q.2)])
      · rw [ek] at g2
        have hm : mk k = false := by
          cases h : mk k with
          | false => rfl
          | true => rw [h] at g2; exact absurd g2 (by decide)
        refine And.intro hin (And.intro hin ?_)
        exact fin _ _ _ _ ek (by rw [ek]; rfl) (nI_succ k).symm (by rw [if_pos ⟨g, hm⟩]; exact (nI_succ a).symm)
end P2i
end
