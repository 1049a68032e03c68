abbrev fW (o0 o1 o2 o3 o4 o5 o6 o7 o8 o9 o10 o11 o12 o13 o14 o15 : mj_O) (S E C D : Vl) (mode colls taken steps : Int32) (z : Nat) (H T : Nat → Vl) (fr : Nat → Nat) (g : gS) (f c : Nat) (k : Int32) (n : Nat) (fb : Nat → Nat) (R : Nat → Vl) (tl : List mj_O) : List mj_O :=
  mW o0 o1 o2 o3 o4 o5 o6 o7 o8 o9 o10 o11 o12 o13 o14 o15 (encV S) (encV E) (encV C) (encV D) mode colls taken steps z (eH H) (eH T) (eN fr) (eB g.1) (eN g.2.1) (nI f) (nI g.2.2) (nI c) (oF 8 [.ref 17, .ref 24, .ref 26, .int k] :: .inr (.inr (.inl (n, fb))) :: .inr (.inr (.inr ())) :: oJ 120 (eH R) :: tl)
def mOK (z : Nat) (S E C D : Vl) (H T : Nat → Vl) : Prop := okA z H ∧ okA z T ∧ okV z S ∧ okV z E ∧ okV z C ∧ okV z D
def dOK (z n : Nat) (fb : Nat → Nat) (R : Nat → Vl) : Prop := (∃ l : List Nat, l.length = n ∧ n ≤ 135 ∧ agr l fb) ∧ ∀ k, k < 120 → okV z (R k)
theorem fuN_fr {z : Nat} (mk : Nat → Bool) : ∀ (j c : Nat) (p : (Nat → Nat) × Nat), c + j ≤ z → (∀ i, i < z → p.1 i < z) → ∀ i, i < z → (fuN mk j c p).1 i < z
  | 0, c, p, _, h => h
  | j + 1, c, p, hc, h => by
    unfold fuN
    split
    · exact fuN_fr mk j (c + 1) p (by omega) h
    · refine fuN_fr mk j (c + 1) _ (by omega) (fun i hi => ?_)
      show upW p.1 p.2 c i < z
      unfold upW
      split
      · omega
      · exact h i hi
theorem shw_ok {z : Nat} {H T : Nat → Vl} (hH : ∀ i, i < z → okV z (H i)) (hT : ∀ i, i < z → okV z (T i)) : ∀ (t : Nat) (l : List Nat) (R : Nat → Vl) (k : Nat) (v : Vl), k ≤ l.length → l.length ≤ 135 → okV z v → (∀ k, k < 120 → okV z (R k)) → (shw H T t l R k v).1.length ≤ 135 ∧ ∀ k', k' < 120 → okV z ((shw H T t l R k v).2.1 k')
  | 0, l, R, k, v, _, hl, _, hR => ⟨hl, hR⟩
  | t + 1, l, R, k, v, hk, hl, hv, hR => by
    unfold shw
    split
    · exact ⟨hl, hR⟩
    · next h1 =>
      split
      · refine shw_ok hH hT t _ _ _ _ (by rw [List.length_append]; simp only [List.length_cons, List.length_nil]; omega) (by rw [List.length_append]; simp only [List.length_cons, List.length_nil]; omega) (okV_of2 hH hv) (fun j hj => ?_)
        unfold upW
        split
        · exact okV_of2 hT hv
        · exact hR j hj
      · have hsl := shA_len v
        have hll : (l ++ shA v).length ≤ 130 := by rw [List.length_append]; omega
        obtain ⟨hel, hel2⟩ := endL_le R k (l ++ shA v)
        have hel3 := endL_len R k (l ++ shA v) (by omega)
        rw [List.length_append] at hel2
        split
        · exact ⟨by show (endL R k (l ++ shA v)).1.length ≤ 135; omega, hR⟩
        · next h2 =>
          refine shw_ok hH hT t _ _ _ _ (by rw [List.length_append]; simp only [List.length_cons, List.length_nil]; omega) (by rw [List.length_append]; simp only [List.length_cons, List.length_nil]; omega) (okV_of2 hH (hR _ (by omega))) (fun j hj => ?_)
          unfold upW
          split
          · exact okV_of2 hT (hR _ (by omega))
          · exact hR j hj
def need (i : Nat) : Nat := ([0, 1, 1, 2, 4, 1, 1, 3, 1, 0, 1, 1, 1, 2, 1, 1, 1, 1, 1, 0] : List Nat).getD i 0
def needX (x : Int32) : Nat := if 0 ≤ x ∧ x < 20 then need x.toNatClampNeg else 0
theorem need_le : ∀ i, i < 20 → need i ≤ 4 := by decide
theorem needX_le (x : Int32) : needX x ≤ 4 := by
  unfold needX
  split
  · next h =>
    obtain ⟨i, hi, rfl⟩ := nI_of (Int32.not_lt.mpr h.1)
    have : i < 20 := (nI_ltI hi (by decide)).mp h.2
    rw [nI_clamp hi]
    exact need_le i this
  · omega
section P2e
variable {cst : Nat → Option (Nat × (Nat → Int32))} {m b0 b1 : Nat} {op : Bool} {tl : List mj_O} {Q : mj_R → Prop} {xs : List Int32}
variable {o0 o1 o2 o3 o4 o5 o6 o7 o8 o9 o10 o11 o12 o13 o14 o15 o16 : mj_O} {S E C D : Vl} {mode colls taken steps : Int32} {z : Nat} {H T : Nat → Vl} {fr : Nat → Nat} {g : gS} {f c : Nat} {k : Int32} {n : Nat} {fb : Nat → Nat} {R : Nat → Vl}
variable {hR tR : Nat → Int64} {frR mk rc : Nat → Int32} {fN rN cN : Int32}
set_option maxRecDepth 10000
theorem o_needs {h : mj_H} {x : Int32} (hQ : Q (.inl (some (.int (nI (needX x)))), h)) : mj_Mt gT (law_cst xs) gnw (m + 1) y_Op_needs [.int x] h Q := by
  intro J hJ
  refine hJ _ _ _ _ ?_
  refine And.intro (fun h1 => ?_) (fun h1 => ?_)
  · rw [show needX x = 0 from if_neg (fun q => absurd h1 (Int32.not_lt.mpr q.1))] at hQ
    exact hQ
  · refine And.intro (fun h2 => ?_) (fun h2 => ?_)
    · rw [show needX x = 0 from if_neg (fun q => absurd q.2 (Int32.not_lt.mpr h2))] at hQ
      exact hQ
    · have h2 : x < nI 20 := Int32.not_le.mp h2
      obtain ⟨i, hi, rfl⟩ := nI_of h1
      have hi2 : i < 20 := (nI_ltI hi (by decide)).mp h2
      refine And.intro (vp_in_nI hi2 (by decide)) ?_
      have e : needX (nI i) = need i := by
        unfold needX
        rw [if_pos ⟨Int32.not_lt.mp h1, h2⟩, nI_clamp hi]
      rw [e] at hQ
      have e2 : law_nd.getD i 0 = nI (need i) := (by decide : ∀ i, i < 20 → law_nd.getD i 0 = nI (need i)) i hi2
      have key : ∀ j, j = i → Q (.inl (some (.int (law_nd.getD j 0))), h) := by
        rintro j rfl
        rw [e2]
        exact hQ
      exact key _ (nI_clamp hi)
theorem s_freeCells (hQ : Q (.inl (some (.int fN)), (sW o0 o1 o2 o3 o4 o5 o6 o7 o8 o9 o10 o11 o12 o13 o14 o15 o16 z hR tR frR mk rc fN rN cN tl, b0, b1, op))) : mj_Mt gT cst gnw (m + 1) y_Store_freeCells [.ref 17] (sW o0 o1 o2 o3 o4 o5 o6 o7 o8 o9 o10 o11 o12 o13 o14 o15 o16 z hR tR frR mk rc fN rN cN tl, b0, b1, op) Q := by
  intro J hJ
  refine hJ _ _ _ _ ?_
  exact hQ
theorem s_behindX {v : Vl} {w : Int32} (hz : z ≤ 250) (hT : ∀ i, i < z → okV z (T i)) (hv : okV z v) (hQ : Q (.inl (some (.long (encV (behV T w.toNatClampNeg v)))), (sW o0 o1 o2 o3 o4 o5 o6 o7 o8 o9 o10 o11 o12 o13 o14 o15 o16 z hR (eH T) frR mk rc fN rN cN tl, b0, b1, op))) : mj_Mt gT cst gnw (m + 3) y_Store_behind [.ref 17, .long (encV v), .int w] (sW o0 o1 o2 o3 o4 o5 o6 o7 o8 o9 o10 o11 o12 o13 o14 o15 o16 z hR (eH T) frR mk rc fN rN cN tl, b0, b1, op) Q := by
  by_cases hw : w < 0
  · have e : w.toNatClampNeg = 0 := by
      rw [Int32.lt_iff_toInt_lt, Int32.toInt_zero] at hw
      show w.toInt.toNat = 0
      omega
    rw [e] at hQ
    intro J hJ
    refine hJ _ _ _ _ ?_
    refine hJ _ _ _ _ ?_
    exact And.intro (fun _ => hQ) (fun h => absurd (show w ≤ 0 from Int32.le_of_lt hw) h)
  · obtain ⟨n, hn, rfl⟩ := nI_of hw
    rw [nI_clamp hn] at hQ
    exact s_behind hz hn hT hv hQ
theorem k_variableX {x : Int32} (hv : (encV (ofV H (ofV T C))).toInt32 = x) (hz : z ≤ 250) (hA : okA z H) (hB : okA z T) (hfr : ∀ j, j < z → fr j < z) (hS : okV z S) (hE : okV z E) (hC : okV z C) (hf : f + 1 ≤ z)
    (h1 : Q (.inl (some (.int 0)), (mW o0 o1 o2 o3 o4 o5 o6 o7 o8 o9 o10 o11 o12 o13 o14 o15 (encV S) (encV E) (encV C) (encV D) mode colls taken steps z (eH H) (eH T) (eN fr) mk rc (nI (f + 1)) rN cN tl, b0, b1, op)))
    (h3 : ∀ v, okV z v → Q (.inl (some (.int 1)), (mW o0 o1 o2 o3 o4 o5 o6 o7 o8 o9 o10 o11 o12 o13 o14 o15 (encV (vPr (fr f))) (encV E) (encV (ofV (upW T (fr f) S) (ofV T C))) (encV D) mode colls taken steps z (eH (upW H (fr f) (ofV H v))) (eH (upW T (fr f) S)) (eN fr) mk rc (nI f) rN cN tl, b0, b1, op))) : mj_Mt gT cst gnw (m + 4) y_Machine_variable [.ref 16] (mW o0 o1 o2 o3 o4 o5 o6 o7 o8 o9 o10 o11 o12 o13 o14 o15 (encV S) (encV E) (encV C) (encV D) mode colls taken steps z (eH H) (eH T) (eN fr) mk rc (nI (f + 1)) rN cN tl, b0, b1, op) Q := by
  intro J hJ
  refine hJ _ _ _ _ ?_
  refine s_tail hz hC ?_
  refine s_head hz (okV_of hB hC) ?_
  refine v_content ?_
  rw [hv]
  refine And.intro (by decide) ?_
  refine s_behindX hz hB hE ?_
  generalize (x / Int32.ofInt 16).toNatClampNeg = n1
  have o1 := okV_beh hB n1 _ hE
  refine v_isPair ?_
  by_cases c1 : kV (behV T n1 E) = 3
  · rw [show (kV (behV T n1 E) == 3) = true by simp [c1]]
    refine And.intro (fun _ => ?_) (fun g => absurd g (by decide))
    refine s_head hz o1 ?_
    refine And.intro (by decide) ?_
    refine s_behindX hz hB (okV_of hA o1) ?_
    generalize (x - x / Int32.ofInt 16 * Int32.ofInt 16).toNatClampNeg = n2
    have o2 := okV_beh hB n2 _ (okV_of hA o1)
    refine v_isPair ?_
    by_cases c2 : kV (behV T n2 (ofV H (behV T n1 E))) = 3
    · rw [show (kV (behV T n2 (ofV H (behV T n1 E))) == 3) = true by simp [c2]]
      refine And.intro (fun _ => ?_) (fun g => absurd g (by decide))
      refine s_head hz o2 ?_
      refine s_newPair hz (by omega) (hfr _ (by omega)) ?_
      refine s_tail hz (okV_of hB hC) ?_
      exact And.intro (Or.inr rfl) (h3 _ o2)
    · rw [show (kV (behV T n2 (ofV H (behV T n1 E))) == 3) = false by simp [c2]]
      refine And.intro (fun g => absurd rfl g) (fun _ => ?_)
      exact And.intro (Or.inl rfl) h1
  · rw [show (kV (behV T n1 E) == 3) = false by simp [c1]]
    refine And.intro (fun g => absurd rfl g) (fun _ => ?_)
    exact And.intro (Or.inl rfl) h1
theorem k_stop (hz : z ≤ 250) (hM : mOK z S E C D H T) (hfr : ∀ j, j < z → fr j < z) (hf : f ≤ z) (hd : dOK z n fb R) (hc0 : 200 ≤ b0) (hc1 : 20000 ≤ b1) (hQ : ∀ k' n' fb' R' b0' b1' op', dOK z n' fb' R' → b0 ≤ b0' + 140 → b1 ≤ b1' + 19740 → Q (.inl (some (.int 1)), (fW o0 o1 o2 o3 o4 o5 o6 o7 o8 o9 o10 o11 o12 o13 o14 o15 S E C D 2 colls taken steps z H T fr g f c k' n' fb' R' tl, b0', b1', op'))) : mj_Mt gT (law_cst xs) gnw (m + 9) y_Machine_stop [.ref 16] (fW o0 o1 o2 o3 o4 o5 o6 o7 o8 o9 o10 o11 o12 o13 o14 o15 S E C D mode colls taken steps z H T fr g f c k n fb R tl, b0, b1, op) Q := by
  obtain ⟨hA, hB, hS, hE, hC, hD⟩ := hM
  obtain ⟨hd1, hd2⟩ := hd
  intro J hJ
  refine hJ _ _ _ _ ?_
  refine s_head hz hS ?_
  have hs := shw_ok hA hB 120 [] R 0 (ofV H S) (Nat.zero_le _) (by decide) (okV_of hA hS) hd2
  refine d_show hz hA hB hc0 hc1 (okV_of hA hS) hd2 (fun f' b0' b1' q1 q2 q3 => ?_)
  refine And.intro (Or.inr rfl) ?_
  have hp := pot_le (n := (shw H T 120 [] R 0 (ofV H S)).1.length) (by omega)
  exact hQ _ _ _ _ _ _ _ ⟨⟨_, rfl, hs.1, q1⟩, hs.2⟩ (by omega) (by omega)
theorem k_actW {x : Int32} (hn : needX x ≤ f) (hz : z ≤ 250) (hM : mOK z S E C D H T) (hfr : ∀ j, j < z → fr j < z) (hf : f ≤ z) (hd : dOK z n fb R) (hc0 : 200 ≤ b0) (hc1 : 20000 ≤ b1) (hQ : ∀ b S' E' C' D' mode' H' T' f' k' n' fb' R' b0' b1' op', (b = 0 ∨ b = 1) → mOK z S' E' C' D' H' T' → f' ≤ z → dOK z n' fb' R' → ((mode' = mode ∧ b0' = b0 ∧ b1' = b1) ∨ (mode' = 2 ∧ b0 ≤ b0' + 140 ∧ b1 ≤ b1' + 19740)) →  Q (.inl (some (.int b)), (fW o0 o1 o2 o3 o4 o5 o6 o7 o8 o9 o10 o11 o12 o13 o14 o15 S' E' C' D' mode' colls taken steps z H' T' fr g f' c k' n' fb' R' tl, b0', b1', op'))) :
    mj_Mt gT (law_cst xs) gnw (m + 10) y_Machine_act [.ref 16, .int x] (fW o0 o1 o2 o3 o4 o5 o6 o7 o8 o9 o10 o11 o12 o13 o14 o15 S E C D mode colls taken steps z H T fr g f c k n fb R tl, b0, b1, op) Q := by
  have hM0 := hM
  obtain ⟨hA, hB, hS, hE, hC, hD⟩ := hM
  intro J hJ
  refine hJ _ _ _ _ ?_
  refine And.intro (fun hx => ?_) (fun hx1 => ?_)
  · have hx : x = 1 := hx
    subst hx
    have hn9 : needX 1 = 1 := by decide
    obtain ⟨f0, rfl⟩ : ∃ f0, f = f0 + 1 := ⟨f - 1, by omega⟩
    exact k_constant hz hA hB hfr hS hE hC hD (by omega) (And.intro (Or.inr rfl) (hQ _ _ _ _ _ _ _ _ _ _ _ _ _ _ _ _ (Or.inr rfl) ⟨(by (repeat (first | assumption | exact trivial | exact hfr _ (by omega) | refine okA_upd ?_ ?_ | refine okV_of ?_ ?_ | refine okV_beh ?_ _ _ ?_))), (by (repeat (first | assumption | exact trivial | exact hfr _ (by omega) | refine okA_upd ?_ ?_ | refine okV_of ?_ ?_ | refine okV_beh ?_ _ _ ?_))), (by (repeat (first | assumption | exact trivial | exact hfr _ (by omega) | refine okA_upd ?_ ?_ | refine okV_of ?_ ?_ | refine okV_beh ?_ _ _ ?_))), (by (repeat (first | assumption | exact trivial | exact hfr _ (by omega) | refine okA_upd ?_ ?_ | refine okV_of ?_ ?_ | refine okV_beh ?_ _ _ ?_))), (by (repeat (first | assumption | exact trivial | exact hfr _ (by omega) | refine okA_upd ?_ ?_ | refine okV_of ?_ ?_ | refine okV_beh ?_ _ _ ?_))), (by (repeat (first | assumption | exact trivial | exact hfr _ (by omega) | refine okA_upd ?_ ?_ | refine okV_of ?_ ?_ | refine okV_beh ?_ _ _ ?_)))⟩ (by omega) hd (Or.inl ⟨rfl, rfl, rfl⟩)))
  refine And.intro (fun hx => ?_) (fun hx2 => ?_)
  · have hx : x = 2 := hx
    subst hx
    have hn9 : needX 2 = 1 := by decide
    obtain ⟨f0, rfl⟩ : ∃ f0, f = f0 + 1 := ⟨f - 1, by omega⟩
    exact k_variableX rfl hz hA hB hfr hS hE hC (by omega) (And.intro (Or.inl rfl) (hQ _ _ _ _ _ _ _ _ _ _ _ _ _ _ _ _ (Or.inl rfl) hM0 (by omega) hd (Or.inl ⟨rfl, rfl, rfl⟩))) (fun v hv => And.intro (Or.inr rfl) (hQ _ _ _ _ _ _ _ _ _ _ _ _ _ _ _ _ (Or.inr rfl) ⟨(by (repeat (first | assumption | exact trivial | exact hfr _ (by omega) | refine okA_upd ?_ ?_ | refine okV_of ?_ ?_ | refine okV_beh ?_ _ _ ?_))), (by (repeat (first | assumption | exact trivial | exact hfr _ (by omega) | refine okA_upd ?_ ?_ | refine okV_of ?_ ?_ | refine okV_beh ?_ _ _ ?_))), (by (repeat (first | assumption | exact trivial | exact hfr _ (by omega) | refine okA_upd ?_ ?_ | refine okV_of ?_ ?_ | refine okV_beh ?_ _ _ ?_))), (by (repeat (first | assumption | exact trivial | exact hfr _ (by omega) | refine okA_upd ?_ ?_ | refine okV_of ?_ ?_ | refine okV_beh ?_ _ _ ?_))), (by (repeat (first | assumption | exact trivial | exact hfr _ (by omega) | refine okA_upd ?_ ?_ | refine okV_of ?_ ?_ | refine okV_beh ?_ _ _ ?_))), (by (repeat (first | assumption | exact trivial | exact hfr _ (by omega) | refine okA_upd ?_ ?_ | refine okV_of ?_ ?_ | refine okV_beh ?_ _ _ ?_)))⟩ (by omega) hd (Or.inl ⟨rfl, rfl, rfl⟩)))
  refine And.intro (fun hx => ?_) (fun hx3 => ?_)
  · have hx : x = 3 := hx
    subst hx
    have hn9 : needX 3 = 2 := by decide
    obtain ⟨f0, rfl⟩ : ∃ f0, f = f0 + 2 := ⟨f - 2, by omega⟩
    exact k_function hz hA hB hfr hS hE hC hD (by omega) (And.intro (Or.inr rfl) (hQ _ _ _ _ _ _ _ _ _ _ _ _ _ _ _ _ (Or.inr rfl) ⟨(by (repeat (first | assumption | exact trivial | exact hfr _ (by omega) | refine okA_upd ?_ ?_ | refine okV_of ?_ ?_ | refine okV_beh ?_ _ _ ?_))), (by (repeat (first | assumption | exact trivial | exact hfr _ (by omega) | refine okA_upd ?_ ?_ | refine okV_of ?_ ?_ | refine okV_beh ?_ _ _ ?_))), (by (repeat (first | assumption | exact trivial | exact hfr _ (by omega) | refine okA_upd ?_ ?_ | refine okV_of ?_ ?_ | refine okV_beh ?_ _ _ ?_))), (by (repeat (first | assumption | exact trivial | exact hfr _ (by omega) | refine okA_upd ?_ ?_ | refine okV_of ?_ ?_ | refine okV_beh ?_ _ _ ?_))), (by (repeat (first | assumption | exact trivial | exact hfr _ (by omega) | refine okA_upd ?_ ?_ | refine okV_of ?_ ?_ | refine okV_beh ?_ _ _ ?_))), (by (repeat (first | assumption | exact trivial | exact hfr _ (by omega) | refine okA_upd ?_ ?_ | refine okV_of ?_ ?_ | refine okV_beh ?_ _ _ ?_)))⟩ (by omega) hd (Or.inl ⟨rfl, rfl, rfl⟩)))
  refine And.intro (fun hx => ?_) (fun hx4 => ?_)
  · have hx : x = 4 := hx
    subst hx
    have hn9 : needX 4 = 4 := by decide
    obtain ⟨f0, rfl⟩ : ∃ f0, f = f0 + 4 := ⟨f - 4, by omega⟩
    exact k_apply hz hA hB hfr hS hE hC hD (by omega) (fun _ => And.intro (Or.inl rfl) (hQ _ _ _ _ _ _ _ _ _ _ _ _ _ _ _ _ (Or.inl rfl) hM0 (by omega) hd (Or.inl ⟨rfl, rfl, rfl⟩))) (fun _ => And.intro (Or.inr rfl) (hQ _ _ _ _ _ _ _ _ _ _ _ _ _ _ _ _ (Or.inr rfl) ⟨(by (repeat (first | assumption | exact trivial | exact hfr _ (by omega) | refine okA_upd ?_ ?_ | refine okV_of ?_ ?_ | refine okV_beh ?_ _ _ ?_))), (by (repeat (first | assumption | exact trivial | exact hfr _ (by omega) | refine okA_upd ?_ ?_ | refine okV_of ?_ ?_ | refine okV_beh ?_ _ _ ?_))), (by (repeat (first | assumption | exact trivial | exact hfr _ (by omega) | refine okA_upd ?_ ?_ | refine okV_of ?_ ?_ | refine okV_beh ?_ _ _ ?_))), (by (repeat (first | assumption | exact trivial | exact hfr _ (by omega) | refine okA_upd ?_ ?_ | refine okV_of ?_ ?_ | refine okV_beh ?_ _ _ ?_))), (by (repeat (first | assumption | exact trivial | exact hfr _ (by omega) | refine okA_upd ?_ ?_ | refine okV_of ?_ ?_ | refine okV_beh ?_ _ _ ?_))), (by (repeat (first | assumption | exact trivial | exact hfr _ (by omega) | refine okA_upd ?_ ?_ | refine okV_of ?_ ?_ | refine okV_beh ?_ _ _ ?_)))⟩ (by omega) hd (Or.inl ⟨rfl, rfl, rfl⟩)))
  refine And.intro (fun hx => ?_) (fun hx5 => ?_)
  · have hx : x = 5 := hx
    subst hx
    have hn9 : needX 5 = 1 := by decide
    obtain ⟨f0, rfl⟩ : ∃ f0, f = f0 + 1 := ⟨f - 1, by omega⟩
    exact k_giveBack hz hA hB hfr hS hE hC hD (by omega) (And.intro (Or.inr rfl) (hQ _ _ _ _ _ _ _ _ _ _ _ _ _ _ _ _ (Or.inr rfl) ⟨(by (repeat (first | assumption | exact trivial | exact hfr _ (by omega) | refine okA_upd ?_ ?_ | refine okV_of ?_ ?_ | refine okV_beh ?_ _ _ ?_))), (by (repeat (first | assumption | exact trivial | exact hfr _ (by omega) | refine okA_upd ?_ ?_ | refine okV_of ?_ ?_ | refine okV_beh ?_ _ _ ?_))), (by (repeat (first | assumption | exact trivial | exact hfr _ (by omega) | refine okA_upd ?_ ?_ | refine okV_of ?_ ?_ | refine okV_beh ?_ _ _ ?_))), (by (repeat (first | assumption | exact trivial | exact hfr _ (by omega) | refine okA_upd ?_ ?_ | refine okV_of ?_ ?_ | refine okV_beh ?_ _ _ ?_))), (by (repeat (first | assumption | exact trivial | exact hfr _ (by omega) | refine okA_upd ?_ ?_ | refine okV_of ?_ ?_ | refine okV_beh ?_ _ _ ?_))), (by (repeat (first | assumption | exact trivial | exact hfr _ (by omega) | refine okA_upd ?_ ?_ | refine okV_of ?_ ?_ | refine okV_beh ?_ _ _ ?_)))⟩ (by omega) hd (Or.inl ⟨rfl, rfl, rfl⟩)))
  refine And.intro (fun hx => ?_) (fun hx6 => ?_)
  · have hx : x = 6 := hx
    subst hx
    have hn9 : needX 6 = 1 := by decide
    obtain ⟨f0, rfl⟩ : ∃ f0, f = f0 + 1 := ⟨f - 1, by omega⟩
    exact k_frame hz hA hB hfr hS hE hC hD (by omega) (And.intro (Or.inr rfl) (hQ _ _ _ _ _ _ _ _ _ _ _ _ _ _ _ _ (Or.inr rfl) ⟨(by (repeat (first | assumption | exact trivial | exact hfr _ (by omega) | refine okA_upd ?_ ?_ | refine okV_of ?_ ?_ | refine okV_beh ?_ _ _ ?_))), (by (repeat (first | assumption | exact trivial | exact hfr _ (by omega) | refine okA_upd ?_ ?_ | refine okV_of ?_ ?_ | refine okV_beh ?_ _ _ ?_))), (by (repeat (first | assumption | exact trivial | exact hfr _ (by omega) | refine okA_upd ?_ ?_ | refine okV_of ?_ ?_ | refine okV_beh ?_ _ _ ?_))), (by (repeat (first | assumption | exact trivial | exact hfr _ (by omega) | refine okA_upd ?_ ?_ | refine okV_of ?_ ?_ | refine okV_beh ?_ _ _ ?_))), (by (repeat (first | assumption | exact trivial | exact hfr _ (by omega) | refine okA_upd ?_ ?_ | refine okV_of ?_ ?_ | refine okV_beh ?_ _ _ ?_))), (by (repeat (first | assumption | exact trivial | exact hfr _ (by omega) | refine okA_upd ?_ ?_ | refine okV_of ?_ ?_ | refine okV_beh ?_ _ _ ?_)))⟩ (by omega) hd (Or.inl ⟨rfl, rfl, rfl⟩)))
  refine And.intro (fun hx => ?_) (fun hx7 => ?_)
  · have hx : x = 7 := hx
    subst hx
    have hn9 : needX 7 = 3 := by decide
    obtain ⟨f0, rfl⟩ : ∃ f0, f = f0 + 3 := ⟨f - 3, by omega⟩
    exact k_applyInFrame hz hA hB hfr hS hE hC hD (by omega) (fun _ => And.intro (Or.inl rfl) (hQ _ _ _ _ _ _ _ _ _ _ _ _ _ _ _ _ (Or.inl rfl) hM0 (by omega) hd (Or.inl ⟨rfl, rfl, rfl⟩))) (fun _ i _ hi => And.intro (Or.inr rfl) (hQ _ _ _ _ _ _ _ _ _ _ _ _ _ _ _ _ (Or.inr rfl) ⟨(by (repeat (first | assumption | exact trivial | exact hfr _ (by omega) | refine okA_upd ?_ ?_ | refine okV_of ?_ ?_ | refine okV_beh ?_ _ _ ?_))), (by (repeat (first | assumption | exact trivial | exact hfr _ (by omega) | refine okA_upd ?_ ?_ | refine okV_of ?_ ?_ | refine okV_beh ?_ _ _ ?_))), (by (repeat (first | assumption | exact trivial | exact hfr _ (by omega) | refine okA_upd ?_ ?_ | refine okV_of ?_ ?_ | refine okV_beh ?_ _ _ ?_))), (by (repeat (first | assumption | exact trivial | exact hfr _ (by omega) | refine okA_upd ?_ ?_ | refine okV_of ?_ ?_ | refine okV_beh ?_ _ _ ?_))), (by (repeat (first | assumption | exact trivial | exact hfr _ (by omega) | refine okA_upd ?_ ?_ | refine okV_of ?_ ?_ | refine okV_beh ?_ _ _ ?_))), (by (repeat (first | assumption | exact trivial | exact hfr _ (by omega) | refine okA_upd ?_ ?_ | refine okV_of ?_ ?_ | refine okV_beh ?_ _ _ ?_)))⟩ (by omega) hd (Or.inl ⟨rfl, rfl, rfl⟩))) (fun _ _ => And.intro (Or.inr rfl) (hQ _ _ _ _ _ _ _ _ _ _ _ _ _ _ _ _ (Or.inr rfl) ⟨(by (repeat (first | assumption | exact trivial | exact hfr _ (by omega) | refine okA_upd ?_ ?_ | refine okV_of ?_ ?_ | refine okV_beh ?_ _ _ ?_))), (by (repeat (first | assumption | exact trivial | exact hfr _ (by omega) | refine okA_upd ?_ ?_ | refine okV_of ?_ ?_ | refine okV_beh ?_ _ _ ?_))), (by (repeat (first | assumption | exact trivial | exact hfr _ (by omega) | refine okA_upd ?_ ?_ | refine okV_of ?_ ?_ | refine okV_beh ?_ _ _ ?_))), (by (repeat (first | assumption | exact trivial | exact hfr _ (by omega) | refine okA_upd ?_ ?_ | refine okV_of ?_ ?_ | refine okV_beh ?_ _ _ ?_))), (by (repeat (first | assumption | exact trivial | exact hfr _ (by omega) | refine okA_upd ?_ ?_ | refine okV_of ?_ ?_ | refine okV_beh ?_ _ _ ?_))), (by (repeat (first | assumption | exact trivial | exact hfr _ (by omega) | refine okA_upd ?_ ?_ | refine okV_of ?_ ?_ | refine okV_beh ?_ _ _ ?_)))⟩ (by omega) hd (Or.inl ⟨rfl, rfl, rfl⟩)))
  refine And.intro (fun hx => ?_) (fun hx8 => ?_)
  · have hx : x = 8 := hx
    subst hx
    have hn9 : needX 8 = 1 := by decide
    obtain ⟨f0, rfl⟩ : ∃ f0, f = f0 + 1 := ⟨f - 1, by omega⟩
    exact k_choose hz hA hB hfr hS hE hC hD (by omega) (fun _ => And.intro (Or.inl rfl) (hQ _ _ _ _ _ _ _ _ _ _ _ _ _ _ _ _ (Or.inl rfl) hM0 (by omega) hd (Or.inl ⟨rfl, rfl, rfl⟩))) (fun _ _ => And.intro (Or.inr rfl) (hQ _ _ _ _ _ _ _ _ _ _ _ _ _ _ _ _ (Or.inr rfl) ⟨(by (repeat (first | assumption | exact trivial | exact hfr _ (by omega) | refine okA_upd ?_ ?_ | refine okV_of ?_ ?_ | refine okV_beh ?_ _ _ ?_))), (by (repeat (first | assumption | exact trivial | exact hfr _ (by omega) | refine okA_upd ?_ ?_ | refine okV_of ?_ ?_ | refine okV_beh ?_ _ _ ?_))), (by (repeat (first | assumption | exact trivial | exact hfr _ (by omega) | refine okA_upd ?_ ?_ | refine okV_of ?_ ?_ | refine okV_beh ?_ _ _ ?_))), (by (repeat (first | assumption | exact trivial | exact hfr _ (by omega) | refine okA_upd ?_ ?_ | refine okV_of ?_ ?_ | refine okV_beh ?_ _ _ ?_))), (by (repeat (first | assumption | exact trivial | exact hfr _ (by omega) | refine okA_upd ?_ ?_ | refine okV_of ?_ ?_ | refine okV_beh ?_ _ _ ?_))), (by (repeat (first | assumption | exact trivial | exact hfr _ (by omega) | refine okA_upd ?_ ?_ | refine okV_of ?_ ?_ | refine okV_beh ?_ _ _ ?_)))⟩ (by omega) hd (Or.inl ⟨rfl, rfl, rfl⟩))) (fun _ _ => And.intro (Or.inr rfl) (hQ _ _ _ _ _ _ _ _ _ _ _ _ _ _ _ _ (Or.inr rfl) ⟨(by (repeat (first | assumption | exact trivial | exact hfr _ (by omega) | refine okA_upd ?_ ?_ | refine okV_of ?_ ?_ | refine okV_beh ?_ _ _ ?_))), (by (repeat (first | assumption | exact trivial | exact hfr _ (by omega) | refine okA_upd ?_ ?_ | refine okV_of ?_ ?_ | refine okV_beh ?_ _ _ ?_))), (by (repeat (first | assumption | exact trivial | exact hfr _ (by omega) | refine okA_upd ?_ ?_ | refine okV_of ?_ ?_ | refine okV_beh ?_ _ _ ?_))), (by (repeat (first | assumption | exact trivial | exact hfr _ (by omega) | refine okA_upd ?_ ?_ | refine okV_of ?_ ?_ | refine okV_beh ?_ _ _ ?_))), (by (repeat (first | assumption | exact trivial | exact hfr _ (by omega) | refine okA_upd ?_ ?_ | refine okV_of ?_ ?_ | refine okV_beh ?_ _ _ ?_))), (by (repeat (first | assumption | exact trivial | exact hfr _ (by omega) | refine okA_upd ?_ ?_ | refine okV_of ?_ ?_ | refine okV_beh ?_ _ _ ?_)))⟩ (by omega) hd (Or.inl ⟨rfl, rfl, rfl⟩)))
  refine And.intro (fun hx => ?_) (fun hx9 => ?_)
  · have hx : x = 9 := hx
    subst hx
    exact k_rejoin hz hA hB hfr hS hE hC hD (And.intro (Or.inr rfl) (hQ _ _ _ _ _ _ _ _ _ _ _ _ _ _ _ _ (Or.inr rfl) ⟨(by (repeat (first | assumption | exact trivial | exact hfr _ (by omega) | refine okA_upd ?_ ?_ | refine okV_of ?_ ?_ | refine okV_beh ?_ _ _ ?_))), (by (repeat (first | assumption | exact trivial | exact hfr _ (by omega) | refine okA_upd ?_ ?_ | refine okV_of ?_ ?_ | refine okV_beh ?_ _ _ ?_))), (by (repeat (first | assumption | exact trivial | exact hfr _ (by omega) | refine okA_upd ?_ ?_ | refine okV_of ?_ ?_ | refine okV_beh ?_ _ _ ?_))), (by (repeat (first | assumption | exact trivial | exact hfr _ (by omega) | refine okA_upd ?_ ?_ | refine okV_of ?_ ?_ | refine okV_beh ?_ _ _ ?_))), (by (repeat (first | assumption | exact trivial | exact hfr _ (by omega) | refine okA_upd ?_ ?_ | refine okV_of ?_ ?_ | refine okV_beh ?_ _ _ ?_))), (by (repeat (first | assumption | exact trivial | exact hfr _ (by omega) | refine okA_upd ?_ ?_ | refine okV_of ?_ ?_ | refine okV_beh ?_ _ _ ?_)))⟩ (by omega) hd (Or.inl ⟨rfl, rfl, rfl⟩)))
  refine And.intro (fun hx => ?_) (fun hx10 => ?_)
  · have hx : x = 10 := hx
    subst hx
    have hn9 : needX 10 = 1 := by decide
    obtain ⟨f0, rfl⟩ : ∃ f0, f = f0 + 1 := ⟨f - 1, by omega⟩
    exact k_partOfPair hz hA hB hfr hS hE hC hD (by omega) (fun _ => And.intro (Or.inl rfl) (hQ _ _ _ _ _ _ _ _ _ _ _ _ _ _ _ _ (Or.inl rfl) hM0 (by omega) hd (Or.inl ⟨rfl, rfl, rfl⟩))) (fun _ _ => And.intro (Or.inr rfl) (hQ _ _ _ _ _ _ _ _ _ _ _ _ _ _ _ _ (Or.inr rfl) ⟨(by (repeat (first | assumption | exact trivial | exact hfr _ (by omega) | refine okA_upd ?_ ?_ | refine okV_of ?_ ?_ | refine okV_beh ?_ _ _ ?_))), (by (repeat (first | assumption | exact trivial | exact hfr _ (by omega) | refine okA_upd ?_ ?_ | refine okV_of ?_ ?_ | refine okV_beh ?_ _ _ ?_))), (by (repeat (first | assumption | exact trivial | exact hfr _ (by omega) | refine okA_upd ?_ ?_ | refine okV_of ?_ ?_ | refine okV_beh ?_ _ _ ?_))), (by (repeat (first | assumption | exact trivial | exact hfr _ (by omega) | refine okA_upd ?_ ?_ | refine okV_of ?_ ?_ | refine okV_beh ?_ _ _ ?_))), (by (repeat (first | assumption | exact trivial | exact hfr _ (by omega) | refine okA_upd ?_ ?_ | refine okV_of ?_ ?_ | refine okV_beh ?_ _ _ ?_))), (by (repeat (first | assumption | exact trivial | exact hfr _ (by omega) | refine okA_upd ?_ ?_ | refine okV_of ?_ ?_ | refine okV_beh ?_ _ _ ?_)))⟩ (by omega) hd (Or.inl ⟨rfl, rfl, rfl⟩))) (fun _ _ => And.intro (Or.inr rfl) (hQ _ _ _ _ _ _ _ _ _ _ _ _ _ _ _ _ (Or.inr rfl) ⟨(by (repeat (first | assumption | exact trivial | exact hfr _ (by omega) | refine okA_upd ?_ ?_ | refine okV_of ?_ ?_ | refine okV_beh ?_ _ _ ?_))), (by (repeat (first | assumption | exact trivial | exact hfr _ (by omega) | refine okA_upd ?_ ?_ | refine okV_of ?_ ?_ | refine okV_beh ?_ _ _ ?_))), (by (repeat (first | assumption | exact trivial | exact hfr _ (by omega) | refine okA_upd ?_ ?_ | refine okV_of ?_ ?_ | refine okV_beh ?_ _ _ ?_))), (by (repeat (first | assumption | exact trivial | exact hfr _ (by omega) | refine okA_upd ?_ ?_ | refine okV_of ?_ ?_ | refine okV_beh ?_ _ _ ?_))), (by (repeat (first | assumption | exact trivial | exact hfr _ (by omega) | refine okA_upd ?_ ?_ | refine okV_of ?_ ?_ | refine okV_beh ?_ _ _ ?_))), (by (repeat (first | assumption | exact trivial | exact hfr _ (by omega) | refine okA_upd ?_ ?_ | refine okV_of ?_ ?_ | refine okV_beh ?_ _ _ ?_)))⟩ (by omega) hd (Or.inl ⟨rfl, rfl, rfl⟩)))
  refine And.intro (fun hx => ?_) (fun hx11 => ?_)
  · have hx : x = 11 := hx
    subst hx
    have hn9 : needX 11 = 1 := by decide
    obtain ⟨f0, rfl⟩ : ∃ f0, f = f0 + 1 := ⟨f - 1, by omega⟩
    exact k_partOfPair hz hA hB hfr hS hE hC hD (by omega) (fun _ => And.intro (Or.inl rfl) (hQ _ _ _ _ _ _ _ _ _ _ _ _ _ _ _ _ (Or.inl rfl) hM0 (by omega) hd (Or.inl ⟨rfl, rfl, rfl⟩))) (fun _ _ => And.intro (Or.inr rfl) (hQ _ _ _ _ _ _ _ _ _ _ _ _ _ _ _ _ (Or.inr rfl) ⟨(by (repeat (first | assumption | exact trivial | exact hfr _ (by omega) | refine okA_upd ?_ ?_ | refine okV_of ?_ ?_ | refine okV_beh ?_ _ _ ?_))), (by (repeat (first | assumption | exact trivial | exact hfr _ (by omega) | refine okA_upd ?_ ?_ | refine okV_of ?_ ?_ | refine okV_beh ?_ _ _ ?_))), (by (repeat (first | assumption | exact trivial | exact hfr _ (by omega) | refine okA_upd ?_ ?_ | refine okV_of ?_ ?_ | refine okV_beh ?_ _ _ ?_))), (by (repeat (first | assumption | exact trivial | exact hfr _ (by omega) | refine okA_upd ?_ ?_ | refine okV_of ?_ ?_ | refine okV_beh ?_ _ _ ?_))), (by (repeat (first | assumption | exact trivial | exact hfr _ (by omega) | refine okA_upd ?_ ?_ | refine okV_of ?_ ?_ | refine okV_beh ?_ _ _ ?_))), (by (repeat (first | assumption | exact trivial | exact hfr _ (by omega) | refine okA_upd ?_ ?_ | refine okV_of ?_ ?_ | refine okV_beh ?_ _ _ ?_)))⟩ (by omega) hd (Or.inl ⟨rfl, rfl, rfl⟩))) (fun _ _ => And.intro (Or.inr rfl) (hQ _ _ _ _ _ _ _ _ _ _ _ _ _ _ _ _ (Or.inr rfl) ⟨(by (repeat (first | assumption | exact trivial | exact hfr _ (by omega) | refine okA_upd ?_ ?_ | refine okV_of ?_ ?_ | refine okV_beh ?_ _ _ ?_))), (by (repeat (first | assumption | exact trivial | exact hfr _ (by omega) | refine okA_upd ?_ ?_ | refine okV_of ?_ ?_ | refine okV_beh ?_ _ _ ?_))), (by (repeat (first | assumption | exact trivial | exact hfr _ (by omega) | refine okA_upd ?_ ?_ | refine okV_of ?_ ?_ | refine okV_beh ?_ _ _ ?_))), (by (repeat (first | assumption | exact trivial | exact hfr _ (by omega) | refine okA_upd ?_ ?_ | refine okV_of ?_ ?_ | refine okV_beh ?_ _ _ ?_))), (by (repeat (first | assumption | exact trivial | exact hfr _ (by omega) | refine okA_upd ?_ ?_ | refine okV_of ?_ ?_ | refine okV_beh ?_ _ _ ?_))), (by (repeat (first | assumption | exact trivial | exact hfr _ (by omega) | refine okA_upd ?_ ?_ | refine okV_of ?_ ?_ | refine okV_beh ?_ _ _ ?_)))⟩ (by omega) hd (Or.inl ⟨rfl, rfl, rfl⟩)))
  refine And.intro (fun hx => ?_) (fun hx12 => ?_)
  · have hx : x = 12 := hx
    subst hx
    have hn9 : needX 12 = 1 := by decide
    obtain ⟨f0, rfl⟩ : ∃ f0, f = f0 + 1 := ⟨f - 1, by omega⟩
    exact k_isNoPair hz hA hB hfr hS hE hC hD (by omega) (fun _ => And.intro (Or.inr rfl) (hQ _ _ _ _ _ _ _ _ _ _ _ _ _ _ _ _ (Or.inr rfl) ⟨(by (repeat (first | assumption | exact trivial | exact hfr _ (by omega) | refine okA_upd ?_ ?_ | refine okV_of ?_ ?_ | refine okV_beh ?_ _ _ ?_))), (by (repeat (first | assumption | exact trivial | exact hfr _ (by omega) | refine okA_upd ?_ ?_ | refine okV_of ?_ ?_ | refine okV_beh ?_ _ _ ?_))), (by (repeat (first | assumption | exact trivial | exact hfr _ (by omega) | refine okA_upd ?_ ?_ | refine okV_of ?_ ?_ | refine okV_beh ?_ _ _ ?_))), (by (repeat (first | assumption | exact trivial | exact hfr _ (by omega) | refine okA_upd ?_ ?_ | refine okV_of ?_ ?_ | refine okV_beh ?_ _ _ ?_))), (by (repeat (first | assumption | exact trivial | exact hfr _ (by omega) | refine okA_upd ?_ ?_ | refine okV_of ?_ ?_ | refine okV_beh ?_ _ _ ?_))), (by (repeat (first | assumption | exact trivial | exact hfr _ (by omega) | refine okA_upd ?_ ?_ | refine okV_of ?_ ?_ | refine okV_beh ?_ _ _ ?_)))⟩ (by omega) hd (Or.inl ⟨rfl, rfl, rfl⟩))) (fun _ => And.intro (Or.inr rfl) (hQ _ _ _ _ _ _ _ _ _ _ _ _ _ _ _ _ (Or.inr rfl) ⟨(by (repeat (first | assumption | exact trivial | exact hfr _ (by omega) | refine okA_upd ?_ ?_ | refine okV_of ?_ ?_ | refine okV_beh ?_ _ _ ?_))), (by (repeat (first | assumption | exact trivial | exact hfr _ (by omega) | refine okA_upd ?_ ?_ | refine okV_of ?_ ?_ | refine okV_beh ?_ _ _ ?_))), (by (repeat (first | assumption | exact trivial | exact hfr _ (by omega) | refine okA_upd ?_ ?_ | refine okV_of ?_ ?_ | refine okV_beh ?_ _ _ ?_))), (by (repeat (first | assumption | exact trivial | exact hfr _ (by omega) | refine okA_upd ?_ ?_ | refine okV_of ?_ ?_ | refine okV_beh ?_ _ _ ?_))), (by (repeat (first | assumption | exact trivial | exact hfr _ (by omega) | refine okA_upd ?_ ?_ | refine okV_of ?_ ?_ | refine okV_beh ?_ _ _ ?_))), (by (repeat (first | assumption | exact trivial | exact hfr _ (by omega) | refine okA_upd ?_ ?_ | refine okV_of ?_ ?_ | refine okV_beh ?_ _ _ ?_)))⟩ (by omega) hd (Or.inl ⟨rfl, rfl, rfl⟩)))
  refine And.intro (fun hx => ?_) (fun hx13 => ?_)
  · have hx : x = 13 := hx
    subst hx
    have hn9 : needX 13 = 2 := by decide
    obtain ⟨f0, rfl⟩ : ∃ f0, f = f0 + 2 := ⟨f - 2, by omega⟩
    exact k_pair hz hA hB hfr hS hE hC hD (by omega) (And.intro (Or.inr rfl) (hQ _ _ _ _ _ _ _ _ _ _ _ _ _ _ _ _ (Or.inr rfl) ⟨(by (repeat (first | assumption | exact trivial | exact hfr _ (by omega) | refine okA_upd ?_ ?_ | refine okV_of ?_ ?_ | refine okV_beh ?_ _ _ ?_))), (by (repeat (first | assumption | exact trivial | exact hfr _ (by omega) | refine okA_upd ?_ ?_ | refine okV_of ?_ ?_ | refine okV_beh ?_ _ _ ?_))), (by (repeat (first | assumption | exact trivial | exact hfr _ (by omega) | refine okA_upd ?_ ?_ | refine okV_of ?_ ?_ | refine okV_beh ?_ _ _ ?_))), (by (repeat (first | assumption | exact trivial | exact hfr _ (by omega) | refine okA_upd ?_ ?_ | refine okV_of ?_ ?_ | refine okV_beh ?_ _ _ ?_))), (by (repeat (first | assumption | exact trivial | exact hfr _ (by omega) | refine okA_upd ?_ ?_ | refine okV_of ?_ ?_ | refine okV_beh ?_ _ _ ?_))), (by (repeat (first | assumption | exact trivial | exact hfr _ (by omega) | refine okA_upd ?_ ?_ | refine okV_of ?_ ?_ | refine okV_beh ?_ _ _ ?_)))⟩ (by omega) hd (Or.inl ⟨rfl, rfl, rfl⟩)))
  refine And.intro (fun hx => ?_) (fun hx14 => ?_)
  · have hx : x = 14 := hx
    subst hx
    have hn9 : needX 14 = 1 := by decide
    obtain ⟨f0, rfl⟩ : ∃ f0, f = f0 + 1 := ⟨f - 1, by omega⟩
    exact k_same hz hA hB hfr hS hE hC hD (by omega) (fun _ => And.intro (Or.inr rfl) (hQ _ _ _ _ _ _ _ _ _ _ _ _ _ _ _ _ (Or.inr rfl) ⟨(by (repeat (first | assumption | exact trivial | exact hfr _ (by omega) | refine okA_upd ?_ ?_ | refine okV_of ?_ ?_ | refine okV_beh ?_ _ _ ?_))), (by (repeat (first | assumption | exact trivial | exact hfr _ (by omega) | refine okA_upd ?_ ?_ | refine okV_of ?_ ?_ | refine okV_beh ?_ _ _ ?_))), (by (repeat (first | assumption | exact trivial | exact hfr _ (by omega) | refine okA_upd ?_ ?_ | refine okV_of ?_ ?_ | refine okV_beh ?_ _ _ ?_))), (by (repeat (first | assumption | exact trivial | exact hfr _ (by omega) | refine okA_upd ?_ ?_ | refine okV_of ?_ ?_ | refine okV_beh ?_ _ _ ?_))), (by (repeat (first | assumption | exact trivial | exact hfr _ (by omega) | refine okA_upd ?_ ?_ | refine okV_of ?_ ?_ | refine okV_beh ?_ _ _ ?_))), (by (repeat (first | assumption | exact trivial | exact hfr _ (by omega) | refine okA_upd ?_ ?_ | refine okV_of ?_ ?_ | refine okV_beh ?_ _ _ ?_)))⟩ (by omega) hd (Or.inl ⟨rfl, rfl, rfl⟩))) (fun _ => And.intro (Or.inr rfl) (hQ _ _ _ _ _ _ _ _ _ _ _ _ _ _ _ _ (Or.inr rfl) ⟨(by (repeat (first | assumption | exact trivial | exact hfr _ (by omega) | refine okA_upd ?_ ?_ | refine okV_of ?_ ?_ | refine okV_beh ?_ _ _ ?_))), (by (repeat (first | assumption | exact trivial | exact hfr _ (by omega) | refine okA_upd ?_ ?_ | refine okV_of ?_ ?_ | refine okV_beh ?_ _ _ ?_))), (by (repeat (first | assumption | exact trivial | exact hfr _ (by omega) | refine okA_upd ?_ ?_ | refine okV_of ?_ ?_ | refine okV_beh ?_ _ _ ?_))), (by (repeat (first | assumption | exact trivial | exact hfr _ (by omega) | refine okA_upd ?_ ?_ | refine okV_of ?_ ?_ | refine okV_beh ?_ _ _ ?_))), (by (repeat (first | assumption | exact trivial | exact hfr _ (by omega) | refine okA_upd ?_ ?_ | refine okV_of ?_ ?_ | refine okV_beh ?_ _ _ ?_))), (by (repeat (first | assumption | exact trivial | exact hfr _ (by omega) | refine okA_upd ?_ ?_ | refine okV_of ?_ ?_ | refine okV_beh ?_ _ _ ?_)))⟩ (by omega) hd (Or.inl ⟨rfl, rfl, rfl⟩)))
  refine And.intro (fun hx => ?_) (fun hx15 => ?_)
  · have hx : x = 15 := hx
    subst hx
    have hn9 : needX 15 = 1 := by decide
    obtain ⟨f0, rfl⟩ : ∃ f0, f = f0 + 1 := ⟨f - 1, by omega⟩
    exact k_calculate hz hA hB hfr hS hE hC hD (by omega) (fun _ => And.intro (Or.inl rfl) (hQ _ _ _ _ _ _ _ _ _ _ _ _ _ _ _ _ (Or.inl rfl) hM0 (by omega) hd (Or.inl ⟨rfl, rfl, rfl⟩))) (fun _ _ => And.intro (Or.inr rfl) (hQ _ _ _ _ _ _ _ _ _ _ _ _ _ _ _ _ (Or.inr rfl) ⟨(by (repeat (first | assumption | exact trivial | exact hfr _ (by omega) | refine okA_upd ?_ ?_ | refine okV_of ?_ ?_ | refine okV_beh ?_ _ _ ?_))), (by (repeat (first | assumption | exact trivial | exact hfr _ (by omega) | refine okA_upd ?_ ?_ | refine okV_of ?_ ?_ | refine okV_beh ?_ _ _ ?_))), (by (repeat (first | assumption | exact trivial | exact hfr _ (by omega) | refine okA_upd ?_ ?_ | refine okV_of ?_ ?_ | refine okV_beh ?_ _ _ ?_))), (by (repeat (first | assumption | exact trivial | exact hfr _ (by omega) | refine okA_upd ?_ ?_ | refine okV_of ?_ ?_ | refine okV_beh ?_ _ _ ?_))), (by (repeat (first | assumption | exact trivial | exact hfr _ (by omega) | refine okA_upd ?_ ?_ | refine okV_of ?_ ?_ | refine okV_beh ?_ _ _ ?_))), (by (repeat (first | assumption | exact trivial | exact hfr _ (by omega) | refine okA_upd ?_ ?_ | refine okV_of ?_ ?_ | refine okV_beh ?_ _ _ ?_)))⟩ (by omega) hd (Or.inl ⟨rfl, rfl, rfl⟩)))
  refine And.intro (fun hx => ?_) (fun hx16 => ?_)
  · have hx : x = 16 := hx
    subst hx
    have hn9 : needX 16 = 1 := by decide
    obtain ⟨f0, rfl⟩ : ∃ f0, f = f0 + 1 := ⟨f - 1, by omega⟩
    exact k_calculate hz hA hB hfr hS hE hC hD (by omega) (fun _ => And.intro (Or.inl rfl) (hQ _ _ _ _ _ _ _ _ _ _ _ _ _ _ _ _ (Or.inl rfl) hM0 (by omega) hd (Or.inl ⟨rfl, rfl, rfl⟩))) (fun _ _ => And.intro (Or.inr rfl) (hQ _ _ _ _ _ _ _ _ _ _ _ _ _ _ _ _ (Or.inr rfl) ⟨(by (repeat (first | assumption | exact trivial | exact hfr _ (by omega) | refine okA_upd ?_ ?_ | refine okV_of ?_ ?_ | refine okV_beh ?_ _ _ ?_))), (by (repeat (first | assumption | exact trivial | exact hfr _ (by omega) | refine okA_upd ?_ ?_ | refine okV_of ?_ ?_ | refine okV_beh ?_ _ _ ?_))), (by (repeat (first | assumption | exact trivial | exact hfr _ (by omega) | refine okA_upd ?_ ?_ | refine okV_of ?_ ?_ | refine okV_beh ?_ _ _ ?_))), (by (repeat (first | assumption | exact trivial | exact hfr _ (by omega) | refine okA_upd ?_ ?_ | refine okV_of ?_ ?_ | refine okV_beh ?_ _ _ ?_))), (by (repeat (first | assumption | exact trivial | exact hfr _ (by omega) | refine okA_upd ?_ ?_ | refine okV_of ?_ ?_ | refine okV_beh ?_ _ _ ?_))), (by (repeat (first | assumption | exact trivial | exact hfr _ (by omega) | refine okA_upd ?_ ?_ | refine okV_of ?_ ?_ | refine okV_beh ?_ _ _ ?_)))⟩ (by omega) hd (Or.inl ⟨rfl, rfl, rfl⟩)))
  refine And.intro (fun hx => ?_) (fun hx17 => ?_)
  · have hx : x = 17 := hx
    subst hx
    have hn9 : needX 17 = 1 := by decide
    obtain ⟨f0, rfl⟩ : ∃ f0, f = f0 + 1 := ⟨f - 1, by omega⟩
    exact k_calculate hz hA hB hfr hS hE hC hD (by omega) (fun _ => And.intro (Or.inl rfl) (hQ _ _ _ _ _ _ _ _ _ _ _ _ _ _ _ _ (Or.inl rfl) hM0 (by omega) hd (Or.inl ⟨rfl, rfl, rfl⟩))) (fun _ _ => And.intro (Or.inr rfl) (hQ _ _ _ _ _ _ _ _ _ _ _ _ _ _ _ _ (Or.inr rfl) ⟨(by (repeat (first | assumption | exact trivial | exact hfr _ (by omega) | refine okA_upd ?_ ?_ | refine okV_of ?_ ?_ | refine okV_beh ?_ _ _ ?_))), (by (repeat (first | assumption | exact trivial | exact hfr _ (by omega) | refine okA_upd ?_ ?_ | refine okV_of ?_ ?_ | refine okV_beh ?_ _ _ ?_))), (by (repeat (first | assumption | exact trivial | exact hfr _ (by omega) | refine okA_upd ?_ ?_ | refine okV_of ?_ ?_ | refine okV_beh ?_ _ _ ?_))), (by (repeat (first | assumption | exact trivial | exact hfr _ (by omega) | refine okA_upd ?_ ?_ | refine okV_of ?_ ?_ | refine okV_beh ?_ _ _ ?_))), (by (repeat (first | assumption | exact trivial | exact hfr _ (by omega) | refine okA_upd ?_ ?_ | refine okV_of ?_ ?_ | refine okV_beh ?_ _ _ ?_))), (by (repeat (first | assumption | exact trivial | exact hfr _ (by omega) | refine okA_upd ?_ ?_ | refine okV_of ?_ ?_ | refine okV_beh ?_ _ _ ?_)))⟩ (by omega) hd (Or.inl ⟨rfl, rfl, rfl⟩)))
  refine And.intro (fun hx => ?_) (fun hx18 => ?_)
  · have hx : x = 18 := hx
    subst hx
    have hn9 : needX 18 = 1 := by decide
    obtain ⟨f0, rfl⟩ : ∃ f0, f = f0 + 1 := ⟨f - 1, by omega⟩
    exact k_calculate hz hA hB hfr hS hE hC hD (by omega) (fun _ => And.intro (Or.inl rfl) (hQ _ _ _ _ _ _ _ _ _ _ _ _ _ _ _ _ (Or.inl rfl) hM0 (by omega) hd (Or.inl ⟨rfl, rfl, rfl⟩))) (fun _ _ => And.intro (Or.inr rfl) (hQ _ _ _ _ _ _ _ _ _ _ _ _ _ _ _ _ (Or.inr rfl) ⟨(by (repeat (first | assumption | exact trivial | exact hfr _ (by omega) | refine okA_upd ?_ ?_ | refine okV_of ?_ ?_ | refine okV_beh ?_ _ _ ?_))), (by (repeat (first | assumption | exact trivial | exact hfr _ (by omega) | refine okA_upd ?_ ?_ | refine okV_of ?_ ?_ | refine okV_beh ?_ _ _ ?_))), (by (repeat (first | assumption | exact trivial | exact hfr _ (by omega) | refine okA_upd ?_ ?_ | refine okV_of ?_ ?_ | refine okV_beh ?_ _ _ ?_))), (by (repeat (first | assumption | exact trivial | exact hfr _ (by omega) | refine okA_upd ?_ ?_ | refine okV_of ?_ ?_ | refine okV_beh ?_ _ _ ?_))), (by (repeat (first | assumption | exact trivial | exact hfr _ (by omega) | refine okA_upd ?_ ?_ | refine okV_of ?_ ?_ | refine okV_beh ?_ _ _ ?_))), (by (repeat (first | assumption | exact trivial | exact hfr _ (by omega) | refine okA_upd ?_ ?_ | refine okV_of ?_ ?_ | refine okV_beh ?_ _ _ ?_)))⟩ (by omega) hd (Or.inl ⟨rfl, rfl, rfl⟩)))
  refine And.intro (fun hx => ?_) (fun hx19 => ?_)
  · have hx : x = 19 := hx
    subst hx
    refine k_stop hz hM0 hfr hf hd hc0 hc1 (fun k' n' fb' R' b0' b1' op' q1 q2 q3 => ?_)
    exact And.intro (Or.inr rfl) (hQ _ _ _ _ _ _ _ _ _ _ _ _ _ _ _ _ (Or.inr rfl) hM0 hf q1 (Or.inr ⟨rfl, q2, q3⟩))
  exact And.intro (Or.inl rfl) (hQ _ _ _ _ _ _ _ _ _ _ _ _ _ _ _ _ (Or.inl rfl) hM0 (by omega) hd (Or.inl ⟨rfl, rfl, rfl⟩))
theorem k_stepW (hz : z ≤ 250) (hM : mOK z S E C D H T) (hfr : ∀ j, j < z → fr j < z) (hf : f ≤ z) (hd : dOK z n fb R) (hc0 : 200 ≤ b0) (hc1 : 20000 ≤ b1) (hc : c ≤ z) (hQ : ∀ S' E' C' D' mode' colls' taken' H' T' fr' g' f' k' n' fb' R' b0' b1' op', mOK z S' E' C' D' H' T' → (∀ j, j < z → fr' j < z) → f' ≤ z → dOK z n' fb' R' → ((b0' = b0 ∧ b1' = b1 ∧ (mode' = mode ∨ mode' = 3 ∨ mode' = 4)) ∨ (mode' = 2 ∧ b0 ≤ b0' + 140 ∧ b1 ≤ b1' + 19740) ∨ (mode' = 3 ∧ b0 ≤ b0' + 140 ∧ b1 ≤ b1' + 19740)) → Q (.inl none, (fW o0 o1 o2 o3 o4 o5 o6 o7 o8 o9 o10 o11 o12 o13 o14 o15 S' E' C' D' mode' colls' taken' (steps + 1) z H' T' fr' g' f' c k' n' fb' R' tl, b0', b1', op'))) :
    mj_Mt gT (law_cst xs) gnw (m + 11) y_Machine_step [.ref 16] (fW o0 o1 o2 o3 o4 o5 o6 o7 o8 o9 o10 o11 o12 o13 o14 o15 S E C D mode colls taken steps z H T fr g f c k n fb R tl, b0, b1, op) Q := by
  have hM0 := hM
  obtain ⟨hA, hB, hS, hE, hC, hD⟩ := hM
  intro J hJ
  refine hJ _ _ _ _ ?_
  refine k_instruction hz hA hB hfr hS hE hC hD ?_
  generalize (encV (ofV H C)).toInt32 = x
  have hnl := needX_le x
  refine o_needs ?_
  refine s_freeCells ?_
  refine And.intro (fun h1 => ?_) (fun h1 => ?_)
  · have h1 : needX x ≤ f := (nI_leI (by omega) (by omega)).mp h1
    refine s_freeCells ?_
    refine And.intro (fun _ => ?_) (fun h => absurd (nI_le h1 (by omega)) h)
    refine k_actW h1 hz hM0 hfr hf hd hc0 hc1 (fun b S' E' C' D' mode' H' T' f' k' n' fb' R' b0' b1' op' q1 q2 q3 q4 q5 => ?_)
    refine And.intro (fun _ => ?_) (fun _ => ?_)
    · refine hQ _ _ _ _ _ _ _ _ _ _ _ _ _ _ _ _ _ _ _ q2 hfr q3 q4 ?_
      rcases q5 with ⟨e1, e2, e3⟩ | e
      · exact Or.inl ⟨e2, e3, Or.inl e1⟩
      · exact Or.inr (Or.inl e)
    · refine hQ _ _ _ _ _ _ _ _ _ _ _ _ _ _ _ _ _ _ _ q2 hfr q3 q4 ?_
      rcases q5 with ⟨e1, e2, e3⟩ | e
      · exact Or.inl ⟨e2, e3, Or.inr (Or.inl rfl)⟩
      · exact Or.inr (Or.inr ⟨rfl, e.2⟩)
  · refine k_collect hz hc hA hB hS hE hC hD ?_
    have hfu := fuN_le (mrk z H T S E C D (if c = 0 then vNil else vPr 0) g).1 z 0 (fr, 0)
    have hfr2 := fuN_fr (mrk z H T S E C D (if c = 0 then vNil else vPr 0) g).1 z 0 (fr, 0) (by omega) hfr
    generalize (fuN (mrk z H T S E C D (if c = 0 then vNil else vPr 0) g).1 z 0 (fr, 0)) = p at *
    generalize (mrk z H T S E C D (if c = 0 then vNil else vPr 0) g) = g2
    have hfu : p.2 ≤ 0 + z := hfu
    refine s_freeCells ?_
    refine And.intro (fun h2 => ?_) (fun h2 => ?_)
    · have h2 : needX x ≤ p.2 := (nI_leI (by omega) (by omega)).mp h2
      refine k_actW h2 hz hM0 hfr2 (by omega) hd hc0 hc1 (fun b S' E' C' D' mode' H' T' f' k' n' fb' R' b0' b1' op' q1 q2 q3 q4 q5 => ?_)
      refine And.intro (fun _ => ?_) (fun _ => ?_)
      · refine hQ _ _ _ _ _ _ _ _ _ _ _ _ _ _ _ _ _ _ _ q2 hfr2 q3 q4 ?_
        rcases q5 with ⟨e1, e2, e3⟩ | e
        · exact Or.inl ⟨e2, e3, Or.inl e1⟩
        · exact Or.inr (Or.inl e)
      · refine hQ _ _ _ _ _ _ _ _ _ _ _ _ _ _ _ _ _ _ _ q2 hfr2 q3 q4 ?_
        rcases q5 with ⟨e1, e2, e3⟩ | e
        · exact Or.inl ⟨e2, e3, Or.inr (Or.inl rfl)⟩
        · exact Or.inr (Or.inr ⟨rfl, e.2⟩)
    · exact hQ _ _ _ _ _ _ _ _ _ _ _ _ _ _ _ _ _ _ _ hM0 hfr2 (by omega) hd (Or.inl ⟨rfl, rfl, Or.inr (Or.inr rfl)⟩)
theorem k_beginW (hz : z ≤ 250) (hc : c ≤ z) (hfr : ∀ j, j < z → fr j < z) (h0 : c = 0 → Q (.inl (some (.int 0)), (fW o0 o1 o2 o3 o4 o5 o6 o7 o8 o9 o10 o11 o12 o13 o14 o15 S E C D mode colls taken steps z H T fr g f c k n fb R tl, b0, b1, op)))
    (h1 : 0 < c → Q (.inl (some (.int 1)), (fW o0 o1 o2 o3 o4 o5 o6 o7 o8 o9 o10 o11 o12 o13 o14 o15 vNil vNil (vPr 0) vNil 1 0 0 0 z H T (faN (z - c) c (fr, 0)).1 g (faN (z - c) c (fr, 0)).2 c k n fb R tl, b0, b1, op))) :
    mj_Mt gT cst gnw (m + 3) y_Machine_begin [.ref 16] (fW o0 o1 o2 o3 o4 o5 o6 o7 o8 o9 o10 o11 o12 o13 o14 o15 S E C D mode colls taken steps z H T fr g f c k n fb R tl, b0, b1, op) Q := by
  intro J hJ
  refine hJ _ _ _ _ ?_
  refine s_code (by omega) ?_
  by_cases e : c = 0
  · subst e
    refine And.intro (fun h => absurd (by decide) h) (fun _ => ?_)
    exact And.intro (Or.inl rfl) (h0 rfl)
  · rw [if_neg e]
    refine And.intro (fun _ => ?_) (fun h => absurd (lg_eq.mp h) (by decide))
    refine s_freeAllButCode hz hc ?_
    refine s_code (by omega) ?_
    rw [if_neg e]
    refine k_setRegisters ?_
    exact And.intro (Or.inr rfl) (h1 (by omega))
end P2e
