section
def dW (o0 o1 o2 o3 o4 o5 o6 o7 o8 o9 o10 o11 o12 o13 o14 o15 o16 : mj_O) (z : Nat) (H T : Nat → Int64) (fr mk rc : Nat → Int32) (fN rN cN k : Int32) (n : Nat) (f : Nat → Nat) (r : Nat → Int64) (tl : List mj_O) : List mj_O :=
  sW o0 o1 o2 o3 o4 o5 o6 o7 o8 o9 o10 o11 o12 o13 o14 o15 o16 z H T fr mk rc fN rN cN (oF 8 [.ref 17, .ref 24, .ref 26, .int k] :: .inr (.inr (.inl (n, f))) :: .inr (.inr (.inr ())) :: oJ 120 r :: tl)
def shA : Vl → List Nat
  | .inr (.inl x) => (List.range (isz x)).map (ich x)
  | .inr (.inr (.inl x)) => [x.toNatClampNeg]
  | .inr (.inr (.inr (.inr _))) => [35]
  | _ => [40, 41]
theorem shA_len (v : Vl) : 1 ≤ (shA v).length ∧ (shA v).length ≤ 11 := by
  rcases v with u | x | x | i | i
  · simp [shA]
  · have := isz_in x
    simp [shA]
    omega
  · simp [shA]
  · simp [shA]
  · simp [shA]
def agr (l : List Nat) (f : Nat → Nat) : Prop := ∀ i, i < l.length → f i = l.getD i 0
theorem agr_cat {l s : List Nat} {f t : Nat → Nat} (h : agr l f) (ht : ∀ i, i < s.length → t i = s.getD i 0) : agr (l ++ s) (sb_cat f l.length t) := by
  intro i hi
  rw [List.length_append] at hi
  rw [List.getD_eq_getElem?_getD]
  by_cases h1 : i < l.length
  · rw [sb_cat_lo h1, h i h1, List.getElem?_append_left h1, List.getD_eq_getElem?_getD]
  · have e := sb_cat_hi (t := f) (s := t) (n := l.length) (j := i - l.length)
    rw [show l.length + (i - l.length) = i by omega] at e
    rw [e, ht _ (by omega), List.getElem?_append_right (by omega), List.getD_eq_getElem?_getD]
theorem agr_ints (x : Int32) : ∀ i, i < ((List.range (isz x)).map (ich x)).length → ich x i = ((List.range (isz x)).map (ich x)).getD i 0 := by
  intro i hi
  rw [List.length_map, List.length_range] at hi
  rw [List.getD_eq_getElem?_getD, List.getElem?_map, List.getElem?_range hi]
  rfl
def pot (n : Nat) : Nat := n * (n + 1)
theorem pot_step {n k : Nat} (h : n + 1 ≤ k) : 2 * k + pot n ≤ pot k := by
  obtain ⟨d, rfl⟩ : ∃ d, k = n + 1 + d := ⟨k - (n + 1), by omega⟩
  unfold pot
  have h1 : (n + 1 + d) * (n + 1 + d + 1) = n * (n + 1) + 2 * (n + 1) + d * (n + n + 3 + d) := by
    have := Nat.mul_comm n d
    simp only [Nat.mul_add, Nat.add_mul, Nat.mul_one, Nat.one_mul]
    omega
  have h2 : 2 * d ≤ d * (n + n + 3 + d) := by
    rw [Nat.mul_comm 2 d]
    exact Nat.mul_le_mul_left d (by omega)
  omega
theorem pot_le {n : Nat} (h : n ≤ 140) : pot n ≤ 19740 := by
  have := Nat.mul_le_mul h (show n + 1 ≤ 141 by omega)
  unfold pot
  omega
def dotA : Vl → List Nat
  | .inl _ => []
  | v => [32, 46, 32] ++ shA v
def endL (r : Nat → Vl) : Nat → List Nat → List Nat × Nat
  | 0, l => (l, 0)
  | k + 1, l => if kV (r k) = 3 ∨ 120 ≤ l.length then (l, k + 1) else endL r k ((l ++ dotA (r k)) ++ [41])
def shw (H T : Nat → Vl) : Nat → List Nat → (Nat → Vl) → Nat → Vl → List Nat × (Nat → Vl) × Nat
  | 0, l, r, k, _ => (l, r, k)
  | t + 1, l, r, k, v => if 120 ≤ l.length then (l, r, k) else
      if kV v = 3 then shw H T t (l ++ [40]) (upW r k (ofV T v)) (k + 1) (ofV H v)
      else if (endL r k (l ++ shA v)).2 = 0 then ((endL r k (l ++ shA v)).1, r, 0)
      else shw H T t ((endL r k (l ++ shA v)).1 ++ [32]) (upW r ((endL r k (l ++ shA v)).2 - 1) (ofV T (r ((endL r k (l ++ shA v)).2 - 1)))) (endL r k (l ++ shA v)).2 (ofV H (r ((endL r k (l ++ shA v)).2 - 1)))
theorem encV_0 {v : Vl} (h : encV v = 0) : v = vNil := by
  rcases v with u | x | x | i | i
  · rfl
  · exact absurd (congrArg (fun y => y.toBitVec.toNat) h) (by show (eK 1 x).toBitVec.toNat ≠ 0; rw [eK_nat 1 (by decide)]; omega)
  · exact absurd (congrArg (fun y => y.toBitVec.toNat) h) (by show (eK 2 x).toBitVec.toNat ≠ 0; rw [eK_nat 2 (by decide)]; omega)
  · exact absurd (congrArg (fun y => y.toBitVec.toNat) h) (by show (eK 3 (nI i)).toBitVec.toNat ≠ 0; rw [eK_nat 3 (by decide)]; omega)
  · exact absurd (congrArg (fun y => y.toBitVec.toNat) h) (by show (eK 4 (nI i)).toBitVec.toNat ≠ 0; rw [eK_nat 4 (by decide)]; omega)
section P2d
variable {m b0 b1 c0 s0 : Nat} {tl : List mj_O} {Q : mj_R → Prop} {xs : List Int32}
variable {o0 o1 o2 o3 o4 o5 o6 o7 o8 o9 o10 o11 o12 o13 o14 o15 o16 : mj_O} {z : Nat} {H T : Nat → Vl} {fr mk rc : Nat → Int32} {fN rN cN : Int32} {k : Int32} {r : Nat → Int64} {f : Nat → Nat} {l : List Nat}
set_option maxRecDepth 10000
theorem d_cost {n w b b' : Nat} (hw : 1 ≤ w) (h1 : s0 ≤ b + pot n) (q : b ≤ b' + 2 * (n + w)) : s0 ≤ b' + pot (n + w) := by
  have := pot_step (n := n) (k := n + w) (by omega)
  omega
theorem d_room {n w b : Nat} (hw : 1 ≤ w) (hn : n + w ≤ 140) (hs : 20000 ≤ s0) (h1 : s0 ≤ b + pot n) : 2 * (n + w) ≤ b := by
  have h2 := pot_step (n := n) (k := n + w) (by omega)
  have h3 := pot_le hn
  omega
theorem v_isPairX {cst : Nat → Option (Nat × (Nat → Int32))} {h : mj_H} {x : Int64} {v : Vl} (hx : x = encV v) (hQ : Q (.inl (some (.int (bJ (kV v == 3)))), h)) : mj_Mt gT cst gnw (m + 1) y_Value_isPair [.long x] h Q := by
  subst hx
  exact v_isPair hQ
theorem d_atom {x : Int64} {n : Nat} {v : Vl} (hx : x = encV v) (hn : n = l.length) (hv : okV z v) (hl : l.length ≤ 128) (hc : 200 ≤ c0) (hs : 20000 ≤ s0) (h0 : c0 ≤ b0 + l.length) (h1 : s0 ≤ b1 + pot l.length) (hf : agr l f) (hQ : ∀ f' b0' b1', agr (l ++ shA v) f' → c0 ≤ b0' + (l ++ shA v).length → s0 ≤ b1' + pot (l ++ shA v).length → Q (.inl none, (dW o0 o1 o2 o3 o4 o5 o6 o7 o8 o9 o10 o11 o12 o13 o14 o15 o16 z (eH H) (eH T) fr mk rc fN rN cN k (l ++ shA v).length f' r tl, b0', b1', false))) :
    mj_Mt gT (law_cst xs) gnw (m + 6) y_Display_showAtom [.ref 23, .long x] (dW o0 o1 o2 o3 o4 o5 o6 o7 o8 o9 o10 o11 o12 o13 o14 o15 o16 z (eH H) (eH T) fr mk rc fN rN cN k n f r tl, b0, b1, false) Q := by
  subst hx
  subst hn
  have hsl := shA_len v
  have hp := pot_le (n := l.length) (by omega)
  have hps := pot_step (n := l.length) (k := (l ++ shA v).length) (by rw [List.length_append]; omega)
  have hpl := pot_le (n := (l ++ shA v).length) (by rw [List.length_append]; omega)
  obtain ⟨bc, rfl⟩ : ∃ bc, b0 = bc + 1 := ⟨b0 - 1, by omega⟩
  have fin : ∀ (w : Nat) (t : Nat → Nat) (b0' b1' : Nat), w = (shA v).length → (∀ i, i < (shA v).length → t i = (shA v).getD i 0) → bc ≤ b0' → b1 ≤ b1' + 2 * (l.length + w) → Q (.inl none, (dW o0 o1 o2 o3 o4 o5 o6 o7 o8 o9 o10 o11 o12 o13 o14 o15 o16 z (eH H) (eH T) fr mk rc fN rN cN k (l.length + w) (sb_cat f l.length t) r tl, b0', b1', false)) := by
    rintro w t b0' b1' rfl ht q0 q1
    have := hQ (sb_cat f l.length t) b0' b1' (agr_cat hf ht) (by rw [List.length_append]; omega) (by rw [List.length_append] at *; omega)
    rw [List.length_append] at this
    exact this
  have hlen : (l ++ shA v).length = l.length + (shA v).length := List.length_append
  rw [hlen] at hps hpl
  intro J hJ
  refine hJ _ _ _ _ ?_
  refine v_isNumber ?_
  rcases v with u | x | x | i | i
  · refine And.intro (fun _ => ?_) (fun h => absurd rfl h)
    refine v_isSymbol ?_
    refine And.intro (fun _ => ?_) (fun h => absurd rfl h)
    refine v_isFunction ?_
    refine And.intro (fun _ => ?_) (fun h => absurd rfl h)
    refine x_appendS2011 (by omega) (d_room (w := 2) (by decide) (by omega) hs h1) (fun b0' b1' q0 q1 => ?_)
    exact fin 2 stx2011 b0' b1' rfl (show ∀ i, i < 2 → stx2011 i = ([40, 41] : List Nat).getD i 0 by decide) q0 q1
  · have hi := isz_in x
    have hw : (shA (vInt x)).length = isz x := by simp [shA]
    refine And.intro (fun h => absurd (show (1 : Int32) = 0 from h) (by decide)) (fun _ => ?_)
    refine v_content ?_
    rw [show (encV (vInt x)).toInt32 = x from eK_int 1 (by decide) x]
    refine x_appendI (by omega) (d_room (w := isz x) hi.1 (by omega) hs h1) (fun b0' b1' q0 q1 => ?_)
    exact fin (isz x) (ich x) b0' b1' hw.symm (agr_ints x) q0 q1
  · obtain ⟨c, hc9, rfl⟩ := hv
    refine And.intro (fun _ => ?_) (fun h => absurd rfl h)
    refine v_isSymbol ?_
    refine And.intro (fun h => absurd (show (1 : Int32) = 0 from h) (by decide)) (fun _ => ?_)
    refine v_content ?_
    rw [show (encV (vSym (nI c))).toInt32 = nI c from eK_int 2 (by decide) (nI c)]
    refine x_appendC (sb_byte c hc9).2.1 hc9 (by omega) (d_room (Nat.le_refl 1) (by omega) hs h1) (fun b0' b1' q0 q1 => ?_)
    exact fin 1 (fun _ => c) b0' b1' rfl (fun i hi => by
      obtain rfl : i = 0 := by simp [shA] at hi; omega
      show c = (nI c).toNatClampNeg
      rw [nI_clamp (by omega)]) q0 q1
  · refine And.intro (fun _ => ?_) (fun h => absurd rfl h)
    refine v_isSymbol ?_
    refine And.intro (fun _ => ?_) (fun h => absurd rfl h)
    refine v_isFunction ?_
    refine And.intro (fun _ => ?_) (fun h => absurd rfl h)
    refine x_appendS2011 (by omega) (d_room (w := 2) (by decide) (by omega) hs h1) (fun b0' b1' q0 q1 => ?_)
    exact fin 2 stx2011 b0' b1' rfl (show ∀ i, i < 2 → stx2011 i = ([40, 41] : List Nat).getD i 0 by decide) q0 q1
  · refine And.intro (fun _ => ?_) (fun h => absurd rfl h)
    refine v_isSymbol ?_
    refine And.intro (fun _ => ?_) (fun h => absurd rfl h)
    refine v_isFunction ?_
    refine And.intro (fun h => absurd (show (1 : Int32) = 0 from h) (by decide)) (fun _ => ?_)
    refine x_appendC (c := 35) rfl (by decide) (by omega) (d_room (Nat.le_refl 1) (by omega) hs h1) (fun b0' b1' q0 q1 => ?_)
    exact fin 1 (fun _ => 35) b0' b1' rfl (fun i hi => by
      obtain rfl : i = 0 := by simp [shA] at hi; omega
      rfl) q0 q1
theorem endL_le (r : Nat → Vl) : ∀ (k : Nat) (l : List Nat), (endL r k l).2 ≤ k ∧ l.length ≤ (endL r k l).1.length
  | 0, l => ⟨Nat.le_refl _, Nat.le_refl _⟩
  | k + 1, l => by
    unfold endL
    split
    · exact ⟨Nat.le_refl _, Nat.le_refl _⟩
    · obtain ⟨h1, h2⟩ := endL_le r k ((l ++ dotA (r k)) ++ [41])
      simp only [List.length_append] at h2
      omega
theorem dotA_len (v : Vl) : (dotA v).length ≤ 14 := by
  have := shA_len v
  rcases v with u | x | x | i | i <;> simp [dotA] <;> omega
theorem endL_len (r : Nat → Vl) : ∀ (k : Nat) (l : List Nat), l.length ≤ 134 → (endL r k l).1.length ≤ 134
  | 0, l, h => h
  | k + 1, l, h => by
    unfold endL
    split
    · exact h
    · next h9 =>
      refine endL_len r k _ ?_
      have := dotA_len (r k)
      simp only [List.length_append, List.length_cons, List.length_nil]
      omega
theorem d_endLoop {R : Nat → Vl} {J : Nat → mj_L → List Value → mj_H → Prop} (hJ : ∀ pc ls st h, mj_sg (mj_Mt gT (law_cst xs) gnw (m + 6)) (law_cst xs) gnw (mj_hd (mj_off kO_Display_endLists) kH_Display_endLists) kC_Display_endLists J Q 400 true pc ls st h → J pc ls st h) (hr : ∀ k, k < 120 → okV z (R k)) (hc : 200 ≤ c0) (hs : 20000 ≤ s0) :
    ∀ (k : Nat) (l : List Nat) (n : Nat) (f : Nat → Nat) (b0 b1 : Nat), n = l.length → k ≤ 120 → l.length ≤ 134 → c0 ≤ b0 + l.length → s0 ≤ b1 + pot l.length → agr l f → (∀ f' b0' b1', agr ((endL R k l).1) f' → c0 ≤ b0' + ((endL R k l).1).length → s0 ≤ b1' + pot ((endL R k l).1).length → Q (.inl none, (dW o0 o1 o2 o3 o4 o5 o6 o7 o8 o9 o10 o11 o12 o13 o14 o15 o16 z (eH H) (eH T) fr mk rc fN rN cN (nI (endL R k l).2) ((endL R k l).1).length f' (eH R) tl, b0', b1', false))) →
    J 0 [some (.ref 23)] [] (dW o0 o1 o2 o3 o4 o5 o6 o7 o8 o9 o10 o11 o12 o13 o14 o15 o16 z (eH H) (eH T) fr mk rc fN rN cN (nI k) n f (eH R) tl, b0, b1, false) := by
  intro k
  induction k with
  | zero =>
    intro l n f b0 b1 hn hk hl h0 h1 hf hQ
    subst hn
    refine hJ _ _ _ _ ?_
    refine And.intro (fun _ => ?_) (fun h => absurd (by decide) h)
    exact hQ f b0 b1 hf h0 h1
  | succ k ih =>
    intro l n f b0 b1 hn hk hl h0 h1 hf hQ
    subst hn
    have ek : nI (k + 1) - Int32.ofInt 1 = nI k := nI_pred k
    have ec : (nI k).toNatClampNeg = k := nI_clamp (by omega)
    obtain ⟨bc, rfl⟩ : ∃ bc, b0 = bc + 1 := ⟨b0 - 1, by omega⟩
    refine hJ _ _ _ _ ?_
    refine And.intro (fun h => absurd h (nI_nle (n := k + 1) (by omega) (by omega))) (fun _ => ?_)
    refine And.intro (show vp_in (nI (k + 1) - Int32.ofInt 1) 120 by rw [ek]; exact vp_in_nI (by omega) (by decide)) ?_
    refine v_isPairX (v := R k) (by rw [ek, ec]) ?_
    by_cases h3 : kV (R k) = 3
    · have e3 : (kV (R k) == 3) = true := by simpa using h3
      rw [e3]
      refine And.intro (fun _ => ?_) (fun h => absurd h (by decide))
      have e : endL R (k + 1) l = (l, k + 1) := by unfold endL; rw [if_pos (Or.inl h3)]
      rw [e] at hQ
      exact hQ f _ b1 hf h0 h1
    · have e3 : (kV (R k) == 3) = false := by simpa using h3
      rw [e3]
      refine And.intro (fun h => absurd rfl h) (fun _ => ?_)
      refine x_length ?_
      refine And.intro (fun h => ?_) (fun h => ?_)
      · have h9 : 120 ≤ l.length := (nI_leI (a := 120) (b := l.length) (by decide) (by omega)).mp h
        have e : endL R (k + 1) l = (l, k + 1) := by unfold endL; rw [if_pos (Or.inr h9)]
        rw [e] at hQ
        exact hQ f _ b1 hf h0 h1
      · have h9 : l.length < 120 := Nat.lt_of_not_le (fun q => h ((nI_leI (a := 120) (b := l.length) (by decide) (by omega)).mpr q))
        have e : endL R (k + 1) l = endL R k ((l ++ dotA (R k)) ++ [41]) := by
          rw [endL, if_neg (by omega)]
        rw [e] at hQ
        have hdl := dotA_len (R k)
        have close : ∀ (F : Nat) (o : Int32) (l1 : List Nat) (n1 : Nat) (f1 : Nat → Nat) (d0 d1 : Nat), o = nI k → l1 = l ++ dotA (R k) → n1 = l1.length → agr l1 f1 → c0 ≤ d0 + l1.length → s0 ≤ d1 + pot l1.length → mj_sg (mj_Mt gT (law_cst xs) gnw (m + 6)) (law_cst xs) gnw (mj_hd (mj_off kO_Display_endLists) kH_Display_endLists) kC_Display_endLists J Q (F + 20) false 43 [some (.ref 23)] [] (dW o0 o1 o2 o3 o4 o5 o6 o7 o8 o9 o10 o11 o12 o13 o14 o15 o16 z (eH H) (eH T) fr mk rc fN rN cN o n1 f1 (eH R) tl, d0, d1, false) := by
          rintro F o l1 n1 f1 d0 d1 rfl rfl rfl hf1 g0 g1
          have hll : (l ++ dotA (R k)).length ≤ 133 := by rw [List.length_append]; omega
          obtain ⟨bd, rfl⟩ : ∃ bd, d0 = bd + 1 := ⟨d0 - 1, by omega⟩
          refine x_appendC (c := 41) rfl (by decide) (by omega) (d_room (Nat.le_refl 1) (by omega) hs g1) (fun b0' b1' q0 q1 => ?_)
          refine ih ((l ++ dotA (R k)) ++ [41]) _ _ _ _ (List.length_append (bs := [41])).symm (by omega) (by rw [List.length_append]; simp only [List.length_cons, List.length_nil]; omega) (by rw [List.length_append]; simp only [List.length_cons, List.length_nil]; omega) (by rw [List.length_append (bs := [41])]; exact d_cost (Nat.le_refl 1) g1 q1) (agr_cat hf1 (fun i hi => ?_)) hQ
          obtain rfl : i = 0 := by simp at hi; omega
          rfl
        have vin : vp_in (nI (k + 1) - Int32.ofInt 1) 120 := by rw [ek]; exact vp_in_nI (by omega) (by decide)
        refine And.intro vin ?_
        have hx : ∀ j, j = k → lg_cmp (eH R j) (Int64.ofNat 0) = 0 → R k = vNil := by
          rintro j rfl h
          exact encV_0 (lg_eq.mp h)
        refine And.intro (fun h => ?_) (fun h => ?_)
        · have h8 : R k = vNil := hx _ (by rw [ek]; exact ec) h
          exact close _ _ l _ _ _ _ ek (by rw [h8]; exact (List.append_nil l).symm) rfl hf (by omega) h1
        · have h8 : dotA (R k) = [32, 46, 32] ++ shA (R k) := by
            have h7 : ¬ R k = vNil := fun q => h (lg_eq.mpr (by rw [ek, ec]; show encV (R k) = _; rw [q]; rfl))
            generalize R k = w at h7
            rcases w with u | x | x | i | i
            · exact absurd rfl h7
            all_goals rfl
          refine x_appendS2010 (by omega) (d_room (w := 3) (by decide) (by omega) hs h1) (fun b0' b1' q0 q1 => ?_)
          refine And.intro vin ?_
          refine d_atom (l := l ++ [32, 46, 32]) (v := R k) (by rw [ek, ec]) (by rw [List.length_append]; rfl) (hr k (by omega)) (by rw [List.length_append]; simp only [List.length_cons, List.length_nil]; omega) hc hs (by rw [List.length_append]; simp only [List.length_cons, List.length_nil]; omega) (by rw [List.length_append (bs := [32, 46, 32])]; exact d_cost (w := 3) (by decide) h1 q1) (agr_cat hf (show ∀ i, i < 3 → stx2010 i = ([32, 46, 32] : List Nat).getD i 0 by decide)) (fun f2 e0 e1 a1 a2 a3 => ?_)
          refine close _ _ (l ++ dotA (R k)) _ _ _ _ ek rfl ?_ ?_ ?_ ?_
          · rw [h8, List.append_assoc]
          · rw [h8, ← List.append_assoc]; exact a1
          · rw [h8, ← List.append_assoc]; exact a2
          · rw [h8, ← List.append_assoc]; exact a3
theorem d_end {R : Nat → Vl} {n k : Nat} (hn : n = l.length) (hr : ∀ k, k < 120 → okV z (R k)) (hk : k ≤ 120) (hl : l.length ≤ 134) (hc : 200 ≤ c0) (hs : 20000 ≤ s0) (h0 : c0 ≤ b0 + l.length) (h1 : s0 ≤ b1 + pot l.length) (hf : agr l f) (hQ : ∀ f' b0' b1', agr ((endL R k l).1) f' → c0 ≤ b0' + ((endL R k l).1).length → s0 ≤ b1' + pot ((endL R k l).1).length → Q (.inl none, (dW o0 o1 o2 o3 o4 o5 o6 o7 o8 o9 o10 o11 o12 o13 o14 o15 o16 z (eH H) (eH T) fr mk rc fN rN cN (nI (endL R k l).2) ((endL R k l).1).length f' (eH R) tl, b0', b1', false))) :
    mj_Mt gT (law_cst xs) gnw (m + 7) y_Display_endLists [.ref 23] (dW o0 o1 o2 o3 o4 o5 o6 o7 o8 o9 o10 o11 o12 o13 o14 o15 o16 z (eH H) (eH T) fr mk rc fN rN cN (nI k) n f (eH R) tl, b0, b1, false) Q := by
  intro J hJ
  exact d_endLoop hJ hr hc hs k l n f b0 b1 hn hk hl h0 h1 hf hQ
theorem s_headX {cst : Nat → Option (Nat × (Nat → Int32))} {op : Bool} {x : Int64} {v : Vl} {tR : Nat → Int64} (hx : x = encV v) (hz : z ≤ 250) (hv : okV z v) (hQ : Q (.inl (some (.long (encV (ofV H v)))), (sW o0 o1 o2 o3 o4 o5 o6 o7 o8 o9 o10 o11 o12 o13 o14 o15 o16 z (eH H) tR fr mk rc fN rN cN tl, b0, b1, op))) : mj_Mt gT cst gnw (m + 2) y_Store_head [.ref 17, .long x] (sW o0 o1 o2 o3 o4 o5 o6 o7 o8 o9 o10 o11 o12 o13 o14 o15 o16 z (eH H) tR fr mk rc fN rN cN tl, b0, b1, op) Q := by
  subst hx
  exact s_head hz hv hQ
theorem s_tailX {cst : Nat → Option (Nat × (Nat → Int32))} {op : Bool} {x : Int64} {v : Vl} {hR : Nat → Int64} (hx : x = encV v) (hz : z ≤ 250) (hv : okV z v) (hQ : Q (.inl (some (.long (encV (ofV T v)))), (sW o0 o1 o2 o3 o4 o5 o6 o7 o8 o9 o10 o11 o12 o13 o14 o15 o16 z hR (eH T) fr mk rc fN rN cN tl, b0, b1, op))) : mj_Mt gT cst gnw (m + 2) y_Store_tail [.ref 17, .long x] (sW o0 o1 o2 o3 o4 o5 o6 o7 o8 o9 o10 o11 o12 o13 o14 o15 o16 z hR (eH T) fr mk rc fN rN cN tl, b0, b1, op) Q := by
  subst hx
  exact s_tail hz hv hQ
theorem okV_of2 {z : Nat} {g : Nat → Vl} {v : Vl} (hg : ∀ i, i < z → okV z (g i)) (hv : okV z v) : okV z (ofV g v) := by
  rcases v with u | x | x | i | i
  · exact trivial
  · exact trivial
  · exact trivial
  · exact hg i hv
  · exact hg i hv
theorem d_showLoop {r0 : Int64} {J : Nat → mj_L → List Value → mj_H → Prop} (hJ : ∀ pc ls st h, mj_sg (mj_Mt gT (law_cst xs) gnw (m + 7)) (law_cst xs) gnw (mj_hd (mj_off kO_Display_show) kH_Display_show) kC_Display_show J Q 400 true pc ls st h → J pc ls st h) (hz : z ≤ 250) (hH : ∀ i, i < z → okV z (H i)) (hT : ∀ i, i < z → okV z (T i)) (hc : 200 ≤ c0) (hs : 20000 ≤ s0) :
    ∀ (u t : Nat) (l : List Nat) (n : Nat) (f : Nat → Nat) (R : Nat → Vl) (k : Nat) (v : Vl) (b0 b1 : Nat), u + t = 120 → n = l.length → k ≤ l.length → l.length ≤ 135 → okV z v → (∀ k, k < 120 → okV z (R k)) → c0 ≤ b0 + l.length → s0 ≤ b1 + pot l.length → agr l f → (∀ f' b0' b1', agr ((shw H T u l R k v).1) f' → c0 ≤ b0' + ((shw H T u l R k v).1).length → s0 ≤ b1' + pot ((shw H T u l R k v).1).length → Q (.inl none, (dW o0 o1 o2 o3 o4 o5 o6 o7 o8 o9 o10 o11 o12 o13 o14 o15 o16 z (eH H) (eH T) fr mk rc fN rN cN (nI (shw H T u l R k v).2.2) ((shw H T u l R k v).1).length f' (eH (shw H T u l R k v).2.1) tl, b0', b1', false))) →
    J 11 [some (.ref 23), some (.long r0), none, some (.long (encV v)), none, some (.int (nI t))] [] (dW o0 o1 o2 o3 o4 o5 o6 o7 o8 o9 o10 o11 o12 o13 o14 o15 o16 z (eH H) (eH T) fr mk rc fN rN cN (nI k) n f (eH R) tl, b0, b1, false) := by
  intro u
  induction u with
  | zero =>
    intro t l n f R k v b0 b1 hu hn hk hl hv hr h0 h1 hf hQ
    subst hn
    obtain rfl : t = 120 := by omega
    refine hJ _ _ _ _ ?_
    refine And.intro (fun _ => ?_) (fun h => absurd (by decide) h)
    exact hQ f b0 b1 hf h0 h1
  | succ u ih =>
    intro t l n f R k v b0 b1 hu hn hk hl hv hr h0 h1 hf hQ
    subst hn
    obtain ⟨bc, rfl⟩ : ∃ bc, b0 = bc + 1 := ⟨b0 - 1, by omega⟩
    refine hJ _ _ _ _ ?_
    refine And.intro (fun h => absurd h (nI_ge (a := t) (b := 120) (by omega) (by decide))) (fun _ => ?_)
    refine x_length ?_
    refine And.intro (fun h => ?_) (fun h => ?_)
    · have h9 : 120 ≤ l.length := (nI_leI (a := 120) (b := l.length) (by decide) (by omega)).mp h
      have e : shw H T (u + 1) l R k v = (l, R, k) := by rw [shw, if_pos h9]
      rw [e] at hQ
      exact hQ f _ b1 hf h0 h1
    · have h9 : l.length < 120 := Nat.lt_of_not_le (fun q => h ((nI_leI (a := 120) (b := l.length) (by decide) (by omega)).mpr q))
      have ec : (nI k).toNatClampNeg = k := nI_clamp (by omega)
      refine v_isPair ?_
      by_cases h3 : kV v = 3
      · have e3 : (kV v == 3) = true := by simpa using h3
        have e : shw H T (u + 1) l R k v = shw H T u (l ++ [40]) (upW R k (ofV T v)) (k + 1) (ofV H v) := by rw [shw, if_neg (by omega), if_pos h3]
        rw [e] at hQ
        rw [e3]
        refine And.intro (fun h => absurd h (by decide)) (fun _ => ?_)
        refine And.intro (fun h => absurd h (nI_ge (a := k) (b := 120) (by omega) (by decide))) (fun _ => ?_)
        refine x_appendC (c := 40) rfl (by decide) (by omega) (d_room (Nat.le_refl 1) (by omega) hs h1) (fun b0' b1' q0 q1 => ?_)
        refine s_tailX rfl hz hv ?_
        refine And.intro (vp_in_nI (by omega) (by decide)) ?_
        refine s_headX rfl hz hv ?_
        have key : ∀ (i : Nat) (o t' : Int32), i = k → o = nI (k + 1) → t' = nI (t + 1) → J 11 [some (.ref 23), some (.long r0), none, some (.long (encV (ofV H v))), none, some (.int t')] [] (dW o0 o1 o2 o3 o4 o5 o6 o7 o8 o9 o10 o11 o12 o13 o14 o15 o16 z (eH H) (eH T) fr mk rc fN rN cN o (l.length + 1) (sb_cat f l.length (fun _ => 40)) (vp_updL (eH R) i (encV (ofV T v))) tl, b0', b1', false) := by
          rintro i o t' rfl rfl rfl
          rw [updL_enc]
          refine ih (t + 1) (l ++ [40]) _ _ _ _ _ _ _ (by omega) (List.length_append (bs := [40])).symm (by rw [List.length_append]; simp only [List.length_cons, List.length_nil]; omega) (by rw [List.length_append]; simp only [List.length_cons, List.length_nil]; omega) (okV_of2 hH hv) (fun j hj => ?_) (by rw [List.length_append]; simp only [List.length_cons, List.length_nil]; omega) (by rw [List.length_append (bs := [40])]; exact d_cost (Nat.le_refl 1) h1 q1) (agr_cat hf (fun i hi => ?_)) hQ
          · unfold upW
            split
            · exact okV_of2 hT hv
            · exact hr j hj
          · obtain rfl : i = 0 := by simp at hi; omega
            rfl
        exact key _ _ _ ec (nI_1 k) (nI_1 t)
      · have e3 : (kV v == 3) = false := by simpa using h3
        rw [e3]
        refine And.intro (fun _ => ?_) (fun h => absurd rfl h)
        have hsl := shA_len v
        have hll : (l ++ shA v).length ≤ 130 := by rw [List.length_append]; omega
        obtain ⟨hel, hel2⟩ := endL_le R k (l ++ shA v)
        have hel3 := endL_len R k (l ++ shA v) (by omega)
        refine d_atom rfl rfl hv (by omega) hc hs (by omega) h1 hf (fun f2 e0 e1 a1 a2 a3 => ?_)
        refine d_end rfl hr (by omega) (by omega) hc hs a2 a3 a1 (fun f3 g0 g1 c1 c2 c3 => ?_)
        have e : shw H T (u + 1) l R k v = if (endL R k (l ++ shA v)).2 = 0 then ((endL R k (l ++ shA v)).1, R, 0) else shw H T u ((endL R k (l ++ shA v)).1 ++ [32]) (upW R ((endL R k (l ++ shA v)).2 - 1) (ofV T (R ((endL R k (l ++ shA v)).2 - 1)))) (endL R k (l ++ shA v)).2 (ofV H (R ((endL R k (l ++ shA v)).2 - 1))) := by rw [shw, if_neg (by omega), if_neg h3]
        rw [e] at hQ
        generalize hE : endL R k (l ++ shA v) = E at *
        obtain ⟨L, q⟩ := E
        by_cases hq : q = 0
        · subst hq
          rw [if_pos rfl] at hQ
          refine And.intro (fun h => absurd rfl h) (fun _ => ?_)
          exact hQ f3 g0 g1 c1 c2 c3
        · obtain ⟨j, rfl⟩ : ∃ j, q = j + 1 := ⟨q - 1, by omega⟩
          rw [if_neg hq] at hQ
          have hel : j + 1 ≤ k := hel
          have hel3 : L.length ≤ 134 := hel3
          have hel2 : (l ++ shA v).length ≤ L.length := hel2
          have hlk : l.length ≤ L.length := by rw [List.length_append] at hel2; omega
          have ek : nI (j + 1) - Int32.ofInt 1 = nI j := nI_pred j
          have ecj : (nI j).toNatClampNeg = j := nI_clamp (by omega)
          have vin : vp_in (nI (j + 1) - Int32.ofInt 1) 120 := by rw [ek]; exact vp_in_nI (by omega) (by decide)
          have c2 : c0 ≤ g0 + L.length := c2
          have c3 : s0 ≤ g1 + pot L.length := c3
          obtain ⟨bd, rfl⟩ : ∃ bd, g0 = bd + 1 := ⟨g0 - 1, by omega⟩
          refine And.intro (fun _ => ?_) (fun h => absurd h (nI_ne0 (n := j + 1) (by omega) (by omega)))
          refine x_appendC (c := 32) rfl (by decide) (by omega) (d_room (Nat.le_refl 1) (by omega) hs c3) (fun b0' b1' q0 q1 => ?_)
          refine And.intro vin ?_
          refine s_headX (v := R j) (by rw [ek, ecj]) hz (hr j (by omega)) ?_
          refine And.intro vin ?_
          refine s_tailX (v := R j) (by rw [ek, ecj]) hz (hr j (by omega)) ?_
          refine And.intro vin ?_
          have key : ∀ (i : Nat) (t' : Int32), i = j → t' = nI (t + 1) → J 11 [some (.ref 23), some (.long r0), none, some (.long (encV (ofV H (R j)))), none, some (.int t')] [] (dW o0 o1 o2 o3 o4 o5 o6 o7 o8 o9 o10 o11 o12 o13 o14 o15 o16 z (eH H) (eH T) fr mk rc fN rN cN (nI (j + 1)) (L.length + 1) (sb_cat f3 L.length (fun _ => 32)) (vp_updL (eH R) i (encV (ofV T (R j)))) tl, b0', b1', false) := by
            rintro i t' rfl rfl
            rw [updL_enc]
            refine ih (t + 1) (L ++ [32]) _ _ _ _ _ _ _ (by omega) (List.length_append (bs := [32])).symm (by rw [List.length_append]; simp only [List.length_cons, List.length_nil]; omega) (by rw [List.length_append]; simp only [List.length_cons, List.length_nil]; omega) (okV_of2 hH (hr i (by omega))) (fun j hj => ?_) (by rw [List.length_append]; simp only [List.length_cons, List.length_nil]; omega) (by rw [List.length_append (bs := [32])]; exact d_cost (Nat.le_refl 1) c3 q1) (agr_cat c1 (fun i hi => ?_)) hQ
            · unfold upW
              split
              · exact okV_of2 hT (hr i (by omega))
              · exact hr j hj
            · obtain rfl : i = 0 := by simp at hi; omega
              rfl
          exact key _ _ (by rw [ek]; exact ecj) (nI_1 t)
theorem d_show {v : Vl} {R : Nat → Vl} {n : Nat} {op : Bool} (hz : z ≤ 250) (hH : ∀ i, i < z → okV z (H i)) (hT : ∀ i, i < z → okV z (T i)) (hc : 200 ≤ b0) (hs : 20000 ≤ b1) (hv : okV z v) (hr : ∀ k, k < 120 → okV z (R k))
    (hQ : ∀ f' b0' b1', agr (shw H T 120 [] R 0 v).1 f' → b0 ≤ b0' + (shw H T 120 [] R 0 v).1.length → b1 ≤ b1' + pot (shw H T 120 [] R 0 v).1.length → Q (.inl none, (dW o0 o1 o2 o3 o4 o5 o6 o7 o8 o9 o10 o11 o12 o13 o14 o15 o16 z (eH H) (eH T) fr mk rc fN rN cN (nI (shw H T 120 [] R 0 v).2.2) (shw H T 120 [] R 0 v).1.length f' (eH (shw H T 120 [] R 0 v).2.1) tl, b0', b1', false))) :
    mj_Mt gT (law_cst xs) gnw (m + 8) y_Display_show [.ref 23, .long (encV v)] (dW o0 o1 o2 o3 o4 o5 o6 o7 o8 o9 o10 o11 o12 o13 o14 o15 o16 z (eH H) (eH T) fr mk rc fN rN cN k n f (eH R) tl, b0, b1, op) Q := by
  obtain ⟨bc, rfl⟩ : ∃ bc, b0 = bc + 1 := ⟨b0 - 1, by omega⟩
  intro J hJ
  refine hJ _ _ _ _ ?_
  refine x_setLength (fun f' => ?_)
  exact d_showLoop hJ hz hH hT hc hs 120 0 [] 0 f' R 0 v (bc + 1) b1 rfl rfl (Nat.zero_le _) (by decide) hv hr (Nat.le_refl _) (by show b1 ≤ b1 + pot 0; omega) (fun i hi => absurd hi (by simp)) hQ
theorem d_codeAt {op : Bool} {R : Nat → Int64} {x : Int32} (hl : l.length ≤ 140) (hf : agr l f) (hQ : ∀ op', Q (.inl (some (.int (if 0 ≤ x ∧ x < 120 ∧ x < nI l.length then nI (l.getD x.toNatClampNeg 0) else -1))), (dW o0 o1 o2 o3 o4 o5 o6 o7 o8 o9 o10 o11 o12 o13 o14 o15 o16 z (eH H) (eH T) fr mk rc fN rN cN k l.length f R tl, b0 + 1, b1, op'))) :
    mj_Mt gT (law_cst xs) gnw (m + 5) y_Display_codeAt [.ref 23, .int x] (dW o0 o1 o2 o3 o4 o5 o6 o7 o8 o9 o10 o11 o12 o13 o14 o15 o16 z (eH H) (eH T) fr mk rc fN rN cN k l.length f R tl, b0 + 1, b1, op) Q := by
  intro J hJ
  refine hJ _ _ _ _ ?_
  refine And.intro (fun h => ?_) (fun h => ?_)
  · rw [if_neg (fun q => absurd h (Int32.not_lt.mpr q.1))] at hQ
    exact hQ op
  · refine And.intro (fun h2 => ?_) (fun h2 => ?_)
    · rw [if_neg (fun q => absurd q.2.1 (Int32.not_lt.mpr h2))] at hQ
      exact hQ op
    · refine x_length ?_
      refine And.intro (fun h3 => ?_) (fun h3 => ?_)
      · rw [if_neg (fun q => absurd q.2.2 (Int32.not_lt.mpr h3))] at hQ
        exact hQ false
      · have h3 : x < nI l.length := Int32.not_le.mp h3
        rw [if_pos ⟨Int32.not_lt.mp h, Int32.not_le.mp h2, h3⟩] at hQ
        obtain ⟨i, hi, rfl⟩ := nI_of h
        have hi2 : i < l.length := (nI_ltI hi (by omega)).mp h3
        rw [nI_clamp hi] at hQ
        refine x_charAt hi2 ?_
        rw [hf i hi2]
        exact hQ false
end P2d
end
section
abbrev fW (o0 o1 o2 o3 o4 o5 o6 o7 o8 o9 o10 o11 o12 o13 o14 o15 : mj_O) (S E C D : Vl) (mode colls taken steps : Int32) (z : Nat) (H T : Nat → Vl) (fr : Nat → Nat) (g : gS) (f c : Nat) (k : Int32) (n : Nat) (fb : Nat → Nat) (R : Nat → Vl) (tl : List mj_O) : List mj_O :=
  mW o0 o1 o2 o3 o4 o5 o6 o7 o8 o9 o10 o11 o12 o13 o14 o15 (encV S) (encV E) (encV C) (encV D) mode colls taken steps z (eH H) (eH T) (eN fr) (eB g.1) (eN g.2.1) (nI f) (nI g.2.2) (nI c) (oF 8 [.ref 17, .ref 24, .ref 26, .int k] :: .inr (.inr (.inl (n, fb))) :: .inr (.inr (.inr ())) :: oJ 120 (eH R) :: tl)
def mOK (z : Nat) (S E C D : Vl) (H T : Nat → Vl) : Prop := okA z H ∧ okA z T ∧ okV z S ∧ okV z E ∧ okV z C ∧ okV z D
def dOK (z n : Nat) (fb : Nat → Nat) (R : Nat → Vl) : Prop := (∃ l : List Nat, l.length = n ∧ n ≤ 135 ∧ agr l fb) ∧ ∀ k, k < 120 → okV z (R k)
theorem fuN_fr {z : Nat} (mk : Nat → Bool) : ∀ (j c : Nat) (p : (Nat → Nat) × Nat), c + j ≤ z → (∀ i, i < z → p.1 i < z) → ∀ i, i < z → (fuN mk j c p).1 i < z
  | 0, c, p, _, h => h
  | j + 1, c, p, hc, h => by
    unfold fuN
    split
    · exact fuN_fr mk j (c + 1) p (by omega) h
    · refine fuN_fr mk j (c + 1) _ (by omega) (fun i hi => ?_)
      show upW p.1 p.2 c i < z
      unfold upW
      split
      · omega
      · exact h i hi
theorem shw_ok {z : Nat} {H T : Nat → Vl} (hH : ∀ i, i < z → okV z (H i)) (hT : ∀ i, i < z → okV z (T i)) : ∀ (t : Nat) (l : List Nat) (R : Nat → Vl) (k : Nat) (v : Vl), k ≤ l.length → l.length ≤ 135 → okV z v → (∀ k, k < 120 → okV z (R k)) → (shw H T t l R k v).1.length ≤ 135 ∧ ∀ k', k' < 120 → okV z ((shw H T t l R k v).2.1 k')
  | 0, l, R, k, v, _, hl, _, hR => ⟨hl, hR⟩
  | t + 1, l, R, k, v, hk, hl, hv, hR => by
    unfold shw
    split
    · exact ⟨hl, hR⟩
    · next h1 =>
      split
      · refine shw_ok hH hT t _ _ _ _ (by rw [List.length_append]; simp only [List.length_cons, List.length_nil]; omega) (by rw [List.length_append]; simp only [List.length_cons, List.length_nil]; omega) (okV_of2 hH hv) (fun j hj => ?_)
        unfold upW
        split
        · exact okV_of2 hT hv
        · exact hR j hj
      · have hsl := shA_len v
        have hll : (l ++ shA v).length ≤ 130 := by rw [List.length_append]; omega
        obtain ⟨hel, hel2⟩ := endL_le R k (l ++ shA v)
        have hel3 := endL_len R k (l ++ shA v) (by omega)
        rw [List.length_append] at hel2
        split
        · exact ⟨by show (endL R k (l ++ shA v)).1.length ≤ 135; omega, hR⟩
        · next h2 =>
          refine shw_ok hH hT t _ _ _ _ (by rw [List.length_append]; simp only [List.length_cons, List.length_nil]; omega) (by rw [List.length_append]; simp only [List.length_cons, List.length_nil]; omega) (okV_of2 hH (hR _ (by omega))) (fun j hj => ?_)
          unfold upW
          split
          · exact okV_of2 hT (hR _ (by omega))
          · exact hR j hj
def need (i : Nat) : Nat := ([0, 1, 1, 2, 4, 1, 1, 3, 1, 0, 1, 1, 1, 2, 1, 1, 1, 1, 1, 0] : List Nat).getD i 0
def needX (x : Int32) : Nat := if 0 ≤ x ∧ x < 20 then need x.toNatClampNeg else 0
section P2e
variable {cst : Nat → Option (Nat × (Nat → Int32))} {m b0 b1 : Nat} {op : Bool} {tl : List mj_O} {Q : mj_R → Prop} {xs : List Int32}
variable {o0 o1 o2 o3 o4 o5 o6 o7 o8 o9 o10 o11 o12 o13 o14 o15 o16 : mj_O} {S E C D : Vl} {mode colls taken steps : Int32} {z : Nat} {H T : Nat → Vl} {fr : Nat → Nat} {g : gS} {f c : Nat} {k : Int32} {n : Nat} {fb : Nat → Nat} {R : Nat → Vl}
variable {hR tR : Nat → Int64} {frR mk rc : Nat → Int32} {fN rN cN : Int32}
set_option maxRecDepth 10000
theorem o_needs {h : mj_H} {x : Int32} (hQ : Q (.inl (some (.int (nI (needX x)))), h)) : mj_Mt gT (law_cst xs) gnw (m + 1) y_Op_needs [.int x] h Q := by
  intro J hJ
  refine hJ _ _ _ _ ?_
  refine And.intro (fun h1 => ?_) (fun h1 => ?_)
  · rw [show needX x = 0 from if_neg (fun q => absurd h1 (Int32.not_lt.mpr q.1))] at hQ
    exact hQ
  · refine And.intro (fun h2 => ?_) (fun h2 => ?_)
    · rw [show needX x = 0 from if_neg (fun q => absurd q.2 (Int32.not_lt.mpr h2))] at hQ
      exact hQ
    · have h2 : x < nI 20 := Int32.not_le.mp h2
      obtain ⟨i, hi, rfl⟩ := nI_of h1
      have hi2 : i < 20 := (nI_ltI hi (by decide)).mp h2
      refine And.intro (vp_in_nI hi2 (by decide)) ?_
      have e : needX (nI i) = need i := by
        unfold needX
        rw [if_pos ⟨Int32.not_lt.mp h1, h2⟩, nI_clamp hi]
      rw [e] at hQ
      have e2 : law_nd.getD i 0 = nI (need i) := (by decide : ∀ i, i < 20 → law_nd.getD i 0 = nI (need i)) i hi2
      have key : ∀ j, j = i → Q (.inl (some (.int (law_nd.getD j 0))), h) := by
        rintro j rfl
        rw [e2]
        exact hQ
      exact key _ (nI_clamp hi)
theorem s_freeCells (hQ : Q (.inl (some (.int fN)), (sW o0 o1 o2 o3 o4 o5 o6 o7 o8 o9 o10 o11 o12 o13 o14 o15 o16 z hR tR frR mk rc fN rN cN tl, b0, b1, op))) : mj_Mt gT cst gnw (m + 1) y_Store_freeCells [.ref 17] (sW o0 o1 o2 o3 o4 o5 o6 o7 o8 o9 o10 o11 o12 o13 o14 o15 o16 z hR tR frR mk rc fN rN cN tl, b0, b1, op) Q := by
  intro J hJ
  refine hJ _ _ _ _ ?_
  exact hQ
theorem k_beginW (hz : z ≤ 250) (hc : c ≤ z) (hfr : ∀ j, j < z → fr j < z) (h0 : c = 0 → Q (.inl (some (.int 0)), (fW o0 o1 o2 o3 o4 o5 o6 o7 o8 o9 o10 o11 o12 o13 o14 o15 S E C D mode colls taken steps z H T fr g f c k n fb R tl, b0, b1, op)))
    (h1 : 0 < c → Q (.inl (some (.int 1)), (fW o0 o1 o2 o3 o4 o5 o6 o7 o8 o9 o10 o11 o12 o13 o14 o15 vNil vNil (vPr 0) vNil 1 0 0 0 z H T (faN (z - c) c (fr, 0)).1 g (faN (z - c) c (fr, 0)).2 c k n fb R tl, b0, b1, op))) :
    mj_Mt gT cst gnw (m + 3) y_Machine_begin [.ref 16] (fW o0 o1 o2 o3 o4 o5 o6 o7 o8 o9 o10 o11 o12 o13 o14 o15 S E C D mode colls taken steps z H T fr g f c k n fb R tl, b0, b1, op) Q := by
  intro J hJ
  refine hJ _ _ _ _ ?_
  refine s_code (by omega) ?_
  by_cases e : c = 0
  · subst e
    refine And.intro (fun h => absurd (by decide) h) (fun _ => ?_)
    exact And.intro (Or.inl rfl) (h0 rfl)
  · rw [if_neg e]
    refine And.intro (fun _ => ?_) (fun h => absurd (lg_eq.mp h) (by decide))
    refine s_freeAllButCode hz hc ?_
    refine s_code (by omega) ?_
    rw [if_neg e]
    refine k_setRegisters ?_
    exact And.intro (Or.inr rfl) (h1 (by omega))
end P2e
end
section
abbrev tS : Type := Nat × (Nat → Int32) × (Nat → Int32) × (Nat → Int32) × (Nat → Option Nat) × (Nat → Option Nat) × (Nat → Option Nat)
abbrev tn (t : tS) : Nat := t.1
abbrev tK (t : tS) : Nat → Int32 := t.2.1
abbrev tV (t : tS) : Nat → Int32 := t.2.2.1
abbrev tP (t : tS) : Nat → Int32 := t.2.2.2.1
abbrev tF (t : tS) : Nat → Option Nat := t.2.2.2.2.1
abbrev tL (t : tS) : Nat → Option Nat := t.2.2.2.2.2.1
abbrev tN (t : tS) : Nat → Option Nat := t.2.2.2.2.2.2
def oV : Option Nat → Int32
  | none => -1
  | some k => nI k
abbrev eO (g : Nat → Option Nat) : Nat → Int32 := fun i => oV (g i)
theorem upd_eO (g : Nat → Option Nat) (k : Nat) (x : Option Nat) : upd (eO g) k (oV x) = eO (upW g k x) := by
  funext j
  show (if j = k then oV x else oV (g j)) = oV (if j = k then x else g j)
  split <;> rfl
theorem oV_ne {k : Nat} (h : k < 2 ^ 31) : ¬ oV (some k) = -1 := by
  intro e
  have := congrArg Int32.toInt e
  rw [show oV (some k) = nI k from rfl, nI_toInt h] at this
  have h2 : (-1 : Int32).toInt = -1 := by decide
  omega
def tAdd (t : tS) (k v p : Int32) : tS := (tn t + 1, upd (tK t) (tn t) k, upd (tV t) (tn t) v, upd (tP t) (tn t) p, upW (tF t) (tn t) none, upW (tL t) (tn t) none, upW (tN t) (tn t) none)
def tPart (t : tS) (nd pt : Nat) : tS := match tL t nd with
  | none => (tn t, tK t, tV t, tP t, upW (tF t) nd (some pt), upW (tL t) nd (some pt), tN t)
  | some l => (tn t, tK t, tV t, tP t, tF t, upW (tL t) nd (some pt), upW (tN t) l (some pt))
def tEn (t : tS) (g : Nat → Option Nat) : Option Nat → Option Nat
  | none => none
  | some i => if i < tn t then g i else none
def tEi (t : tS) (g : Nat → Int32) : Option Nat → Int32
  | none => -1
  | some i => if i < tn t then g i else -1
def tPt (t : tS) : Nat → Option Nat → Option Nat
  | 0, o => o
  | k + 1, o => tPt t k (tEn t (tN t) o)
def tCn (t : tS) : Nat → Option Nat → Nat
  | 0, _ => 0
  | _ + 1, none => 0
  | k + 1, some i => tCn t k (tEn t (tN t) (some i)) + 1
def tPl (t : tS) (c : Int32) : Nat → Option Nat → Option Nat
  | 0, _ => none
  | _ + 1, none => none
  | k + 1, some i => if i < tn t then (if tV t i = c then some 0 else (tPl t c k (tN t i)).map (· + 1)) else none
def tOK (t : tS) : Prop := tn t ≤ 96 ∧ (∀ i j, tF t i = some j → j < 96) ∧ ((∀ i j, tL t i = some j → j < 96) ∧ ∀ i, i < tn t → tK t i = 2 → ∃ c : Nat, c < 256 ∧ tV t i = nI c) ∧ ∀ i j, tN t i = some j → j < 96
theorem upW_lt {g : Nat → Option Nat} {k : Nat} {x : Option Nat} (h : ∀ i j, g i = some j → j < 96) (hx : ∀ j, x = some j → j < 96) : ∀ i j, upW g k x i = some j → j < 96 := by
  intro i j e
  unfold upW at e
  split at e
  · exact hx j e
  · exact h i j e
theorem tOK_add {t : tS} {k v p : Int32} (h : tOK t) (hn : tn t < 96) (hk : k = 2 → ∃ c : Nat, c < 256 ∧ v = nI c := by exact fun h => absurd h (by decide)) : tOK (tAdd t k v p) := by
  refine ⟨hn, upW_lt h.2.1 (fun _ e => by cases e), ⟨upW_lt h.2.2.1.1 (fun _ e => by cases e), fun i hi e => ?_⟩, upW_lt h.2.2.2 (fun _ e => by cases e)⟩
  have hi : i < tn t + 1 := hi
  have e : (if i = tn t then k else tK t i) = 2 := e
  show ∃ c : Nat, c < 256 ∧ (if i = tn t then v else tV t i) = nI c
  by_cases h1 : i = tn t
  · rw [if_pos h1] at e ⊢
    exact hk e
  · rw [if_neg h1] at e ⊢
    exact h.2.2.1.2 i (by omega) e
theorem tOK_part {t : tS} {nd pt : Nat} (h : tOK t) (hp : pt < 96) : tOK (tPart t nd pt) := by
  unfold tPart
  split
  · exact ⟨h.1, upW_lt h.2.1 (fun _ e => by cases e; exact hp), ⟨upW_lt h.2.2.1.1 (fun _ e => by cases e; exact hp), h.2.2.1.2⟩, h.2.2.2⟩
  · exact ⟨h.1, h.2.1, ⟨upW_lt h.2.2.1.1 (fun _ e => by cases e; exact hp), h.2.2.1.2⟩, upW_lt h.2.2.2 (fun _ e => by cases e; exact hp)⟩
theorem tn_part {t : tS} {nd pt : Nat} : tn (tPart t nd pt) = tn t := by
  unfold tPart
  split <;> rfl
def rdX (o0 : mj_O) (t : tS) (X : Nat → Int32) (len : Nat) (x : Int32) (tl : List mj_O) : List mj_O :=
  o0 :: oF 2 [.ref 2, .ref 3, .ref 4, .ref 5, .ref 6, .ref 7, .int (nI (tn t))] :: oI 96 (tK t) :: oI 96 (tV t) :: oI 96 (tP t) :: oI 96 (eO (tF t)) :: oI 96 (eO (tL t)) :: oI 96 (eO (tN t)) :: oF 1 [.ref 9, .int (nI len)] :: oC 96 X :: oF 3 [.ref 8, .ref 1, .int x] :: tl
abbrev rdW (o0 : mj_O) (t : tS) (X : Nat → Int32) (len a : Nat) (tl : List mj_O) : List mj_O := rdX o0 t X len (nI a) tl
def txOK (X : Nat → Int32) (len : Nat) (tx : Nat → Nat) : Prop := len ≤ 96 ∧ (∀ i, i < len → X i = nI (tx i) ∧ 32 ≤ tx i ∧ tx i ≤ 126) ∧ ∀ i, len ≤ i → tx i = 0
theorem txOK.lt {X : Nat → Int32} {len : Nat} {tx : Nat → Nat} (h : txOK X len tx) {a : Nat} (ha : ¬ tx a = 0) : a < len := Nat.lt_of_not_le (fun q => ha (h.2.2 a q))
theorem txOK.le {X : Nat → Int32} {len : Nat} {tx : Nat → Nat} (h : txOK X len tx) (a : Nat) : tx a ≤ 126 := by
  by_cases e : a < len
  · exact (h.2.1 a e).2.2
  · rw [h.2.2 a (by omega)]; omega
def cL (c : Nat) : Bool := decide (97 ≤ c ∧ c ≤ 122)
def cD (c : Nat) : Bool := decide (48 ≤ c ∧ c ≤ 57)
section P2f
variable {cst : Nat → Option (Nat × (Nat → Int32))} {m b0 b1 : Nat} {op : Bool} {tl : List mj_O} {Q : mj_R → Prop} {xs : List Int32}
variable {o0 : mj_O} {t : tS} {X : Nat → Int32} {len a : Nat} {tx : Nat → Nat}
set_option maxRecDepth 10000
theorem q_fail {os : List mj_O} (h6 : 6 ≤ b1) (hQ : Q (.inr 0, (os, b0, b1 - 6, false))) : mj_Mt gT cst gnw (m + 1) y_Reader_fail [] (os, b0 + 1, b1, op) Q := by
  intro J hJ
  refine hJ _ _ _ _ ?_
  exact And.intro h6 hQ
theorem q_isLetter {h : mj_H} {c : Nat} (hc : c ≤ 126) (hQ : Q (.inl (some (.int (bJ (cL c)))), h)) : mj_Mt gT cst gnw (m + 1) y_Reader_isLetter [.int (nI c)] h Q := by
  intro J hJ
  refine hJ _ _ _ _ ?_
  refine And.intro (fun (g : nI c < nI 97) => ?_) (fun (g : ¬ nI c < nI 97) => ?_)
  · have h1 := (nI_ltI (by omega) (by decide)).mp g
    rw [show cL c = false from decide_eq_false (by omega)] at hQ
    exact And.intro (Or.inl rfl) hQ
  · have h1 : 97 ≤ c := Nat.le_of_not_lt (fun q => g (nI_lt q (by decide)))
    refine And.intro (fun (g2 : nI 122 < nI c) => ?_) (fun (g2 : ¬ nI 122 < nI c) => ?_)
    · have h2 := (nI_ltI (by decide) (by omega)).mp g2
      rw [show cL c = false from decide_eq_false (by omega)] at hQ
      exact And.intro (Or.inl rfl) hQ
    · have h2 : c ≤ 122 := Nat.le_of_not_lt (fun q => g2 (nI_lt q (by omega)))
      rw [show cL c = true from decide_eq_true ⟨h1, h2⟩] at hQ
      exact And.intro (Or.inr rfl) hQ
theorem q_isDigit {h : mj_H} {c : Nat} (hc : c ≤ 126) (hQ : Q (.inl (some (.int (bJ (cD c)))), h)) : mj_Mt gT cst gnw (m + 1) y_Reader_isDigit [.int (nI c)] h Q := by
  intro J hJ
  refine hJ _ _ _ _ ?_
  refine And.intro (fun (g : nI c < nI 48) => ?_) (fun (g : ¬ nI c < nI 48) => ?_)
  · have h1 := (nI_ltI (by omega) (by decide)).mp g
    rw [show cD c = false from decide_eq_false (by omega)] at hQ
    exact And.intro (Or.inl rfl) hQ
  · have h1 : 48 ≤ c := Nat.le_of_not_lt (fun q => g (nI_lt q (by decide)))
    refine And.intro (fun (g2 : nI 57 < nI c) => ?_) (fun (g2 : ¬ nI 57 < nI c) => ?_)
    · have h2 := (nI_ltI (by decide) (by omega)).mp g2
      rw [show cD c = false from decide_eq_false (by omega)] at hQ
      exact And.intro (Or.inl rfl) hQ
    · have h2 : c ≤ 57 := Nat.le_of_not_lt (fun q => g2 (nI_lt q (by omega)))
      rw [show cD c = true from decide_eq_true ⟨h1, h2⟩] at hQ
      exact And.intro (Or.inr rfl) hQ
theorem x_codeAt {a9 : Nat} {y : Int32} (hy : y = nI a9) (hx : txOK X len tx) (ha : a9 < 1000) (hQ : Q (.inl (some (.int (nI (tx a9)))), (rdW o0 t X len a tl, b0, b1, op))) : mj_Mt gT cst gnw (m + 1) y_Text_codeAt [.ref 8, .int y] (rdW o0 t X len a tl, b0, b1, op) Q := by
  subst hy
  have hl := hx.1
  intro J hJ
  refine hJ _ _ _ _ ?_
  refine And.intro (fun g => absurd g (nI_pos (by omega))) (fun _ => ?_)
  refine And.intro (fun (g : nI len ≤ nI a9) => ?_) (fun (g : ¬ nI len ≤ nI a9) => ?_)
  · have h1 := (nI_leI (by omega) (by omega)).mp g
    rw [hx.2.2 a9 h1] at hQ
    exact hQ
  · have h1 : a9 < len := Nat.lt_of_not_le (fun q => g (nI_le q (by omega)))
    refine And.intro (vp_in_nI (by omega) (by decide)) ?_
    rw [← (hx.2.1 a9 h1).1] at hQ
    have key : ∀ j, j = a9 → Q (.inl (some (.int (X j))), (rdW o0 t X len a tl, b0, b1, op)) := by
      rintro j rfl
      exact hQ
    exact key _ (nI_clamp (by omega))
theorem t_add {k v p : Int32} (hn : tn t < 96) (hQ : Q (.inl (some (.int (nI (tn t)))), (rdW o0 (tAdd t k v p) X len a tl, b0, b1, op))) : mj_Mt gT cst gnw (m + 1) y_Tree_add [.ref 1, .int k, .int v, .int p] (rdW o0 t X len a tl, b0, b1, op) Q := by
  have vin : vp_in (nI (tn t)) 96 := vp_in_nI hn (by decide)
  intro J hJ
  refine hJ _ _ _ _ ?_
  refine And.intro (fun _ => ?_) (fun g => absurd (nI_lt (a := tn t) (b := 96) hn (by decide)) g)
  refine And.intro vin (And.intro vin (And.intro vin (And.intro vin (And.intro vin (And.intro vin ?_)))))
  have key : ∀ (j : Nat) (x y : Int32), j = tn t → x = nI (tn t + 1) → y = oV none → Q (.inl (some (.int (nI (tn t)))), (o0 :: oF 2 [.ref 2, .ref 3, .ref 4, .ref 5, .ref 6, .ref 7, .int x] :: oI 96 (upd (tK t) j k) :: oI 96 (upd (tV t) j v) :: oI 96 (upd (tP t) j p) :: oI 96 (upd (eO (tF t)) j y) :: oI 96 (upd (eO (tL t)) j y) :: oI 96 (upd (eO (tN t)) j y) :: oF 1 [.ref 9, .int (nI len)] :: oC 96 X :: oF 3 [.ref 8, .ref 1, .int (nI a)] :: tl, b0, b1, op)) := by
    rintro j x y rfl rfl rfl
    rw [upd_eO, upd_eO, upd_eO]
    exact hQ
  exact key _ _ _ (nI_clamp (by omega)) (nI_1 _) rfl
theorem t_addPart {nd pt : Nat} (ht : tOK t) (hnd : nd < tn t) (hQ : Q (.inl none, (rdW o0 (tPart t nd pt) X len a tl, b0, b1, op))) : mj_Mt gT cst gnw (m + 1) y_Tree_addPart [.ref 1, .int (nI nd), .int (nI pt)] (rdW o0 t X len a tl, b0, b1, op) Q := by
  have h96 := ht.1
  have vin : vp_in (nI nd) 96 := vp_in_nI (by omega) (by decide)
  have ec : (nI nd).toNatClampNeg = nd := nI_clamp (by omega)
  intro J hJ
  refine hJ _ _ _ _ ?_
  refine And.intro (fun g => absurd g (nI_pos (by omega))) (fun _ => ?_)
  refine And.intro (fun _ => ?_) (fun g => absurd (nI_lt (a := nd) (b := tn t) hnd (by omega)) g)
  refine And.intro vin ?_
  unfold tPart at hQ
  cases hl : tL t nd with
  | none =>
    rw [hl] at hQ
    have e : eO (tL t) (nI nd).toNatClampNeg = -1 := by rw [ec]; show oV (tL t nd) = -1; rw [hl]; rfl
    refine And.intro (fun g => absurd e g) (fun _ => ?_)
    refine And.intro vin (And.intro vin ?_)
    have key : ∀ j, j = nd → Q (.inl none, (o0 :: oF 2 [.ref 2, .ref 3, .ref 4, .ref 5, .ref 6, .ref 7, .int (nI (tn t))] :: oI 96 (tK t) :: oI 96 (tV t) :: oI 96 (tP t) :: oI 96 (upd (eO (tF t)) j (oV (some pt))) :: oI 96 (upd (eO (tL t)) j (oV (some pt))) :: oI 96 (eO (tN t)) :: oF 1 [.ref 9, .int (nI len)] :: oC 96 X :: oF 3 [.ref 8, .ref 1, .int (nI a)] :: tl, b0, b1, op)) := by
      rintro j rfl
      rw [upd_eO, upd_eO]
      exact hQ
    exact key _ ec
  | some l =>
    have hl9 := ht.2.2.1.1 nd l hl
    rw [hl] at hQ
    have e : eO (tL t) (nI nd).toNatClampNeg = nI l := by rw [ec]; show oV (tL t nd) = nI l; rw [hl]; rfl
    refine And.intro (fun _ => ?_) (fun g => absurd (e.symm.trans g) (oV_ne (k := l) (by omega)))
    refine And.intro (show vp_in (eO (tL t) (nI nd).toNatClampNeg) 96 by rw [e]; exact vp_in_nI hl9 (by decide)) (And.intro vin ?_)
    have key : ∀ j i, j = nd → i = l → Q (.inl none, (o0 :: oF 2 [.ref 2, .ref 3, .ref 4, .ref 5, .ref 6, .ref 7, .int (nI (tn t))] :: oI 96 (tK t) :: oI 96 (tV t) :: oI 96 (tP t) :: oI 96 (eO (tF t)) :: oI 96 (upd (eO (tL t)) j (oV (some pt))) :: oI 96 (upd (eO (tN t)) i (oV (some pt))) :: oF 1 [.ref 9, .int (nI len)] :: oC 96 X :: oF 3 [.ref 8, .ref 1, .int (nI a)] :: tl, b0, b1, op)) := by
      rintro j i rfl rfl
      rw [upd_eO, upd_eO]
      exact hQ
    exact key _ _ ec (by rw [e]; exact nI_clamp (by omega))
theorem t_kind {o : Option Nat} {y : Int32} (hy : y = oV o) (ht : tn t ≤ 96) (ho : ∀ i, o = some i → i < 1000) (hQ : Q (.inl (some (.int (tEi t (tK t) o))), (rdW o0 t X len a tl, b0, b1, op))) : mj_Mt gT cst gnw (m + 2) y_Tree_kind [.ref 1, .int y] (rdW o0 t X len a tl, b0, b1, op) Q := by
  subst hy
  intro J hJ
  refine hJ _ _ _ _ ?_
  intro J2 hJ2
  refine hJ2 _ _ _ _ ?_
  cases o with
  | none =>
    refine And.intro (fun _ => ?_) (fun g => absurd (by decide) g)
    exact hQ
  | some i =>
    have hi := ho i rfl
    refine And.intro (fun g => absurd g (nI_pos (n := i) (by omega))) (fun _ => ?_)
    refine And.intro (fun (g : nI (tn t) ≤ nI i) => ?_) (fun (g : ¬ nI (tn t) ≤ nI i) => ?_)
    · have h1 := (nI_leI (by omega) (by omega)).mp g
      rw [show (tEi t (tK t) (some i)) = -1 from if_neg (by omega)] at hQ
      exact hQ
    · have h1 : i < tn t := Nat.lt_of_not_le (fun q => g (nI_le q (by omega)))
      refine And.intro (vp_in_nI (by omega) (by decide)) ?_
      rw [show (tEi t (tK t) (some i)) = (tK t) i from if_pos h1] at hQ
      have key : ∀ j, j = i → mj_after (mj_hd (mj_off kO_Tree_kind) kH_Tree_kind) Q (mj_sg (mj_Mt gT cst gnw (m + 1)) cst gnw (mj_hd (mj_off kO_Tree_kind) kH_Tree_kind) kC_Tree_kind J Q 395 false) 4 (mj_lay [.ref 1, .int (nI i)] 2) [] (.inl (some (.int ((tK t) j))), (rdW o0 t X len a tl, b0, b1, op)) := by
        rintro j rfl
        exact hQ
      exact key _ (nI_clamp (by omega))
theorem t_value {o : Option Nat} {y : Int32} (hy : y = oV o) (ht : tn t ≤ 96) (ho : ∀ i, o = some i → i < 1000) (hQ : Q (.inl (some (.int (tEi t (tV t) o))), (rdW o0 t X len a tl, b0, b1, op))) : mj_Mt gT cst gnw (m + 2) y_Tree_value [.ref 1, .int y] (rdW o0 t X len a tl, b0, b1, op) Q := by
  subst hy
  intro J hJ
  refine hJ _ _ _ _ ?_
  intro J2 hJ2
  refine hJ2 _ _ _ _ ?_
  cases o with
  | none =>
    refine And.intro (fun _ => ?_) (fun g => absurd (by decide) g)
    exact hQ
  | some i =>
    have hi := ho i rfl
    refine And.intro (fun g => absurd g (nI_pos (n := i) (by omega))) (fun _ => ?_)
    refine And.intro (fun (g : nI (tn t) ≤ nI i) => ?_) (fun (g : ¬ nI (tn t) ≤ nI i) => ?_)
    · have h1 := (nI_leI (by omega) (by omega)).mp g
      rw [show (tEi t (tV t) (some i)) = -1 from if_neg (by omega)] at hQ
      exact hQ
    · have h1 : i < tn t := Nat.lt_of_not_le (fun q => g (nI_le q (by omega)))
      refine And.intro (vp_in_nI (by omega) (by decide)) ?_
      rw [show (tEi t (tV t) (some i)) = (tV t) i from if_pos h1] at hQ
      have key : ∀ j, j = i → mj_after (mj_hd (mj_off kO_Tree_value) kH_Tree_value) Q (mj_sg (mj_Mt gT cst gnw (m + 1)) cst gnw (mj_hd (mj_off kO_Tree_value) kH_Tree_value) kC_Tree_value J Q 395 false) 4 (mj_lay [.ref 1, .int (nI i)] 2) [] (.inl (some (.int ((tV t) j))), (rdW o0 t X len a tl, b0, b1, op)) := by
        rintro j rfl
        exact hQ
      exact key _ (nI_clamp (by omega))
theorem t_positionOf {o : Option Nat} {y : Int32} (hy : y = oV o) (ht : tn t ≤ 96) (ho : ∀ i, o = some i → i < 1000) (hQ : Q (.inl (some (.int (tEi t (tP t) o))), (rdW o0 t X len a tl, b0, b1, op))) : mj_Mt gT cst gnw (m + 2) y_Tree_positionOf [.ref 1, .int y] (rdW o0 t X len a tl, b0, b1, op) Q := by
  subst hy
  intro J hJ
  refine hJ _ _ _ _ ?_
  intro J2 hJ2
  refine hJ2 _ _ _ _ ?_
  cases o with
  | none =>
    refine And.intro (fun _ => ?_) (fun g => absurd (by decide) g)
    exact hQ
  | some i =>
    have hi := ho i rfl
    refine And.intro (fun g => absurd g (nI_pos (n := i) (by omega))) (fun _ => ?_)
    refine And.intro (fun (g : nI (tn t) ≤ nI i) => ?_) (fun (g : ¬ nI (tn t) ≤ nI i) => ?_)
    · have h1 := (nI_leI (by omega) (by omega)).mp g
      rw [show (tEi t (tP t) (some i)) = -1 from if_neg (by omega)] at hQ
      exact hQ
    · have h1 : i < tn t := Nat.lt_of_not_le (fun q => g (nI_le q (by omega)))
      refine And.intro (vp_in_nI (by omega) (by decide)) ?_
      rw [show (tEi t (tP t) (some i)) = (tP t) i from if_pos h1] at hQ
      have key : ∀ j, j = i → mj_after (mj_hd (mj_off kO_Tree_positionOf) kH_Tree_positionOf) Q (mj_sg (mj_Mt gT cst gnw (m + 1)) cst gnw (mj_hd (mj_off kO_Tree_positionOf) kH_Tree_positionOf) kC_Tree_positionOf J Q 395 false) 4 (mj_lay [.ref 1, .int (nI i)] 2) [] (.inl (some (.int ((tP t) j))), (rdW o0 t X len a tl, b0, b1, op)) := by
        rintro j rfl
        exact hQ
      exact key _ (nI_clamp (by omega))
theorem t_firstPart {o : Option Nat} {y : Int32} (hy : y = oV o) (ht : tn t ≤ 96) (ho : ∀ i, o = some i → i < 1000) (hQ : Q (.inl (some (.int (oV (tEn t (tF t) o)))), (rdW o0 t X len a tl, b0, b1, op))) : mj_Mt gT cst gnw (m + 2) y_Tree_firstPart [.ref 1, .int y] (rdW o0 t X len a tl, b0, b1, op) Q := by
  subst hy
  intro J hJ
  refine hJ _ _ _ _ ?_
  intro J2 hJ2
  refine hJ2 _ _ _ _ ?_
  cases o with
  | none =>
    refine And.intro (fun _ => ?_) (fun g => absurd (by decide) g)
    exact hQ
  | some i =>
    have hi := ho i rfl
    refine And.intro (fun g => absurd g (nI_pos (n := i) (by omega))) (fun _ => ?_)
    refine And.intro (fun (g : nI (tn t) ≤ nI i) => ?_) (fun (g : ¬ nI (tn t) ≤ nI i) => ?_)
    · have h1 := (nI_leI (by omega) (by omega)).mp g
      rw [show (oV (tEn t (tF t) (some i))) = oV none from congrArg oV (if_neg (by omega))] at hQ
      exact hQ
    · have h1 : i < tn t := Nat.lt_of_not_le (fun q => g (nI_le q (by omega)))
      refine And.intro (vp_in_nI (by omega) (by decide)) ?_
      rw [show (oV (tEn t (tF t) (some i))) = (eO (tF t)) i from congrArg oV (if_pos h1)] at hQ
      have key : ∀ j, j = i → mj_after (mj_hd (mj_off kO_Tree_firstPart) kH_Tree_firstPart) Q (mj_sg (mj_Mt gT cst gnw (m + 1)) cst gnw (mj_hd (mj_off kO_Tree_firstPart) kH_Tree_firstPart) kC_Tree_firstPart J Q 395 false) 4 (mj_lay [.ref 1, .int (nI i)] 2) [] (.inl (some (.int ((eO (tF t)) j))), (rdW o0 t X len a tl, b0, b1, op)) := by
        rintro j rfl
        exact hQ
      exact key _ (nI_clamp (by omega))
theorem t_follower {o : Option Nat} {y : Int32} (hy : y = oV o) (ht : tn t ≤ 96) (ho : ∀ i, o = some i → i < 1000) (hQ : Q (.inl (some (.int (oV (tEn t (tN t) o)))), (rdW o0 t X len a tl, b0, b1, op))) : mj_Mt gT cst gnw (m + 2) y_Tree_follower [.ref 1, .int y] (rdW o0 t X len a tl, b0, b1, op) Q := by
  subst hy
  intro J hJ
  refine hJ _ _ _ _ ?_
  intro J2 hJ2
  refine hJ2 _ _ _ _ ?_
  cases o with
  | none =>
    refine And.intro (fun _ => ?_) (fun g => absurd (by decide) g)
    exact hQ
  | some i =>
    have hi := ho i rfl
    refine And.intro (fun g => absurd g (nI_pos (n := i) (by omega))) (fun _ => ?_)
    refine And.intro (fun (g : nI (tn t) ≤ nI i) => ?_) (fun (g : ¬ nI (tn t) ≤ nI i) => ?_)
    · have h1 := (nI_leI (by omega) (by omega)).mp g
      rw [show (oV (tEn t (tN t) (some i))) = oV none from congrArg oV (if_neg (by omega))] at hQ
      exact hQ
    · have h1 : i < tn t := Nat.lt_of_not_le (fun q => g (nI_le q (by omega)))
      refine And.intro (vp_in_nI (by omega) (by decide)) ?_
      rw [show (oV (tEn t (tN t) (some i))) = (eO (tN t)) i from congrArg oV (if_pos h1)] at hQ
      have key : ∀ j, j = i → mj_after (mj_hd (mj_off kO_Tree_follower) kH_Tree_follower) Q (mj_sg (mj_Mt gT cst gnw (m + 1)) cst gnw (mj_hd (mj_off kO_Tree_follower) kH_Tree_follower) kC_Tree_follower J Q 395 false) 4 (mj_lay [.ref 1, .int (nI i)] 2) [] (.inl (some (.int ((eO (tN t)) j))), (rdW o0 t X len a tl, b0, b1, op)) := by
        rintro j rfl
        exact hQ
      exact key _ (nI_clamp (by omega))
theorem tEn_lt {t : tS} {g : Nat → Option Nat} (hg : ∀ i j, g i = some j → j < 96) (o : Option Nat) : ∀ i, tEn t g o = some i → i < 1000 := by
  intro i e
  unfold tEn at e
  split at e
  · cases e
  · split at e
    · exact Nat.lt_trans (hg _ _ e) (by decide)
    · cases e
theorem t_part {o : Option Nat} {k : Nat} {y x : Int32} (hy : y = oV o) (hx : x = nI k) (hk : k < 1000) (ht : tOK t) (ho : ∀ i, o = some i → i < 1000) (hQ : Q (.inl (some (.int (oV (tPt t k (tEn t (tF t) o))))), (rdW o0 t X len a tl, b0, b1, op))) : mj_Mt gT cst gnw (m + 3) y_Tree_part [.ref 1, .int y, .int x] (rdW o0 t X len a tl, b0, b1, op) Q := by
  subst hx
  intro J hJ
  refine hJ _ _ _ _ ?_
  refine t_firstPart hy ht.1 ho ?_
  have loop : ∀ (j i : Nat) (o2 : Option Nat) (x2 : Int32), j + i = k → x2 = nI i → (∀ i, o2 = some i → i < 1000) → tPt t j o2 = tPt t k (tEn t (tF t) o) → J 6 [some (.ref 1), some (.int y), some (.int (nI k)), some (.int (oV o2)), some (.int x2)] [] (rdW o0 t X len a tl, b0, b1, op) := by
    intro j
    induction j with
    | zero =>
      intro i o2 x2 hi hx2 ho2 e
      subst hx2
      refine hJ _ _ _ _ ?_
      refine And.intro (fun _ => ?_) (fun g => absurd (nI_le (a := k) (b := i) (by omega) (by omega)) g)
      rw [← e] at hQ
      exact hQ
    | succ j ih =>
      intro i o2 x2 hi hx2 ho2 e
      subst hx2
      refine hJ _ _ _ _ ?_
      refine And.intro (fun g => absurd g (nI_ge (a := i) (b := k) (by omega) (by omega))) (fun _ => ?_)
      refine t_follower rfl ht.1 ho2 ?_
      exact ih (i + 1) _ _ (by omega) (nI_1 i) (tEn_lt ht.2.2.2 o2) e
  exact loop k 0 _ _ (by omega) rfl (tEn_lt ht.2.1 o) rfl
theorem t_parts {o : Option Nat} {y : Int32} (hy : y = oV o) (ht : tOK t) (ho : ∀ i, o = some i → i < 1000) (hQ : Q (.inl (some (.int (nI (tCn t 96 (tEn t (tF t) o))))), (rdW o0 t X len a tl, b0, b1, op))) : mj_Mt gT cst gnw (m + 3) y_Tree_parts [.ref 1, .int y] (rdW o0 t X len a tl, b0, b1, op) Q := by
  intro J hJ
  refine hJ _ _ _ _ ?_
  refine t_firstPart hy ht.1 ho ?_
  have loop : ∀ (j i : Nat) (o2 : Option Nat) (x2 : Int32), j + i = 96 → x2 = nI i → (∀ i, o2 = some i → i < 1000) → tCn t j o2 + i = tCn t 96 (tEn t (tF t) o) → J 6 [some (.ref 1), some (.int y), some (.int x2), some (.int (oV o2))] [] (rdW o0 t X len a tl, b0, b1, op) := by
    intro j
    induction j with
    | zero =>
      intro i o2 x2 hi hx2 ho2 e
      subst hx2
      obtain rfl : i = 96 := by omega
      refine hJ _ _ _ _ ?_
      have e2 : tCn t 96 (tEn t (tF t) o) = 96 := by rw [← e]; simp [tCn]
      rw [e2] at hQ
      refine And.intro (fun _ => ?_) (fun _ => ?_)
      · exact hQ
      · refine And.intro (fun _ => ?_) (fun g => absurd (by decide) g)
        exact hQ
    | succ j ih =>
      intro i o2 x2 hi hx2 ho2 e
      subst hx2
      refine hJ _ _ _ _ ?_
      cases o2 with
      | none =>
        refine And.intro (fun _ => ?_) (fun g => absurd rfl g)
        have e2 : tCn t 96 (tEn t (tF t) o) = i := by rw [← e]; simp [tCn]
        rw [e2] at hQ
        exact hQ
      | some q =>
        have hq := ho2 q rfl
        refine And.intro (fun g => absurd g (oV_ne (k := q) (by omega))) (fun _ => ?_)
        refine And.intro (fun g => absurd g (nI_ge (a := i) (b := 96) (by omega) (by decide))) (fun _ => ?_)
        refine t_follower rfl ht.1 ho2 ?_
        refine ih (i + 1) _ _ (by omega) (nI_1 i) (tEn_lt ht.2.2.2 _) ?_
        rw [← e]
        show _ = tCn t j (tEn t (tN t) (some q)) + 1 + i
        omega
  exact loop 96 0 _ _ rfl rfl (tEn_lt ht.2.1 o) rfl
theorem t_placeOf {c : Int32} {o : Option Nat} {y : Int32} (hy : y = oV o) (ht : tOK t) (ho : ∀ i, o = some i → i < 1000) (hQ : Q (.inl (some (.int (oV (tPl t c 96 o)))), (rdW o0 t X len a tl, b0, b1, op))) : mj_Mt gT cst gnw (m + 1) y_Tree_placeOf [.ref 1, .int c, .int y] (rdW o0 t X len a tl, b0, b1, op) Q := by
  have h96 := ht.1
  intro J hJ
  refine hJ _ _ _ _ ?_
  have loop : ∀ (j i : Nat) (o2 : Option Nat) (x2 y2 : Int32), j + i = 96 → x2 = nI i → y2 = oV o2 → (∀ i, o2 = some i → i < 1000) → (tPl t c j o2).map (· + i) = tPl t c 96 o → J 4 [some (.ref 1), some (.int c), some (.int y), some (.int x2), some (.int y2)] [] (rdW o0 t X len a tl, b0, b1, op) := by
    intro j
    induction j with
    | zero =>
      intro i o2 x2 y2 hi hx2 hy2 ho2 e
      subst hx2
      subst hy2
      obtain rfl : i = 96 := by omega
      rw [← e] at hQ
      refine hJ _ _ _ _ ?_
      refine And.intro (fun _ => ?_) (fun _ => ?_)
      · exact hQ
      · refine And.intro (fun _ => ?_) (fun _ => ?_)
        · exact hQ
        · refine And.intro (fun _ => ?_) (fun g => absurd (by decide) g)
          exact hQ
    | succ j ih =>
      intro i o2 x2 y2 hi hx2 hy2 ho2 e
      subst hx2
      subst hy2
      refine hJ _ _ _ _ ?_
      cases o2 with
      | none =>
        refine And.intro (fun _ => ?_) (fun g => absurd (by decide) g)
        rw [← e] at hQ
        exact hQ
      | some q =>
        have hq := ho2 q rfl
        refine And.intro (fun g => absurd g (nI_pos (n := q) (by omega))) (fun _ => ?_)
        refine And.intro (fun (g : nI (tn t) ≤ nI q) => ?_) (fun (g : ¬ nI (tn t) ≤ nI q) => ?_)
        · have h1 := (nI_leI (by omega) (by omega)).mp g
          rw [← e, show tPl t c (j + 1) (some q) = none by unfold tPl; rw [if_neg (by omega)]] at hQ
          exact hQ
        · have h1 : q < tn t := Nat.lt_of_not_le (fun w => g (nI_le w (by omega)))
          have ec : (nI q).toNatClampNeg = q := nI_clamp (by omega)
          refine And.intro (fun g => absurd g (nI_ge (a := i) (b := 96) (by omega) (by decide))) (fun _ => ?_)
          refine And.intro (vp_in_nI (by omega) (by decide)) ?_
          have ev : ∀ w, w = q → tV t w = tV t q := by rintro w rfl; rfl
          refine And.intro (fun g => ?_) (fun g => ?_)
          · have g : ¬ tV t q = c := fun w => g ((ev _ ec).trans w)
            refine And.intro (vp_in_nI (by omega) (by decide)) ?_
            refine ih (i + 1) (tN t q) _ _ (by omega) (nI_1 i) (by rw [show (oV (some q)).toNatClampNeg = q from ec]) (fun w ew => Nat.lt_trans (ht.2.2.2 _ _ ew) (by decide)) ?_
            rw [← e, show tPl t c (j + 1) (some q) = (tPl t c j (tN t q)).map (· + 1) by rw [tPl, if_pos h1, if_neg g], Option.map_map]
            congr 1
            funext w
            show w + (i + 1) = w + 1 + i
            omega
          · have g : tV t q = c := (ev _ ec).symm.trans g
            rw [← e, show tPl t c (j + 1) (some q) = some 0 by rw [tPl, if_pos h1, if_pos g]] at hQ
            rw [show (some 0).map (· + i) = some i by simp] at hQ
            exact hQ
  refine loop 96 0 o _ _ rfl rfl hy ho ?_
  cases tPl t c 96 o <;> rfl
end P2f
end
section
abbrev PR : Type := (Nat × Nat × tS) ⊕ (Nat × tS)
abbrev PU : Type := (Nat × tS) ⊕ (Nat × tS)
section RD
variable (tx : Nat → Nat)
def pClose (n a : Nat) (t : tS) : PR := if tx a = 41 then .inl (n, a + 1, t) else .inr (a, t)
def pMore (pe : Nat → tS → PR) (n : Nat) : Nat → Nat → tS → PR
  | 0, a, t => pClose tx n a t
  | k + 1, a, t => if tx a = 32 then (match pe (a + 1) t with
      | .inr e => .inr e
      | .inl (c, a2, t2) => pMore pe n k a2 (tPart t2 n c)) else pClose tx n a t
def pArgs (pe : Nat → tS → PR) (n : Nat) : Nat → Nat → tS → PR
  | 0, a, t => pClose tx n a t
  | k + 1, a, t => if tx a = 32 then (match pe (a + 1) t with
      | .inr e => .inr e
      | .inl (c, a2, t2) => pArgs pe n k a2 (tPart t2 n c)) else .inr (a, t)
def pDg : Nat → Nat → Int32 → Nat × Int32
  | 0, a, v => (a, v)
  | k + 1, a, v => if cD (tx a) then pDg k (a + 1) (Int32.ofInt 10 * v + nI (tx a) - Int32.ofInt 48) else (a, v)
def pA1 (a : Nat) : Nat := if tx a = 45 then a + 1 else a
def pVal (a : Nat) : Int32 := if tx a = 45 then -(pDg tx 4 (pA1 tx a) 0).2 else (pDg tx 4 (pA1 tx a) 0).2
def pNum (a : Nat) (t : tS) : PR := if cD (tx (pA1 tx a)) then .inl (tn t, (pDg tx 4 (pA1 tx a) 0).1, tAdd t 1 (pVal tx a) (nI a)) else .inr (pA1 tx a, t)
def pAtom (a : Nat) (t : tS) : PR := if cL (tx a) then .inl (tn t, a + 1, tAdd t 2 (nI (tx a)) (nI a)) else pNum tx a t
def pDat : Nat → Nat → Nat → tS → PR
  | 0, _, a, t => .inr (a, t)
  | f + 1, d, a, t => if tx a = 40 then
      (if 9 ≤ d then .inr (a, tAdd t 3 0 (nI a)) else if tx (a + 1) = 41 then .inl (tn t, a + 1 + 1, tAdd t 3 0 (nI a)) else
        match pDat f (d + 1) (a + 1) (tAdd t 3 0 (nI a)) with
        | .inr e => .inr e
        | .inl (c, a2, t2) => pMore tx (pDat f (d + 1)) (tn t) 95 a2 (tPart t2 (tn t) c))
    else pAtom tx a t
def pLet (p a : Nat) (t : tS) : PU := if cL (tx a) = true ∧ tPl t (nI (tx a)) 96 (tEn t (tF t) (some p)) = none then .inl (a + 1, tPart (tAdd t 2 (nI (tx a)) (nI a)) p (tn t)) else .inr (a, t)
def pLs (p : Nat) : Nat → Nat → tS → PR
  | 0, a, t => pClose tx p a t
  | k + 1, a, t => if tx a = 32 then (match pLet tx p (a + 1) t with
      | .inr e => .inr e
      | .inl (a2, t2) => pLs p k a2 t2) else pClose tx p a t
def pPar (d a : Nat) (t : tS) : PR := if d < 9 ∧ tx a = 40 then
    (if tx (a + 1) = 41 then .inl (tn t, a + 1 + 1, tAdd t 7 0 (nI a)) else match pLet tx (tn t) (a + 1) (tAdd t 7 0 (nI a)) with
      | .inr e => .inr e
      | .inl (a2, t2) => pLs tx (tn t) 2 a2 t2)
  else .inr (a, tAdd t 7 0 (nI a))
def pFun (pe : Nat → tS → PR) (d a : Nat) (t : tS) : PR := if tx a = 92 then
    (if tx (a + 1) = 32 then (match pPar tx d (a + 1 + 1) (tAdd t 6 0 (nI a)) with
      | .inr e => .inr e
      | .inl (p, a2, t2) => if tx a2 = 32 then (match pe (a2 + 1) (tPart t2 (tn t) p) with
        | .inr e => .inr e
        | .inl (c, a4, t4) => pClose tx (tn t) a4 (tPart t4 (tn t) c)) else .inr (a2, tPart t2 (tn t) p))
    else .inr (a + 1, tAdd t 6 0 (nI a)))
  else .inr (a, tAdd t 6 0 (nI a))
def pBv (pe pf : Nat → tS → PR) (d n a : Nat) (t : tS) : PR := if tEi t (tK t) (some n) = 9 then (if d + 1 < 9 ∧ tx a = 40 then pf (a + 1) t else .inr (a, t)) else pe a t
def pBind (pe pf : Nat → tS → PR) (d n a : Nat) (t : tS) : PU := if d < 9 ∧ tx a = 40 then
    (if cL (tx (a + 1)) = true ∧ tPl t (nI (tx (a + 1))) 96 (tPt t 1 (tEn t (tF t) (some n))) = none then
      (if tx (a + 1 + 1) = 32 then
        (match pBv tx pe pf d n (a + 1 + 1 + 1) (tAdd t 10 (nI (tx (a + 1))) (nI (a + 1))) with
        | .inr e => .inr e
        | .inl (c, a2, t2) => if tx a2 = 41 then .inl (a2 + 1, tPart (tPart t2 (tn t) c) n (tn t)) else .inr (a2, tPart t2 (tn t) c))
      else .inr (a + 1 + 1, tAdd t 10 (nI (tx (a + 1))) (nI (a + 1))))
    else .inr (a + 1, t))
  else .inr (a, t)
def pBs (pb : Nat → tS → PU) (n : Nat) : Nat → Nat → tS → PR
  | 0, a, t => pClose tx n a t
  | k + 1, a, t => if tx a = 32 then (match pb (a + 1) t with
      | .inr e => .inr e
      | .inl (a2, t2) => pBs pb n k a2 t2) else pClose tx n a t
def pBou (pe : Nat → tS → PR) (pb : Nat → Nat → tS → PU) (kd : Int32) (a : Nat) (t : tS) : PR := if tx (a + 1) = 32 then
    (match pe (a + 1 + 1) (tAdd t kd 0 (nI a)) with
    | .inr e => .inr e
    | .inl (c, a2, t2) => if tx a2 = 32 then (match pb (tn t) (a2 + 1) (tPart t2 (tn t) c) with
      | .inr e => .inr e
      | .inl (a4, t4) => pBs tx (pb (tn t)) (tn t) 2 a4 t4) else .inr (a2, tPart t2 (tn t) c))
  else .inr (a + 1, tAdd t kd 0 (nI a))
def pCall (pe : Nat → tS → PR) (a : Nat) (t : tS) : PR := match pe a (tAdd t 11 0 (nI a)) with
  | .inr e => .inr e
  | .inl (c, a2, t2) => pMore tx pe (tn t) 3 a2 (tPart t2 (tn t) c)
def opN (o : Nat) : Nat := if o = 8 then 3 else if o ≤ 12 then 1 else 2
def pOp (pe : Nat → tS → PR) (o a : Nat) (t : tS) : PR := pArgs tx pe (tn t) (opN o) (a + 1) (tAdd t 5 (nI o) (nI a))
def sgl : List Nat := [94, 95, 33, 46, 61, 43, 45, 42, 60]
def fdx (c : Nat) : Nat → Nat → Option Nat
  | 0, _ => none
  | k + 1, i => if sgl.getD i 0 = c then some i else fdx c k (i + 1)
def opO (c : Nat) : Option Nat := if c = 63 then some 8 else (fdx c 9 0).map (10 + ·)
def pBra (pe pe2 pe3 : Nat → tS → PR) (d a : Nat) (t : tS) : PR :=
  if tx a = 92 then pFun tx pe d a t
  else if tx a = 58 ∨ tx a = 59 then pBou tx pe (pBind tx pe2 (pFun tx pe3 (d + 2)) d) (if tx a = 59 then 9 else 8) a t
  else match opO (tx a) with
    | none => pCall tx pe a t
    | some o => if tx a = 45 ∧ cD (tx (a + 1)) = true then pCall tx pe a t else pOp tx pe o a t
def pEx : Nat → Nat → Nat → tS → PR
  | 0, _, a, t => .inr (a, t)
  | f + 1, d, a, t => if tx a = 40 then (if d < 9 then pBra tx (pEx f (d + 1)) (pEx f (d + 2)) (pEx f (d + 3)) (d + 1) (a + 1) t else .inr (a, t))
    else if tx a = 39 then (match pDat tx 11 d (a + 1) (tAdd t 4 0 (nI a)) with
      | .inr e => .inr e
      | .inl (c, a2, t2) => .inl (tn t, a2, tPart t2 (tn t) c))
    else pAtom tx a t
def gd (len n : Nat) : PR → Prop
  | .inl (nd, a, t) => nd = n ∧ tOK t ∧ n < tn t ∧ tn t ≤ a ∧ a ≤ len
  | .inr (a, t) => tOK t ∧ n ≤ tn t ∧ a ≤ len
def gu (len n : Nat) : PU → Prop
  | .inl (a, t) => tOK t ∧ n ≤ tn t ∧ tn t ≤ a ∧ a ≤ len
  | .inr (a, t) => tOK t ∧ n ≤ tn t ∧ a ≤ len
def GE (len : Nat) (pe : Nat → tS → PR) : Prop := ∀ a t, tOK t → tn t ≤ a → a ≤ len → gd len (tn t) (pe a t)
variable {tx} {X : Nat → Int32} {len : Nat}
theorem tn_add {t : tS} {k v p : Int32} : tn (tAdd t k v p) = tn t + 1 := rfl
theorem g_close (hx : txOK X len tx) {n a : Nat} {t : tS} (ht : tOK t) (hn : n < tn t) (ha : tn t ≤ a) (hl : a ≤ len) : gd len n (pClose tx n a t) := by
  unfold pClose
  split
  · next h =>
    have := hx.lt (a := a) (by omega)
    exact ⟨rfl, ht, hn, by omega, by omega⟩
  · exact ⟨ht, by omega, hl⟩
theorem g_more (hx : txOK X len tx) {pe : Nat → tS → PR} (hp : GE len pe) {n : Nat} : ∀ (k a : Nat) (t : tS), tOK t → n < tn t → tn t ≤ a → a ≤ len → gd len n (pMore tx pe n k a t)
  | 0, a, t, ht, hn, ha, hl => g_close hx ht hn ha hl
  | k + 1, a, t, ht, hn, ha, hl => by
    unfold pMore
    split
    · next h =>
      have h1 := hx.lt (a := a) (by omega)
      have hg := hp (a + 1) t ht (by omega) (by omega)
      have h96 := hx.1
      generalize pe (a + 1) t = r at hg
      rcases r with ⟨c, a2, t2⟩ | ⟨a2, t2⟩
      · obtain ⟨rfl, g1, g2, g3, g4⟩ := hg
        refine g_more hx hp k a2 _ (tOK_part g1 (by omega)) ?_ ?_ g4
        · rw [tn_part]; omega
        · rw [tn_part]; exact g3
      · obtain ⟨g1, g2, g3⟩ := hg
        exact ⟨g1, by omega, g3⟩
    · exact g_close hx ht hn ha hl
theorem g_args (hx : txOK X len tx) {pe : Nat → tS → PR} (hp : GE len pe) {n : Nat} : ∀ (k a : Nat) (t : tS), tOK t → n < tn t → tn t ≤ a → a ≤ len → gd len n (pArgs tx pe n k a t)
  | 0, a, t, ht, hn, ha, hl => g_close hx ht hn ha hl
  | k + 1, a, t, ht, hn, ha, hl => by
    unfold pArgs
    split
    · next h =>
      have h1 := hx.lt (a := a) (by omega)
      have hg := hp (a + 1) t ht (by omega) (by omega)
      have h96 := hx.1
      generalize pe (a + 1) t = r at hg
      rcases r with ⟨c, a2, t2⟩ | ⟨a2, t2⟩
      · obtain ⟨rfl, g1, g2, g3, g4⟩ := hg
        refine g_args hx hp k a2 _ (tOK_part g1 (by omega)) ?_ ?_ g4
        · rw [tn_part]; omega
        · rw [tn_part]; exact g3
      · obtain ⟨g1, g2, g3⟩ := hg
        exact ⟨g1, by omega, g3⟩
    · exact ⟨ht, by omega, hl⟩
theorem g_dg (hx : txOK X len tx) : ∀ (k a : Nat) (v : Int32), a ≤ len → a ≤ (pDg tx k a v).1 ∧ (pDg tx k a v).1 ≤ len
  | 0, a, v, hl => ⟨Nat.le_refl _, hl⟩
  | k + 1, a, v, hl => by
    unfold pDg
    split
    · next h =>
      have h1 := hx.lt (a := a) (fun e => by rw [e] at h; exact absurd h (by decide))
      have := g_dg hx k (a + 1) (Int32.ofInt 10 * v + nI (tx a) - Int32.ofInt 48) (by omega)
      omega
    · exact ⟨Nat.le_refl _, hl⟩
theorem g_num (hx : txOK X len tx) : GE len (pNum tx) := by
  intro a t ht hn hl
  have h96 := hx.1
  have ha1 : a ≤ pA1 tx a ∧ pA1 tx a ≤ len := by
    unfold pA1
    split
    · next h =>
      have := hx.lt (a := a) (by omega)
      omega
    · omega
  unfold pNum
  split
  · next h =>
    have h1 := hx.lt (a := pA1 tx a) (fun e => by rw [e] at h; exact absurd h (by decide))
    have h2 : (pDg tx 4 (pA1 tx a) 0).1 = (pDg tx 3 (pA1 tx a + 1) (Int32.ofInt 10 * 0 + nI (tx (pA1 tx a)) - Int32.ofInt 48)).1 := by
      show (pDg tx (3 + 1) (pA1 tx a) 0).1 = _
      rw [pDg, if_pos h]
    have h3 := g_dg hx 3 (pA1 tx a + 1) (Int32.ofInt 10 * 0 + nI (tx (pA1 tx a)) - Int32.ofInt 48) (by omega)
    rw [← h2] at h3
    exact ⟨rfl, tOK_add ht (by omega), by rw [tn_add]; omega, by rw [tn_add]; omega, h3.2⟩
  · exact ⟨ht, Nat.le_refl _, ha1.2⟩
theorem cL_ne {c : Nat} (h : cL c = true) : ¬ c = 0 := fun e => by rw [e] at h; exact absurd h (by decide)
theorem g_atom (hx : txOK X len tx) : GE len (pAtom tx) := by
  intro a t ht hn hl
  have h96 := hx.1
  unfold pAtom
  split
  · next h =>
    have h1 := hx.lt (cL_ne h)
    exact ⟨rfl, tOK_add ht (by omega) (fun _ => ⟨_, by have := hx.le a; omega, rfl⟩), by rw [tn_add]; omega, by rw [tn_add]; omega, by omega⟩
  · exact g_num hx a t ht hn hl
theorem g_dat (hx : txOK X len tx) : ∀ f d, GE len (pDat tx f d)
  | 0, d, a, t, ht, hn, hl => ⟨ht, Nat.le_refl _, hl⟩
  | f + 1, d, a, t, ht, hn, hl => by
    have h96 := hx.1
    unfold pDat
    split
    · next h =>
      have h1 := hx.lt (a := a) (by omega)
      have ht1 : tOK (tAdd t 3 0 (nI a)) := tOK_add ht (by omega)
      split
      · exact ⟨ht1, by rw [tn_add]; omega, hl⟩
      · split
        · next h2 =>
          have := hx.lt (a := a + 1) (by omega)
          exact ⟨rfl, ht1, by rw [tn_add]; omega, by rw [tn_add]; omega, by omega⟩
        · have hg := g_dat hx f (d + 1) (a + 1) (tAdd t 3 0 (nI a)) ht1 (by rw [tn_add]; omega) (by omega)
          rw [tn_add] at hg
          generalize pDat tx f (d + 1) (a + 1) (tAdd t 3 0 (nI a)) = r at hg
          rcases r with ⟨c, a2, t2⟩ | ⟨a2, t2⟩
          · obtain ⟨rfl, g1, g2, g3, g4⟩ := hg
            exact g_more hx (g_dat hx f (d + 1)) 95 a2 _ (tOK_part g1 (by omega)) (by rw [tn_part]; omega) (by rw [tn_part]; exact g3) g4
          · obtain ⟨g1, g2, g3⟩ := hg
            exact ⟨g1, by omega, g3⟩
    · exact g_atom hx a t ht hn hl
theorem g_let (hx : txOK X len tx) {p a : Nat} {t : tS} (ht : tOK t) (hn : tn t ≤ a) (hl : a ≤ len) : gu len (tn t) (pLet tx p a t) := by
  have h96 := hx.1
  unfold pLet
  split
  · next h =>
    have h1 := hx.lt (cL_ne h.1)
    exact ⟨tOK_part (tOK_add ht (by omega) (fun _ => ⟨_, by have := hx.le a; omega, rfl⟩)) (by omega), by rw [tn_part, tn_add]; omega, by rw [tn_part, tn_add]; omega, by omega⟩
  · exact ⟨ht, Nat.le_refl _, hl⟩
theorem g_ls (hx : txOK X len tx) {p : Nat} : ∀ (k a : Nat) (t : tS), tOK t → p < tn t → tn t ≤ a → a ≤ len → gd len p (pLs tx p k a t)
  | 0, a, t, ht, hn, ha, hl => g_close hx ht hn ha hl
  | k + 1, a, t, ht, hn, ha, hl => by
    unfold pLs
    split
    · next h =>
      have h1 := hx.lt (a := a) (by omega)
      have hg := g_let hx (p := p) (a := a + 1) ht (by omega) (by omega)
      generalize pLet tx p (a + 1) t = r at hg
      rcases r with ⟨a2, t2⟩ | ⟨a2, t2⟩
      · obtain ⟨g1, g2, g3, g4⟩ := hg
        exact g_ls hx k a2 t2 g1 (by omega) g3 g4
      · obtain ⟨g1, g2, g3⟩ := hg
        exact ⟨g1, by omega, g3⟩
    · exact g_close hx ht hn ha hl
theorem g_par (hx : txOK X len tx) {d a : Nat} {t : tS} (ht : tOK t) (hn : tn t + 2 ≤ a) (hl : a ≤ len) : gd len (tn t) (pPar tx d a t) := by
  have h96 := hx.1
  have ht1 : tOK (tAdd t 7 0 (nI a)) := tOK_add ht (by omega)
  unfold pPar
  split
  · next h =>
    have h1 := hx.lt (a := a) (by omega)
    split
    · next h2 =>
      have := hx.lt (a := a + 1) (by omega)
      exact ⟨rfl, ht1, by rw [tn_add]; omega, by rw [tn_add]; omega, by omega⟩
    · have hg := g_let hx (p := tn t) (a := a + 1) ht1 (by rw [tn_add]; omega) (by omega)
      rw [tn_add] at hg
      generalize pLet tx (tn t) (a + 1) (tAdd t 7 0 (nI a)) = r at hg
      rcases r with ⟨a2, t2⟩ | ⟨a2, t2⟩
      · obtain ⟨g1, g2, g3, g4⟩ := hg
        exact g_ls hx 2 a2 t2 g1 (by omega) g3 g4
      · obtain ⟨g1, g2, g3⟩ := hg
        exact ⟨g1, by omega, g3⟩
  · exact ⟨ht1, by rw [tn_add]; omega, hl⟩
theorem g_fun (hx : txOK X len tx) {pe : Nat → tS → PR} (hp : GE len pe) {d a : Nat} {t : tS} (ht : tOK t) (hn : tn t + 1 ≤ a) (hl : a ≤ len) : gd len (tn t) (pFun tx pe d a t) := by
  have h96 := hx.1
  have ht1 : tOK (tAdd t 6 0 (nI a)) := tOK_add ht (by omega)
  unfold pFun
  split
  · next h =>
    have h1 := hx.lt (a := a) (by omega)
    split
    · next h2 =>
      have h3 := hx.lt (a := a + 1) (by omega)
      have hg := g_par hx (d := d) (a := a + 1 + 1) ht1 (by rw [tn_add]; omega) (by omega)
      rw [tn_add] at hg
      generalize pPar tx d (a + 1 + 1) (tAdd t 6 0 (nI a)) = r at hg
      rcases r with ⟨c, a2, t2⟩ | ⟨a2, t2⟩
      · obtain ⟨rfl, g1, g2, g3, g4⟩ := hg
        have ht2 : tOK (tPart t2 (tn t) (tn t + 1)) := tOK_part g1 (by omega)
        show gd len (tn t) (if tx a2 = 32 then _ else _)
        split
        · next h4 =>
          have h5 := hx.lt (a := a2) (by omega)
          have hg2 := hp (a2 + 1) _ ht2 (by rw [tn_part]; omega) (by omega)
          rw [tn_part] at hg2
          generalize pe (a2 + 1) (tPart t2 (tn t) (tn t + 1)) = r2 at hg2
          rcases r2 with ⟨c, a4, t4⟩ | ⟨a4, t4⟩
          · obtain ⟨rfl, g5, g6, g7, g8⟩ := hg2
            exact g_close hx (tOK_part g5 (by omega)) (by rw [tn_part]; omega) (by rw [tn_part]; exact g7) g8
          · obtain ⟨g5, g6, g7⟩ := hg2
            exact ⟨g5, by omega, g7⟩
        · exact ⟨ht2, by rw [tn_part]; omega, g4⟩
      · obtain ⟨g1, g2, g3⟩ := hg
        exact ⟨g1, by omega, g3⟩
    · exact ⟨ht1, by rw [tn_add]; omega, by omega⟩
  · exact ⟨ht1, by rw [tn_add]; omega, hl⟩
theorem g_bv (hx : txOK X len tx) {pe pf : Nat → tS → PR} (hp : GE len pe) (hf : ∀ a t, tOK t → tn t + 1 ≤ a → a ≤ len → gd len (tn t) (pf a t)) {d n a : Nat} {t : tS} (ht : tOK t) (hn : tn t ≤ a) (hl : a ≤ len) : gd len (tn t) (pBv tx pe pf d n a t) := by
  unfold pBv
  split
  · split
    · next h =>
      have h1 := hx.lt (a := a) (by omega)
      exact hf _ _ ht (by omega) (by omega)
    · exact ⟨ht, Nat.le_refl _, hl⟩
  · exact hp _ _ ht hn hl
theorem g_bind (hx : txOK X len tx) {pe pf : Nat → tS → PR} (hp : GE len pe) (hf : ∀ a t, tOK t → tn t + 1 ≤ a → a ≤ len → gd len (tn t) (pf a t)) {d n a : Nat} {t : tS} (ht : tOK t) (hn : tn t ≤ a) (hl : a ≤ len) : gu len (tn t) (pBind tx pe pf d n a t) := by
  have h96 := hx.1
  unfold pBind
  split
  · next h =>
    have h1 := hx.lt (a := a) (by omega)
    split
    · next h2 =>
      have h3 := hx.lt (cL_ne h2.1)
      have ht1 : tOK (tAdd t 10 (nI (tx (a + 1))) (nI (a + 1))) := tOK_add ht (by omega)
      split
      · next h4 =>
        have h5 := hx.lt (a := a + 1 + 1) (by omega)
        have hg := g_bv hx hp hf (d := d) (n := n) (a := a + 1 + 1 + 1) ht1 (by rw [tn_add]; omega) (by omega)
        rw [tn_add] at hg
        generalize pBv tx pe pf d n (a + 1 + 1 + 1) (tAdd t 10 (nI (tx (a + 1))) (nI (a + 1))) = r at hg
        rcases r with ⟨c, a2, t2⟩ | ⟨a2, t2⟩
        · obtain ⟨rfl, g1, g2, g3, g4⟩ := hg
          have ht2 : tOK (tPart t2 (tn t) (tn t + 1)) := tOK_part g1 (by omega)
          show gu len (tn t) (if tx a2 = 41 then _ else _)
          split
          · next h6 =>
            have h7 := hx.lt (a := a2) (by omega)
            exact ⟨tOK_part ht2 (by omega), by rw [tn_part, tn_part]; omega, by rw [tn_part, tn_part]; omega, by omega⟩
          · exact ⟨ht2, by rw [tn_part]; omega, g4⟩
        · obtain ⟨g1, g2, g3⟩ := hg
          exact ⟨g1, by omega, g3⟩
      · exact ⟨ht1, by rw [tn_add]; omega, by omega⟩
    · exact ⟨ht, Nat.le_refl _, by omega⟩
  · exact ⟨ht, Nat.le_refl _, hl⟩
theorem g_bs (hx : txOK X len tx) {pb : Nat → tS → PU} (hp : ∀ a t, tOK t → tn t ≤ a → a ≤ len → gu len (tn t) (pb a t)) {n : Nat} : ∀ (k a : Nat) (t : tS), tOK t → n < tn t → tn t ≤ a → a ≤ len → gd len n (pBs tx pb n k a t)
  | 0, a, t, ht, hn, ha, hl => g_close hx ht hn ha hl
  | k + 1, a, t, ht, hn, ha, hl => by
    unfold pBs
    split
    · next h =>
      have h1 := hx.lt (a := a) (by omega)
      have hg := hp (a + 1) t ht (by omega) (by omega)
      generalize pb (a + 1) t = r at hg
      rcases r with ⟨a2, t2⟩ | ⟨a2, t2⟩
      · obtain ⟨g1, g2, g3, g4⟩ := hg
        exact g_bs hx hp k a2 t2 g1 (by omega) g3 g4
      · obtain ⟨g1, g2, g3⟩ := hg
        exact ⟨g1, by omega, g3⟩
    · exact g_close hx ht hn ha hl
theorem g_bou (hx : txOK X len tx) {pe : Nat → tS → PR} {pb : Nat → Nat → tS → PU} (hp : GE len pe) (hb : ∀ n a t, tOK t → tn t ≤ a → a ≤ len → gu len (tn t) (pb n a t)) {kd : Int32} (hkd : ¬ kd = 2) {a : Nat} {t : tS} (ht : tOK t) (hn : tn t + 1 ≤ a) (hl : a ≤ len) (h0 : ¬ tx a = 0) : gd len (tn t) (pBou tx pe pb kd a t) := by
  have h96 := hx.1
  have ht1 : tOK (tAdd t kd 0 (nI a)) := tOK_add ht (by omega) (fun h => absurd h hkd)
  have h9 := hx.lt h0
  unfold pBou
  split
  · next h =>
    have h1 := hx.lt (a := a + 1) (by omega)
    have hg := hp (a + 1 + 1) _ ht1 (by rw [tn_add]; omega) (by omega)
    rw [tn_add] at hg
    generalize pe (a + 1 + 1) (tAdd t kd 0 (nI a)) = r at hg
    rcases r with ⟨c, a2, t2⟩ | ⟨a2, t2⟩
    · obtain ⟨rfl, g1, g2, g3, g4⟩ := hg
      have ht2 : tOK (tPart t2 (tn t) (tn t + 1)) := tOK_part g1 (by omega)
      show gd len (tn t) (if tx a2 = 32 then _ else _)
      split
      · next h4 =>
        have h5 := hx.lt (a := a2) (by omega)
        have hg2 := hb (tn t) (a2 + 1) _ ht2 (by rw [tn_part]; omega) (by omega)
        rw [tn_part] at hg2
        generalize pb (tn t) (a2 + 1) (tPart t2 (tn t) (tn t + 1)) = r2 at hg2
        rcases r2 with ⟨a4, t4⟩ | ⟨a4, t4⟩
        · obtain ⟨g5, g6, g7, g8⟩ := hg2
          exact g_bs hx (hb (tn t)) 2 a4 t4 g5 (by omega) g7 g8
        · obtain ⟨g5, g6, g7⟩ := hg2
          exact ⟨g5, by omega, g7⟩
      · exact ⟨ht2, by rw [tn_part]; omega, g4⟩
    · obtain ⟨g1, g2, g3⟩ := hg
      exact ⟨g1, by omega, g3⟩
  · exact ⟨ht1, by rw [tn_add]; omega, by omega⟩
theorem g_call (hx : txOK X len tx) {pe : Nat → tS → PR} (hp : GE len pe) {a : Nat} {t : tS} (ht : tOK t) (hn : tn t + 1 ≤ a) (hl : a ≤ len) : gd len (tn t) (pCall tx pe a t) := by
  have h96 := hx.1
  have hg := hp a _ (tOK_add (k := 11) (v := 0) (p := nI a) ht (by omega)) (by rw [tn_add]; omega) hl
  rw [tn_add] at hg
  unfold pCall
  generalize pe a (tAdd t 11 0 (nI a)) = r at hg
  rcases r with ⟨c, a2, t2⟩ | ⟨a2, t2⟩
  · obtain ⟨rfl, g1, g2, g3, g4⟩ := hg
    exact g_more hx hp 3 a2 _ (tOK_part g1 (by omega)) (by rw [tn_part]; omega) (by rw [tn_part]; exact g3) g4
  · obtain ⟨g1, g2, g3⟩ := hg
    exact ⟨g1, by omega, g3⟩
theorem g_op (hx : txOK X len tx) {pe : Nat → tS → PR} (hp : GE len pe) {o a : Nat} {t : tS} (ht : tOK t) (hn : tn t + 1 ≤ a) (hl : a < len) : gd len (tn t) (pOp tx pe o a t) := by
  have h96 := hx.1
  exact g_args hx hp _ _ _ (tOK_add ht (by omega)) (by rw [tn_add]; omega) (by rw [tn_add]; omega) (by omega)
theorem opO_0 : opO 0 = none := by decide
theorem g_bra (hx : txOK X len tx) {pe pe2 pe3 : Nat → tS → PR} (h1 : GE len pe) (h2 : GE len pe2) (h3 : GE len pe3) {d a : Nat} {t : tS} (ht : tOK t) (hn : tn t + 1 ≤ a) (hl : a ≤ len) : gd len (tn t) (pBra tx pe pe2 pe3 d a t) := by
  unfold pBra
  split
  · exact g_fun hx h1 ht hn hl
  · split
    · next h =>
      exact g_bou hx h1 (hkd := by split <;> decide) (fun n a t g1 g2 g3 => g_bind hx h2 (fun a t q1 q2 q3 => g_fun hx h3 q1 q2 q3) g1 g2 g3) ht hn hl (by omega)
    · split
      · exact g_call hx h1 ht hn hl
      · next o ho =>
        have h0 : ¬ tx a = 0 := fun e => by rw [e, opO_0] at ho; cases ho
        split
        · exact g_call hx h1 ht hn hl
        · exact g_op hx h1 ht hn (hx.lt h0)
theorem g_ex (hx : txOK X len tx) : ∀ f d, GE len (pEx tx f d)
  | 0, d, a, t, ht, hn, hl => ⟨ht, Nat.le_refl _, hl⟩
  | f + 1, d, a, t, ht, hn, hl => by
    have h96 := hx.1
    unfold pEx
    split
    · next h =>
      have h1 := hx.lt (a := a) (by omega)
      split
      · exact g_bra hx (g_ex hx f (d + 1)) (g_ex hx f (d + 2)) (g_ex hx f (d + 3)) ht (by omega) (by omega)
      · exact ⟨ht, Nat.le_refl _, hl⟩
    · split
      · next h2 =>
        have h1 := hx.lt (a := a) (by omega)
        have hg := g_dat hx 11 d (a + 1) _ (tOK_add (k := 4) (v := 0) (p := nI a) ht (by omega)) (by rw [tn_add]; omega) (by omega)
        rw [tn_add] at hg
        generalize pDat tx 11 d (a + 1) (tAdd t 4 0 (nI a)) = r at hg
        rcases r with ⟨c, a2, t2⟩ | ⟨a2, t2⟩
        · obtain ⟨rfl, g1, g2, g3, g4⟩ := hg
          exact ⟨rfl, tOK_part g1 (by omega), by rw [tn_part]; omega, by rw [tn_part]; exact g3, g4⟩
        · obtain ⟨g1, g2, g3⟩ := hg
          exact ⟨g1, by omega, g3⟩
      · exact g_atom hx a t ht hn hl
end RD
end
