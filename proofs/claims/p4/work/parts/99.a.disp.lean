section
def dW (o0 o1 o2 o3 o4 o5 o6 o7 o8 o9 o10 o11 o12 o13 o14 o15 o16 : mj_O) (z : Nat) (H T : Nat → Int64) (fr mk rc : Nat → Int32) (fN rN cN k : Int32) (n : Nat) (f : Nat → Nat) (r : Nat → Int64) (tl : List mj_O) : List mj_O :=
  sW o0 o1 o2 o3 o4 o5 o6 o7 o8 o9 o10 o11 o12 o13 o14 o15 o16 z H T fr mk rc fN rN cN (oF 8 [.ref 17, .ref 24, .ref 26, .int k] :: .inr (.inr (.inl (n, f))) :: .inr (.inr (.inr ())) :: oJ 120 r :: tl)
def shA : Vl → List Nat
  | .inr (.inl x) => (List.range (isz x)).map (ich x)
  | .inr (.inr (.inl x)) => [x.toNatClampNeg]
  | .inr (.inr (.inr (.inr _))) => [35]
  | _ => [40, 41]
theorem shA_len (v : Vl) : 1 ≤ (shA v).length ∧ (shA v).length ≤ 11 := by
  rcases v with u | x | x | i | i
  · simp [shA]
  · have := isz_in x
    simp [shA]
    omega
  · simp [shA]
  · simp [shA]
  · simp [shA]
def agr (l : List Nat) (f : Nat → Nat) : Prop := ∀ i, i < l.length → f i = l.getD i 0
theorem agr_cat {l s : List Nat} {f t : Nat → Nat} (h : agr l f) (ht : ∀ i, i < s.length → t i = s.getD i 0) : agr (l ++ s) (sb_cat f l.length t) := by
  intro i hi
  rw [List.length_append] at hi
  rw [List.getD_eq_getElem?_getD]
  by_cases h1 : i < l.length
  · rw [sb_cat_lo h1, h i h1, List.getElem?_append_left h1, List.getD_eq_getElem?_getD]
  · have e := sb_cat_hi (t := f) (s := t) (n := l.length) (j := i - l.length)
    rw [show l.length + (i - l.length) = i by omega] at e
    rw [e, ht _ (by omega), List.getElem?_append_right (by omega), List.getD_eq_getElem?_getD]
theorem agr_ints (x : Int32) : ∀ i, i < ((List.range (isz x)).map (ich x)).length → ich x i = ((List.range (isz x)).map (ich x)).getD i 0 := by
  intro i hi
  rw [List.length_map, List.length_range] at hi
  rw [List.getD_eq_getElem?_getD, List.getElem?_map, List.getElem?_range hi]
  rfl
def pot (n : Nat) : Nat := n * (n + 1)
theorem pot_step {n k : Nat} (h : n + 1 ≤ k) : 2 * k + pot n ≤ pot k := by
  obtain ⟨d, rfl⟩ : ∃ d, k = n + 1 + d := ⟨k - (n + 1), by omega⟩
  unfold pot
  have h1 : (n + 1 + d) * (n + 1 + d + 1) = n * (n + 1) + 2 * (n + 1) + d * (n + n + 3 + d) := by
    have := Nat.mul_comm n d
    simp only [Nat.mul_add, Nat.add_mul, Nat.mul_one, Nat.one_mul]
    omega
  have h2 : 2 * d ≤ d * (n + n + 3 + d) := by
    rw [Nat.mul_comm 2 d]
    exact Nat.mul_le_mul_left d (by omega)
  omega
theorem pot_le {n : Nat} (h : n ≤ 140) : pot n ≤ 19740 := by
  have := Nat.mul_le_mul h (show n + 1 ≤ 141 by omega)
  unfold pot
  omega
def dotA : Vl → List Nat
  | .inl _ => []
  | v => [32, 46, 32] ++ shA v
def endL (r : Nat → Vl) : Nat → List Nat → List Nat × Nat
  | 0, l => (l, 0)
  | k + 1, l => if kV (r k) = 3 ∨ 120 ≤ l.length then (l, k + 1) else endL r k ((l ++ dotA (r k)) ++ [41])
def shw (H T : Nat → Vl) : Nat → List Nat → (Nat → Vl) → Nat → Vl → List Nat × (Nat → Vl) × Nat
  | 0, l, r, k, _ => (l, r, k)
  | t + 1, l, r, k, v => if 120 ≤ l.length then (l, r, k) else
      if kV v = 3 then shw H T t (l ++ [40]) (upW r k (ofV T v)) (k + 1) (ofV H v)
      else if (endL r k (l ++ shA v)).2 = 0 then ((endL r k (l ++ shA v)).1, r, 0)
      else shw H T t ((endL r k (l ++ shA v)).1 ++ [32]) (upW r ((endL r k (l ++ shA v)).2 - 1) (ofV T (r ((endL r k (l ++ shA v)).2 - 1)))) (endL r k (l ++ shA v)).2 (ofV H (r ((endL r k (l ++ shA v)).2 - 1)))
theorem encV_0 {v : Vl} (h : encV v = 0) : v = vNil := by
  rcases v with u | x | x | i | i
  · rfl
  · exact absurd (congrArg (fun y => y.toBitVec.toNat) h) (by show (eK 1 x).toBitVec.toNat ≠ 0; rw [eK_nat 1 (by decide)]; omega)
  · exact absurd (congrArg (fun y => y.toBitVec.toNat) h) (by show (eK 2 x).toBitVec.toNat ≠ 0; rw [eK_nat 2 (by decide)]; omega)
  · exact absurd (congrArg (fun y => y.toBitVec.toNat) h) (by show (eK 3 (nI i)).toBitVec.toNat ≠ 0; rw [eK_nat 3 (by decide)]; omega)
  · exact absurd (congrArg (fun y => y.toBitVec.toNat) h) (by show (eK 4 (nI i)).toBitVec.toNat ≠ 0; rw [eK_nat 4 (by decide)]; omega)
section P2d
variable {m b0 b1 c0 s0 : Nat} {tl : List mj_O} {Q : mj_R → Prop} {xs : List Int32}
variable {o0 o1 o2 o3 o4 o5 o6 o7 o8 o9 o10 o11 o12 o13 o14 o15 o16 : mj_O} {z : Nat} {H T : Nat → Vl} {fr mk rc : Nat → Int32} {fN rN cN : Int32} {k : Int32} {r : Nat → Int64} {f : Nat → Nat} {l : List Nat}
set_option maxRecDepth 10000
theorem d_cost {n w b b' : Nat} (hw : 1 ≤ w) (h1 : s0 ≤ b + pot n) (q : b ≤ b' + 2 * (n + w)) : s0 ≤ b' + pot (n + w) := by
  have := pot_step (n := n) (k := n + w) (by omega)
  omega
theorem d_room {n w b : Nat} (hw : 1 ≤ w) (hn : n + w ≤ 140) (hs : 20000 ≤ s0) (h1 : s0 ≤ b + pot n) : 2 * (n + w) ≤ b := by
  have h2 := pot_step (n := n) (k := n + w) (by omega)
  have h3 := pot_le hn
  omega
theorem v_isPairX {cst : Nat → Option (Nat × (Nat → Int32))} {h : mj_H} {x : Int64} {v : Vl} (hx : x = encV v) (hQ : Q (.inl (some (.int (bJ (kV v == 3)))), h)) : mj_Mt gT cst gnw (m + 1) y_Value_isPair [.long x] h Q := by
  subst hx
  exact v_isPair hQ
theorem d_atom {x : Int64} {n : Nat} {v : Vl} (hx : x = encV v) (hn : n = l.length) (hv : okV z v) (hl : l.length ≤ 128) (hc : 200 ≤ c0) (hs : 20000 ≤ s0) (h0 : c0 ≤ b0 + l.length) (h1 : s0 ≤ b1 + pot l.length) (hf : agr l f) (hQ : ∀ f' b0' b1', agr (l ++ shA v) f' → c0 ≤ b0' + (l ++ shA v).length → s0 ≤ b1' + pot (l ++ shA v).length → Q (.inl none, (dW o0 o1 o2 o3 o4 o5 o6 o7 o8 o9 o10 o11 o12 o13 o14 o15 o16 z (eH H) (eH T) fr mk rc fN rN cN k (l ++ shA v).length f' r tl, b0', b1', false))) :
    mj_Mt gT (law_cst xs) gnw (m + 6) y_Display_showAtom [.ref 23, .long x] (dW o0 o1 o2 o3 o4 o5 o6 o7 o8 o9 o10 o11 o12 o13 o14 o15 o16 z (eH H) (eH T) fr mk rc fN rN cN k n f r tl, b0, b1, false) Q := by
  subst hx
  subst hn
  have hsl := shA_len v
  have hp := pot_le (n := l.length) (by omega)
  have hps := pot_step (n := l.length) (k := (l ++ shA v).length) (by rw [List.length_append]; omega)
  have hpl := pot_le (n := (l ++ shA v).length) (by rw [List.length_append]; omega)
  obtain ⟨bc, rfl⟩ : ∃ bc, b0 = bc + 1 := ⟨b0 - 1, by omega⟩
  have fin : ∀ (w : Nat) (t : Nat → Nat) (b0' b1' : Nat), w = (shA v).length → (∀ i, i < (shA v).length → t i = (shA v).getD i 0) → bc ≤ b0' → b1 ≤ b1' + 2 * (l.length + w) → Q (.inl none, (dW o0 o1 o2 o3 o4 o5 o6 o7 o8 o9 o10 o11 o12 o13 o14 o15 o16 z (eH H) (eH T) fr mk rc fN rN cN k (l.length + w) (sb_cat f l.length t) r tl, b0', b1', false)) := by
    rintro w t b0' b1' rfl ht q0 q1
    have := hQ (sb_cat f l.length t) b0' b1' (agr_cat hf ht) (by rw [List.length_append]; omega) (by rw [List.length_append] at *; omega)
    rw [List.length_append] at this
    exact this
  have hlen : (l ++ shA v).length = l.length + (shA v).length := List.length_append
  rw [hlen] at hps hpl
  intro J hJ
  refine hJ _ _ _ _ ?_
  refine v_isNumber ?_
  rcases v with u | x | x | i | i
  · refine And.intro (fun _ => ?_) (fun h => absurd rfl h)
    refine v_isSymbol ?_
    refine And.intro (fun _ => ?_) (fun h => absurd rfl h)
    refine v_isFunction ?_
    refine And.intro (fun _ => ?_) (fun h => absurd rfl h)
    refine x_appendS2011 (by omega) (d_room (w := 2) (by decide) (by omega) hs h1) (fun b0' b1' q0 q1 => ?_)
    exact fin 2 stx2011 b0' b1' rfl (show ∀ i, i < 2 → stx2011 i = ([40, 41] : List Nat).getD i 0 by decide) q0 q1
  · have hi := isz_in x
    have hw : (shA (vInt x)).length = isz x := by simp [shA]
    refine And.intro (fun h => absurd (show (1 : Int32) = 0 from h) (by decide)) (fun _ => ?_)
    refine v_content ?_
    rw [show (encV (vInt x)).toInt32 = x from eK_int 1 (by decide) x]
    refine x_appendI (by omega) (d_room (w := isz x) hi.1 (by omega) hs h1) (fun b0' b1' q0 q1 => ?_)
    exact fin (isz x) (ich x) b0' b1' hw.symm (agr_ints x) q0 q1
  · obtain ⟨c, hc9, rfl⟩ := hv
    refine And.intro (fun _ => ?_) (fun h => absurd rfl h)
    refine v_isSymbol ?_
    refine And.intro (fun h => absurd (show (1 : Int32) = 0 from h) (by decide)) (fun _ => ?_)
    refine v_content ?_
    rw [show (encV (vSym (nI c))).toInt32 = nI c from eK_int 2 (by decide) (nI c)]
    refine x_appendC (sb_byte c hc9).2.1 hc9 (by omega) (d_room (Nat.le_refl 1) (by omega) hs h1) (fun b0' b1' q0 q1 => ?_)
    exact fin 1 (fun _ => c) b0' b1' rfl (fun i hi => by
      obtain rfl : i = 0 := by simp [shA] at hi; omega
      show c = (nI c).toNatClampNeg
      rw [nI_clamp (by omega)]) q0 q1
  · refine And.intro (fun _ => ?_) (fun h => absurd rfl h)
    refine v_isSymbol ?_
    refine And.intro (fun _ => ?_) (fun h => absurd rfl h)
    refine v_isFunction ?_
    refine And.intro (fun _ => ?_) (fun h => absurd rfl h)
    refine x_appendS2011 (by omega) (d_room (w := 2) (by decide) (by omega) hs h1) (fun b0' b1' q0 q1 => ?_)
    exact fin 2 stx2011 b0' b1' rfl (show ∀ i, i < 2 → stx2011 i = ([40, 41] : List Nat).getD i 0 by decide) q0 q1
  · refine And.intro (fun _ => ?_) (fun h => absurd rfl h)
    refine v_isSymbol ?_
    refine And.intro (fun _ => ?_) (fun h => absurd rfl h)
    refine v_isFunction ?_
    refine And.intro (fun h => absurd (show (1 : Int32) = 0 from h) (by decide)) (fun _ => ?_)
    refine x_appendC (c := 35) rfl (by decide) (by omega) (d_room (Nat.le_refl 1) (by omega) hs h1) (fun b0' b1' q0 q1 => ?_)
    exact fin 1 (fun _ => 35) b0' b1' rfl (fun i hi => by
      obtain rfl : i = 0 := by simp [shA] at hi; omega
      rfl) q0 q1
theorem endL_le (r : Nat → Vl) : ∀ (k : Nat) (l : List Nat), (endL r k l).2 ≤ k ∧ l.length ≤ (endL r k l).1.length
  | 0, l => ⟨Nat.le_refl _, Nat.le_refl _⟩
  | k + 1, l => by
    unfold endL
    split
    · exact ⟨Nat.le_refl _, Nat.le_refl _⟩
    · obtain ⟨h1, h2⟩ := endL_le r k ((l ++ dotA (r k)) ++ [41])
      simp only [List.length_append] at h2
      omega
theorem dotA_len (v : Vl) : (dotA v).length ≤ 14 := by
  have := shA_len v
  rcases v with u | x | x | i | i <;> simp [dotA] <;> omega
theorem endL_len (r : Nat → Vl) : ∀ (k : Nat) (l : List Nat), l.length ≤ 134 → (endL r k l).1.length ≤ 134
  | 0, l, h => h
  | k + 1, l, h => by
    unfold endL
    split
    · exact h
    · next h9 =>
      refine endL_len r k _ ?_
      have := dotA_len (r k)
      simp only [List.length_append, List.length_cons, List.length_nil]
      omega
theorem d_endLoop {R : Nat → Vl} {J : Nat → mj_L → List Value → mj_H → Prop} (hJ : ∀ pc ls st h, mj_sg (mj_Mt gT (law_cst xs) gnw (m + 6)) (law_cst xs) gnw (mj_hd (mj_off kO_Display_endLists) kH_Display_endLists) kC_Display_endLists J Q 400 true pc ls st h → J pc ls st h) (hr : ∀ k, k < 120 → okV z (R k)) (hc : 200 ≤ c0) (hs : 20000 ≤ s0) :
    ∀ (k : Nat) (l : List Nat) (n : Nat) (f : Nat → Nat) (b0 b1 : Nat), n = l.length → k ≤ 120 → l.length ≤ 134 → c0 ≤ b0 + l.length → s0 ≤ b1 + pot l.length → agr l f → (∀ f' b0' b1', agr ((endL R k l).1) f' → c0 ≤ b0' + ((endL R k l).1).length → s0 ≤ b1' + pot ((endL R k l).1).length → Q (.inl none, (dW o0 o1 o2 o3 o4 o5 o6 o7 o8 o9 o10 o11 o12 o13 o14 o15 o16 z (eH H) (eH T) fr mk rc fN rN cN (nI (endL R k l).2) ((endL R k l).1).length f' (eH R) tl, b0', b1', false))) →
    J 0 [some (.ref 23)] [] (dW o0 o1 o2 o3 o4 o5 o6 o7 o8 o9 o10 o11 o12 o13 o14 o15 o16 z (eH H) (eH T) fr mk rc fN rN cN (nI k) n f (eH R) tl, b0, b1, false) := by
  intro k
  induction k with
  | zero =>
    intro l n f b0 b1 hn hk hl h0 h1 hf hQ
    subst hn
    refine hJ _ _ _ _ ?_
    refine And.intro (fun _ => ?_) (fun h => absurd (by decide) h)
    exact hQ f b0 b1 hf h0 h1
  | succ k ih =>
    intro l n f b0 b1 hn hk hl h0 h1 hf hQ
    subst hn
    have ek : nI (k + 1) - Int32.ofInt 1 = nI k := nI_pred k
    have ec : (nI k).toNatClampNeg = k := nI_clamp (by omega)
    obtain ⟨bc, rfl⟩ : ∃ bc, b0 = bc + 1 := ⟨b0 - 1, by omega⟩
    refine hJ _ _ _ _ ?_
    refine And.intro (fun h => absurd h (nI_nle (n := k + 1) (by omega) (by omega))) (fun _ => ?_)
    refine And.intro (show vp_in (nI (k + 1) - Int32.ofInt 1) 120 by rw [ek]; exact vp_in_nI (by omega) (by decide)) ?_
    refine v_isPairX (v := R k) (by rw [ek, ec]) ?_
    by_cases h3 : kV (R k) = 3
    · have e3 : (kV (R k) == 3) = true := by simpa using h3
      rw [e3]
      refine And.intro (fun _ => ?_) (fun h => absurd h (by decide))
      have e : endL R (k + 1) l = (l, k + 1) := by unfold endL; rw [if_pos (Or.inl h3)]
      rw [e] at hQ
      exact hQ f _ b1 hf h0 h1
    · have e3 : (kV (R k) == 3) = false := by simpa using h3
      rw [e3]
      refine And.intro (fun h => absurd rfl h) (fun _ => ?_)
      refine x_length ?_
      refine And.intro (fun h => ?_) (fun h => ?_)
      · have h9 : 120 ≤ l.length := (nI_leI (a := 120) (b := l.length) (by decide) (by omega)).mp h
        have e : endL R (k + 1) l = (l, k + 1) := by unfold endL; rw [if_pos (Or.inr h9)]
        rw [e] at hQ
        exact hQ f _ b1 hf h0 h1
      · have h9 : l.length < 120 := Nat.lt_of_not_le (fun q => h ((nI_leI (a := 120) (b := l.length) (by decide) (by omega)).mpr q))
        have e : endL R (k + 1) l = endL R k ((l ++ dotA (R k)) ++ [41]) := by
          rw [endL, if_neg (by omega)]
        rw [e] at hQ
        have hdl := dotA_len (R k)
        have close : ∀ (F : Nat) (o : Int32) (l1 : List Nat) (n1 : Nat) (f1 : Nat → Nat) (d0 d1 : Nat), o = nI k → l1 = l ++ dotA (R k) → n1 = l1.length → agr l1 f1 → c0 ≤ d0 + l1.length → s0 ≤ d1 + pot l1.length → mj_sg (mj_Mt gT (law_cst xs) gnw (m + 6)) (law_cst xs) gnw (mj_hd (mj_off kO_Display_endLists) kH_Display_endLists) kC_Display_endLists J Q (F + 20) false 43 [some (.ref 23)] [] (dW o0 o1 o2 o3 o4 o5 o6 o7 o8 o9 o10 o11 o12 o13 o14 o15 o16 z (eH H) (eH T) fr mk rc fN rN cN o n1 f1 (eH R) tl, d0, d1, false) := by
          rintro F o l1 n1 f1 d0 d1 rfl rfl rfl hf1 g0 g1
          have hll : (l ++ dotA (R k)).length ≤ 133 := by rw [List.length_append]; omega
          obtain ⟨bd, rfl⟩ : ∃ bd, d0 = bd + 1 := ⟨d0 - 1, by omega⟩
          refine x_appendC (c := 41) rfl (by decide) (by omega) (d_room (Nat.le_refl 1) (by omega) hs g1) (fun b0' b1' q0 q1 => ?_)
          refine ih ((l ++ dotA (R k)) ++ [41]) _ _ _ _ (List.length_append (bs := [41])).symm (by omega) (by rw [List.length_append]; simp only [List.length_cons, List.length_nil]; omega) (by rw [List.length_append]; simp only [List.length_cons, List.length_nil]; omega) (by rw [List.length_append (bs := [41])]; exact d_cost (Nat.le_refl 1) g1 q1) (agr_cat hf1 (fun i hi => ?_)) hQ
          obtain rfl : i = 0 := by simp at hi; omega
          rfl
        have vin : vp_in (nI (k + 1) - Int32.ofInt 1) 120 := by rw [ek]; exact vp_in_nI (by omega) (by decide)
        refine And.intro vin ?_
        have hx : ∀ j, j = k → lg_cmp (eH R j) (Int64.ofNat 0) = 0 → R k = vNil := by
          rintro j rfl h
          exact encV_0 (lg_eq.mp h)
        refine And.intro (fun h => ?_) (fun h => ?_)
        · have h8 : R k = vNil := hx _ (by rw [ek]; exact ec) h
          exact close _ _ l _ _ _ _ ek (by rw [h8]; exact (List.append_nil l).symm) rfl hf (by omega) h1
        · have h8 : dotA (R k) = [32, 46, 32] ++ shA (R k) := by
            have h7 : ¬ R k = vNil := fun q => h (lg_eq.mpr (by rw [ek, ec]; show encV (R k) = _; rw [q]; rfl))
            generalize R k = w at h7
            rcases w with u | x | x | i | i
            · exact absurd rfl h7
            all_goals rfl
          refine x_appendS2010 (by omega) (d_room (w := 3) (by decide) (by omega) hs h1) (fun b0' b1' q0 q1 => ?_)
          refine And.intro vin ?_
          refine d_atom (l := l ++ [32, 46, 32]) (v := R k) (by rw [ek, ec]) (by rw [List.length_append]; rfl) (hr k (by omega)) (by rw [List.length_append]; simp only [List.length_cons, List.length_nil]; omega) hc hs (by rw [List.length_append]; simp only [List.length_cons, List.length_nil]; omega) (by rw [List.length_append (bs := [32, 46, 32])]; exact d_cost (w := 3) (by decide) h1 q1) (agr_cat hf (show ∀ i, i < 3 → stx2010 i = ([32, 46, 32] : List Nat).getD i 0 by decide)) (fun f2 e0 e1 a1 a2 a3 => ?_)
          refine close _ _ (l ++ dotA (R k)) _ _ _ _ ek rfl ?_ ?_ ?_ ?_
          · rw [h8, List.append_assoc]
          · rw [h8, ← List.append_assoc]; exact a1
          · rw [h8, ← List.append_assoc]; exact a2
          · rw [h8, ← List.append_assoc]; exact a3
theorem d_end {R : Nat → Vl} {n k : Nat} (hn : n = l.length) (hr : ∀ k, k < 120 → okV z (R k)) (hk : k ≤ 120) (hl : l.length ≤ 134) (hc : 200 ≤ c0) (hs : 20000 ≤ s0) (h0 : c0 ≤ b0 + l.length) (h1 : s0 ≤ b1 + pot l.length) (hf : agr l f) (hQ : ∀ f' b0' b1', agr ((endL R k l).1) f' → c0 ≤ b0' + ((endL R k l).1).length → s0 ≤ b1' + pot ((endL R k l).1).length → Q (.inl none, (dW o0 o1 o2 o3 o4 o5 o6 o7 o8 o9 o10 o11 o12 o13 o14 o15 o16 z (eH H) (eH T) fr mk rc fN rN cN (nI (endL R k l).2) ((endL R k l).1).length f' (eH R) tl, b0', b1', false))) :
    mj_Mt gT (law_cst xs) gnw (m + 7) y_Display_endLists [.ref 23] (dW o0 o1 o2 o3 o4 o5 o6 o7 o8 o9 o10 o11 o12 o13 o14 o15 o16 z (eH H) (eH T) fr mk rc fN rN cN (nI k) n f (eH R) tl, b0, b1, false) Q := by
  intro J hJ
  exact d_endLoop hJ hr hc hs k l n f b0 b1 hn hk hl h0 h1 hf hQ
theorem s_headX {cst : Nat → Option (Nat × (Nat → Int32))} {op : Bool} {x : Int64} {v : Vl} {tR : Nat → Int64} (hx : x = encV v) (hz : z ≤ 250) (hv : okV z v) (hQ : Q (.inl (some (.long (encV (ofV H v)))), (sW o0 o1 o2 o3 o4 o5 o6 o7 o8 o9 o10 o11 o12 o13 o14 o15 o16 z (eH H) tR fr mk rc fN rN cN tl, b0, b1, op))) : mj_Mt gT cst gnw (m + 2) y_Store_head [.ref 17, .long x] (sW o0 o1 o2 o3 o4 o5 o6 o7 o8 o9 o10 o11 o12 o13 o14 o15 o16 z (eH H) tR fr mk rc fN rN cN tl, b0, b1, op) Q := by
  subst hx
  exact s_head hz hv hQ
theorem s_tailX {cst : Nat → Option (Nat × (Nat → Int32))} {op : Bool} {x : Int64} {v : Vl} {hR : Nat → Int64} (hx : x = encV v) (hz : z ≤ 250) (hv : okV z v) (hQ : Q (.inl (some (.long (encV (ofV T v)))), (sW o0 o1 o2 o3 o4 o5 o6 o7 o8 o9 o10 o11 o12 o13 o14 o15 o16 z hR (eH T) fr mk rc fN rN cN tl, b0, b1, op))) : mj_Mt gT cst gnw (m + 2) y_Store_tail [.ref 17, .long x] (sW o0 o1 o2 o3 o4 o5 o6 o7 o8 o9 o10 o11 o12 o13 o14 o15 o16 z hR (eH T) fr mk rc fN rN cN tl, b0, b1, op) Q := by
  subst hx
  exact s_tail hz hv hQ
theorem okV_of2 {z : Nat} {g : Nat → Vl} {v : Vl} (hg : ∀ i, i < z → okV z (g i)) (hv : okV z v) : okV z (ofV g v) := by
  rcases v with u | x | x | i | i
  · exact trivial
  · exact trivial
  · exact trivial
  · exact hg i hv
  · exact hg i hv
theorem d_showLoop {r0 : Int64} {J : Nat → mj_L → List Value → mj_H → Prop} (hJ : ∀ pc ls st h, mj_sg (mj_Mt gT (law_cst xs) gnw (m + 7)) (law_cst xs) gnw (mj_hd (mj_off kO_Display_show) kH_Display_show) kC_Display_show J Q 400 true pc ls st h → J pc ls st h) (hz : z ≤ 250) (hH : ∀ i, i < z → okV z (H i)) (hT : ∀ i, i < z → okV z (T i)) (hc : 200 ≤ c0) (hs : 20000 ≤ s0) :
    ∀ (u t : Nat) (l : List Nat) (n : Nat) (f : Nat → Nat) (R : Nat → Vl) (k : Nat) (v : Vl) (b0 b1 : Nat), u + t = 120 → n = l.length → k ≤ l.length → l.length ≤ 135 → okV z v → (∀ k, k < 120 → okV z (R k)) → c0 ≤ b0 + l.length → s0 ≤ b1 + pot l.length → agr l f → (∀ f' b0' b1', agr ((shw H T u l R k v).1) f' → c0 ≤ b0' + ((shw H T u l R k v).1).length → s0 ≤ b1' + pot ((shw H T u l R k v).1).length → Q (.inl none, (dW o0 o1 o2 o3 o4 o5 o6 o7 o8 o9 o10 o11 o12 o13 o14 o15 o16 z (eH H) (eH T) fr mk rc fN rN cN (nI (shw H T u l R k v).2.2) ((shw H T u l R k v).1).length f' (eH (shw H T u l R k v).2.1) tl, b0', b1', false))) →
    J 11 [some (.ref 23), some (.long r0), none, some (.long (encV v)), none, some (.int (nI t))] [] (dW o0 o1 o2 o3 o4 o5 o6 o7 o8 o9 o10 o11 o12 o13 o14 o15 o16 z (eH H) (eH T) fr mk rc fN rN cN (nI k) n f (eH R) tl, b0, b1, false) := by
  intro u
  induction u with
  | zero =>
    intro t l n f R k v b0 b1 hu hn hk hl hv hr h0 h1 hf hQ
    subst hn
    obtain rfl : t = 120 := by omega
    refine hJ _ _ _ _ ?_
    refine And.intro (fun _ => ?_) (fun h => absurd (by decide) h)
    exact hQ f b0 b1 hf h0 h1
  | succ u ih =>
    intro t l n f R k v b0 b1 hu hn hk hl hv hr h0 h1 hf hQ
    subst hn
    obtain ⟨bc, rfl⟩ : ∃ bc, b0 = bc + 1 := ⟨b0 - 1, by omega⟩
    refine hJ _ _ _ _ ?_
    refine And.intro (fun h => absurd h (nI_ge (a := t) (b := 120) (by omega) (by decide))) (fun _ => ?_)
    refine x_length ?_
    refine And.intro (fun h => ?_) (fun h => ?_)
    · have h9 : 120 ≤ l.length := (nI_leI (a := 120) (b := l.length) (by decide) (by omega)).mp h
      have e : shw H T (u + 1) l R k v = (l, R, k) := by rw [shw, if_pos h9]
      rw [e] at hQ
      exact hQ f _ b1 hf h0 h1
    · have h9 : l.length < 120 := Nat.lt_of_not_le (fun q => h ((nI_leI (a := 120) (b := l.length) (by decide) (by omega)).mpr q))
      have ec : (nI k).toNatClampNeg = k := nI_clamp (by omega)
      refine v_isPair ?_
      by_cases h3 : kV v = 3
      · have e3 : (kV v == 3) = true := by simpa using h3
        have e : shw H T (u + 1) l R k v = shw H T u (l ++ [40]) (upW R k (ofV T v)) (k + 1) (ofV H v) := by rw [shw, if_neg (by omega), if_pos h3]
        rw [e] at hQ
        rw [e3]
        refine And.intro (fun h => absurd h (by decide)) (fun _ => ?_)
        refine And.intro (fun h => absurd h (nI_ge (a := k) (b := 120) (by omega) (by decide))) (fun _ => ?_)
        refine x_appendC (c := 40) rfl (by decide) (by omega) (d_room (Nat.le_refl 1) (by omega) hs h1) (fun b0' b1' q0 q1 => ?_)
        refine s_tailX rfl hz hv ?_
        refine And.intro (vp_in_nI (by omega) (by decide)) ?_
        refine s_headX rfl hz hv ?_
        have key : ∀ (i : Nat) (o t' : Int32), i = k → o = nI (k + 1) → t' = nI (t + 1) → J 11 [some (.ref 23), some (.long r0), none, some (.long (encV (ofV H v))), none, some (.int t')] [] (dW o0 o1 o2 o3 o4 o5 o6 o7 o8 o9 o10 o11 o12 o13 o14 o15 o16 z (eH H) (eH T) fr mk rc fN rN cN o (l.length + 1) (sb_cat f l.length (fun _ => 40)) (vp_updL (eH R) i (encV (ofV T v))) tl, b0', b1', false) := by
          rintro i o t' rfl rfl rfl
          rw [updL_enc]
          refine ih (t + 1) (l ++ [40]) _ _ _ _ _ _ _ (by omega) (List.length_append (bs := [40])).symm (by rw [List.length_append]; simp only [List.length_cons, List.length_nil]; omega) (by rw [List.length_append]; simp only [List.length_cons, List.length_nil]; omega) (okV_of2 hH hv) (fun j hj => ?_) (by rw [List.length_append]; simp only [List.length_cons, List.length_nil]; omega) (by rw [List.length_append (bs := [40])]; exact d_cost (Nat.le_refl 1) h1 q1) (agr_cat hf (fun i hi => ?_)) hQ
          · unfold upW
            split
            · exact okV_of2 hT hv
            · exact hr j hj
          · obtain rfl : i = 0 := by simp at hi; omega
            rfl
        exact key _ _ _ ec (nI_1 k) (nI_1 t)
      · have e3 : (kV v == 3) = false := by simpa using h3
        rw [e3]
        refine And.intro (fun _ => ?_) (fun h => absurd rfl h)
        have hsl := shA_len v
        have hll : (l ++ shA v).length ≤ 130 := by rw [List.length_append]; omega
        obtain ⟨hel, hel2⟩ := endL_le R k (l ++ shA v)
        have hel3 := endL_len R k (l ++ shA v) (by omega)
        refine d_atom rfl rfl hv (by omega) hc hs (by omega) h1 hf (fun f2 e0 e1 a1 a2 a3 => ?_)
        refine d_end rfl hr (by omega) (by omega) hc hs a2 a3 a1 (fun f3 g0 g1 c1 c2 c3 => ?_)
        have e : shw H T (u + 1) l R k v = if (endL R k (l ++ shA v)).2 = 0 then ((endL R k (l ++ shA v)).1, R, 0) else shw H T u ((endL R k (l ++ shA v)).1 ++ [32]) (upW R ((endL R k (l ++ shA v)).2 - 1) (ofV T (R ((endL R k (l ++ shA v)).2 - 1)))) (endL R k (l ++ shA v)).2 (ofV H (R ((endL R k (l ++ shA v)).2 - 1))) := by rw [shw, if_neg (by omega), if_neg h3]
        rw [e] at hQ
        generalize hE : endL R k (l ++ shA v) = E at *
        obtain ⟨L, q⟩ := E
        by_cases hq : q = 0
        · subst hq
          rw [if_pos rfl] at hQ
          refine And.intro (fun h => absurd rfl h) (fun _ => ?_)
          exact hQ f3 g0 g1 c1 c2 c3
        · obtain ⟨j, rfl⟩ : ∃ j, q = j + 1 := ⟨q - 1, by omega⟩
          rw [if_neg hq] at hQ
          have hel : j + 1 ≤ k := hel
          have hel3 : L.length ≤ 134 := hel3
          have hel2 : (l ++ shA v).length ≤ L.length := hel2
          have hlk : l.length ≤ L.length := by rw [List.length_append] at hel2; omega
          have ek : nI (j + 1) - Int32.ofInt 1 = nI j := nI_pred j
          have ecj : (nI j).toNatClampNeg = j := nI_clamp (by omega)
          have vin : vp_in (nI (j + 1) - Int32.ofInt 1) 120 := by rw [ek]; exact vp_in_nI (by omega) (by decide)
          have c2 : c0 ≤ g0 + L.length := c2
          have c3 : s0 ≤ g1 + pot L.length := c3
          obtain ⟨bd, rfl⟩ : ∃ bd, g0 = bd + 1 := ⟨g0 - 1, by omega⟩
          refine And.intro (fun _ => ?_) (fun h => absurd h (nI_ne0 (n := j + 1) (by omega) (by omega)))
          refine x_appendC (c := 32) rfl (by decide) (by omega) (d_room (Nat.le_refl 1) (by omega) hs c3) (fun b0' b1' q0 q1 => ?_)
          refine And.intro vin ?_
          refine s_headX (v := R j) (by rw [ek, ecj]) hz (hr j (by omega)) ?_
          refine And.intro vin ?_
          refine s_tailX (v := R j) (by rw [ek, ecj]) hz (hr j (by omega)) ?_
          refine And.intro vin ?_
          have key : ∀ (i : Nat) (t' : Int32), i = j → t' = nI (t + 1) → J 11 [some (.ref 23), some (.long r0), none, some (.long (encV (ofV H (R j)))), none, some (.int t')] [] (dW o0 o1 o2 o3 o4 o5 o6 o7 o8 o9 o10 o11 o12 o13 o14 o15 o16 z (eH H) (eH T) fr mk rc fN rN cN (nI (j + 1)) (L.length + 1) (sb_cat f3 L.length (fun _ => 32)) (vp_updL (eH R) i (encV (ofV T (R j)))) tl, b0', b1', false) := by
            rintro i t' rfl rfl
            rw [updL_enc]
            refine ih (t + 1) (L ++ [32]) _ _ _ _ _ _ _ (by omega) (List.length_append (bs := [32])).symm (by rw [List.length_append]; simp only [List.length_cons, List.length_nil]; omega) (by rw [List.length_append]; simp only [List.length_cons, List.length_nil]; omega) (okV_of2 hH (hr i (by omega))) (fun j hj => ?_) (by rw [List.length_append]; simp only [List.length_cons, List.length_nil]; omega) (by rw [List.length_append (bs := [32])]; exact d_cost (Nat.le_refl 1) c3 q1) (agr_cat c1 (fun i hi => ?_)) hQ
            · unfold upW
              split
              · exact okV_of2 hT (hr i (by omega))
              · exact hr j hj
            · obtain rfl : i = 0 := by simp at hi; omega
              rfl
          exact key _ _ (by rw [ek]; exact ecj) (nI_1 t)
theorem d_show {v : Vl} {R : Nat → Vl} {n : Nat} {op : Bool} (hz : z ≤ 250) (hH : ∀ i, i < z → okV z (H i)) (hT : ∀ i, i < z → okV z (T i)) (hc : 200 ≤ b0) (hs : 20000 ≤ b1) (hv : okV z v) (hr : ∀ k, k < 120 → okV z (R k))
    (hQ : ∀ f' b0' b1', agr (shw H T 120 [] R 0 v).1 f' → b0 ≤ b0' + (shw H T 120 [] R 0 v).1.length → b1 ≤ b1' + pot (shw H T 120 [] R 0 v).1.length → Q (.inl none, (dW o0 o1 o2 o3 o4 o5 o6 o7 o8 o9 o10 o11 o12 o13 o14 o15 o16 z (eH H) (eH T) fr mk rc fN rN cN (nI (shw H T 120 [] R 0 v).2.2) (shw H T 120 [] R 0 v).1.length f' (eH (shw H T 120 [] R 0 v).2.1) tl, b0', b1', false))) :
    mj_Mt gT (law_cst xs) gnw (m + 8) y_Display_show [.ref 23, .long (encV v)] (dW o0 o1 o2 o3 o4 o5 o6 o7 o8 o9 o10 o11 o12 o13 o14 o15 o16 z (eH H) (eH T) fr mk rc fN rN cN k n f (eH R) tl, b0, b1, op) Q := by
  obtain ⟨bc, rfl⟩ : ∃ bc, b0 = bc + 1 := ⟨b0 - 1, by omega⟩
  intro J hJ
  refine hJ _ _ _ _ ?_
  refine x_setLength (fun f' => ?_)
  exact d_showLoop hJ hz hH hT hc hs 120 0 [] 0 f' R 0 v (bc + 1) b1 rfl rfl (Nat.zero_le _) (by decide) hv hr (Nat.le_refl _) (by show b1 ≤ b1 + pot 0; omega) (fun i hi => absurd hi (by simp)) hQ
theorem d_codeAt {op : Bool} {R : Nat → Int64} {x : Int32} (hl : l.length ≤ 140) (hf : agr l f) (hQ : ∀ op', Q (.inl (some (.int (if 0 ≤ x ∧ x < 120 ∧ x < nI l.length then nI (l.getD x.toNatClampNeg 0) else -1))), (dW o0 o1 o2 o3 o4 o5 o6 o7 o8 o9 o10 o11 o12 o13 o14 o15 o16 z (eH H) (eH T) fr mk rc fN rN cN k l.length f R tl, b0 + 1, b1, op'))) :
    mj_Mt gT (law_cst xs) gnw (m + 5) y_Display_codeAt [.ref 23, .int x] (dW o0 o1 o2 o3 o4 o5 o6 o7 o8 o9 o10 o11 o12 o13 o14 o15 o16 z (eH H) (eH T) fr mk rc fN rN cN k l.length f R tl, b0 + 1, b1, op) Q := by
  intro J hJ
  refine hJ _ _ _ _ ?_
  refine And.intro (fun h => ?_) (fun h => ?_)
  · rw [if_neg (fun q => absurd h (Int32.not_lt.mpr q.1))] at hQ
    exact hQ op
  · refine And.intro (fun h2 => ?_) (fun h2 => ?_)
    · rw [if_neg (fun q => absurd q.2.1 (Int32.not_lt.mpr h2))] at hQ
      exact hQ op
    · refine x_length ?_
      refine And.intro (fun h3 => ?_) (fun h3 => ?_)
      · rw [if_neg (fun q => absurd q.2.2 (Int32.not_lt.mpr h3))] at hQ
        exact hQ false
      · have h3 : x < nI l.length := Int32.not_le.mp h3
        rw [if_pos ⟨Int32.not_lt.mp h, Int32.not_le.mp h2, h3⟩] at hQ
        obtain ⟨i, hi, rfl⟩ := nI_of h
        have hi2 : i < l.length := (nI_ltI hi (by omega)).mp h3
        rw [nI_clamp hi] at hQ
        refine x_charAt hi2 ?_
        rw [hf i hi2]
        exact hQ false
end P2d
end
section
abbrev fW (o0 o1 o2 o3 o4 o5 o6 o7 o8 o9 o10 o11 o12 o13 o14 o15 : mj_O) (S E C D : Vl) (mode colls taken steps : Int32) (z : Nat) (H T : Nat → Vl) (fr : Nat → Nat) (g : gS) (f c : Nat) (k : Int32) (n : Nat) (fb : Nat → Nat) (R : Nat → Vl) (tl : List mj_O) : List mj_O :=
  mW o0 o1 o2 o3 o4 o5 o6 o7 o8 o9 o10 o11 o12 o13 o14 o15 (encV S) (encV E) (encV C) (encV D) mode colls taken steps z (eH H) (eH T) (eN fr) (eB g.1) (eN g.2.1) (nI f) (nI g.2.2) (nI c) (oF 8 [.ref 17, .ref 24, .ref 26, .int k] :: .inr (.inr (.inl (n, fb))) :: .inr (.inr (.inr ())) :: oJ 120 (eH R) :: tl)
def mOK (z : Nat) (S E C D : Vl) (H T : Nat → Vl) : Prop := okA z H ∧ okA z T ∧ okV z S ∧ okV z E ∧ okV z C ∧ okV z D
def dOK (z n : Nat) (fb : Nat → Nat) (R : Nat → Vl) : Prop := (∃ l : List Nat, l.length = n ∧ n ≤ 135 ∧ agr l fb) ∧ ∀ k, k < 120 → okV z (R k)
theorem fuN_fr {z : Nat} (mk : Nat → Bool) : ∀ (j c : Nat) (p : (Nat → Nat) × Nat), c + j ≤ z → (∀ i, i < z → p.1 i < z) → ∀ i, i < z → (fuN mk j c p).1 i < z
  | 0, c, p, _, h => h
  | j + 1, c, p, hc, h => by
    unfold fuN
    split
    · exact fuN_fr mk j (c + 1) p (by omega) h
    · refine fuN_fr mk j (c + 1) _ (by omega) (fun i hi => ?_)
      show upW p.1 p.2 c i < z
      unfold upW
      split
      · omega
      · exact h i hi
theorem shw_ok {z : Nat} {H T : Nat → Vl} (hH : ∀ i, i < z → okV z (H i)) (hT : ∀ i, i < z → okV z (T i)) : ∀ (t : Nat) (l : List Nat) (R : Nat → Vl) (k : Nat) (v : Vl), k ≤ l.length → l.length ≤ 135 → okV z v → (∀ k, k < 120 → okV z (R k)) → (shw H T t l R k v).1.length ≤ 135 ∧ ∀ k', k' < 120 → okV z ((shw H T t l R k v).2.1 k')
  | 0, l, R, k, v, _, hl, _, hR => ⟨hl, hR⟩
  | t + 1, l, R, k, v, hk, hl, hv, hR => by
    unfold shw
    split
    · exact ⟨hl, hR⟩
    · next h1 =>
      split
      · refine shw_ok hH hT t _ _ _ _ (by rw [List.length_append]; simp only [List.length_cons, List.length_nil]; omega) (by rw [List.length_append]; simp only [List.length_cons, List.length_nil]; omega) (okV_of2 hH hv) (fun j hj => ?_)
        unfold upW
        split
        · exact okV_of2 hT hv
        · exact hR j hj
      · have hsl := shA_len v
        have hll : (l ++ shA v).length ≤ 130 := by rw [List.length_append]; omega
        obtain ⟨hel, hel2⟩ := endL_le R k (l ++ shA v)
        have hel3 := endL_len R k (l ++ shA v) (by omega)
        rw [List.length_append] at hel2
        split
        · exact ⟨by show (endL R k (l ++ shA v)).1.length ≤ 135; omega, hR⟩
        · next h2 =>
          refine shw_ok hH hT t _ _ _ _ (by rw [List.length_append]; simp only [List.length_cons, List.length_nil]; omega) (by rw [List.length_append]; simp only [List.length_cons, List.length_nil]; omega) (okV_of2 hH (hR _ (by omega))) (fun j hj => ?_)
          unfold upW
          split
          · exact okV_of2 hT (hR _ (by omega))
          · exact hR j hj
def need (i : Nat) : Nat := ([0, 1, 1, 2, 4, 1, 1, 3, 1, 0, 1, 1, 1, 2, 1, 1, 1, 1, 1, 0] : List Nat).getD i 0
def needX (x : Int32) : Nat := if 0 ≤ x ∧ x < 20 then need x.toNatClampNeg else 0
theorem need_le : ∀ i, i < 20 → need i ≤ 4 := by decide
theorem needX_le (x : Int32) : needX x ≤ 4 := by
  unfold needX
  split
  · next h =>
    obtain ⟨i, hi, rfl⟩ := nI_of (Int32.not_lt.mpr h.1)
    have : i < 20 := (nI_ltI hi (by decide)).mp h.2
    rw [nI_clamp hi]
    exact need_le i this
  · omega
section P2e
variable {cst : Nat → Option (Nat × (Nat → Int32))} {m b0 b1 : Nat} {op : Bool} {tl : List mj_O} {Q : mj_R → Prop} {xs : List Int32}
variable {o0 o1 o2 o3 o4 o5 o6 o7 o8 o9 o10 o11 o12 o13 o14 o15 o16 : mj_O} {S E C D : Vl} {mode colls taken steps : Int32} {z : Nat} {H T : Nat → Vl} {fr : Nat → Nat} {g : gS} {f c : Nat} {k : Int32} {n : Nat} {fb : Nat → Nat} {R : Nat → Vl}
variable {hR tR : Nat → Int64} {frR mk rc : Nat → Int32} {fN rN cN : Int32}
set_option maxRecDepth 10000
theorem o_needs {h : mj_H} {x : Int32} (hQ : Q (.inl (some (.int (nI (needX x)))), h)) : mj_Mt gT (law_cst xs) gnw (m + 1) y_Op_needs [.int x] h Q := by
  intro J hJ
  refine hJ _ _ _ _ ?_
  refine And.intro (fun h1 => ?_) (fun h1 => ?_)
  · rw [show needX x = 0 from if_neg (fun q => absurd h1 (Int32.not_lt.mpr q.1))] at hQ
    exact hQ
  · refine And.intro (fun h2 => ?_) (fun h2 => ?_)
    · rw [show needX x = 0 from if_neg (fun q => absurd q.2 (Int32.not_lt.mpr h2))] at hQ
      exact hQ
    · have h2 : x < nI 20 := Int32.not_le.mp h2
      obtain ⟨i, hi, rfl⟩ := nI_of h1
      have hi2 : i < 20 := (nI_ltI hi (by decide)).mp h2
      refine And.intro (vp_in_nI hi2 (by decide)) ?_
      have e : needX (nI i) = need i := by
        unfold needX
        rw [if_pos ⟨Int32.not_lt.mp h1, h2⟩, nI_clamp hi]
      rw [e] at hQ
      have e2 : law_nd.getD i 0 = nI (need i) := (by decide : ∀ i, i < 20 → law_nd.getD i 0 = nI (need i)) i hi2
      have key : ∀ j, j = i → Q (.inl (some (.int (law_nd.getD j 0))), h) := by
        rintro j rfl
        rw [e2]
        exact hQ
      exact key _ (nI_clamp hi)
theorem s_freeCells (hQ : Q (.inl (some (.int fN)), (sW o0 o1 o2 o3 o4 o5 o6 o7 o8 o9 o10 o11 o12 o13 o14 o15 o16 z hR tR frR mk rc fN rN cN tl, b0, b1, op))) : mj_Mt gT cst gnw (m + 1) y_Store_freeCells [.ref 17] (sW o0 o1 o2 o3 o4 o5 o6 o7 o8 o9 o10 o11 o12 o13 o14 o15 o16 z hR tR frR mk rc fN rN cN tl, b0, b1, op) Q := by
  intro J hJ
  refine hJ _ _ _ _ ?_
  exact hQ
theorem s_behindX {v : Vl} {w : Int32} (hz : z ≤ 250) (hT : ∀ i, i < z → okV z (T i)) (hv : okV z v) (hQ : Q (.inl (some (.long (encV (behV T w.toNatClampNeg v)))), (sW o0 o1 o2 o3 o4 o5 o6 o7 o8 o9 o10 o11 o12 o13 o14 o15 o16 z hR (eH T) frR mk rc fN rN cN tl, b0, b1, op))) : mj_Mt gT cst gnw (m + 3) y_Store_behind [.ref 17, .long (encV v), .int w] (sW o0 o1 o2 o3 o4 o5 o6 o7 o8 o9 o10 o11 o12 o13 o14 o15 o16 z hR (eH T) frR mk rc fN rN cN tl, b0, b1, op) Q := by
  by_cases hw : w < 0
  · have e : w.toNatClampNeg = 0 := by
      rw [Int32.lt_iff_toInt_lt, Int32.toInt_zero] at hw
      show w.toInt.toNat = 0
      omega
    rw [e] at hQ
    intro J hJ
    refine hJ _ _ _ _ ?_
    refine hJ _ _ _ _ ?_
    exact And.intro (fun _ => hQ) (fun h => absurd (show w ≤ 0 from Int32.le_of_lt hw) h)
  · obtain ⟨n, hn, rfl⟩ := nI_of hw
    rw [nI_clamp hn] at hQ
    exact s_behind hz hn hT hv hQ
theorem k_variableX {x : Int32} (hv : (encV (ofV H (ofV T C))).toInt32 = x) (hz : z ≤ 250) (hA : okA z H) (hB : okA z T) (hfr : ∀ j, j < z → fr j < z) (hS : okV z S) (hE : okV z E) (hC : okV z C) (hf : f + 1 ≤ z)
    (h1 : Q (.inl (some (.int 0)), (mW o0 o1 o2 o3 o4 o5 o6 o7 o8 o9 o10 o11 o12 o13 o14 o15 (encV S) (encV E) (encV C) (encV D) mode colls taken steps z (eH H) (eH T) (eN fr) mk rc (nI (f + 1)) rN cN tl, b0, b1, op)))
    (h3 : ∀ v, okV z v → Q (.inl (some (.int 1)), (mW o0 o1 o2 o3 o4 o5 o6 o7 o8 o9 o10 o11 o12 o13 o14 o15 (encV (vPr (fr f))) (encV E) (encV (ofV (upW T (fr f) S) (ofV T C))) (encV D) mode colls taken steps z (eH (upW H (fr f) (ofV H v))) (eH (upW T (fr f) S)) (eN fr) mk rc (nI f) rN cN tl, b0, b1, op))) : mj_Mt gT cst gnw (m + 4) y_Machine_variable [.ref 16] (mW o0 o1 o2 o3 o4 o5 o6 o7 o8 o9 o10 o11 o12 o13 o14 o15 (encV S) (encV E) (encV C) (encV D) mode colls taken steps z (eH H) (eH T) (eN fr) mk rc (nI (f + 1)) rN cN tl, b0, b1, op) Q := by
  intro J hJ
  refine hJ _ _ _ _ ?_
  refine s_tail hz hC ?_
  refine s_head hz (okV_of hB hC) ?_
  refine v_content ?_
  rw [hv]
  refine And.intro (by decide) ?_
  refine s_behindX hz hB hE ?_
  generalize (x / Int32.ofInt 16).toNatClampNeg = n1
  have o1 := okV_beh hB n1 _ hE
  refine v_isPair ?_
  by_cases c1 : kV (behV T n1 E) = 3
  · rw [show (kV (behV T n1 E) == 3) = true by simp [c1]]
    refine And.intro (fun _ => ?_) (fun g => absurd g (by decide))
    refine s_head hz o1 ?_
    refine And.intro (by decide) ?_
    refine s_behindX hz hB (okV_of hA o1) ?_
    generalize (x - x / Int32.ofInt 16 * Int32.ofInt 16).toNatClampNeg = n2
    have o2 := okV_beh hB n2 _ (okV_of hA o1)
    refine v_isPair ?_
    by_cases c2 : kV (behV T n2 (ofV H (behV T n1 E))) = 3
    · rw [show (kV (behV T n2 (ofV H (behV T n1 E))) == 3) = true by simp [c2]]
      refine And.intro (fun _ => ?_) (fun g => absurd g (by decide))
      refine s_head hz o2 ?_
      refine s_newPair hz (by omega) (hfr _ (by omega)) ?_
      refine s_tail hz (okV_of hB hC) ?_
      exact And.intro (Or.inr rfl) (h3 _ o2)
    · rw [show (kV (behV T n2 (ofV H (behV T n1 E))) == 3) = false by simp [c2]]
      refine And.intro (fun g => absurd rfl g) (fun _ => ?_)
      exact And.intro (Or.inl rfl) h1
  · rw [show (kV (behV T n1 E) == 3) = false by simp [c1]]
    refine And.intro (fun g => absurd rfl g) (fun _ => ?_)
    exact And.intro (Or.inl rfl) h1
theorem k_stop (hz : z ≤ 250) (hM : mOK z S E C D H T) (hfr : ∀ j, j < z → fr j < z) (hf : f ≤ z) (hd : dOK z n fb R) (hc0 : 200 ≤ b0) (hc1 : 20000 ≤ b1) (hQ : ∀ k' n' fb' R' b0' b1' op', dOK z n' fb' R' → b0 ≤ b0' + 140 → b1 ≤ b1' + 19740 → Q (.inl (some (.int 1)), (fW o0 o1 o2 o3 o4 o5 o6 o7 o8 o9 o10 o11 o12 o13 o14 o15 S E C D 2 colls taken steps z H T fr g f c k' n' fb' R' tl, b0', b1', op'))) : mj_Mt gT (law_cst xs) gnw (m + 9) y_Machine_stop [.ref 16] (fW o0 o1 o2 o3 o4 o5 o6 o7 o8 o9 o10 o11 o12 o13 o14 o15 S E C D mode colls taken steps z H T fr g f c k n fb R tl, b0, b1, op) Q := by
  obtain ⟨hA, hB, hS, hE, hC, hD⟩ := hM
  obtain ⟨hd1, hd2⟩ := hd
  intro J hJ
  refine hJ _ _ _ _ ?_
  refine s_head hz hS ?_
  have hs := shw_ok hA hB 120 [] R 0 (ofV H S) (Nat.zero_le _) (by decide) (okV_of hA hS) hd2
  refine d_show hz hA hB hc0 hc1 (okV_of hA hS) hd2 (fun f' b0' b1' q1 q2 q3 => ?_)
  refine And.intro (Or.inr rfl) ?_
  have hp := pot_le (n := (shw H T 120 [] R 0 (ofV H S)).1.length) (by omega)
  exact hQ _ _ _ _ _ _ _ ⟨⟨_, rfl, hs.1, q1⟩, hs.2⟩ (by omega) (by omega)
theorem k_actW {x : Int32} (hn : needX x ≤ f) (hz : z ≤ 250) (hM : mOK z S E C D H T) (hfr : ∀ j, j < z → fr j < z) (hf : f ≤ z) (hd : dOK z n fb R) (hc0 : 200 ≤ b0) (hc1 : 20000 ≤ b1) (hQ : ∀ b S' E' C' D' mode' H' T' f' k' n' fb' R' b0' b1' op', (b = 0 ∨ b = 1) → mOK z S' E' C' D' H' T' → f' ≤ z → dOK z n' fb' R' → ((mode' = mode ∧ b0' = b0 ∧ b1' = b1) ∨ (mode' = 2 ∧ b0 ≤ b0' + 140 ∧ b1 ≤ b1' + 19740)) →  Q (.inl (some (.int b)), (fW o0 o1 o2 o3 o4 o5 o6 o7 o8 o9 o10 o11 o12 o13 o14 o15 S' E' C' D' mode' colls taken steps z H' T' fr g f' c k' n' fb' R' tl, b0', b1', op'))) :
    mj_Mt gT (law_cst xs) gnw (m + 10) y_Machine_act [.ref 16, .int x] (fW o0 o1 o2 o3 o4 o5 o6 o7 o8 o9 o10 o11 o12 o13 o14 o15 S E C D mode colls taken steps z H T fr g f c k n fb R tl, b0, b1, op) Q := by
  have hM0 := hM
  obtain ⟨hA, hB, hS, hE, hC, hD⟩ := hM
  intro J hJ
  refine hJ _ _ _ _ ?_
  refine And.intro (fun hx => ?_) (fun hx1 => ?_)
  · have hx : x = 1 := hx
    subst hx
    have hn9 : needX 1 = 1 := by decide
    obtain ⟨f0, rfl⟩ : ∃ f0, f = f0 + 1 := ⟨f - 1, by omega⟩
    exact k_constant hz hA hB hfr hS hE hC hD (by omega) (And.intro (Or.inr rfl) (hQ _ _ _ _ _ _ _ _ _ _ _ _ _ _ _ _ (Or.inr rfl) ⟨(by (repeat (first | assumption | exact trivial | exact hfr _ (by omega) | refine okA_upd ?_ ?_ | refine okV_of ?_ ?_ | refine okV_beh ?_ _ _ ?_))), (by (repeat (first | assumption | exact trivial | exact hfr _ (by omega) | refine okA_upd ?_ ?_ | refine okV_of ?_ ?_ | refine okV_beh ?_ _ _ ?_))), (by (repeat (first | assumption | exact trivial | exact hfr _ (by omega) | refine okA_upd ?_ ?_ | refine okV_of ?_ ?_ | refine okV_beh ?_ _ _ ?_))), (by (repeat (first | assumption | exact trivial | exact hfr _ (by omega) | refine okA_upd ?_ ?_ | refine okV_of ?_ ?_ | refine okV_beh ?_ _ _ ?_))), (by (repeat (first | assumption | exact trivial | exact hfr _ (by omega) | refine okA_upd ?_ ?_ | refine okV_of ?_ ?_ | refine okV_beh ?_ _ _ ?_))), (by (repeat (first | assumption | exact trivial | exact hfr _ (by omega) | refine okA_upd ?_ ?_ | refine okV_of ?_ ?_ | refine okV_beh ?_ _ _ ?_)))⟩ (by omega) hd (Or.inl ⟨rfl, rfl, rfl⟩)))
  refine And.intro (fun hx => ?_) (fun hx2 => ?_)
  · have hx : x = 2 := hx
    subst hx
    have hn9 : needX 2 = 1 := by decide
    obtain ⟨f0, rfl⟩ : ∃ f0, f = f0 + 1 := ⟨f - 1, by omega⟩
    exact k_variableX rfl hz hA hB hfr hS hE hC (by omega) (And.intro (Or.inl rfl) (hQ _ _ _ _ _ _ _ _ _ _ _ _ _ _ _ _ (Or.inl rfl) hM0 (by omega) hd (Or.inl ⟨rfl, rfl, rfl⟩))) (fun v hv => And.intro (Or.inr rfl) (hQ _ _ _ _ _ _ _ _ _ _ _ _ _ _ _ _ (Or.inr rfl) ⟨(by (repeat (first | assumption | exact trivial | exact hfr _ (by omega) | refine okA_upd ?_ ?_ | refine okV_of ?_ ?_ | refine okV_beh ?_ _ _ ?_))), (by (repeat (first | assumption | exact trivial | exact hfr _ (by omega) | refine okA_upd ?_ ?_ | refine okV_of ?_ ?_ | refine okV_beh ?_ _ _ ?_))), (by (repeat (first | assumption | exact trivial | exact hfr _ (by omega) | refine okA_upd ?_ ?_ | refine okV_of ?_ ?_ | refine okV_beh ?_ _ _ ?_))), (by (repeat (first | assumption | exact trivial | exact hfr _ (by omega) | refine okA_upd ?_ ?_ | refine okV_of ?_ ?_ | refine okV_beh ?_ _ _ ?_))), (by (repeat (first | assumption | exact trivial | exact hfr _ (by omega) | refine okA_upd ?_ ?_ | refine okV_of ?_ ?_ | refine okV_beh ?_ _ _ ?_))), (by (repeat (first | assumption | exact trivial | exact hfr _ (by omega) | refine okA_upd ?_ ?_ | refine okV_of ?_ ?_ | refine okV_beh ?_ _ _ ?_)))⟩ (by omega) hd (Or.inl ⟨rfl, rfl, rfl⟩)))
  refine And.intro (fun hx => ?_) (fun hx3 => ?_)
  · have hx : x = 3 := hx
    subst hx
    have hn9 : needX 3 = 2 := by decide
    obtain ⟨f0, rfl⟩ : ∃ f0, f = f0 + 2 := ⟨f - 2, by omega⟩
    exact k_function hz hA hB hfr hS hE hC hD (by omega) (And.intro (Or.inr rfl) (hQ _ _ _ _ _ _ _ _ _ _ _ _ _ _ _ _ (Or.inr rfl) ⟨(by (repeat (first | assumption | exact trivial | exact hfr _ (by omega) | refine okA_upd ?_ ?_ | refine okV_of ?_ ?_ | refine okV_beh ?_ _ _ ?_))), (by (repeat (first | assumption | exact trivial | exact hfr _ (by omega) | refine okA_upd ?_ ?_ | refine okV_of ?_ ?_ | refine okV_beh ?_ _ _ ?_))), (by (repeat (first | assumption | exact trivial | exact hfr _ (by omega) | refine okA_upd ?_ ?_ | refine okV_of ?_ ?_ | refine okV_beh ?_ _ _ ?_))), (by (repeat (first | assumption | exact trivial | exact hfr _ (by omega) | refine okA_upd ?_ ?_ | refine okV_of ?_ ?_ | refine okV_beh ?_ _ _ ?_))), (by (repeat (first | assumption | exact trivial | exact hfr _ (by omega) | refine okA_upd ?_ ?_ | refine okV_of ?_ ?_ | refine okV_beh ?_ _ _ ?_))), (by (repeat (first | assumption | exact trivial | exact hfr _ (by omega) | refine okA_upd ?_ ?_ | refine okV_of ?_ ?_ | refine okV_beh ?_ _ _ ?_)))⟩ (by omega) hd (Or.inl ⟨rfl, rfl, rfl⟩)))
  refine And.intro (fun hx => ?_) (fun hx4 => ?_)
  · have hx : x = 4 := hx
    subst hx
    have hn9 : needX 4 = 4 := by decide
    obtain ⟨f0, rfl⟩ : ∃ f0, f = f0 + 4 := ⟨f - 4, by omega⟩
    exact k_apply hz hA hB hfr hS hE hC hD (by omega) (fun _ => And.intro (Or.inl rfl) (hQ _ _ _ _ _ _ _ _ _ _ _ _ _ _ _ _ (Or.inl rfl) hM0 (by omega) hd (Or.inl ⟨rfl, rfl, rfl⟩))) (fun _ => And.intro (Or.inr rfl) (hQ _ _ _ _ _ _ _ _ _ _ _ _ _ _ _ _ (Or.inr rfl) ⟨(by (repeat (first | assumption | exact trivial | exact hfr _ (by omega) | refine okA_upd ?_ ?_ | refine okV_of ?_ ?_ | refine okV_beh ?_ _ _ ?_))), (by (repeat (first | assumption | exact trivial | exact hfr _ (by omega) | refine okA_upd ?_ ?_ | refine okV_of ?_ ?_ | refine okV_beh ?_ _ _ ?_))), (by (repeat (first | assumption | exact trivial | exact hfr _ (by omega) | refine okA_upd ?_ ?_ | refine okV_of ?_ ?_ | refine okV_beh ?_ _ _ ?_))), (by (repeat (first | assumption | exact trivial | exact hfr _ (by omega) | refine okA_upd ?_ ?_ | refine okV_of ?_ ?_ | refine okV_beh ?_ _ _ ?_))), (by (repeat (first | assumption | exact trivial | exact hfr _ (by omega) | refine okA_upd ?_ ?_ | refine okV_of ?_ ?_ | refine okV_beh ?_ _ _ ?_))), (by (repeat (first | assumption | exact trivial | exact hfr _ (by omega) | refine okA_upd ?_ ?_ | refine okV_of ?_ ?_ | refine okV_beh ?_ _ _ ?_)))⟩ (by omega) hd (Or.inl ⟨rfl, rfl, rfl⟩)))
  refine And.intro (fun hx => ?_) (fun hx5 => ?_)
  · have hx : x = 5 := hx
    subst hx
    have hn9 : needX 5 = 1 := by decide
    obtain ⟨f0, rfl⟩ : ∃ f0, f = f0 + 1 := ⟨f - 1, by omega⟩
    exact k_giveBack hz hA hB hfr hS hE hC hD (by omega) (And.intro (Or.inr rfl) (hQ _ _ _ _ _ _ _ _ _ _ _ _ _ _ _ _ (Or.inr rfl) ⟨(by (repeat (first | assumption | exact trivial | exact hfr _ (by omega) | refine okA_upd ?_ ?_ | refine okV_of ?_ ?_ | refine okV_beh ?_ _ _ ?_))), (by (repeat (first | assumption | exact trivial | exact hfr _ (by omega) | refine okA_upd ?_ ?_ | refine okV_of ?_ ?_ | refine okV_beh ?_ _ _ ?_))), (by (repeat (first | assumption | exact trivial | exact hfr _ (by omega) | refine okA_upd ?_ ?_ | refine okV_of ?_ ?_ | refine okV_beh ?_ _ _ ?_))), (by (repeat (first | assumption | exact trivial | exact hfr _ (by omega) | refine okA_upd ?_ ?_ | refine okV_of ?_ ?_ | refine okV_beh ?_ _ _ ?_))), (by (repeat (first | assumption | exact trivial | exact hfr _ (by omega) | refine okA_upd ?_ ?_ | refine okV_of ?_ ?_ | refine okV_beh ?_ _ _ ?_))), (by (repeat (first | assumption | exact trivial | exact hfr _ (by omega) | refine okA_upd ?_ ?_ | refine okV_of ?_ ?_ | refine okV_beh ?_ _ _ ?_)))⟩ (by omega) hd (Or.inl ⟨rfl, rfl, rfl⟩)))
  refine And.intro (fun hx => ?_) (fun hx6 => ?_)
  · have hx : x = 6 := hx
    subst hx
    have hn9 : needX 6 = 1 := by decide
    obtain ⟨f0, rfl⟩ : ∃ f0, f = f0 + 1 := ⟨f - 1, by omega⟩
    exact k_frame hz hA hB hfr hS hE hC hD (by omega) (And.intro (Or.inr rfl) (hQ _ _ _ _ _ _ _ _ _ _ _ _ _ _ _ _ (Or.inr rfl) ⟨(by (repeat (first | assumption | exact trivial | exact hfr _ (by omega) | refine okA_upd ?_ ?_ | refine okV_of ?_ ?_ | refine okV_beh ?_ _ _ ?_))), (by (repeat (first | assumption | exact trivial | exact hfr _ (by omega) | refine okA_upd ?_ ?_ | refine okV_of ?_ ?_ | refine okV_beh ?_ _ _ ?_))), (by (repeat (first | assumption | exact trivial | exact hfr _ (by omega) | refine okA_upd ?_ ?_ | refine okV_of ?_ ?_ | refine okV_beh ?_ _ _ ?_))), (by (repeat (first | assumption | exact trivial | exact hfr _ (by omega) | refine okA_upd ?_ ?_ | refine okV_of ?_ ?_ | refine okV_beh ?_ _ _ ?_))), (by (repeat (first | assumption | exact trivial | exact hfr _ (by omega) | refine okA_upd ?_ ?_ | refine okV_of ?_ ?_ | refine okV_beh ?_ _ _ ?_))), (by (repeat (first | assumption | exact trivial | exact hfr _ (by omega) | refine okA_upd ?_ ?_ | refine okV_of ?_ ?_ | refine okV_beh ?_ _ _ ?_)))⟩ (by omega) hd (Or.inl ⟨rfl, rfl, rfl⟩)))
  refine And.intro (fun hx => ?_) (fun hx7 => ?_)
  · have hx : x = 7 := hx
    subst hx
    have hn9 : needX 7 = 3 := by decide
    obtain ⟨f0, rfl⟩ : ∃ f0, f = f0 + 3 := ⟨f - 3, by omega⟩
    exact k_applyInFrame hz hA hB hfr hS hE hC hD (by omega) (fun _ => And.intro (Or.inl rfl) (hQ _ _ _ _ _ _ _ _ _ _ _ _ _ _ _ _ (Or.inl rfl) hM0 (by omega) hd (Or.inl ⟨rfl, rfl, rfl⟩))) (fun _ i _ hi => And.intro (Or.inr rfl) (hQ _ _ _ _ _ _ _ _ _ _ _ _ _ _ _ _ (Or.inr rfl) ⟨(by (repeat (first | assumption | exact trivial | exact hfr _ (by omega) | refine okA_upd ?_ ?_ | refine okV_of ?_ ?_ | refine okV_beh ?_ _ _ ?_))), (by (repeat (first | assumption | exact trivial | exact hfr _ (by omega) | refine okA_upd ?_ ?_ | refine okV_of ?_ ?_ | refine okV_beh ?_ _ _ ?_))), (by (repeat (first | assumption | exact trivial | exact hfr _ (by omega) | refine okA_upd ?_ ?_ | refine okV_of ?_ ?_ | refine okV_beh ?_ _ _ ?_))), (by (repeat (first | assumption | exact trivial | exact hfr _ (by omega) | refine okA_upd ?_ ?_ | refine okV_of ?_ ?_ | refine okV_beh ?_ _ _ ?_))), (by (repeat (first | assumption | exact trivial | exact hfr _ (by omega) | refine okA_upd ?_ ?_ | refine okV_of ?_ ?_ | refine okV_beh ?_ _ _ ?_))), (by (repeat (first | assumption | exact trivial | exact hfr _ (by omega) | refine okA_upd ?_ ?_ | refine okV_of ?_ ?_ | refine okV_beh ?_ _ _ ?_)))⟩ (by omega) hd (Or.inl ⟨rfl, rfl, rfl⟩))) (fun _ _ => And.intro (Or.inr rfl) (hQ _ _ _ _ _ _ _ _ _ _ _ _ _ _ _ _ (Or.inr rfl) ⟨(by (repeat (first | assumption | exact trivial | exact hfr _ (by omega) | refine okA_upd ?_ ?_ | refine okV_of ?_ ?_ | refine okV_beh ?_ _ _ ?_))), (by (repeat (first | assumption | exact trivial | exact hfr _ (by omega) | refine okA_upd ?_ ?_ | refine okV_of ?_ ?_ | refine okV_beh ?_ _ _ ?_))), (by (repeat (first | assumption | exact trivial | exact hfr _ (by omega) | refine okA_upd ?_ ?_ | refine okV_of ?_ ?_ | refine okV_beh ?_ _ _ ?_))), (by (repeat (first | assumption | exact trivial | exact hfr _ (by omega) | refine okA_upd ?_ ?_ | refine okV_of ?_ ?_ | refine okV_beh ?_ _ _ ?_))), (by (repeat (first | assumption | exact trivial | exact hfr _ (by omega) | refine okA_upd ?_ ?_ | refine okV_of ?_ ?_ | refine okV_beh ?_ _ _ ?_))), (by (repeat (first | assumption | exact trivial | exact hfr _ (by omega) | refine okA_upd ?_ ?_ | refine okV_of ?_ ?_ | refine okV_beh ?_ _ _ ?_)))⟩ (by omega) hd (Or.inl ⟨rfl, rfl, rfl⟩)))
  refine And.intro (fun hx => ?_) (fun hx8 => ?_)
  · have hx : x = 8 := hx
    subst hx
    have hn9 : needX 8 = 1 := by decide
    obtain ⟨f0, rfl⟩ : ∃ f0, f = f0 + 1 := ⟨f - 1, by omega⟩
    exact k_choose hz hA hB hfr hS hE hC hD (by omega) (fun _ => And.intro (Or.inl rfl) (hQ _ _ _ _ _ _ _ _ _ _ _ _ _ _ _ _ (Or.inl rfl) hM0 (by omega) hd (Or.inl ⟨rfl, rfl, rfl⟩))) (fun _ _ => And.intro (Or.inr rfl) (hQ _ _ _ _ _ _ _ _ _ _ _ _ _ _ _ _ (Or.inr rfl) ⟨(by (repeat (first | assumption | exact trivial | exact hfr _ (by omega) | refine okA_upd ?_ ?_ | refine okV_of ?_ ?_ | refine okV_beh ?_ _ _ ?_))), (by (repeat (first | assumption | exact trivial | exact hfr _ (by omega) | refine okA_upd ?_ ?_ | refine okV_of ?_ ?_ | refine okV_beh ?_ _ _ ?_))), (by (repeat (first | assumption | exact trivial | exact hfr _ (by omega) | refine okA_upd ?_ ?_ | refine okV_of ?_ ?_ | refine okV_beh ?_ _ _ ?_))), (by (repeat (first | assumption | exact trivial | exact hfr _ (by omega) | refine okA_upd ?_ ?_ | refine okV_of ?_ ?_ | refine okV_beh ?_ _ _ ?_))), (by (repeat (first | assumption | exact trivial | exact hfr _ (by omega) | refine okA_upd ?_ ?_ | refine okV_of ?_ ?_ | refine okV_beh ?_ _ _ ?_))), (by (repeat (first | assumption | exact trivial | exact hfr _ (by omega) | refine okA_upd ?_ ?_ | refine okV_of ?_ ?_ | refine okV_beh ?_ _ _ ?_)))⟩ (by omega) hd (Or.inl ⟨rfl, rfl, rfl⟩))) (fun _ _ => And.intro (Or.inr rfl) (hQ _ _ _ _ _ _ _ _ _ _ _ _ _ _ _ _ (Or.inr rfl) ⟨(by (repeat (first | assumption | exact trivial | exact hfr _ (by omega) | refine okA_upd ?_ ?_ | refine okV_of ?_ ?_ | refine okV_beh ?_ _ _ ?_))), (by (repeat (first | assumption | exact trivial | exact hfr _ (by omega) | refine okA_upd ?_ ?_ | refine okV_of ?_ ?_ | refine okV_beh ?_ _ _ ?_))), (by (repeat (first | assumption | exact trivial | exact hfr _ (by omega) | refine okA_upd ?_ ?_ | refine okV_of ?_ ?_ | refine okV_beh ?_ _ _ ?_))), (by (repeat (first | assumption | exact trivial | exact hfr _ (by omega) | refine okA_upd ?_ ?_ | refine okV_of ?_ ?_ | refine okV_beh ?_ _ _ ?_))), (by (repeat (first | assumption | exact trivial | exact hfr _ (by omega) | refine okA_upd ?_ ?_ | refine okV_of ?_ ?_ | refine okV_beh ?_ _ _ ?_))), (by (repeat (first | assumption | exact trivial | exact hfr _ (by omega) | refine okA_upd ?_ ?_ | refine okV_of ?_ ?_ | refine okV_beh ?_ _ _ ?_)))⟩ (by omega) hd (Or.inl ⟨rfl, rfl, rfl⟩)))
  refine And.intro (fun hx => ?_) (fun hx9 => ?_)
  · have hx : x = 9 := hx
    subst hx
    exact k_rejoin hz hA hB hfr hS hE hC hD (And.intro (Or.inr rfl) (hQ _ _ _ _ _ _ _ _ _ _ _ _ _ _ _ _ (Or.inr rfl) ⟨(by (repeat (first | assumption | exact trivial | exact hfr _ (by omega) | refine okA_upd ?_ ?_ | refine okV_of ?_ ?_ | refine okV_beh ?_ _ _ ?_))), (by (repeat (first | assumption | exact trivial | exact hfr _ (by omega) | refine okA_upd ?_ ?_ | refine okV_of ?_ ?_ | refine okV_beh ?_ _ _ ?_))), (by (repeat (first | assumption | exact trivial | exact hfr _ (by omega) | refine okA_upd ?_ ?_ | refine okV_of ?_ ?_ | refine okV_beh ?_ _ _ ?_))), (by (repeat (first | assumption | exact trivial | exact hfr _ (by omega) | refine okA_upd ?_ ?_ | refine okV_of ?_ ?_ | refine okV_beh ?_ _ _ ?_))), (by (repeat (first | assumption | exact trivial | exact hfr _ (by omega) | refine okA_upd ?_ ?_ | refine okV_of ?_ ?_ | refine okV_beh ?_ _ _ ?_))), (by (repeat (first | assumption | exact trivial | exact hfr _ (by omega) | refine okA_upd ?_ ?_ | refine okV_of ?_ ?_ | refine okV_beh ?_ _ _ ?_)))⟩ (by omega) hd (Or.inl ⟨rfl, rfl, rfl⟩)))
  refine And.intro (fun hx => ?_) (fun hx10 => ?_)
  · have hx : x = 10 := hx
    subst hx
    have hn9 : needX 10 = 1 := by decide
    obtain ⟨f0, rfl⟩ : ∃ f0, f = f0 + 1 := ⟨f - 1, by omega⟩
    exact k_partOfPair hz hA hB hfr hS hE hC hD (by omega) (fun _ => And.intro (Or.inl rfl) (hQ _ _ _ _ _ _ _ _ _ _ _ _ _ _ _ _ (Or.inl rfl) hM0 (by omega) hd (Or.inl ⟨rfl, rfl, rfl⟩))) (fun _ _ => And.intro (Or.inr rfl) (hQ _ _ _ _ _ _ _ _ _ _ _ _ _ _ _ _ (Or.inr rfl) ⟨(by (repeat (first | assumption | exact trivial | exact hfr _ (by omega) | refine okA_upd ?_ ?_ | refine okV_of ?_ ?_ | refine okV_beh ?_ _ _ ?_))), (by (repeat (first | assumption | exact trivial | exact hfr _ (by omega) | refine okA_upd ?_ ?_ | refine okV_of ?_ ?_ | refine okV_beh ?_ _ _ ?_))), (by (repeat (first | assumption | exact trivial | exact hfr _ (by omega) | refine okA_upd ?_ ?_ | refine okV_of ?_ ?_ | refine okV_beh ?_ _ _ ?_))), (by (repeat (first | assumption | exact trivial | exact hfr _ (by omega) | refine okA_upd ?_ ?_ | refine okV_of ?_ ?_ | refine okV_beh ?_ _ _ ?_))), (by (repeat (first | assumption | exact trivial | exact hfr _ (by omega) | refine okA_upd ?_ ?_ | refine okV_of ?_ ?_ | refine okV_beh ?_ _ _ ?_))), (by (repeat (first | assumption | exact trivial | exact hfr _ (by omega) | refine okA_upd ?_ ?_ | refine okV_of ?_ ?_ | refine okV_beh ?_ _ _ ?_)))⟩ (by omega) hd (Or.inl ⟨rfl, rfl, rfl⟩))) (fun _ _ => And.intro (Or.inr rfl) (hQ _ _ _ _ _ _ _ _ _ _ _ _ _ _ _ _ (Or.inr rfl) ⟨(by (repeat (first | assumption | exact trivial | exact hfr _ (by omega) | refine okA_upd ?_ ?_ | refine okV_of ?_ ?_ | refine okV_beh ?_ _ _ ?_))), (by (repeat (first | assumption | exact trivial | exact hfr _ (by omega) | refine okA_upd ?_ ?_ | refine okV_of ?_ ?_ | refine okV_beh ?_ _ _ ?_))), (by (repeat (first | assumption | exact trivial | exact hfr _ (by omega) | refine okA_upd ?_ ?_ | refine okV_of ?_ ?_ | refine okV_beh ?_ _ _ ?_))), (by (repeat (first | assumption | exact trivial | exact hfr _ (by omega) | refine okA_upd ?_ ?_ | refine okV_of ?_ ?_ | refine okV_beh ?_ _ _ ?_))), (by (repeat (first | assumption | exact trivial | exact hfr _ (by omega) | refine okA_upd ?_ ?_ | refine okV_of ?_ ?_ | refine okV_beh ?_ _ _ ?_))), (by (repeat (first | assumption | exact trivial | exact hfr _ (by omega) | refine okA_upd ?_ ?_ | refine okV_of ?_ ?_ | refine okV_beh ?_ _ _ ?_)))⟩ (by omega) hd (Or.inl ⟨rfl, rfl, rfl⟩)))
  refine And.intro (fun hx => ?_) (fun hx11 => ?_)
  · have hx : x = 11 := hx
    subst hx
    have hn9 : needX 11 = 1 := by decide
    obtain ⟨f0, rfl⟩ : ∃ f0, f = f0 + 1 := ⟨f - 1, by omega⟩
    exact k_partOfPair hz hA hB hfr hS hE hC hD (by omega) (fun _ => And.intro (Or.inl rfl) (hQ _ _ _ _ _ _ _ _ _ _ _ _ _ _ _ _ (Or.inl rfl) hM0 (by omega) hd (Or.inl ⟨rfl, rfl, rfl⟩))) (fun _ _ => And.intro (Or.inr rfl) (hQ _ _ _ _ _ _ _ _ _ _ _ _ _ _ _ _ (Or.inr rfl) ⟨(by (repeat (first | assumption | exact trivial | exact hfr _ (by omega) | refine okA_upd ?_ ?_ | refine okV_of ?_ ?_ | refine okV_beh ?_ _ _ ?_))), (by (repeat (first | assumption | exact trivial | exact hfr _ (by omega) | refine okA_upd ?_ ?_ | refine okV_of ?_ ?_ | refine okV_beh ?_ _ _ ?_))), (by (repeat (first | assumption | exact trivial | exact hfr _ (by omega) | refine okA_upd ?_ ?_ | refine okV_of ?_ ?_ | refine okV_beh ?_ _ _ ?_))), (by (repeat (first | assumption | exact trivial | exact hfr _ (by omega) | refine okA_upd ?_ ?_ | refine okV_of ?_ ?_ | refine okV_beh ?_ _ _ ?_))), (by (repeat (first | assumption | exact trivial | exact hfr _ (by omega) | refine okA_upd ?_ ?_ | refine okV_of ?_ ?_ | refine okV_beh ?_ _ _ ?_))), (by (repeat (first | assumption | exact trivial | exact hfr _ (by omega) | refine okA_upd ?_ ?_ | refine okV_of ?_ ?_ | refine okV_beh ?_ _ _ ?_)))⟩ (by omega) hd (Or.inl ⟨rfl, rfl, rfl⟩))) (fun _ _ => And.intro (Or.inr rfl) (hQ _ _ _ _ _ _ _ _ _ _ _ _ _ _ _ _ (Or.inr rfl) ⟨(by (repeat (first | assumption | exact trivial | exact hfr _ (by omega) | refine okA_upd ?_ ?_ | refine okV_of ?_ ?_ | refine okV_beh ?_ _ _ ?_))), (by (repeat (first | assumption | exact trivial | exact hfr _ (by omega) | refine okA_upd ?_ ?_ | refine okV_of ?_ ?_ | refine okV_beh ?_ _ _ ?_))), (by (repeat (first | assumption | exact trivial | exact hfr _ (by omega) | refine okA_upd ?_ ?_ | refine okV_of ?_ ?_ | refine okV_beh ?_ _ _ ?_))), (by (repeat (first | assumption | exact trivial | exact hfr _ (by omega) | refine okA_upd ?_ ?_ | refine okV_of ?_ ?_ | refine okV_beh ?_ _ _ ?_))), (by (repeat (first | assumption | exact trivial | exact hfr _ (by omega) | refine okA_upd ?_ ?_ | refine okV_of ?_ ?_ | refine okV_beh ?_ _ _ ?_))), (by (repeat (first | assumption | exact trivial | exact hfr _ (by omega) | refine okA_upd ?_ ?_ | refine okV_of ?_ ?_ | refine okV_beh ?_ _ _ ?_)))⟩ (by omega) hd (Or.inl ⟨rfl, rfl, rfl⟩)))
  refine And.intro (fun hx => ?_) (fun hx12 => ?_)
  · have hx : x = 12 := hx
    subst hx
    have hn9 : needX 12 = 1 := by decide
    obtain ⟨f0, rfl⟩ : ∃ f0, f = f0 + 1 := ⟨f - 1, by omega⟩
    exact k_isNoPair hz hA hB hfr hS hE hC hD (by omega) (fun _ => And.intro (Or.inr rfl) (hQ _ _ _ _ _ _ _ _ _ _ _ _ _ _ _ _ (Or.inr rfl) ⟨(by (repeat (first | assumption | exact trivial | exact hfr _ (by omega) | refine okA_upd ?_ ?_ | refine okV_of ?_ ?_ | refine okV_beh ?_ _ _ ?_))), (by (repeat (first | assumption | exact trivial | exact hfr _ (by omega) | refine okA_upd ?_ ?_ | refine okV_of ?_ ?_ | refine okV_beh ?_ _ _ ?_))), (by (repeat (first | assumption | exact trivial | exact hfr _ (by omega) | refine okA_upd ?_ ?_ | refine okV_of ?_ ?_ | refine okV_beh ?_ _ _ ?_))), (by (repeat (first | assumption | exact trivial | exact hfr _ (by omega) | refine okA_upd ?_ ?_ | refine okV_of ?_ ?_ | refine okV_beh ?_ _ _ ?_))), (by (repeat (first | assumption | exact trivial | exact hfr _ (by omega) | refine okA_upd ?_ ?_ | refine okV_of ?_ ?_ | refine okV_beh ?_ _ _ ?_))), (by (repeat (first | assumption | exact trivial | exact hfr _ (by omega) | refine okA_upd ?_ ?_ | refine okV_of ?_ ?_ | refine okV_beh ?_ _ _ ?_)))⟩ (by omega) hd (Or.inl ⟨rfl, rfl, rfl⟩))) (fun _ => And.intro (Or.inr rfl) (hQ _ _ _ _ _ _ _ _ _ _ _ _ _ _ _ _ (Or.inr rfl) ⟨(by (repeat (first | assumption | exact trivial | exact hfr _ (by omega) | refine okA_upd ?_ ?_ | refine okV_of ?_ ?_ | refine okV_beh ?_ _ _ ?_))), (by (repeat (first | assumption | exact trivial | exact hfr _ (by omega) | refine okA_upd ?_ ?_ | refine okV_of ?_ ?_ | refine okV_beh ?_ _ _ ?_))), (by (repeat (first | assumption | exact trivial | exact hfr _ (by omega) | refine okA_upd ?_ ?_ | refine okV_of ?_ ?_ | refine okV_beh ?_ _ _ ?_))), (by (repeat (first | assumption | exact trivial | exact hfr _ (by omega) | refine okA_upd ?_ ?_ | refine okV_of ?_ ?_ | refine okV_beh ?_ _ _ ?_))), (by (repeat (first | assumption | exact trivial | exact hfr _ (by omega) | refine okA_upd ?_ ?_ | refine okV_of ?_ ?_ | refine okV_beh ?_ _ _ ?_))), (by (repeat (first | assumption | exact trivial | exact hfr _ (by omega) | refine okA_upd ?_ ?_ | refine okV_of ?_ ?_ | refine okV_beh ?_ _ _ ?_)))⟩ (by omega) hd (Or.inl ⟨rfl, rfl, rfl⟩)))
  refine And.intro (fun hx => ?_) (fun hx13 => ?_)
  · have hx : x = 13 := hx
    subst hx
    have hn9 : needX 13 = 2 := by decide
    obtain ⟨f0, rfl⟩ : ∃ f0, f = f0 + 2 := ⟨f - 2, by omega⟩
    exact k_pair hz hA hB hfr hS hE hC hD (by omega) (And.intro (Or.inr rfl) (hQ _ _ _ _ _ _ _ _ _ _ _ _ _ _ _ _ (Or.inr rfl) ⟨(by (repeat (first | assumption | exact trivial | exact hfr _ (by omega) | refine okA_upd ?_ ?_ | refine okV_of ?_ ?_ | refine okV_beh ?_ _ _ ?_))), (by (repeat (first | assumption | exact trivial | exact hfr _ (by omega) | refine okA_upd ?_ ?_ | refine okV_of ?_ ?_ | refine okV_beh ?_ _ _ ?_))), (by (repeat (first | assumption | exact trivial | exact hfr _ (by omega) | refine okA_upd ?_ ?_ | refine okV_of ?_ ?_ | refine okV_beh ?_ _ _ ?_))), (by (repeat (first | assumption | exact trivial | exact hfr _ (by omega) | refine okA_upd ?_ ?_ | refine okV_of ?_ ?_ | refine okV_beh ?_ _ _ ?_))), (by (repeat (first | assumption | exact trivial | exact hfr _ (by omega) | refine okA_upd ?_ ?_ | refine okV_of ?_ ?_ | refine okV_beh ?_ _ _ ?_))), (by (repeat (first | assumption | exact trivial | exact hfr _ (by omega) | refine okA_upd ?_ ?_ | refine okV_of ?_ ?_ | refine okV_beh ?_ _ _ ?_)))⟩ (by omega) hd (Or.inl ⟨rfl, rfl, rfl⟩)))
  refine And.intro (fun hx => ?_) (fun hx14 => ?_)
  · have hx : x = 14 := hx
    subst hx
    have hn9 : needX 14 = 1 := by decide
    obtain ⟨f0, rfl⟩ : ∃ f0, f = f0 + 1 := ⟨f - 1, by omega⟩
    exact k_same hz hA hB hfr hS hE hC hD (by omega) (fun _ => And.intro (Or.inr rfl) (hQ _ _ _ _ _ _ _ _ _ _ _ _ _ _ _ _ (Or.inr rfl) ⟨(by (repeat (first | assumption | exact trivial | exact hfr _ (by omega) | refine okA_upd ?_ ?_ | refine okV_of ?_ ?_ | refine okV_beh ?_ _ _ ?_))), (by (repeat (first | assumption | exact trivial | exact hfr _ (by omega) | refine okA_upd ?_ ?_ | refine okV_of ?_ ?_ | refine okV_beh ?_ _ _ ?_))), (by (repeat (first | assumption | exact trivial | exact hfr _ (by omega) | refine okA_upd ?_ ?_ | refine okV_of ?_ ?_ | refine okV_beh ?_ _ _ ?_))), (by (repeat (first | assumption | exact trivial | exact hfr _ (by omega) | refine okA_upd ?_ ?_ | refine okV_of ?_ ?_ | refine okV_beh ?_ _ _ ?_))), (by (repeat (first | assumption | exact trivial | exact hfr _ (by omega) | refine okA_upd ?_ ?_ | refine okV_of ?_ ?_ | refine okV_beh ?_ _ _ ?_))), (by (repeat (first | assumption | exact trivial | exact hfr _ (by omega) | refine okA_upd ?_ ?_ | refine okV_of ?_ ?_ | refine okV_beh ?_ _ _ ?_)))⟩ (by omega) hd (Or.inl ⟨rfl, rfl, rfl⟩))) (fun _ => And.intro (Or.inr rfl) (hQ _ _ _ _ _ _ _ _ _ _ _ _ _ _ _ _ (Or.inr rfl) ⟨(by (repeat (first | assumption | exact trivial | exact hfr _ (by omega) | refine okA_upd ?_ ?_ | refine okV_of ?_ ?_ | refine okV_beh ?_ _ _ ?_))), (by (repeat (first | assumption | exact trivial | exact hfr _ (by omega) | refine okA_upd ?_ ?_ | refine okV_of ?_ ?_ | refine okV_beh ?_ _ _ ?_))), (by (repeat (first | assumption | exact trivial | exact hfr _ (by omega) | refine okA_upd ?_ ?_ | refine okV_of ?_ ?_ | refine okV_beh ?_ _ _ ?_))), (by (repeat (first | assumption | exact trivial | exact hfr _ (by omega) | refine okA_upd ?_ ?_ | refine okV_of ?_ ?_ | refine okV_beh ?_ _ _ ?_))), (by (repeat (first | assumption | exact trivial | exact hfr _ (by omega) | refine okA_upd ?_ ?_ | refine okV_of ?_ ?_ | refine okV_beh ?_ _ _ ?_))), (by (repeat (first | assumption | exact trivial | exact hfr _ (by omega) | refine okA_upd ?_ ?_ | refine okV_of ?_ ?_ | refine okV_beh ?_ _ _ ?_)))⟩ (by omega) hd (Or.inl ⟨rfl, rfl, rfl⟩)))
  refine And.intro (fun hx => ?_) (fun hx15 => ?_)
  · have hx : x = 15 := hx
    subst hx
    have hn9 : needX 15 = 1 := by decide
    obtain ⟨f0, rfl⟩ : ∃ f0, f = f0 + 1 := ⟨f - 1, by omega⟩
    exact k_calculate hz hA hB hfr hS hE hC hD (by omega) (fun _ => And.intro (Or.inl rfl) (hQ _ _ _ _ _ _ _ _ _ _ _ _ _ _ _ _ (Or.inl rfl) hM0 (by omega) hd (Or.inl ⟨rfl, rfl, rfl⟩))) (fun _ _ => And.intro (Or.inr rfl) (hQ _ _ _ _ _ _ _ _ _ _ _ _ _ _ _ _ (Or.inr rfl) ⟨(by (repeat (first | assumption | exact trivial | exact hfr _ (by omega) | refine okA_upd ?_ ?_ | refine okV_of ?_ ?_ | refine okV_beh ?_ _ _ ?_))), (by (repeat (first | assumption | exact trivial | exact hfr _ (by omega) | refine okA_upd ?_ ?_ | refine okV_of ?_ ?_ | refine okV_beh ?_ _ _ ?_))), (by (repeat (first | assumption | exact trivial | exact hfr _ (by omega) | refine okA_upd ?_ ?_ | refine okV_of ?_ ?_ | refine okV_beh ?_ _ _ ?_))), (by (repeat (first | assumption | exact trivial | exact hfr _ (by omega) | refine okA_upd ?_ ?_ | refine okV_of ?_ ?_ | refine okV_beh ?_ _ _ ?_))), (by (repeat (first | assumption | exact trivial | exact hfr _ (by omega) | refine okA_upd ?_ ?_ | refine okV_of ?_ ?_ | refine okV_beh ?_ _ _ ?_))), (by (repeat (first | assumption | exact trivial | exact hfr _ (by omega) | refine okA_upd ?_ ?_ | refine okV_of ?_ ?_ | refine okV_beh ?_ _ _ ?_)))⟩ (by omega) hd (Or.inl ⟨rfl, rfl, rfl⟩)))
  refine And.intro (fun hx => ?_) (fun hx16 => ?_)
  · have hx : x = 16 := hx
    subst hx
    have hn9 : needX 16 = 1 := by decide
    obtain ⟨f0, rfl⟩ : ∃ f0, f = f0 + 1 := ⟨f - 1, by omega⟩
    exact k_calculate hz hA hB hfr hS hE hC hD (by omega) (fun _ => And.intro (Or.inl rfl) (hQ _ _ _ _ _ _ _ _ _ _ _ _ _ _ _ _ (Or.inl rfl) hM0 (by omega) hd (Or.inl ⟨rfl, rfl, rfl⟩))) (fun _ _ => And.intro (Or.inr rfl) (hQ _ _ _ _ _ _ _ _ _ _ _ _ _ _ _ _ (Or.inr rfl) ⟨(by (repeat (first | assumption | exact trivial | exact hfr _ (by omega) | refine okA_upd ?_ ?_ | refine okV_of ?_ ?_ | refine okV_beh ?_ _ _ ?_))), (by (repeat (first | assumption | exact trivial | exact hfr _ (by omega) | refine okA_upd ?_ ?_ | refine okV_of ?_ ?_ | refine okV_beh ?_ _ _ ?_))), (by (repeat (first | assumption | exact trivial | exact hfr _ (by omega) | refine okA_upd ?_ ?_ | refine okV_of ?_ ?_ | refine okV_beh ?_ _ _ ?_))), (by (repeat (first | assumption | exact trivial | exact hfr _ (by omega) | refine okA_upd ?_ ?_ | refine okV_of ?_ ?_ | refine okV_beh ?_ _ _ ?_))), (by (repeat (first | assumption | exact trivial | exact hfr _ (by omega) | refine okA_upd ?_ ?_ | refine okV_of ?_ ?_ | refine okV_beh ?_ _ _ ?_))), (by (repeat (first | assumption | exact trivial | exact hfr _ (by omega) | refine okA_upd ?_ ?_ | refine okV_of ?_ ?_ | refine okV_beh ?_ _ _ ?_)))⟩ (by omega) hd (Or.inl ⟨rfl, rfl, rfl⟩)))
  refine And.intro (fun hx => ?_) (fun hx17 => ?_)
  · have hx : x = 17 := hx
    subst hx
    have hn9 : needX 17 = 1 := by decide
    obtain ⟨f0, rfl⟩ : ∃ f0, f = f0 + 1 := ⟨f - 1, by omega⟩
    exact k_calculate hz hA hB hfr hS hE hC hD (by omega) (fun _ => And.intro (Or.inl rfl) (hQ _ _ _ _ _ _ _ _ _ _ _ _ _ _ _ _ (Or.inl rfl) hM0 (by omega) hd (Or.inl ⟨rfl, rfl, rfl⟩))) (fun _ _ => And.intro (Or.inr rfl) (hQ _ _ _ _ _ _ _ _ _ _ _ _ _ _ _ _ (Or.inr rfl) ⟨(by (repeat (first | assumption | exact trivial | exact hfr _ (by omega) | refine okA_upd ?_ ?_ | refine okV_of ?_ ?_ | refine okV_beh ?_ _ _ ?_))), (by (repeat (first | assumption | exact trivial | exact hfr _ (by omega) | refine okA_upd ?_ ?_ | refine okV_of ?_ ?_ | refine okV_beh ?_ _ _ ?_))), (by (repeat (first | assumption | exact trivial | exact hfr _ (by omega) | refine okA_upd ?_ ?_ | refine okV_of ?_ ?_ | refine okV_beh ?_ _ _ ?_))), (by (repeat (first | assumption | exact trivial | exact hfr _ (by omega) | refine okA_upd ?_ ?_ | refine okV_of ?_ ?_ | refine okV_beh ?_ _ _ ?_))), (by (repeat (first | assumption | exact trivial | exact hfr _ (by omega) | refine okA_upd ?_ ?_ | refine okV_of ?_ ?_ | refine okV_beh ?_ _ _ ?_))), (by (repeat (first | assumption | exact trivial | exact hfr _ (by omega) | refine okA_upd ?_ ?_ | refine okV_of ?_ ?_ | refine okV_beh ?_ _ _ ?_)))⟩ (by omega) hd (Or.inl ⟨rfl, rfl, rfl⟩)))
  refine And.intro (fun hx => ?_) (fun hx18 => ?_)
  · have hx : x = 18 := hx
    subst hx
    have hn9 : needX 18 = 1 := by decide
    obtain ⟨f0, rfl⟩ : ∃ f0, f = f0 + 1 := ⟨f - 1, by omega⟩
    exact k_calculate hz hA hB hfr hS hE hC hD (by omega) (fun _ => And.intro (Or.inl rfl) (hQ _ _ _ _ _ _ _ _ _ _ _ _ _ _ _ _ (Or.inl rfl) hM0 (by omega) hd (Or.inl ⟨rfl, rfl, rfl⟩))) (fun _ _ => And.intro (Or.inr rfl) (hQ _ _ _ _ _ _ _ _ _ _ _ _ _ _ _ _ (Or.inr rfl) ⟨(by (repeat (first | assumption | exact trivial | exact hfr _ (by omega) | refine okA_upd ?_ ?_ | refine okV_of ?_ ?_ | refine okV_beh ?_ _ _ ?_))), (by (repeat (first | assumption | exact trivial | exact hfr _ (by omega) | refine okA_upd ?_ ?_ | refine okV_of ?_ ?_ | refine okV_beh ?_ _ _ ?_))), (by (repeat (first | assumption | exact trivial | exact hfr _ (by omega) | refine okA_upd ?_ ?_ | refine okV_of ?_ ?_ | refine okV_beh ?_ _ _ ?_))), (by (repeat (first | assumption | exact trivial | exact hfr _ (by omega) | refine okA_upd ?_ ?_ | refine okV_of ?_ ?_ | refine okV_beh ?_ _ _ ?_))), (by (repeat (first | assumption | exact trivial | exact hfr _ (by omega) | refine okA_upd ?_ ?_ | refine okV_of ?_ ?_ | refine okV_beh ?_ _ _ ?_))), (by (repeat (first | assumption | exact trivial | exact hfr _ (by omega) | refine okA_upd ?_ ?_ | refine okV_of ?_ ?_ | refine okV_beh ?_ _ _ ?_)))⟩ (by omega) hd (Or.inl ⟨rfl, rfl, rfl⟩)))
  refine And.intro (fun hx => ?_) (fun hx19 => ?_)
  · have hx : x = 19 := hx
    subst hx
    refine k_stop hz hM0 hfr hf hd hc0 hc1 (fun k' n' fb' R' b0' b1' op' q1 q2 q3 => ?_)
    exact And.intro (Or.inr rfl) (hQ _ _ _ _ _ _ _ _ _ _ _ _ _ _ _ _ (Or.inr rfl) hM0 hf q1 (Or.inr ⟨rfl, q2, q3⟩))
  exact And.intro (Or.inl rfl) (hQ _ _ _ _ _ _ _ _ _ _ _ _ _ _ _ _ (Or.inl rfl) hM0 (by omega) hd (Or.inl ⟨rfl, rfl, rfl⟩))
theorem k_stepW (hz : z ≤ 250) (hM : mOK z S E C D H T) (hfr : ∀ j, j < z → fr j < z) (hf : f ≤ z) (hd : dOK z n fb R) (hc0 : 200 ≤ b0) (hc1 : 20000 ≤ b1) (hc : c ≤ z) (hQ : ∀ S' E' C' D' mode' colls' taken' H' T' fr' g' f' k' n' fb' R' b0' b1' op', mOK z S' E' C' D' H' T' → (∀ j, j < z → fr' j < z) → f' ≤ z → dOK z n' fb' R' → ((b0' = b0 ∧ b1' = b1 ∧ (mode' = mode ∨ mode' = 3 ∨ mode' = 4)) ∨ (mode' = 2 ∧ b0 ≤ b0' + 140 ∧ b1 ≤ b1' + 19740) ∨ (mode' = 3 ∧ b0 ≤ b0' + 140 ∧ b1 ≤ b1' + 19740)) → Q (.inl none, (fW o0 o1 o2 o3 o4 o5 o6 o7 o8 o9 o10 o11 o12 o13 o14 o15 S' E' C' D' mode' colls' taken' (steps + 1) z H' T' fr' g' f' c k' n' fb' R' tl, b0', b1', op'))) :
    mj_Mt gT (law_cst xs) gnw (m + 11) y_Machine_step [.ref 16] (fW o0 o1 o2 o3 o4 o5 o6 o7 o8 o9 o10 o11 o12 o13 o14 o15 S E C D mode colls taken steps z H T fr g f c k n fb R tl, b0, b1, op) Q := by
  have hM0 := hM
  obtain ⟨hA, hB, hS, hE, hC, hD⟩ := hM
  intro J hJ
  refine hJ _ _ _ _ ?_
  refine k_instruction hz hA hB hfr hS hE hC hD ?_
  generalize (encV (ofV H C)).toInt32 = x
  have hnl := needX_le x
  refine o_needs ?_
  refine s_freeCells ?_
  refine And.intro (fun h1 => ?_) (fun h1 => ?_)
  · have h1 : needX x ≤ f := (nI_leI (by omega) (by omega)).mp h1
    refine s_freeCells ?_
    refine And.intro (fun _ => ?_) (fun h => absurd (nI_le h1 (by omega)) h)
    refine k_actW h1 hz hM0 hfr hf hd hc0 hc1 (fun b S' E' C' D' mode' H' T' f' k' n' fb' R' b0' b1' op' q1 q2 q3 q4 q5 => ?_)
    refine And.intro (fun _ => ?_) (fun _ => ?_)
    · refine hQ _ _ _ _ _ _ _ _ _ _ _ _ _ _ _ _ _ _ _ q2 hfr q3 q4 ?_
      rcases q5 with ⟨e1, e2, e3⟩ | e
      · exact Or.inl ⟨e2, e3, Or.inl e1⟩
      · exact Or.inr (Or.inl e)
    · refine hQ _ _ _ _ _ _ _ _ _ _ _ _ _ _ _ _ _ _ _ q2 hfr q3 q4 ?_
      rcases q5 with ⟨e1, e2, e3⟩ | e
      · exact Or.inl ⟨e2, e3, Or.inr (Or.inl rfl)⟩
      · exact Or.inr (Or.inr ⟨rfl, e.2⟩)
  · refine k_collect hz hc hA hB hS hE hC hD ?_
    have hfu := fuN_le (mrk z H T S E C D (if c = 0 then vNil else vPr 0) g).1 z 0 (fr, 0)
    have hfr2 := fuN_fr (mrk z H T S E C D (if c = 0 then vNil else vPr 0) g).1 z 0 (fr, 0) (by omega) hfr
    generalize (fuN (mrk z H T S E C D (if c = 0 then vNil else vPr 0) g).1 z 0 (fr, 0)) = p at *
    generalize (mrk z H T S E C D (if c = 0 then vNil else vPr 0) g) = g2
    have hfu : p.2 ≤ 0 + z := hfu
    refine s_freeCells ?_
    refine And.intro (fun h2 => ?_) (fun h2 => ?_)
    · have h2 : needX x ≤ p.2 := (nI_leI (by omega) (by omega)).mp h2
      refine k_actW h2 hz hM0 hfr2 (by omega) hd hc0 hc1 (fun b S' E' C' D' mode' H' T' f' k' n' fb' R' b0' b1' op' q1 q2 q3 q4 q5 => ?_)
      refine And.intro (fun _ => ?_) (fun _ => ?_)
      · refine hQ _ _ _ _ _ _ _ _ _ _ _ _ _ _ _ _ _ _ _ q2 hfr2 q3 q4 ?_
        rcases q5 with ⟨e1, e2, e3⟩ | e
        · exact Or.inl ⟨e2, e3, Or.inl e1⟩
        · exact Or.inr (Or.inl e)
      · refine hQ _ _ _ _ _ _ _ _ _ _ _ _ _ _ _ _ _ _ _ q2 hfr2 q3 q4 ?_
        rcases q5 with ⟨e1, e2, e3⟩ | e
        · exact Or.inl ⟨e2, e3, Or.inr (Or.inl rfl)⟩
        · exact Or.inr (Or.inr ⟨rfl, e.2⟩)
    · exact hQ _ _ _ _ _ _ _ _ _ _ _ _ _ _ _ _ _ _ _ hM0 hfr2 (by omega) hd (Or.inl ⟨rfl, rfl, Or.inr (Or.inr rfl)⟩)
theorem k_beginW (hz : z ≤ 250) (hc : c ≤ z) (hfr : ∀ j, j < z → fr j < z) (h0 : c = 0 → Q (.inl (some (.int 0)), (fW o0 o1 o2 o3 o4 o5 o6 o7 o8 o9 o10 o11 o12 o13 o14 o15 S E C D mode colls taken steps z H T fr g f c k n fb R tl, b0, b1, op)))
    (h1 : 0 < c → Q (.inl (some (.int 1)), (fW o0 o1 o2 o3 o4 o5 o6 o7 o8 o9 o10 o11 o12 o13 o14 o15 vNil vNil (vPr 0) vNil 1 0 0 0 z H T (faN (z - c) c (fr, 0)).1 g (faN (z - c) c (fr, 0)).2 c k n fb R tl, b0, b1, op))) :
    mj_Mt gT cst gnw (m + 3) y_Machine_begin [.ref 16] (fW o0 o1 o2 o3 o4 o5 o6 o7 o8 o9 o10 o11 o12 o13 o14 o15 S E C D mode colls taken steps z H T fr g f c k n fb R tl, b0, b1, op) Q := by
  intro J hJ
  refine hJ _ _ _ _ ?_
  refine s_code (by omega) ?_
  by_cases e : c = 0
  · subst e
    refine And.intro (fun h => absurd (by decide) h) (fun _ => ?_)
    exact And.intro (Or.inl rfl) (h0 rfl)
  · rw [if_neg e]
    refine And.intro (fun _ => ?_) (fun h => absurd (lg_eq.mp h) (by decide))
    refine s_freeAllButCode hz hc ?_
    refine s_code (by omega) ?_
    rw [if_neg e]
    refine k_setRegisters ?_
    exact And.intro (Or.inr rfl) (h1 (by omega))
end P2e
end
