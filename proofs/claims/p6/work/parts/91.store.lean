def upW {α : Type} (g : Nat → α) (k : Nat) (x : α) : Nat → α := fun j => if j = k then x else g j
abbrev eH (g : Nat → Vl) : Nat → Int64 := fun i => encV (g i)
abbrev eN (g : Nat → Nat) : Nat → Int32 := fun i => nI (g i)
def sW (o0 o1 o2 o3 o4 o5 o6 o7 o8 o9 o10 o11 o12 o13 o14 o15 o16 : mj_O) (z : Nat) (H T : Nat → Int64) (fr mk rc : Nat → Int32) (fN rN cN : Int32) (tl : List mj_O) : List mj_O :=
  o0 :: o1 :: o2 :: o3 :: o4 :: o5 :: o6 :: o7 :: o8 :: o9 :: o10 :: o11 :: o12 :: o13 :: o14 :: o15 :: o16 :: oF 7 [.int (nI z), .ref 18, .ref 19, .ref 20, .ref 21, .ref 22, .int fN, .int rN, .int cN] :: oJ z H :: oJ z T :: oI z fr :: oZ z mk :: oI z rc :: tl
def ofV (g : Nat → Vl) : Vl → Vl
  | .inr (.inr (.inr (.inl i))) => g i
  | .inr (.inr (.inr (.inr i))) => g i
  | _ => vNil
def okV (z : Nat) : Vl → Prop
  | .inr (.inr (.inr (.inl i))) => i < z
  | .inr (.inr (.inr (.inr i))) => i < z
  | .inr (.inr (.inl x)) => ∃ c : Nat, c < 256 ∧ x = nI c
  | _ => True
theorem updL_enc (g : Nat → Vl) (k : Nat) (v : Vl) : vp_updL (eH g) k (encV v) = eH (upW g k v) := by
  funext j
  show (if j = k then encV v else encV (g j)) = encV (if j = k then v else g j)
  split <;> rfl
theorem upd_nI (g : Nat → Nat) (k x : Nat) : upd (eN g) k (nI x) = eN (upW g k x) := by
  funext j
  show (if j = k then nI x else nI (g j)) = nI (if j = k then x else g j)
  split <;> rfl
theorem cV_cases (z : Nat) (v : Vl) (hv : okV z v) : (cV v = -1 ∧ ∀ g, ofV g v = vNil) ∨ ∃ i, i < z ∧ cV v = nI i ∧ ∀ g, ofV g v = g i := by
  rcases v with u | x | x | i | i
  · exact Or.inl ⟨rfl, fun _ => rfl⟩
  · exact Or.inl ⟨rfl, fun _ => rfl⟩
  · exact Or.inl ⟨rfl, fun _ => rfl⟩
  · exact Or.inr ⟨i, hv, rfl, fun _ => rfl⟩
  · exact Or.inr ⟨i, hv, rfl, fun _ => rfl⟩
section P2b
variable {cst : Nat → Option (Nat × (Nat → Int32))} {m b0 b1 : Nat} {op : Bool} {tl : List mj_O} {Q : mj_R → Prop}
variable {o0 o1 o2 o3 o4 o5 o6 o7 o8 o9 o10 o11 o12 o13 o14 o15 o16 : mj_O} {z : Nat} {H T : Nat → Vl} {hR tR : Nat → Int64} {fr : Nat → Nat} {frR mk rc : Nat → Int32} {f : Nat} {fN rN cN : Int32}
set_option maxRecDepth 10000
theorem s_head {v : Vl} (hz : z ≤ 250) (hv : okV z v) (hQ : Q (.inl (some (.long (encV (ofV H v)))), (sW o0 o1 o2 o3 o4 o5 o6 o7 o8 o9 o10 o11 o12 o13 o14 o15 o16 z (eH H) tR frR mk rc fN rN cN tl, b0, b1, op))) : mj_Mt gT cst gnw (m + 2) y_Store_head [.ref 17, .long (encV v)] (sW o0 o1 o2 o3 o4 o5 o6 o7 o8 o9 o10 o11 o12 o13 o14 o15 o16 z (eH H) tR frR mk rc fN rN cN tl, b0, b1, op) Q := by
  intro J hJ
  refine hJ _ _ _ _ ?_
  refine v_cell ?_
  rcases cV_cases z v hv with ⟨e, e2⟩ | ⟨i, hi, e, e2⟩
  · rw [e]
    rw [e2] at hQ
    exact And.intro (fun _ => hQ) (fun g => absurd (by decide) g)
  · rw [e]
    rw [e2] at hQ
    refine And.intro (fun (g : nI i < 0) => absurd g (nI_pos (by omega))) (fun _ => ?_)
    refine And.intro (fun (g : nI z ≤ nI i) => absurd g (nI_ge hi (by omega))) (fun _ => ?_)
    refine And.intro (vp_in_nI hi (by omega)) ?_
    have key : ∀ j, j = i → Q (.inl (some (.long (encV (H j)))), (sW o0 o1 o2 o3 o4 o5 o6 o7 o8 o9 o10 o11 o12 o13 o14 o15 o16 z (eH H) tR frR mk rc fN rN cN tl, b0, b1, op)) := by
      rintro j rfl
      exact hQ
    exact key _ (nI_clamp (by omega))
theorem s_tail {v : Vl} (hz : z ≤ 250) (hv : okV z v) (hQ : Q (.inl (some (.long (encV (ofV T v)))), (sW o0 o1 o2 o3 o4 o5 o6 o7 o8 o9 o10 o11 o12 o13 o14 o15 o16 z hR (eH T) frR mk rc fN rN cN tl, b0, b1, op))) : mj_Mt gT cst gnw (m + 2) y_Store_tail [.ref 17, .long (encV v)] (sW o0 o1 o2 o3 o4 o5 o6 o7 o8 o9 o10 o11 o12 o13 o14 o15 o16 z hR (eH T) frR mk rc fN rN cN tl, b0, b1, op) Q := by
  intro J hJ
  refine hJ _ _ _ _ ?_
  refine v_cell ?_
  rcases cV_cases z v hv with ⟨e, e2⟩ | ⟨i, hi, e, e2⟩
  · rw [e]
    rw [e2] at hQ
    exact And.intro (fun _ => hQ) (fun g => absurd (by decide) g)
  · rw [e]
    rw [e2] at hQ
    refine And.intro (fun (g : nI i < 0) => absurd g (nI_pos (by omega))) (fun _ => ?_)
    refine And.intro (fun (g : nI z ≤ nI i) => absurd g (nI_ge hi (by omega))) (fun _ => ?_)
    refine And.intro (vp_in_nI hi (by omega)) ?_
    have key : ∀ j, j = i → Q (.inl (some (.long (encV (T j)))), (sW o0 o1 o2 o3 o4 o5 o6 o7 o8 o9 o10 o11 o12 o13 o14 o15 o16 z hR (eH T) frR mk rc fN rN cN tl, b0, b1, op)) := by
      rintro j rfl
      exact hQ
    exact key _ (nI_clamp (by omega))
theorem s_setHead {v x : Vl} (hz : z ≤ 250) (hv : okV z v) (hQ : ∀ i, cV v = nI i → i < z → Q (.inl none, (sW o0 o1 o2 o3 o4 o5 o6 o7 o8 o9 o10 o11 o12 o13 o14 o15 o16 z (eH (upW H i x)) tR frR mk rc fN rN cN tl, b0, b1, op))) (h0 : cV v = -1 → Q (.inl none, (sW o0 o1 o2 o3 o4 o5 o6 o7 o8 o9 o10 o11 o12 o13 o14 o15 o16 z (eH H) tR frR mk rc fN rN cN tl, b0, b1, op))) : mj_Mt gT cst gnw (m + 2) y_Store_setHead [.ref 17, .long (encV v), .long (encV x)] (sW o0 o1 o2 o3 o4 o5 o6 o7 o8 o9 o10 o11 o12 o13 o14 o15 o16 z (eH H) tR frR mk rc fN rN cN tl, b0, b1, op) Q := by
  intro J hJ
  refine hJ _ _ _ _ ?_
  refine v_cell ?_
  rcases cV_cases z v hv with ⟨e, e2⟩ | ⟨i, hi, e, e2⟩
  · have h1 := h0 e
    rw [e]
    exact And.intro (fun _ => h1) (fun g => absurd (by decide) g)
  · have h1 := hQ i e hi
    rw [e]
    refine And.intro (fun (g : nI i < 0) => absurd g (nI_pos (by omega))) (fun _ => ?_)
    refine And.intro (fun (g : nI z ≤ nI i) => absurd g (nI_ge hi (by omega))) (fun _ => ?_)
    refine And.intro (vp_in_nI hi (by omega)) ?_
    have key : ∀ j, j = i → Q (.inl none, (sW o0 o1 o2 o3 o4 o5 o6 o7 o8 o9 o10 o11 o12 o13 o14 o15 o16 z (vp_updL (eH H) j (encV x)) tR frR mk rc fN rN cN tl, b0, b1, op)) := by
      rintro j rfl
      rw [updL_enc]
      exact h1
    exact key _ (nI_clamp (by omega))
theorem s_newCell {h t : Vl} (hz : z ≤ 250) (hfz : f < z) (hc : fr f < z) (hQ : Q (.inl (some (.int (nI (fr f)))), (sW o0 o1 o2 o3 o4 o5 o6 o7 o8 o9 o10 o11 o12 o13 o14 o15 o16 z (eH (upW H (fr f) h)) (eH (upW T (fr f) t)) (eN fr) mk rc (nI f) rN cN tl, b0, b1, op))) : mj_Mt gT cst gnw (m + 1) y_Store_newCell [.ref 17, .long (encV h), .long (encV t)] (sW o0 o1 o2 o3 o4 o5 o6 o7 o8 o9 o10 o11 o12 o13 o14 o15 o16 z (eH H) (eH T) (eN fr) mk rc (nI (f + 1)) rN cN tl, b0, b1, op) Q := by
  intro J hJ
  refine hJ _ _ _ _ ?_
  refine And.intro (fun _ => ?_) (fun (g : ¬ 0 < nI (f + 1)) => absurd (nI_lt (a := 0) (by omega) (by omega)) g)
  have ef : nI (f + 1) - Int32.ofInt 1 = nI f := nI_pred f
  have ec : (nI (f + 1) - Int32.ofInt 1).toNatClampNeg = f := by
    rw [ef]
    exact nI_clamp (by omega)
  have hin : vp_in (nI (f + 1) - Int32.ofInt 1) z := by
    rw [ef]
    exact vp_in_nI hfz (by omega)
  refine And.intro hin ?_
  rw [ec, ef]
  refine And.intro (vp_in_nI hc (by omega)) ?_
  refine And.intro (vp_in_nI hc (by omega)) ?_
  have key2 : ∀ (j : Nat), j = fr f → Q (.inl (some (.int (nI (fr f)))), (sW o0 o1 o2 o3 o4 o5 o6 o7 o8 o9 o10 o11 o12 o13 o14 o15 o16 z (vp_updL (eH H) j (encV h)) (vp_updL (eH T) j (encV t)) (eN fr) mk rc (nI f) rN cN tl, b0, b1, op)) := by
    rintro j rfl
    rw [updL_enc, updL_enc]
    exact hQ
  exact key2 _ (nI_clamp (by omega))
theorem s_newPair {h t : Vl} (hz : z ≤ 250) (hfz : f < z) (hc : fr f < z) (hQ : Q (.inl (some (.long (encV (vPr (fr f))))), (sW o0 o1 o2 o3 o4 o5 o6 o7 o8 o9 o10 o11 o12 o13 o14 o15 o16 z (eH (upW H (fr f) h)) (eH (upW T (fr f) t)) (eN fr) mk rc (nI f) rN cN tl, b0, b1, op))) : mj_Mt gT cst gnw (m + 2) y_Store_newPair [.ref 17, .long (encV h), .long (encV t)] (sW o0 o1 o2 o3 o4 o5 o6 o7 o8 o9 o10 o11 o12 o13 o14 o15 o16 z (eH H) (eH T) (eN fr) mk rc (nI (f + 1)) rN cN tl, b0, b1, op) Q := by
  intro J hJ
  refine hJ _ _ _ _ ?_
  refine s_newCell hz hfz hc ?_
  exact v_pair hQ
theorem s_newFunction {h t : Vl} (hz : z ≤ 250) (hfz : f < z) (hc : fr f < z) (hQ : Q (.inl (some (.long (encV (vFn (fr f))))), (sW o0 o1 o2 o3 o4 o5 o6 o7 o8 o9 o10 o11 o12 o13 o14 o15 o16 z (eH (upW H (fr f) h)) (eH (upW T (fr f) t)) (eN fr) mk rc (nI f) rN cN tl, b0, b1, op))) : mj_Mt gT cst gnw (m + 2) y_Store_newFunction [.ref 17, .long (encV h), .long (encV t)] (sW o0 o1 o2 o3 o4 o5 o6 o7 o8 o9 o10 o11 o12 o13 o14 o15 o16 z (eH H) (eH T) (eN fr) mk rc (nI (f + 1)) rN cN tl, b0, b1, op) Q := by
  intro J hJ
  refine hJ _ _ _ _ ?_
  refine s_newCell hz hfz hc ?_
  exact v_function hQ
def behV (T : Nat → Vl) : Nat → Vl → Vl
  | 0, v => v
  | n + 1, v => match v with
    | .inr (.inr (.inr (.inl i))) => behV T n (T i)
    | _ => v
theorem behV_stop {T : Nat → Vl} {v : Vl} (h : ¬ kV v = 3) : ∀ n, behV T n v = v := by
  intro n
  cases n with
  | zero => rfl
  | succ n =>
    rcases v with u | x | x | i | i
    · rfl
    · rfl
    · rfl
    · exact absurd rfl h
    · rfl
theorem okV_beh {T : Nat → Vl} {z : Nat} (hT : ∀ i, i < z → okV z (T i)) : ∀ (n : Nat) (v : Vl), okV z v → okV z (behV T n v) := by
  intro n
  induction n with
  | zero => exact fun v h => h
  | succ n ih =>
    intro v h
    rcases v with u | x | x | i | i
    · exact h
    · exact h
    · exact h
    · exact ih _ (hT i h)
    · exact h
theorem s_behind {v : Vl} {n : Nat} (hz : z ≤ 250) (hn : n < 2 ^ 31) (hT : ∀ i, i < z → okV z (T i)) (hv : okV z v) (hQ : Q (.inl (some (.long (encV (behV T n v)))), (sW o0 o1 o2 o3 o4 o5 o6 o7 o8 o9 o10 o11 o12 o13 o14 o15 o16 z hR (eH T) frR mk rc fN rN cN tl, b0, b1, op))) : mj_Mt gT cst gnw (m + 3) y_Store_behind [.ref 17, .long (encV v), .int (nI n)] (sW o0 o1 o2 o3 o4 o5 o6 o7 o8 o9 o10 o11 o12 o13 o14 o15 o16 z hR (eH T) frR mk rc fN rN cN tl, b0, b1, op) Q := by
  intro J hJ
  have loop : ∀ (j k : Nat) (u : Vl), j + k = n → okV z u → behV T j u = behV T n v → J 4 [some (.ref 17), some (.long (encV v)), none, some (.int (nI n)), some (.long (encV u)), none, some (.int (nI k))] [] (sW o0 o1 o2 o3 o4 o5 o6 o7 o8 o9 o10 o11 o12 o13 o14 o15 o16 z hR (eH T) frR mk rc fN rN cN tl, b0, b1, op) := by
    intro j
    induction j with
    | zero =>
      intro k u hk hu e
      change u = _ at e
      subst e
      refine hJ _ _ _ _ ?_
      exact And.intro (fun _ => hQ) (fun (g : ¬ nI n ≤ nI k) => absurd (nI_le (by omega) (by omega)) g)
    | succ j ih =>
      intro k u hk hu e
      refine hJ _ _ _ _ ?_
      refine And.intro (fun (g : nI n ≤ nI k) => absurd g (nI_ge (by omega) (by omega))) (fun _ => ?_)
      refine v_isPair ?_
      by_cases h3 : kV u = 3
      · rw [show (kV u == 3) = true by simp [h3]]
        refine And.intro (fun g => absurd g (by decide)) (fun _ => ?_)
        refine s_tail hz hu ?_
        rcases u with u | x | x | i | i
        · exact absurd h3 (by simp [kV])
        · exact absurd h3 (by simp [kV])
        · exact absurd h3 (by simp [kV])
        · have key : ∀ x : Int32, x = nI (k + 1) → J 4 [some (.ref 17), some (.long (encV v)), none, some (.int (nI n)), some (.long (encV (T i))), none, some (.int x)] [] (sW o0 o1 o2 o3 o4 o5 o6 o7 o8 o9 o10 o11 o12 o13 o14 o15 o16 z hR (eH T) frR mk rc fN rN cN tl, b0, b1, op) := by
            rintro x rfl
            exact ih (k + 1) (T i) (by omega) (hT i hu) e
          exact key _ (nI_succ k).symm
        · exact absurd h3 (by simp [kV])
      · rw [show (kV u == 3) = false by simp [h3]]
        rw [behV_stop h3] at e
        subst e
        exact And.intro (fun _ => hQ) (fun g => absurd rfl g)
  refine hJ _ _ _ _ ?_
  exact loop n 0 v rfl hv rfl
end P2b
