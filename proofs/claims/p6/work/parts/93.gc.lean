abbrev eB (g : Nat → Bool) : Nat → Int32 := fun i => bI (g i)
theorem upd_bI (g : Nat → Bool) (k : Nat) (x : Bool) : upd (eB g) k (vp_nar .boolean (bI x)) = eB (upW g k x) := by
  funext j
  show (if j = k then vp_nar .boolean (bI x) else bI (g j)) = bI (if j = k then x else g j)
  split
  · cases x <;> decide
  · rfl
abbrev gS : Type := (Nat → Bool) × (Nat → Nat) × Nat
def ceV (v : Vl) : Option Nat := match v with
  | .inr (.inr (.inr (.inl i))) => some i
  | .inr (.inr (.inr (.inr i))) => some i
  | _ => none
def rch (z : Nat) (v : Vl) (g : gS) : gS := match ceV v with
  | none => g
  | some i => if g.1 i = false ∧ g.2.2 < z then (upW g.1 i true, upW g.2.1 g.2.2 i, g.2.2 + 1) else g
def okG (z : Nat) (g : gS) : Prop := g.2.2 ≤ z ∧ ∀ k, k < g.2.2 → g.2.1 k < z
theorem ceV_cases (z : Nat) (v : Vl) (hv : okV z v) : (cV v = -1 ∧ ceV v = none) ∨ ∃ i, i < z ∧ cV v = nI i ∧ ceV v = some i := by
  rcases v with u | x | x | i | i
  · exact Or.inl ⟨rfl, rfl⟩
  · exact Or.inl ⟨rfl, rfl⟩
  · exact Or.inl ⟨rfl, rfl⟩
  · exact Or.inr ⟨i, hv, rfl, rfl⟩
  · exact Or.inr ⟨i, hv, rfl, rfl⟩
theorem okG_rch {z : Nat} {v : Vl} {g : gS} (hv : okV z v) (hg : okG z g) : okG z (rch z v g) := by
  unfold rch
  rcases ceV_cases z v hv with ⟨-, e⟩ | ⟨i, hi, -, e⟩
  · rw [e]
    exact hg
  · rw [e]
    show okG z (if g.1 i = false ∧ g.2.2 < z then _ else g)
    split
    · rename_i h
      refine ⟨h.2, fun k hk => ?_⟩
      show upW g.2.1 g.2.2 i k < z
      unfold upW
      split
      · exact hi
      · exact hg.2 k (by have : k < g.2.2 + 1 := hk; omega)
    · exact hg
def bfs (z : Nat) (H T : Nat → Vl) : Nat → Nat → gS → gS
  | 0, _, g => g
  | n + 1, k, g => if k < g.2.2 then bfs z H T n (k + 1) (rch z (T ((rch z (H (g.2.1 k)) g).2.1 k)) (rch z (H (g.2.1 k)) g)) else g
theorem rch_keep {z k : Nat} {v : Vl} {g : gS} (hk : k < g.2.2) : (rch z v g).2.1 k = g.2.1 k ∧ k < (rch z v g).2.2 := by
  unfold rch
  split
  · exact ⟨rfl, hk⟩
  · split
    · refine ⟨?_, by show k < g.2.2 + 1; omega⟩
      show upW g.2.1 g.2.2 _ k = g.2.1 k
      unfold upW
      rw [if_neg (by omega)]
    · exact ⟨rfl, hk⟩
def clr (k : Nat) (f : Nat → Bool) : Nat → Bool := fun i => if i < k then false else f i
theorem clr_step (k : Nat) (f : Nat → Bool) : upd (eB (clr k f)) k (vp_nar .boolean 0) = eB (clr (k + 1) f) := by
  have e : vp_nar .boolean 0 = vp_nar .boolean (bI false) := rfl
  rw [e, upd_bI]
  congr 1
  funext j
  unfold upW clr
  by_cases h : j = k
  · rw [if_pos h, if_pos (by omega)]
  · rw [if_neg h]
    by_cases h2 : j < k
    · rw [if_pos h2, if_pos (by omega)]
    · rw [if_neg h2, if_neg (by omega)]
theorem clr_0 (f : Nat → Bool) : clr 0 f = f := by
  funext j
  unfold clr
  rw [if_neg (by omega)]
def mrk (z : Nat) (H T : Nat → Vl) (S E C D K : Vl) : gS → gS := fun g => bfs z H T z 0 (rch z K (rch z D (rch z C (rch z E (rch z S (clr z g.1, g.2.1, 0))))))
def fuN (mk : Nat → Bool) : Nat → Nat → (Nat → Nat) × Nat → (Nat → Nat) × Nat
  | 0, _, p => p
  | n + 1, c, p => if mk c then fuN mk n (c + 1) p else fuN mk n (c + 1) (upW p.1 p.2 c, p.2 + 1)
def faN : Nat → Nat → (Nat → Nat) × Nat → (Nat → Nat) × Nat
  | 0, _, p => p
  | n + 1, c, p => faN n (c + 1) (upW p.1 p.2 c, p.2 + 1)
def lenN (T : Nat → Vl) : Nat → Vl → Nat
  | 0, _ => 0
  | n + 1, v => match v with
    | .inr (.inr (.inr (.inl i))) => lenN T n (T i) + 1
    | _ => 0
section P2d
variable {cst : Nat → Option (Nat × (Nat → Int32))} {m b0 b1 : Nat} {op : Bool} {tl : List mj_O} {Q : mj_R → Prop}
variable {o0 o1 o2 o3 o4 o5 o6 o7 o8 o9 o10 o11 o12 o13 o14 o15 o16 : mj_O} {z : Nat} {H T : Nat → Vl} {hR tR : Nat → Int64} {fr : Nat → Nat} {frR mkR rcR : Nat → Int32} {f : Nat} {fN rN cN : Int32} {g : gS}
set_option maxRecDepth 10000
theorem s_reach {v : Vl} (hz : z ≤ 250) (hv : okV z v) (hg : okG z g) (hQ : Q (.inl none, (sW o0 o1 o2 o3 o4 o5 o6 o7 o8 o9 o10 o11 o12 o13 o14 o15 o16 z hR tR frR (eB (rch z v g).1) (eN (rch z v g).2.1) fN (nI (rch z v g).2.2) cN tl, b0, b1, op))) : mj_Mt gT cst gnw (m + 2) y_Store_reach [.ref 17, .long (encV v)] (sW o0 o1 o2 o3 o4 o5 o6 o7 o8 o9 o10 o11 o12 o13 o14 o15 o16 z hR tR frR (eB g.1) (eN g.2.1) fN (nI g.2.2) cN tl, b0, b1, op) Q := by
  obtain ⟨mk, rc, n⟩ := g
  intro J hJ
  refine hJ _ _ _ _ ?_
  refine v_cell ?_
  rcases ceV_cases z v hv with ⟨e, e2⟩ | ⟨i, hi, e, e2⟩
  · have e3 : rch z v (mk, rc, n) = (mk, rc, n) := by
      unfold rch
      rw [e2]
    rw [e3] at hQ
    rw [e]
    exact And.intro (fun _ => hQ) (fun g => absurd (by decide) g)
  · have e3 : rch z v (mk, rc, n) = if mk i = false ∧ n < z then (upW mk i true, upW rc n i, n + 1) else (mk, rc, n) := by
      unfold rch
      rw [e2]
    have hn : n ≤ z := hg.1
    rw [e3] at hQ
    rw [e]
    have ei : (nI i).toNatClampNeg = i := nI_clamp (by omega)
    refine And.intro (fun (q : nI i < 0) => absurd q (nI_pos (by omega))) (fun _ => ?_)
    refine And.intro (fun (q : nI z ≤ nI i) => absurd q (nI_ge hi (by omega))) (fun _ => ?_)
    refine And.intro (vp_in_nI hi (by omega)) ?_
    refine And.intro (fun (q : ¬ bI (mk (nI i).toNatClampNeg) = 0) => ?_) (fun (q : bI (mk (nI i).toNatClampNeg) = 0) => ?_)
    · rw [ei] at q
      have hm : ¬ mk i = false := fun h => q (by rw [h]; rfl)
      rw [if_neg (fun h => hm h.1)] at hQ
      exact hQ
    · rw [ei] at q
      have hm : mk i = false := by
        cases h : mk i with
        | false => rfl
        | true => rw [h] at q; exact absurd q (by decide)
      by_cases hnz : n < z
      · rw [if_pos ⟨hm, hnz⟩] at hQ
        refine And.intro (fun (q : nI z ≤ nI n) => absurd q (nI_ge hnz (by omega))) (fun _ => ?_)
        refine And.intro (vp_in_nI hi (by omega)) ?_
        refine And.intro (vp_in_nI hnz (by omega)) ?_
        have key : ∀ (a b : Nat) (x : Int32), a = i → b = n → x = nI (n + 1) → Q (.inl none, (sW o0 o1 o2 o3 o4 o5 o6 o7 o8 o9 o10 o11 o12 o13 o14 o15 o16 z hR tR frR (upd (eB mk) a (vp_nar .boolean (bI true))) (upd (eN rc) b (nI i)) fN x cN tl, b0, b1, op)) := by
          rintro a b x rfl rfl rfl
          rw [upd_bI, upd_nI]
          exact hQ
        exact key _ _ _ ei (nI_clamp (show n < 2 ^ 31 by omega)) (nI_succ n).symm
      · rw [if_neg (fun h => hnz h.2)] at hQ
        exact And.intro (fun _ => hQ) (fun (q : ¬ nI z ≤ nI n) => absurd (nI_le (by omega) (by omega)) q)
theorem s_length {v : Vl} (hz : z ≤ 250) (hT : okA z T) (hv : okV z v) (hQ : Q (.inl (some (.int (nI (lenN T z v)))), (sW o0 o1 o2 o3 o4 o5 o6 o7 o8 o9 o10 o11 o12 o13 o14 o15 o16 z hR (eH T) frR mkR rcR fN rN cN tl, b0, b1, op))) : mj_Mt gT cst gnw (m + 3) y_Store_length [.ref 17, .long (encV v)] (sW o0 o1 o2 o3 o4 o5 o6 o7 o8 o9 o10 o11 o12 o13 o14 o15 o16 z hR (eH T) frR mkR rcR fN rN cN tl, b0, b1, op) Q := by
  intro J hJ
  have loop : ∀ (j k : Nat) (u : Vl), j + k = z → okV z u → lenN T j u + k = lenN T z v → J 4 [some (.ref 17), some (.long (encV v)), none, some (.int (nI k)), some (.long (encV u)), none] [] (sW o0 o1 o2 o3 o4 o5 o6 o7 o8 o9 o10 o11 o12 o13 o14 o15 o16 z hR (eH T) frR mkR rcR fN rN cN tl, b0, b1, op) := by
    intro j
    induction j with
    | zero =>
      intro k u hk hu e
      have e' : k = lenN T z v := by
        have : lenN T 0 u = 0 := rfl
        omega
      refine hJ _ _ _ _ ?_
      refine v_isPair ?_
      have hQ' : Q (.inl (some (.int (nI k))), (sW o0 o1 o2 o3 o4 o5 o6 o7 o8 o9 o10 o11 o12 o13 o14 o15 o16 z hR (eH T) frR mkR rcR fN rN cN tl, b0, b1, op)) := by rw [e']; exact hQ
      by_cases h3 : kV u = 3
      · rw [show (kV u == 3) = true by simp [h3]]
        refine And.intro (fun g => absurd g (by decide)) (fun _ => ?_)
        exact And.intro (fun _ => hQ') (fun (g : ¬ nI z ≤ nI k) => absurd (nI_le (by omega) (by omega)) g)
      · rw [show (kV u == 3) = false by simp [h3]]
        exact And.intro (fun _ => hQ') (fun g => absurd rfl g)
    | succ j ih =>
      intro k u hk hu e
      refine hJ _ _ _ _ ?_
      refine v_isPair ?_
      by_cases h3 : kV u = 3
      · rw [show (kV u == 3) = true by simp [h3]]
        refine And.intro (fun g => absurd g (by decide)) (fun _ => ?_)
        refine And.intro (fun (g : nI z ≤ nI k) => absurd g (nI_ge (by omega) (by omega))) (fun _ => ?_)
        refine s_tail hz hu ?_
        rcases u with u | x | x | i | i
        · exact absurd h3 (by simp [kV])
        · exact absurd h3 (by simp [kV])
        · exact absurd h3 (by simp [kV])
        · have key : ∀ x : Int32, x = nI (k + 1) → J 4 [some (.ref 17), some (.long (encV v)), none, some (.int x), some (.long (encV (T i))), none] [] (sW o0 o1 o2 o3 o4 o5 o6 o7 o8 o9 o10 o11 o12 o13 o14 o15 o16 z hR (eH T) frR mkR rcR fN rN cN tl, b0, b1, op) := by
            rintro x rfl
            have e2 : lenN T (j + 1) (vPr i) = lenN T j (T i) + 1 := rfl
            exact ih (k + 1) (T i) (by omega) (hT i hu) (by rw [e2] at e; omega)
          exact key _ (nI_succ k).symm
        · exact absurd h3 (by simp [kV])
      · have e2 : lenN T (j + 1) u = 0 := by
          rcases u with u | x | x | i | i
          · rfl
          · rfl
          · rfl
          · exact absurd rfl h3
          · rfl
        have hQ' : Q (.inl (some (.int (nI k))), (sW o0 o1 o2 o3 o4 o5 o6 o7 o8 o9 o10 o11 o12 o13 o14 o15 o16 z hR (eH T) frR mkR rcR fN rN cN tl, b0, b1, op)) := by
          rw [show k = lenN T z v by omega]
          exact hQ
        rw [show (kV u == 3) = false by simp [h3]]
        exact And.intro (fun _ => hQ') (fun g => absurd rfl g)
  refine hJ _ _ _ _ ?_
  exact loop z 0 v (by omega) hv (by omega)
theorem s_code {c : Nat} (hc : c ≤ 250) (hQ : Q (.inl (some (.long (encV (if c = 0 then vNil else vPr 0)))), (sW o0 o1 o2 o3 o4 o5 o6 o7 o8 o9 o10 o11 o12 o13 o14 o15 o16 z hR tR frR mkR rcR fN rN (nI c) tl, b0, b1, op))) : mj_Mt gT cst gnw (m + 2) y_Store_code [.ref 17] (sW o0 o1 o2 o3 o4 o5 o6 o7 o8 o9 o10 o11 o12 o13 o14 o15 o16 z hR tR frR mkR rcR fN rN (nI c) tl, b0, b1, op) Q := by
  intro J hJ
  refine hJ _ _ _ _ ?_
  by_cases h : c = 0
  · rw [if_pos h] at hQ
    exact And.intro (fun _ => hQ) (fun (q : ¬ nI c ≤ 0) => absurd (by rw [h]; decide) q)
  · rw [if_neg h] at hQ
    refine And.intro (fun (q : nI c ≤ 0) => absurd q (nI_nle (by omega) (by omega))) (fun _ => ?_)
    exact v_pair (a := 0) hQ
theorem s_mark {S E C D : Vl} {c : Nat} (hz : z ≤ 250) (hc : c ≤ z) (hH : okA z H) (hT : okA z T) (hS : okV z S) (hE : okV z E) (hC : okV z C) (hD : okV z D) (hQ : Q (.inl (some (.int (nI (mrk z H T S E C D (if c = 0 then vNil else vPr 0) g).2.2))), (sW o0 o1 o2 o3 o4 o5 o6 o7 o8 o9 o10 o11 o12 o13 o14 o15 o16 z (eH H) (eH T) frR (eB (mrk z H T S E C D (if c = 0 then vNil else vPr 0) g).1) (eN (mrk z H T S E C D (if c = 0 then vNil else vPr 0) g).2.1) fN (nI (mrk z H T S E C D (if c = 0 then vNil else vPr 0) g).2.2) (nI c) tl, b0, b1, op))) : mj_Mt gT cst gnw (m + 3) y_Store_mark [.ref 17, .long (encV S), .long (encV E), .long (encV C), .long (encV D)] (sW o0 o1 o2 o3 o4 o5 o6 o7 o8 o9 o10 o11 o12 o13 o14 o15 o16 z (eH H) (eH T) frR (eB g.1) (eN g.2.1) fN (nI g.2.2) (nI c) tl, b0, b1, op) Q := by
  obtain ⟨mk, rc, n⟩ := g
  have hK : okV z (if c = 0 then vNil else vPr 0) := by
    split
    · exact trivial
    · show 0 < z
      omega
  generalize hKe : (if c = 0 then vNil else vPr 0) = K at hQ hK
  intro J hJ
  have loop2 : ∀ (j k : Nat) (g : gS), j + k = z → okG z g → bfs z H T j k g = mrk z H T S E C D K (mk, rc, n) → J 34 [some (.ref 17), some (.long (encV S)), none, some (.long (encV E)), none, some (.long (encV C)), none, some (.long (encV D)), none, some (.int (nI k))] [] (sW o0 o1 o2 o3 o4 o5 o6 o7 o8 o9 o10 o11 o12 o13 o14 o15 o16 z (eH H) (eH T) frR (eB g.1) (eN g.2.1) fN (nI g.2.2) (nI c) tl, b0, b1, op) := by
    intro j
    induction j with
    | zero =>
      intro k g hk hg e
      change g = _ at e
      subst e
      have h1 := hg.1
      refine hJ _ _ _ _ ?_
      exact And.intro (fun _ => hQ) (fun _ => And.intro (fun _ => hQ) (fun (q : ¬ nI z ≤ nI k) => absurd (nI_le (by omega) (by omega)) q))
    | succ j ih =>
      intro k g hk hg e
      have h1 := hg.1
      have e2 : bfs z H T (j + 1) k g = if k < g.2.2 then bfs z H T j (k + 1) (rch z (T ((rch z (H (g.2.1 k)) g).2.1 k)) (rch z (H (g.2.1 k)) g)) else g := rfl
      rw [e2] at e
      refine hJ _ _ _ _ ?_
      by_cases hkn : k < g.2.2
      · rw [if_pos hkn] at e
        have hc1 := hg.2 k hkn
        have hg1 := okG_rch (hH _ hc1) hg
        obtain ⟨k1, k2⟩ := rch_keep (z := z) (v := H (g.2.1 k)) hkn
        have hc2 := hg1.2 k k2
        have hg2 := okG_rch (hT _ hc2) hg1
        refine And.intro (fun (q : nI g.2.2 ≤ nI k) => absurd q (nI_ge hkn (by omega))) (fun _ => ?_)
        refine And.intro (fun (q : nI z ≤ nI k) => absurd q (nI_ge (by omega) (by omega))) (fun _ => ?_)
        have ek : (nI k).toNatClampNeg = k := nI_clamp (by omega)
        refine And.intro (vp_in_nI (show k < z by omega) (by omega)) ?_
        rw [ek]
        refine And.intro (vp_in_nI hc1 (by omega)) ?_
        rw [show (nI (g.2.1 k)).toNatClampNeg = g.2.1 k from nI_clamp (by omega)]
        refine s_reach hz (hH _ hc1) hg ?_
        refine And.intro (vp_in_nI (show k < z by omega) (by omega)) ?_
        rw [ek]
        refine And.intro (vp_in_nI hc2 (by omega)) ?_
        rw [show (nI ((rch z (H (g.2.1 k)) g).2.1 k)).toNatClampNeg = (rch z (H (g.2.1 k)) g).2.1 k from nI_clamp (by omega)]
        refine s_reach hz (hT _ hc2) hg1 ?_
        have key : ∀ x : Int32, x = nI (k + 1) → J 34 [some (.ref 17), some (.long (encV S)), none, some (.long (encV E)), none, some (.long (encV C)), none, some (.long (encV D)), none, some (.int x)] [] (sW o0 o1 o2 o3 o4 o5 o6 o7 o8 o9 o10 o11 o12 o13 o14 o15 o16 z (eH H) (eH T) frR (eB (rch z (T ((rch z (H (g.2.1 k)) g).2.1 k)) (rch z (H (g.2.1 k)) g)).1) (eN (rch z (T ((rch z (H (g.2.1 k)) g).2.1 k)) (rch z (H (g.2.1 k)) g)).2.1) fN (nI (rch z (T ((rch z (H (g.2.1 k)) g).2.1 k)) (rch z (H (g.2.1 k)) g)).2.2) (nI c) tl, b0, b1, op) := by
          rintro x rfl
          exact ih (k + 1) _ (by omega) hg2 e
        exact key _ (nI_succ k).symm
      · rw [if_neg hkn] at e
        rw [← e] at hQ
        exact And.intro (fun _ => hQ) (fun (q : ¬ nI g.2.2 ≤ nI k) => absurd (nI_le (by omega) (by omega)) q)
  have loop1 : ∀ (j k : Nat), j + k = z → J 2 [some (.ref 17), some (.long (encV S)), none, some (.long (encV E)), none, some (.long (encV C)), none, some (.long (encV D)), none, some (.int (nI k))] [] (sW o0 o1 o2 o3 o4 o5 o6 o7 o8 o9 o10 o11 o12 o13 o14 o15 o16 z (eH H) (eH T) frR (eB (clr k mk)) (eN rc) fN (nI n) (nI c) tl, b0, b1, op) := by
    intro j
    induction j with
    | zero =>
      intro k hk
      have e : k = z := by omega
      subst e
      refine hJ _ _ _ _ ?_
      refine And.intro (fun _ => ?_) (fun (q : ¬ nI k ≤ nI k) => absurd (nI_le (by omega) (by omega)) q)
      have g0 : okG k (clr k mk, rc, 0) := ⟨by show 0 ≤ k; omega, fun i hi => absurd hi (by show ¬ i < 0; omega)⟩
      have g1 := okG_rch hS g0
      have g2 := okG_rch hE g1
      have g3 := okG_rch hC g2
      have g4 := okG_rch hD g3
      have g5 := okG_rch hK g4
      refine s_reach (g := (clr k mk, rc, 0)) hz hS g0 ?_
      refine s_reach hz hE g1 ?_
      refine s_reach hz hC g2 ?_
      refine s_reach hz hD g3 ?_
      refine s_code (by omega) ?_
      rw [hKe]
      refine s_reach hz hK g4 ?_
      exact loop2 k 0 _ (by omega) g5 rfl
    | succ j ih =>
      intro k hk
      refine hJ _ _ _ _ ?_
      refine And.intro (fun (q : nI z ≤ nI k) => absurd q (nI_ge (by omega) (by omega))) (fun _ => ?_)
      refine And.intro (vp_in_nI (show k < z by omega) (by omega)) ?_
      have key : ∀ (i : Nat) (x : Int32), i = k → x = nI (k + 1) → J 2 [some (.ref 17), some (.long (encV S)), none, some (.long (encV E)), none, some (.long (encV C)), none, some (.long (encV D)), none, some (.int x)] [] (sW o0 o1 o2 o3 o4 o5 o6 o7 o8 o9 o10 o11 o12 o13 o14 o15 o16 z (eH H) (eH T) frR (upd (eB (clr k mk)) i (vp_nar .boolean 0)) (eN rc) fN (nI n) (nI c) tl, b0, b1, op) := by
        rintro i x rfl rfl
        rw [clr_step]
        exact ih (i + 1) (by omega)
      exact key _ _ (nI_clamp (by omega)) (nI_succ k).symm
  refine hJ _ _ _ _ ?_
  have h0 := loop1 z 0 (by omega)
  rw [clr_0] at h0
  exact h0
variable {mk : Nat → Bool} {p : (Nat → Nat) × Nat}
theorem fuN_le (mk : Nat → Bool) : ∀ (j c : Nat) (p : (Nat → Nat) × Nat), (fuN mk j c p).2 ≤ p.2 + j := by
  intro j
  induction j with
  | zero => intro c p; exact Nat.le_refl _
  | succ j ih =>
    intro c p
    have e : fuN mk (j + 1) c p = if mk c then fuN mk j (c + 1) p else fuN mk j (c + 1) (upW p.1 p.2 c, p.2 + 1) := rfl
    rw [e]
    split
    · have := ih (c + 1) p
      omega
    · have h1 := ih (c + 1) (upW p.1 p.2 c, p.2 + 1)
      have h2 : (upW p.1 p.2 c, p.2 + 1).2 = p.2 + 1 := rfl
      omega
theorem s_freeUnmarked (hz : z ≤ 250) (hQ : Q (.inl (some (.int (nI (fuN mk z 0 (p.1, 0)).2 - nI p.2))), (sW o0 o1 o2 o3 o4 o5 o6 o7 o8 o9 o10 o11 o12 o13 o14 o15 o16 z hR tR (eN (fuN mk z 0 (p.1, 0)).1) (eB mk) rcR (nI (fuN mk z 0 (p.1, 0)).2) rN cN tl, b0, b1, op))) : mj_Mt gT cst gnw (m + 1) y_Store_freeUnmarked [.ref 17] (sW o0 o1 o2 o3 o4 o5 o6 o7 o8 o9 o10 o11 o12 o13 o14 o15 o16 z hR tR (eN p.1) (eB mk) rcR (nI p.2) rN cN tl, b0, b1, op) Q := by
  obtain ⟨fr, f⟩ := p
  intro J hJ
  have loop : ∀ (j c : Nat) (p : (Nat → Nat) × Nat), j + c = z → p.2 ≤ c → fuN mk j c p = fuN mk z 0 (fr, 0) → J 8 [some (.ref 17), some (.int (nI f)), some (.int (nI c))] [] (sW o0 o1 o2 o3 o4 o5 o6 o7 o8 o9 o10 o11 o12 o13 o14 o15 o16 z hR tR (eN p.1) (eB mk) rcR (nI p.2) rN cN tl, b0, b1, op) := by
    intro j
    induction j with
    | zero =>
      intro c p hc hp e
      change p = _ at e
      have ec : c = z := by omega
      subst ec
      rw [← e] at hQ
      refine hJ _ _ _ _ ?_
      exact And.intro (fun _ => hQ) (fun (q : ¬ nI c ≤ nI c) => absurd (nI_le (by omega) (by omega)) q)
    | succ j ih =>
      intro c p hc hp e
      have e2 : fuN mk (j + 1) c p = if mk c then fuN mk j (c + 1) p else fuN mk j (c + 1) (upW p.1 p.2 c, p.2 + 1) := rfl
      rw [e2] at e
      have ec : (nI c).toNatClampNeg = c := nI_clamp (by omega)
      refine hJ _ _ _ _ ?_
      refine And.intro (fun (q : nI z ≤ nI c) => absurd q (nI_ge (by omega) (by omega))) (fun _ => ?_)
      refine And.intro (vp_in_nI (show c < z by omega) (by omega)) ?_
      rw [ec]
      refine And.intro (fun (q : ¬ bI (mk c) = 0) => ?_) (fun (q : bI (mk c) = 0) => ?_)
      · have hm : mk c = true := by
          cases h : mk c with
          | true => rfl
          | false => rw [h] at q; exact absurd rfl q
        rw [hm, if_pos rfl] at e
        have key : ∀ x : Int32, x = nI (c + 1) → J 8 [some (.ref 17), some (.int (nI f)), some (.int x)] [] (sW o0 o1 o2 o3 o4 o5 o6 o7 o8 o9 o10 o11 o12 o13 o14 o15 o16 z hR tR (eN p.1) (eB mk) rcR (nI p.2) rN cN tl, b0, b1, op) := by
          rintro x rfl
          exact ih (c + 1) p (by omega) (by omega) e
        exact key _ (nI_succ c).symm
      · have hm : mk c = false := by
          cases h : mk c with
          | false => rfl
          | true => rw [h] at q; exact absurd q (by decide)
        rw [hm] at e
        rw [if_neg (by decide)] at e
        refine And.intro (vp_in_nI (show p.2 < z by omega) (by omega)) ?_
        have key : ∀ (i : Nat) (x y : Int32), i = p.2 → x = nI (c + 1) → y = nI (p.2 + 1) → J 8 [some (.ref 17), some (.int (nI f)), some (.int x)] [] (sW o0 o1 o2 o3 o4 o5 o6 o7 o8 o9 o10 o11 o12 o13 o14 o15 o16 z hR tR (upd (eN p.1) i (nI c)) (eB mk) rcR y rN cN tl, b0, b1, op) := by
          rintro i x y rfl rfl rfl
          rw [upd_nI]
          exact ih (c + 1) (upW p.1 p.2 c, p.2 + 1) (by omega) (by show p.2 + 1 ≤ c + 1; omega) e
        exact key _ _ _ (nI_clamp (by omega)) (nI_succ c).symm (nI_succ p.2).symm
  refine hJ _ _ _ _ ?_
  exact loop z 0 (fr, 0) (by omega) (by show 0 ≤ 0; omega) rfl
theorem s_freeAllButCode {c : Nat} (hz : z ≤ 250) (hc : c ≤ z) (hQ : Q (.inl none, (sW o0 o1 o2 o3 o4 o5 o6 o7 o8 o9 o10 o11 o12 o13 o14 o15 o16 z hR tR (eN (faN (z - c) c (fr, 0)).1) mkR rcR (nI (faN (z - c) c (fr, 0)).2) rN (nI c) tl, b0, b1, op))) : mj_Mt gT cst gnw (m + 1) y_Store_freeAllButCode [.ref 17] (sW o0 o1 o2 o3 o4 o5 o6 o7 o8 o9 o10 o11 o12 o13 o14 o15 o16 z hR tR (eN fr) mkR rcR fN rN (nI c) tl, b0, b1, op) Q := by
  intro J hJ
  have loop : ∀ (j k : Nat) (p : (Nat → Nat) × Nat), j + k = z → p.2 ≤ k → faN j k p = faN (z - c) c (fr, 0) → J 6 [some (.ref 17), some (.int (nI k))] [] (sW o0 o1 o2 o3 o4 o5 o6 o7 o8 o9 o10 o11 o12 o13 o14 o15 o16 z hR tR (eN p.1) mkR rcR (nI p.2) rN (nI c) tl, b0, b1, op) := by
    intro j
    induction j with
    | zero =>
      intro k p hk hp e
      change p = _ at e
      have ek : k = z := by omega
      subst ek
      rw [← e] at hQ
      refine hJ _ _ _ _ ?_
      exact And.intro (fun _ => hQ) (fun (q : ¬ nI k ≤ nI k) => absurd (nI_le (by omega) (by omega)) q)
    | succ j ih =>
      intro k p hk hp e
      refine hJ _ _ _ _ ?_
      refine And.intro (fun (q : nI z ≤ nI k) => absurd q (nI_ge (by omega) (by omega))) (fun _ => ?_)
      refine And.intro (vp_in_nI (show p.2 < z by omega) (by omega)) ?_
      have key : ∀ (i : Nat) (x y : Int32), i = p.2 → x = nI (k + 1) → y = nI (p.2 + 1) → J 6 [some (.ref 17), some (.int x)] [] (sW o0 o1 o2 o3 o4 o5 o6 o7 o8 o9 o10 o11 o12 o13 o14 o15 o16 z hR tR (upd (eN p.1) i (nI k)) mkR rcR y rN (nI c) tl, b0, b1, op) := by
        rintro i x y rfl rfl rfl
        rw [upd_nI]
        exact ih (k + 1) (upW p.1 p.2 k, p.2 + 1) (by omega) (by show p.2 + 1 ≤ k + 1; omega) e
      exact key _ _ _ (nI_clamp (by omega)) (nI_succ k).symm (nI_succ p.2).symm
  refine hJ _ _ _ _ ?_
  exact loop (z - c) c (fr, 0) (by omega) (by show 0 ≤ c; omega) rfl
end P2d
