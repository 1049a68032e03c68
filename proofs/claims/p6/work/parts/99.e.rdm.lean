def rq (Q : mj_R → Prop) (o0 : mj_O) (X : Nat → Int32) (len : Nat) (tl : List mj_O) (b0 b1 : Nat) (op : Bool) : PR → Prop
  | .inl (nd, a, t) => Q (.inl (some (.int (nI nd))), (rdW o0 t X len a tl, b0 + 1, b1, op))
  | .inr (a, t) => Q (.inr 0, (rdW o0 t X len a tl, b0, b1 - 6, false))
def ru (Q : mj_R → Prop) (o0 : mj_O) (X : Nat → Int32) (len : Nat) (tl : List mj_O) (b0 b1 : Nat) (op : Bool) : PU → Prop
  | .inl (a, t) => Q (.inl none, (rdW o0 t X len a tl, b0 + 1, b1, op))
  | .inr (a, t) => Q (.inr 0, (rdW o0 t X len a tl, b0, b1 - 6, false))
section P2g
variable {m b0 b1 : Nat} {op : Bool} {tl : List mj_O} {Q : mj_R → Prop} {xs : List Int32}
variable {o0 : mj_O} {t : tS} {X : Nat → Int32} {len a : Nat} {tx : Nat → Nat}
set_option maxRecDepth 10000
theorem x_codeAtX {x : Int32} {a9 : Nat} {y : Int32} (hy : y = nI a9) (hx : txOK X len tx) (ha : a9 < 1000) (hQ : Q (.inl (some (.int (nI (tx a9)))), (rdX o0 t X len x tl, b0, b1, op))) : mj_Mt gT (law_cst xs) gnw (m + 1) y_Text_codeAt [.ref 8, .int y] (rdX o0 t X len x tl, b0, b1, op) Q := by
  subst hy
  have hl := hx.1
  intro J hJ
  refine hJ _ _ _ _ ?_
  refine And.intro (fun g => absurd g (nI_pos (by omega))) (fun _ => ?_)
  refine And.intro (fun (g : nI len ≤ nI a9) => ?_) (fun (g : ¬ nI len ≤ nI a9) => ?_)
  · have h1 := (nI_leI (by omega) (by omega)).mp g
    rw [hx.2.2 a9 h1] at hQ
    exact hQ
  · have h1 : a9 < len := Nat.lt_of_not_le (fun q => g (nI_le q (by omega)))
    refine And.intro (vp_in_nI (by omega) (by decide)) ?_
    rw [← (hx.2.1 a9 h1).1] at hQ
    have key : ∀ j, j = a9 → Q (.inl (some (.int (X j))), (rdX o0 t X len x tl, b0, b1, op)) := by
      rintro j rfl
      exact hQ
    exact key _ (nI_clamp (by omega))
theorem q_need {c : Nat} {y : Int32} (hy : y = nI c) (hx : txOK X len tx) (ha : a < 1000) (hc : c ≤ 126) (h6 : 6 ≤ b1) (h1 : tx a = c → Q (.inl none, (rdW o0 t X len (a + 1) tl, b0 + 1, b1, op))) (h2 : ¬ tx a = c → Q (.inr 0, (rdW o0 t X len a tl, b0, b1 - 6, false))) : mj_Mt gT (law_cst xs) gnw (m + 2) y_Reader_need [.ref 10, .int y] (rdW o0 t X len a tl, b0 + 1, b1, op) Q := by
  subst hy
  have hle := hx.le a
  intro J hJ
  refine hJ _ _ _ _ ?_
  refine x_codeAt rfl hx ha ?_
  refine And.intro (fun g => ?_) (fun g => ?_)
  · have key : ∀ x : Int32, x = nI (a + 1) → Q (.inl none, (rdX o0 t X len x tl, b0 + 1, b1, op)) := by
      rintro x rfl
      exact h1 ((nI_eq (by omega) (by omega)).mp g)
    exact key _ (nI_1 a)
  · refine q_fail h6 ?_
    exact h2 (fun e => g (by rw [e]))
theorem q_open {d : Nat} {y : Int32} (hy : y = nI d) (hx : txOK X len tx) (ha : a < 1000) (hd : d < 1000) (h6 : 6 ≤ b1) (h1 : d < 9 → tx a = 40 → Q (.inl none, (rdW o0 t X len (a + 1) tl, b0 + 1, b1, op))) (h2 : ¬ (d < 9 ∧ tx a = 40) → Q (.inr 0, (rdW o0 t X len a tl, b0, b1 - 6, false))) : mj_Mt gT (law_cst xs) gnw (m + 3) y_Reader_open [.ref 10, .int y] (rdW o0 t X len a tl, b0 + 1, b1, op) Q := by
  subst hy
  intro J hJ
  refine hJ _ _ _ _ ?_
  refine And.intro (fun (g : nI d < nI 9) => ?_) (fun (g : ¬ nI d < nI 9) => ?_)
  · have hd9 := (nI_ltI (by omega) (by decide)).mp g
    refine q_need (c := 40) rfl hx ha (by decide) h6 (fun h => ?_) (fun h => ?_)
    · exact h1 hd9 h
    · exact h2 (fun q => h q.2)
  · have hd9 : 9 ≤ d := Nat.le_of_not_lt (fun q => g (nI_lt q (by decide)))
    refine q_fail h6 ?_
    exact h2 (fun q => by omega)
theorem q_among {o : Option Nat} {y : Int32} (hy : y = oV o) (hx : txOK X len tx) (ha : a < 1000) (ht : tOK t) (ho : ∀ i, o = some i → i < 1000) (h6 : 6 ≤ b1) (h1 : cL (tx a) = true → tPl t (nI (tx a)) 96 o = none → Q (.inl (some (.int (nI (tx a)))), (rdW o0 t X len a tl, b0 + 1, b1, op))) (h2 : ¬ (cL (tx a) = true ∧ tPl t (nI (tx a)) 96 o = none) → Q (.inr 0, (rdW o0 t X len a tl, b0, b1 - 6, false))) : mj_Mt gT (law_cst xs) gnw (m + 2) y_Reader_letterNotAmong [.ref 10, .int y] (rdW o0 t X len a tl, b0 + 1, b1, op) Q := by
  have hle := hx.le a
  intro J hJ
  refine hJ _ _ _ _ ?_
  refine x_codeAt rfl hx ha ?_
  refine q_isLetter hle ?_
  cases hc : cL (tx a) with
  | false =>
    refine And.intro (fun _ => ?_) (fun g => absurd rfl g)
    refine q_fail h6 ?_
    exact h2 (fun q => by rw [hc] at q; cases q.1)
  | true =>
    refine And.intro (fun g => absurd g (by decide)) (fun _ => ?_)
    refine t_placeOf hy ht ho ?_
    cases hp : tPl t (nI (tx a)) 96 o with
    | none =>
      refine And.intro (fun _ => ?_) (fun g => absurd rfl g)
      exact h1 hc hp
    | some i =>
      refine And.intro (fun g => ?_) (fun _ => ?_)
      · have : ¬ oV (some i) = -1 := by
          by_cases hi : i < 2 ^ 31
          · exact oV_ne hi
          · exfalso
            have hb : ∀ (k : Nat) (o : Option Nat) (i : Nat), tPl t (nI (tx a)) k o = some i → i < k := by
              intro k
              induction k with
              | zero => intro o i e; cases e
              | succ k ih =>
                intro o i e
                cases o with
                | none => cases e
                | some q =>
                  unfold tPl at e
                  split at e
                  · split at e
                    · cases e; omega
                    · cases h9 : tPl t (nI (tx a)) k (tN t q) with
                      | none => rw [h9] at e; cases e
                      | some w =>
                        rw [h9] at e
                        have := ih _ _ h9
                        cases e
                        show w + 1 < k + 1
                        omega
                  · cases e
            have := hb 96 o i hp
            omega
        exact absurd g this
      · refine q_fail h6 ?_
        exact h2 (fun q => by rw [hp] at q; cases q.2)
theorem q_num (hx : txOK X len tx) (ht : tOK t) (hn : tn t ≤ a) (hl : a ≤ len) (h6 : 6 ≤ b1) (hQ : rq Q o0 X len tl b0 b1 op (pNum tx a t)) : mj_Mt gT (law_cst xs) gnw (m + 2) y_Reader_number [.ref 10] (rdW o0 t X len a tl, b0 + 1, b1, op) Q := by
  have h96 := hx.1
  have hle := hx.le a
  have hA : a ≤ pA1 tx a ∧ pA1 tx a ≤ a + 1 := by
    unfold pA1
    split <;> omega
  intro J hJ
  have fin : ∀ (F : Nat) (s2 : Int32) (v4 : Value) (a2 : Nat) (v : Int32), (∃ w, v4 = .int w) → a ≤ pA1 tx a → cD (tx (pA1 tx a)) = true → (s2 = 0 ∧ ¬ tx a = 45 ∨ s2 = 1 ∧ tx a = 45) → (a2, v) = pDg tx 4 (pA1 tx a) 0 → mj_sg (mj_Mt gT (law_cst xs) gnw (m + 1)) (law_cst xs) gnw (mj_hd (mj_off kO_Reader_number) kH_Reader_number) kC_Reader_number J Q (F + 30) false 64 [some (.ref 10), some (.int (nI a)), some (.int s2), some (.int v), some v4] [] (rdW o0 t X len a2 tl, b0 + 1, b1, op) := by
    rintro F s2 v4 a2 v ⟨w, rfl⟩ _ hd hs e
    have h1 := hx.lt (a := pA1 tx a) (fun e => by rw [e] at hd; exact absurd hd (by decide))
    unfold pNum at hQ
    rw [if_pos hd, ← e] at hQ
    rcases hs with ⟨rfl, hs⟩ | ⟨rfl, hs⟩
    · refine And.intro (fun _ => ?_) (fun g => absurd rfl g)
      refine t_add (by omega) ?_
      have ev : pVal tx a = v := by unfold pVal; rw [if_neg hs, ← e]
      rw [ev] at hQ
      exact hQ
    · refine And.intro (fun g => absurd g (by decide)) (fun _ => ?_)
      refine t_add (by omega) ?_
      have ev : pVal tx a = -v := by unfold pVal; rw [if_pos hs, ← e]
      rw [ev] at hQ
      exact hQ
  have loop : ∀ (s2 : Int32), cD (tx (pA1 tx a)) = true → (s2 = 0 ∧ ¬ tx a = 45 ∨ s2 = 1 ∧ tx a = 45) → ∀ (k i a2 : Nat) (v x : Int32), k + i = 4 → x = nI i → a2 ≤ a + 1 + i → pDg tx k a2 v = pDg tx 4 (pA1 tx a) 0 → J 34 [some (.ref 10), some (.int (nI a)), some (.int s2), some (.int v), some (.int x)] [] (rdW o0 t X len a2 tl, b0 + 1, b1, op) := by
    intro s2 hd hs k
    induction k with
    | zero =>
      intro i a2 v x hi hxi ha2 e
      subst hxi
      obtain rfl : i = 4 := by omega
      refine hJ _ _ _ _ ?_
      refine And.intro (fun _ => ?_) (fun g => absurd (by decide) g)
      exact fin _ s2 _ a2 v ⟨_, rfl⟩ hA.1 hd hs e
    | succ k ih =>
      intro i a2 v x hi hxi ha2 e
      subst hxi
      refine hJ _ _ _ _ ?_
      refine And.intro (fun g => absurd g (nI_ge (a := i) (b := 4) (by omega) (by decide))) (fun _ => ?_)
      refine x_codeAt rfl hx (by omega) ?_
      refine q_isDigit (hx.le a2) ?_
      cases hc : cD (tx a2) with
      | false =>
        refine And.intro (fun _ => ?_) (fun g => absurd rfl g)
        refine fin _ s2 _ a2 v ⟨_, rfl⟩ hA.1 hd hs ?_
        rw [← e, pDg, hc]
        rfl
      | true =>
        refine And.intro (fun g => absurd g (by decide)) (fun _ => ?_)
        refine x_codeAt rfl hx (by omega) ?_
        have key : ∀ (x y : Int32), x = nI (a2 + 1) → y = nI (i + 1) → J 34 [some (.ref 10), some (.int (nI a)), some (.int s2), some (.int (Int32.ofInt 10 * v + nI (tx a2) - Int32.ofInt 48)), some (.int y)] [] (rdX o0 t X len x tl, b0 + 1, b1, op) := by
          rintro x y rfl rfl
          refine ih (i + 1) (a2 + 1) _ _ (by omega) rfl (by omega) ?_
          rw [← e]
          show _ = pDg tx (k + 1) a2 v
          rw [pDg, hc]
          rfl
        exact key _ _ (nI_1 a2) (nI_1 i)
  have bad : cD (tx (pA1 tx a)) = false → ∀ x : Int32, x = nI (pA1 tx a) → Q (.inr 0, (rdX o0 t X len x tl, b0, b1 - 6, false)) := by
    rintro hc x rfl
    unfold pNum at hQ
    rw [hc] at hQ
    exact hQ
  have good : ∀ (s2 : Int32), cD (tx (pA1 tx a)) = true → (s2 = 0 ∧ ¬ tx a = 45 ∨ s2 = 1 ∧ tx a = 45) → ∀ x : Int32, x = nI (pA1 tx a) → J 34 [some (.ref 10), some (.int (nI a)), some (.int s2), some (.int 0), some (.int 0)] [] (rdX o0 t X len x tl, b0 + 1, b1, op) := by
    rintro s2 hc hs x rfl
    exact loop s2 hc hs 4 0 (pA1 tx a) 0 0 rfl rfl (by omega) rfl
  refine hJ _ _ _ _ ?_
  refine x_codeAt rfl hx (by omega) ?_
  refine And.intro (fun g => ?_) (fun g => ?_)
  · have h45 : ¬ tx a = 45 := fun e => g (by rw [e]; rfl)
    have e1 : pA1 tx a = a := by unfold pA1; rw [if_neg h45]
    refine And.intro (fun _ => ?_) (fun g => absurd rfl g)
    refine x_codeAtX (a9 := pA1 tx a) (by rw [e1]) hx (by omega) ?_
    refine q_isDigit (hx.le _) ?_
    cases hc : cD (tx (pA1 tx a)) with
    | false =>
      refine And.intro (fun g => absurd rfl g) (fun _ => ?_)
      refine q_fail h6 ?_
      exact bad hc _ (by rw [e1])
    | true =>
      refine And.intro (fun _ => ?_) (fun g => absurd g (by decide))
      exact good 0 hc (Or.inl ⟨rfl, h45⟩) _ (by rw [e1])
  · have h45 : tx a = 45 := (nI_eq (a := tx a) (b := 45) (by omega) (by decide)).mp g
    have e1 : pA1 tx a = a + 1 := by unfold pA1; rw [if_pos h45]
    have e2 : nI a + Int32.ofInt 1 = nI (pA1 tx a) := by rw [e1]; exact nI_1 a
    refine And.intro (fun g => absurd g (by decide)) (fun _ => ?_)
    refine x_codeAtX (a9 := pA1 tx a) e2 hx (by omega) ?_
    refine q_isDigit (hx.le _) ?_
    cases hc : cD (tx (pA1 tx a)) with
    | false =>
      refine And.intro (fun g => absurd rfl g) (fun _ => ?_)
      refine q_fail h6 ?_
      exact bad hc _ e2
    | true =>
      refine And.intro (fun _ => ?_) (fun g => absurd g (by decide))
      exact good 1 hc (Or.inr ⟨rfl, h45⟩) _ e2
theorem q_atom (hx : txOK X len tx) (ht : tOK t) (hn : tn t ≤ a) (hl : a ≤ len) (h6 : 6 ≤ b1) (hQ : rq Q o0 X len tl b0 b1 op (pAtom tx a t)) : mj_Mt gT (law_cst xs) gnw (m + 3) y_Reader_atom [.ref 10] (rdW o0 t X len a tl, b0 + 1, b1, op) Q := by
  have h96 := hx.1
  unfold pAtom at hQ
  intro J hJ
  refine hJ _ _ _ _ ?_
  refine x_codeAt rfl hx (by omega) ?_
  refine q_isLetter (hx.le a) ?_
  cases hc : cL (tx a) with
  | false =>
    rw [hc] at hQ
    refine And.intro (fun g => absurd rfl g) (fun _ => ?_)
    refine q_num hx ht hn hl h6 ?_
    have hQ : rq Q o0 X len tl b0 b1 op (pNum tx a t) := hQ
    generalize pNum tx a t = r at hQ
    rcases r with ⟨c, a2, t2⟩ | ⟨a2, t2⟩ <;> exact hQ
  | true =>
    rw [hc] at hQ
    have h1 := hx.lt (cL_ne hc)
    refine And.intro (fun _ => ?_) (fun g => absurd g (by decide))
    refine t_add (by omega) ?_
    have key : ∀ x : Int32, x = nI (a + 1) → Q (.inl (some (.int (nI (tn t)))), (rdX o0 (tAdd t 2 (nI (tx a)) (nI a)) X len x tl, b0 + 1, b1, op)) := by
      rintro x rfl
      exact hQ
    exact key _ (nI_1 a)
end P2g
