section P2l
variable {m b0 b1 : Nat} {op : Bool} {tl : List mj_O} {Q : mj_R → Prop} {xs : List Int32}
variable {o0 : mj_O} {t : tS} {X : Nat → Int32} {len a z : Nat} {s : cD_}
set_option maxRecDepth 10000
def HC (xs : List Int32) (o0 : mj_O) (t : tS) (X : Nat → Int32) (len a z : Nat) (tl : List mj_O) (b0 b1 : Nat) (op : Bool) (y lv : Nat) (go : Option Nat → cD_ → cD_) (d : Nat) : Prop :=
  ∀ (ℓ : Nat) (o : Option Nat) (s : cD_) (x w : Int32) (Q : mj_R → Prop), x = oV o → w = nI d → lv ≤ ℓ → oB o → sOK s → cn (dC (go o s)) < 2 ^ 30 → Q (.inl none, (cdW o0 t X len a z (go o s) tl, b0, b1, op)) → mj_Mt gT (law_cst xs) gnw ℓ y [.ref 14, .int x, .int w] (cdW o0 t X len a z s tl, b0, b1, op) Q
theorem sOK.lt {s : cD_} (h : sOK s) (hn : cn (dC s) < 2 ^ 30) : ∀ k, cl (dC s) = some k → k < 2 ^ 31 := fun k e => by have := h.2.1 k e; omega
theorem m_in {x : Int32} (hz : z ≤ 250) (h : sOK s) (hn : cn (dC (dI z s x)) < 2 ^ 30) (hQ : Q (.inl none, (cdW o0 t X len a z (dI z s x) tl, b0, b1, op))) : mj_Mt gT (law_cst xs) gnw (m + 3) y_Code_instruction [.ref 11, .int x] (cdW o0 t X len a z s tl, b0, b1, op) Q := by
  have h1 : cn (dC (dI z s x)) = cn (dC s) + 1 := (cAp_n z (dC s) (vInt x)).1
  exact e_instr hz (by omega) (h.lt (by omega)) hQ
theorem m_ap {v : Vl} (hz : z ≤ 250) (h : sOK s) (hn : cn (dC (dA z s v)) < 2 ^ 30) (hQ : Q (.inl none, (cdW o0 t X len a z (dA z s v) tl, b0, b1, op))) : mj_Mt gT (law_cst xs) gnw (m + 2) y_Code_append [.ref 11, .long (encV v)] (cdW o0 t X len a z s tl, b0, b1, op) Q := by
  have h1 : cn (dC (dA z s v)) = cn (dC s) + 1 := (cAp_n z (dC s) v).1
  exact e_append hz (by omega) (h.lt (by omega)) hQ
theorem m_bg (hz : z ≤ 250) (h : sOK s) (hn : cn (dC (dB z s)) < 2 ^ 30) (hQ : Q (.inl (some (.int (nI (cn (dC s))))), (cdW o0 t X len a z (dB z s) tl, b0, b1, op))) : mj_Mt gT (law_cst xs) gnw (m + 3) y_Code_beginList [.ref 11] (cdW o0 t X len a z s tl, b0, b1, op) Q := by
  have h1 := (s_B (z := z) h).2
  exact e_begin hz (by omega) (h.lt (by omega)) hQ
theorem m_note {p : Int32} (hQ : Q (.inl none, (cdW o0 t X len a z (dNo s p) tl, b0, b1, op))) : mj_Mt gT (law_cst xs) gnw (m + 1) y_Coder_noteUnknown [.ref 14, .int p] (cdW o0 t X len a z s tl, b0, b1, op) Q := by
  unfold dNo at hQ
  intro J hJ
  refine hJ _ _ _ _ ?_
  refine And.intro (fun (g : dU s = -1) => ?_) (fun (g : ¬ dU s = -1) => ?_)
  · rw [if_pos (Or.inl g)] at hQ
    exact hQ
  · refine And.intro (fun (g2 : dU s ≤ p) => ?_) (fun (g2 : ¬ dU s ≤ p) => ?_)
    · rw [if_neg (fun q => q.elim g (fun q => absurd q (Int32.not_lt.mpr g2)))] at hQ
      exact hQ
    · rw [if_pos (Or.inr (Int32.not_le.mp g2))] at hQ
      exact hQ
theorem m_enter {o : Option Nat} {x : Int32} (hx : x = oV o) (h : sOK s) (hQ : Q (.inl none, (cdW o0 t X len a z (dEn s o) tl, b0, b1, op))) : mj_Mt gT (law_cst xs) gnw (m + 1) y_Coder_enter [.ref 14, .int x] (cdW o0 t X len a z s tl, b0, b1, op) Q := by
  subst hx
  have h9 := h.1
  obtain ⟨C, F, K, U⟩ := s
  have h9 : K ≤ 9 := h9
  unfold dEn at hQ
  intro J hJ
  refine hJ _ _ _ _ ?_
  refine And.intro (fun (g : nI 9 ≤ nI K) => ?_) (fun (g : ¬ nI 9 ≤ nI K) => ?_)
  · have h1 := (nI_leI (by decide) (by omega)).mp g
    rw [if_neg (show ¬ K < 9 by omega)] at hQ
    exact hQ
  · have h1 : K < 9 := Nat.lt_of_not_le (fun q => g (nI_le q (by omega)))
    rw [if_pos (show K < 9 from h1)] at hQ
    refine And.intro (vp_in_nI h1 (by decide)) ?_
    have key : ∀ (j : Nat) (y : Int32), j = K → y = nI (K + 1) → Q (.inl none, (rdW o0 t X len a (oF 4 [.ref 12, .ref 13, .int (nI (cn C)), .int (oV (cl C)), .int (bI (ci C))] :: oJ z (eH (cH_ C)) :: oJ z (eH (cT_ C)) :: oF 5 [.ref 1, .ref 11, .ref 15, .int y, .int U] :: oI 9 (upd (eO F) j (oV o)) :: tl), b0, b1, op)) := by
      rintro j y rfl rfl
      rw [upd_eO]
      exact hQ
    exact key _ _ (nI_clamp (by omega)) (nI_1 K)
theorem m_leave (h : sOK s) (hQ : Q (.inl none, (cdW o0 t X len a z (dLv s) tl, b0, b1, op))) : mj_Mt gT (law_cst xs) gnw (m + 1) y_Coder_leave [.ref 14] (cdW o0 t X len a z s tl, b0, b1, op) Q := by
  have h9 := h.1
  obtain ⟨C, F, K, U⟩ := s
  have h9 : K ≤ 9 := h9
  intro J hJ
  refine hJ _ _ _ _ ?_
  cases K with
  | zero =>
    refine And.intro (fun _ => ?_) (fun g => absurd (show nI 0 ≤ 0 by decide) g)
    exact hQ
  | succ K =>
    refine And.intro (fun g => absurd g (nI_nle (n := K + 1) (by omega) (by omega))) (fun _ => ?_)
    have key : ∀ (y : Int32), y = nI K → Q (.inl none, (rdW o0 t X len a (oF 4 [.ref 12, .ref 13, .int (nI (cn C)), .int (oV (cl C)), .int (bI (ci C))] :: oJ z (eH (cH_ C)) :: oJ z (eH (cT_ C)) :: oF 5 [.ref 1, .ref 11, .ref 15, .int y, .int U] :: oI 9 (eO F) :: tl), b0, b1, op)) := by
      rintro y rfl
      exact hQ
    exact key _ (nI_pred K)
theorem tPl_lt {t : tS} {c : Int32} : ∀ (k : Nat) (o : Option Nat) (i : Nat), tPl t c k o = some i → i < k := by
  intro k
  induction k with
  | zero => intro o i e; cases e
  | succ k ih =>
    intro o i e
    cases o with
    | none => cases e
    | some q =>
      unfold tPl at e
      split at e
      · split at e
        · cases e; omega
        · cases h9 : tPl t c k (tN t q) with
          | none => rw [h9] at e; cases e
          | some w =>
            rw [h9] at e
            have := ih _ _ h9
            cases e
            show w + 1 < k + 1
            omega
      · cases e
theorem m_placeOf {c : Int32} (ht : tOK t) (h : sOK s) (hQ : Q (.inl (some (.int (dPl t (dF s) c (dK s) (dK s) 0))), (cdW o0 t X len a z s tl, b0, b1, op))) : mj_Mt gT (law_cst xs) gnw (m + 2) y_Coder_placeOf [.ref 14, .int c] (cdW o0 t X len a z s tl, b0, b1, op) Q := by
  have h9 := h.1
  have hF := h.2.2
  obtain ⟨C, F, K, U⟩ := s
  have h9 : K ≤ 9 := h9
  have hF : ∀ i j, F i = some j → j < 1000 := hF
  have hQ : Q (.inl (some (.int (dPl t F c K K 0))), (cdW o0 t X len a z (C, F, K, U) tl, b0, b1, op)) := hQ
  generalize hr : dPl t F c K K 0 = r at hQ
  intro J hJ
  have loop : ∀ (j i : Nat) (x : Int32) (v3 : Option Value), (v3 = none ∨ ∃ w : Int32, v3 = some (.int w)) → j + i = K → x = nI i → dPl t F c K j i = r → J 2 [some (.ref 14), some (.int c), some (.int x), v3] [] (cdW o0 t X len a z (C, F, K, U) tl, b0, b1, op) := by
    intro j
    induction j with
    | zero =>
      intro i x v3 hv hi hx e
      subst hx
      refine hJ _ _ _ _ ?_
      refine And.intro (fun _ => ?_) (fun g => absurd (nI_le (a := K) (b := i) (by omega) (by omega)) g)
      rw [← e] at hQ
      exact hQ
    | succ j ih =>
      intro i x v3 hv hi hx e
      subst hx
      have e1 : nI K - Int32.ofInt 1 - nI i = nI (K - 1 - i) := by
        rw [show nI K - Int32.ofInt 1 = nI (K - 1) from pk_sub (a := K) (b := 1) (by omega)]
        exact pk_sub (by omega)
      have ec : (nI (K - 1 - i)).toNatClampNeg = K - 1 - i := nI_clamp (by omega)
      have go : ∀ (F2 : Nat) (w : Option Nat) (v3 : Option Value), w = tPl t c 96 (F (K - 1 - i)) → mj_sg (mj_Mt gT (law_cst xs) gnw (m + 1)) (law_cst xs) gnw (mj_hd (mj_off kO_Coder_placeOf) kH_Coder_placeOf) kC_Coder_placeOf J Q (F2 + 30) false 20 [some (.ref 14), some (.int c), some (.int (nI i)), some (.int (oV w))] [] (cdW o0 t X len a z (C, F, K, U) tl, b0, b1, op) := by
        intro F2 w v3 hw
        unfold dPl at e
        rw [← hw] at e
        cases w with
        | none =>
          refine And.intro (fun _ => ?_) (fun g => absurd rfl g)
          exact ih (i + 1) _ _ (Or.inr ⟨_, rfl⟩) (by omega) (nI_1 i) e
        | some p =>
          have hp := tPl_lt 96 _ p hw.symm
          refine And.intro (fun g => absurd g (oV_ne (k := p) (by omega))) (fun _ => ?_)
          have e2 : Int32.ofInt 16 * nI i + oV (some p) = nI (16 * i + p) := by
            rw [show Int32.ofInt 16 * nI i = nI (16 * i) from pk_mul 16 i]
            exact nI_add _ p
          have e : nI (16 * i + p) = r := e
          rw [← e, ← e2] at hQ
          exact hQ
      refine hJ _ _ _ _ ?_
      rcases hv with rfl | ⟨w, rfl⟩
      · refine And.intro (fun g => absurd g (nI_ge (a := i) (b := K) (by omega) (by omega))) (fun _ => ?_)
        refine And.intro (show vp_in (nI K - Int32.ofInt 1 - nI i) 9 by rw [e1]; exact vp_in_nI (by omega) (by decide)) ?_
        refine t_placeOf (o := F (K - 1 - i)) (by rw [e1, ec]) ht (hF _) ?_
        exact go _ _ none rfl
      · refine And.intro (fun g => absurd g (nI_ge (a := i) (b := K) (by omega) (by omega))) (fun _ => ?_)
        refine And.intro (show vp_in (nI K - Int32.ofInt 1 - nI i) 9 by rw [e1]; exact vp_in_nI (by omega) (by decide)) ?_
        refine t_placeOf (o := F (K - 1 - i)) (by rw [e1, ec]) ht (hF _) ?_
        exact go _ _ none rfl
  refine hJ _ _ _ _ ?_
  exact loop K 0 _ none (Or.inl rfl) rfl rfl hr
theorem m_var {o : Option Nat} {x : Int32} (hx : x = oV o) (hz : z ≤ 250) (ht : tOK t) (ho : oB o) (h : sOK s) (hn : cn (dC (dVa z t o s)) < 2 ^ 30) (hQ : Q (.inl none, (cdW o0 t X len a z (dVa z t o s) tl, b0, b1, op))) : mj_Mt gT (law_cst xs) gnw (m + 5) y_Coder_variable [.ref 14, .int x] (cdW o0 t X len a z s tl, b0, b1, op) Q := by
  unfold dVa at hQ hn
  intro J hJ
  refine hJ _ _ _ _ ?_
  refine t_value hx ht.1 ho ?_
  refine m_placeOf ht h ?_
  generalize dPl t (dF s) (tEi t (tV t) o) (dK s) (dK s) 0 = w at hQ hn
  have tail : ∀ (F : Nat) (s2 : cD_), sOK s2 → cn (dC (dI z (dI z s2 2) w)) < 2 ^ 30 → Q (.inl none, (cdW o0 t X len a z (dI z (dI z s2 2) w) tl, b0, b1, op)) → mj_sg (mj_Mt gT (law_cst xs) gnw (m + 4)) (law_cst xs) gnw (mj_hd (mj_off kO_Coder_variable) kH_Coder_variable) kC_Coder_variable J Q (F + 20) false 16 [some (.ref 14), some (.int x), some (.int w)] [] (cdW o0 t X len a z s2 tl, b0, b1, op) := by
    intro F s2 h2 hn2 hq
    have h3 := s_A (z := z) (v := vInt 2) h2
    have h4 := s_A (z := z) (v := vInt w) h3.1
    have := h4.2
    unfold dI at *
    refine m_in (x := 2) hz h2 (by unfold dI; omega) ?_
    refine v_number ?_
    refine m_ap hz h3.1 hn2 ?_
    exact hq
  by_cases hw : w = -1
  · rw [if_pos hw] at hQ hn
    refine And.intro (fun g => absurd hw g) (fun _ => ?_)
    refine t_positionOf hx ht.1 ho ?_
    refine m_note ?_
    exact tail _ _ (s_No h).1 hn hQ
  · rw [if_neg hw] at hQ hn
    refine And.intro (fun _ => ?_) (fun g => absurd g hw)
    exact tail _ _ h hn hQ
end P2l
