section P2q
variable {m b0 b1 : Nat} {op : Bool} {tl : List mj_O} {Q : mj_R → Prop} {xs : List Int32}
variable {z : Nat} {err : Int32} {t : tS} {X : Nat → Int32} {len a : Nat} {s : cD_} {S E C D : Vl} {mode colls taken steps : Int32} {H T : Nat → Vl} {fr : Nat → Nat} {g : gS} {f c : Nat} {k : Int32} {n : Nat} {fb : Nat → Nat} {R : Nat → Vl} {tx : Nat → Nat}
set_option maxRecDepth 10000
theorem M_load (hz : z ≤ 250) (hc : cn (dC s) ≤ z) (hQ : Q (.inl none, (WC z err t X len a s vNil vNil vNil vNil 0 colls taken steps (cpV (cH_ (dC s)) H (cn (dC s))) (cpV (cT_ (dC s)) T (cn (dC s))) (faN (z - cn (dC s)) (cn (dC s)) (fr, 0)).1 g (faN (z - cn (dC s)) (cn (dC s)) (fr, 0)).2 (cn (dC s)) k n fb R tl, b0, b1, op))) : mj_Mt gT (law_cst xs) gnw (m + 3) y_Machine_load [.ref 16, .ref 11] (WC z err t X len a s S E C D mode colls taken steps H T fr g f c k n fb R tl, b0, b1, op) Q := by
  intro J hJ
  refine hJ _ _ _ _ ?_
  refine s_load hz hc ?_
  refine k_setRegisters (V := vNil) ?_
  exact hQ
theorem x_tclear {o0 : mj_O} (hQ : Q (.inl none, (rdW o0 t X 0 a tl, b0, b1, op))) : mj_Mt gT (law_cst xs) gnw (m + 1) y_Text_clear [.ref 8] (rdW o0 t X len a tl, b0, b1, op) Q := by
  intro J hJ
  refine hJ _ _ _ _ ?_
  exact hQ
theorem P_compile {l : Nat} (hl : 120 ≤ l) (hz : z ≤ 250) (ht : tOK t) (hx : txOK X len tx) (hF : ∀ i j, dF s i = some j → j < 1000) (hb : 12 ≤ b1)
    (h1 : ∀ a' t', pEx tx 10 0 0 (0, t.2) = .inr (a', t') → Q (.inr 0, (WC z (nI a') t' X 0 a' s S E C D mode colls taken steps H T fr g f c k n fb R tl, b0, b1 - 6 - 6, false)))
    (h2 : ∀ nd a' t', pEx tx 10 0 0 (0, t.2) = .inl (nd, a', t') → a' < len → Q (.inr 0, (WC z (nI a') t' X 0 a' s S E C D mode colls taken steps H T fr g f c k n fb R tl, b0 + 1, b1 - 6, false)))
    (h3 : ∀ nd a' t', pEx tx 10 0 0 (0, t.2) = .inl (nd, a', t') → ¬ a' < len → ¬ dU (dEx z t' 11 0 (some 0) (dZ s)) = -1 → Q (.inr 0, (WC z (dU (dEx z t' 11 0 (some 0) (dZ s))) t' X 0 a' (dI z (dEx z t' 11 0 (some 0) (dZ s)) 19) S E C D mode colls taken steps H T fr g f c k n fb R tl, b0 + 1, b1 - 6, false)))
    (h4 : ∀ nd a' t' s', pEx tx 10 0 0 (0, t.2) = .inl (nd, a', t') → ¬ a' < len → dU (dEx z t' 11 0 (some 0) (dZ s)) = -1 → s' = dI z (dEx z t' 11 0 (some 0) (dZ s)) 19 → z < cn (dC s') → Q (.inr 1, (WC z (-1) t' X 0 a' s' S E C D mode colls taken steps H T fr g f c k n fb R tl, b0 + 1, b1 - 6, false)))
    (h5 : ∀ nd a' t' s', pEx tx 10 0 0 (0, t.2) = .inl (nd, a', t') → ¬ a' < len → dU (dEx z t' 11 0 (some 0) (dZ s)) = -1 → s' = dI z (dEx z t' 11 0 (some 0) (dZ s)) 19 → cn (dC s') ≤ z → Q (.inl (some (.int (nI (cn (dC s'))))), (WC z (-1) t' X 0 a' s' vNil vNil vNil vNil 0 colls taken steps (cpV (cH_ (dC s')) H (cn (dC s'))) (cpV (cT_ (dC s')) T (cn (dC s'))) (faN (z - cn (dC s')) (cn (dC s')) (fr, 0)).1 g (faN (z - cn (dC s')) (cn (dC s')) (fr, 0)).2 (cn (dC s')) k n fb R tl, b0 + 2, b1, op))) :
    mj_Mt gT (law_cst xs) gnw (l + 1) y_P_compile [.ref 0] (WC z err t X len a s S E C D mode colls taken steps H T fr g f c k n fb R tl, b0 + 2, b1, op) Q := by
  obtain ⟨l, rfl⟩ : ∃ l', l = l' + 120 := ⟨l - 120, by omega⟩
  have h96 := hx.1
  have ht0 : tOK (0, t.2) := ⟨Nat.zero_le _, ht.2.1, ⟨ht.2.2.1.1, fun i hi => absurd hi (Nat.not_lt_zero i)⟩, ht.2.2.2⟩
  have hg := g_ex hx 10 0 0 (0, t.2) ht0 (Nat.le_refl _) (Nat.zero_le _)
  intro J hJ
  refine hJ _ _ _ _ ?_
  refine q_read (l := l + 119) (tx := tx) (b0 := b0 + 1) (by omega) hx ht (by omega) (fun a2 t2 e => ?_) (fun nd a2 t2 e => ?_)
  · rw [e] at hg
    refine x_tclear ?_
    have ha : ¬ nI a2 = -1 := fun q => nI_pos (n := a2) (by have := hg.2.2; omega) (by rw [q]; decide)
    refine And.intro (fun _ => ?_) (fun (q : nI a2 = -1) => absurd q ha)
    refine And.intro (fun (q : nI a2 = -1) => absurd q ha) (fun _ => ?_)
    exact And.intro (by omega) (h1 a2 t2 e)
  · have hg0 := hg
    rw [e] at hg0
    obtain ⟨g1, g2, g3, g5, g4⟩ := hg0
    by_cases h : a2 < len
    · rw [if_pos h]
      refine x_tclear ?_
      have ha : ¬ nI a2 = -1 := fun q => nI_pos (n := a2) (by omega) (by rw [q]; decide)
      refine And.intro (fun _ => ?_) (fun (q : nI a2 = -1) => absurd q ha)
      refine And.intro (fun (q : nI a2 = -1) => absurd q ha) (fun _ => ?_)
      exact And.intro (by omega) (h2 nd a2 t2 e h)
    · rw [if_neg h]
      refine x_tclear ?_
      refine And.intro (fun q => absurd rfl q) (fun _ => ?_)
      have hlt := lay_lt (z := z) (s := s) e (by omega)
      have h3' := h3 nd a2 t2 e h
      have h4' := h4 nd a2 t2 (dI z (dEx z t2 11 0 (some 0) (dZ s)) 19) e h
      have h5' := h5 nd a2 t2 (dI z (dEx z t2 11 0 (some 0) (dZ s)) 19) e h
      refine m_lay (l := l + 119) (by omega) hz g2 hF hlt ?_
      generalize dU (dEx z t2 11 0 (some 0) (dZ s)) = u at *
      generalize dI z (dEx z t2 11 0 (some 0) (dZ s)) 19 = s2 at *
      refine And.intro (fun (q : u = -1) => ?_) (fun (q : ¬ u = -1) => ?_)
      · subst q
        refine e_cells ?_
        refine And.intro (fun (q : nI (cn (dC s2)) ≤ nI z) => ?_) (fun (q : ¬ nI (cn (dC s2)) ≤ nI z) => ?_)
        · have q2 := (nI_leI (by omega) (by omega)).mp q
          refine M_load hz q2 ?_
          refine e_cells ?_
          exact h5' rfl rfl q2
        · have q2 : z < cn (dC s2) := Nat.lt_of_not_le (fun w => q (nI_le w (by omega)))
          exact And.intro (by omega) (h4' rfl rfl q2)
      · exact And.intro (by omega) (h3' q)
theorem okA_cp {z k : Nat} {A B : Nat → Vl} (hA : okA z A) (hB : okA z B) : okA z (cpV A B k) := fun i hi => by
  unfold cpV
  split
  · exact hA i hi
  · exact hB i hi
theorem txOK_0 {X : Nat → Int32} : txOK X 0 (fun _ => 0) := ⟨by decide, fun i hi => absurd hi (Nat.not_lt_zero i), fun _ _ => rfl⟩
theorem lay_F {z : Nat} {t : tS} {s : cD_} (ht : tOK t) (hF : ∀ i j, dF s i = some j → j < 1000) (hO : OC z s) : (∀ i j, dF (dI z (dEx z t 11 0 (some 0) (dZ s)) 19) i = some j → j < 1000) ∧ OC z (dI z (dEx z t 11 0 (some 0) (dZ s)) 19) := by
  have h0 : sOK (dZ s) := ⟨Nat.zero_le _, fun k e => (by cases e), hF⟩
  have h1 := s_Ex (z := z) ht 11 0 (some 0) (dZ s) (fun i e => by cases e; decide) h0
  have h2 := s_I (z := z) (x := 19) h1.1
  exact ⟨h2.1.2.2, oc_I (oc_Ex ht 11 0 (some 0) (dZ s) hO)⟩
theorem C_run {W : List mj_O} {x : Int32} (h : CI err z len tx mode c tl W) (hb0 : 1 ≤ b0) (hb1 : 6 ≤ b1) (hb2 : mode = 1 → 200 ≤ b0 ∧ 20000 ≤ b1)
    (h1 : ∀ b0' b1', b0 ≤ b0' + 1 → b1 ≤ b1' + 6 → Q (.inr 0, (W, b0', b1', false)))
    (h2 : ∀ y mode' W' b0' b1' op', CI err z len tx mode' c tl W' → (b0' = b0 ∧ b1' = b1 ∧ (mode = 1 ∨ mode' = mode)) ∨ (¬ mode' = 1 ∧ mode = 1 ∧ b0 ≤ b0' + 140 ∧ b1 ≤ b1' + 19740) → Q (.inl (some (.int y)), (W', b0', b1', op'))) :
    mj_Mt gT (law_cst xs) gnw (m + 13) y_P_run [.ref 0, .int x] (W, b0, b1, op) Q := by
  obtain ⟨b0, rfl⟩ : ∃ b, b0 = b + 1 := ⟨b0 - 1, by omega⟩
  intro J hJ
  refine hJ _ _ _ _ ?_
  refine And.intro (fun (q : x < 0) => ?_) (fun (q : ¬ x < 0) => ?_)
  · exact And.intro hb1 (h1 b0 (b1 - 6) (by omega) (by omega))
  · refine And.intro (fun (q2 : x ≤ 200) => ?_) (fun (q2 : ¬ x ≤ 200) => ?_)
    · have loop : ∀ (j : Nat) (i : Int32) (mode' : Int32) (W' : List mj_O) (b0' b1' : Nat) (op' : Bool), CI err z len tx mode' c tl W' → (i.toInt + j = 201 ∧ 0 ≤ i.toInt) → ((b0' = b0 + 1 ∧ b1' = b1 ∧ (mode = 1 ∨ mode' = mode)) ∨ (¬ mode' = 1 ∧ mode = 1 ∧ b0 + 1 ≤ b0' + 140 ∧ b1 ≤ b1' + 19740)) → J 8 [some (.ref 0), some (.int x), some (.int i)] [] (W', b0', b1', op') := by
        intro j
        induction j with
        | zero =>
          intro i mode' W' b0' b1' op' hI hi hm
          refine hJ _ _ _ _ ?_
          refine And.intro (fun _ => ?_) (fun (w : ¬ x ≤ i) => absurd (show x ≤ i from Int32.le_iff_toInt_le.mpr (by have := Int32.le_iff_toInt_le.mp q2; have e : (200 : Int32).toInt = 200 := by decide
                                                                                                                     omega)) w)
          exact h2 _ mode' W' b0' b1' op' hI hm
        | succ j ih =>
          intro i mode' W' b0' b1' op' hI hi hm
          refine hJ _ _ _ _ ?_
          refine And.intro (fun _ => ?_) (fun (w : ¬ x ≤ i) => ?_)
          · exact h2 _ mode' W' b0' b1' op' hI hm
          · have hI0 := hI
            obtain ⟨t, X, a, s, S, E, C, D, colls, taken, steps, H, T, fr, g, f, k, n, fb, R, rfl, hz, ht, hx, hF, hO, hM, hfr, hf, hc, hd⟩ := hI
            refine M_mode ?_
            refine And.intro (fun (w2 : ¬ mode' = 1) => ?_) (fun (w2 : mode' = 1) => ?_)
            · exact h2 _ mode' _ b0' b1' op' hI0 hm
            · subst w2
              obtain ⟨e1, e2, e3⟩ : b0' = b0 + 1 ∧ b1' = b1 ∧ mode = 1 := by
                rcases hm with ⟨p1, p2, p3⟩ | ⟨p1, -⟩
                · exact ⟨p1, p2, p3.elim id Eq.symm⟩
                · exact absurd rfl p1
              subst e1 e2 e3
              obtain ⟨r1, r2⟩ := hb2 rfl
              refine k_stepW hz hM hfr hf hd r1 r2 hc (fun S' E' C' D' mode' colls' taken' H' T' fr' g' f' k' n' fb' R' b0' b1' op' v1 v2 v3 v4 v5 => ?_)
              have hi1 : (i + 1).toInt = i.toInt + 1 := by
                rw [Int32.toInt_add]
                have e : (1 : Int32).toInt = 1 := by decide
                rw [e]
                exact Int.bmod_eq_of_le (by omega) (by omega)
              refine ih (i + 1) mode' _ b0' b1' op' ⟨t, X, a, s, S', E', C', D', colls', taken', steps + 1, H', T', fr', g', f', k', n', fb', R', rfl, hz, ht, hx, hF, hO, v1, v2, v3, hc, v4⟩ ⟨by omega, by omega⟩ ?_
              rcases v5 with ⟨w1, w2, w3⟩ | ⟨w1, w2, w3⟩ | ⟨w1, w2, w3⟩
              · exact Or.inl ⟨w1, w2, Or.inl rfl⟩
              · subst w1
                exact Or.inr ⟨by decide, rfl, w2, w3⟩
              · subst w1
                exact Or.inr ⟨by decide, rfl, w2, w3⟩
      refine loop 201 0 mode W (b0 + 1) b1 op h ⟨by decide, by decide⟩ (Or.inl ⟨rfl, rfl, Or.inr rfl⟩)
    · exact And.intro hb1 (h1 b0 (b1 - 6) (by omega) (by omega))
theorem C_count {W : List mj_O} {x : Int32} (h : CI err z len tx mode c tl W) (hQ : ∀ y W', CI err z len tx mode c tl W' → Q (.inl (some (.int y)), (W', b0, b1, op))) : mj_Mt gT (law_cst xs) gnw (m + 6) y_P_count [.ref 0, .int x] (W, b0, b1, op) Q := by
  have hI0 := h
  obtain ⟨t, X, a, s, S, E, C, D, colls, taken, steps, H, T, fr, g, f, k, n, fb, R, rfl, hz, ht, hx, hF, hO, hM, hfr, hf, hc, hd⟩ := h
  have key : ∀ y, Q (.inl (some (.int y)), (WC z err t X len a s S E C D mode colls taken steps H T fr g f c k n fb R tl, b0, b1, op)) := fun y => hQ y _ hI0
  obtain ⟨hA, hB, hS, hE, hC, hD⟩ := hM
  intro J hJ
  refine hJ _ _ _ _ ?_
  refine And.intro (fun w => ?_) (fun g0 => And.intro (fun w => ?_) (fun g1 => And.intro (fun w => ?_) (fun g2 => And.intro (fun w => ?_) (fun g3 => And.intro (fun w => ?_) (fun g4 => And.intro (fun w => ?_) (fun g5 => And.intro (fun w => ?_) (fun g6 => ?_)))))))
  · intro J1 hJ1
    refine hJ1 _ _ _ _ ?_
    intro J2 hJ2
    refine hJ2 _ _ _ _ ?_
    exact key _
  · intro J1 hJ1
    refine hJ1 _ _ _ _ ?_
    refine s_mark hz hc hA hB hS hE hC hD ?_
    exact hQ _ _ ⟨t, X, a, s, S, E, C, D, colls, taken, steps, H, T, fr, mrk z H T S E C D (if c = 0 then vNil else vPr 0) g, f, k, n, fb, R, rfl, hz, ht, hx, hF, hO, ⟨hA, hB, hS, hE, hC, hD⟩, hfr, hf, hc, hd⟩
  · intro J1 hJ1
    refine hJ1 _ _ _ _ ?_
    exact key _
  · intro J1 hJ1
    refine hJ1 _ _ _ _ ?_
    exact key _
  · intro J1 hJ1
    refine hJ1 _ _ _ _ ?_
    exact key _
  · intro J1 hJ1
    refine hJ1 _ _ _ _ ?_
    refine s_length hz hB hS ?_
    exact key _
  · intro J1 hJ1
    refine hJ1 _ _ _ _ ?_
    refine s_length hz hB hD ?_
    exact key _
  · exact key _
theorem fillU_at (z : Nat) : ∀ (j k : Nat) (f : Nat → Int32), (∀ i, i < k → f i = nI i) → (∀ i, k ≤ i → f i = 0) → ∀ i, fillU f k j i = nI (if i < k + j then i else 0)
  | 0, k, f, h1, h2, i => by
    show f i = _
    by_cases h : i < k + 0
    · rw [if_pos h, h1 i h]
    · rw [if_neg h, h2 i (by omega)]
      rfl
  | j + 1, k, f, h1, h2, i => by
    have := fillU_at z j (k + 1) (upd f k (nI k)) (fun i hi => by
      unfold upd
      split
      · next e => rw [e]
      · exact h1 i (by omega)) (fun i hi => by
      unfold upd
      rw [if_neg (by omega)]
      exact h2 i (by omega)) i
    rw [show k + 1 + j = k + (j + 1) by omega] at this
    exact this
end P2q
