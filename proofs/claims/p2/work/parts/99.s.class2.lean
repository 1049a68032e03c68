section P2q
variable {m b0 b1 : Nat} {op : Bool} {tl : List mj_O} {Q : mj_R → Prop} {xs : List Int32}
variable {z : Nat} {err : Int32} {t : tS} {X : Nat → Int32} {len a : Nat} {s : cD_} {S E C D : Vl} {mode colls taken steps : Int32} {H T : Nat → Vl} {fr : Nat → Nat} {g : gS} {f c : Nat} {k : Int32} {n : Nat} {fb : Nat → Nat} {R : Nat → Vl} {tx : Nat → Nat}
set_option maxRecDepth 10000
theorem M_load (hz : z ≤ 250) (hc : cn (dC s) ≤ z) (hQ : Q (.inl none, (WC z err t X len a s vNil vNil vNil vNil 0 colls taken steps (cpV (cH_ (dC s)) H (cn (dC s))) (cpV (cT_ (dC s)) T (cn (dC s))) (faN (z - cn (dC s)) (cn (dC s)) (fr, 0)).1 g (faN (z - cn (dC s)) (cn (dC s)) (fr, 0)).2 (cn (dC s)) k n fb R tl, b0, b1, op))) : mj_Mt gT (law_cst xs) gnw (m + 3) y_Machine_load [.ref 16, .ref 11] (WC z err t X len a s S E C D mode colls taken steps H T fr g f c k n fb R tl, b0, b1, op) Q := by
  intro J hJ
  refine hJ _ _ _ _ ?_
  refine s_load hz hc ?_
  refine k_setRegisters (V := vNil) ?_
  exact hQ
theorem x_tclear {o0 : mj_O} (hQ : Q (.inl none, (rdW o0 t X 0 a tl, b0, b1, op))) : mj_Mt gT (law_cst xs) gnw (m + 1) y_Text_clear [.ref 8] (rdW o0 t X len a tl, b0, b1, op) Q := by
  intro J hJ
  refine hJ _ _ _ _ ?_
  exact hQ
theorem P_compile {l : Nat} (hl : 120 ≤ l) (hz : z ≤ 250) (ht : tOK t) (hx : txOK X len tx) (hF : ∀ i j, dF s i = some j → j < 1000) (hb : 12 ≤ b1)
    (h1 : ∀ a' t', pEx tx 10 0 0 (0, t.2) = .inr (a', t') → Q (.inr 0, (WC z (nI a') t' X 0 a' s S E C D mode colls taken steps H T fr g f c k n fb R tl, b0, b1 - 6 - 6, false)))
    (h2 : ∀ nd a' t', pEx tx 10 0 0 (0, t.2) = .inl (nd, a', t') → a' < len → Q (.inr 0, (WC z (nI a') t' X 0 a' s S E C D mode colls taken steps H T fr g f c k n fb R tl, b0 + 1, b1 - 6, false)))
    (h3 : ∀ nd a' t', pEx tx 10 0 0 (0, t.2) = .inl (nd, a', t') → ¬ a' < len → ¬ dU (dEx z t' 11 0 (some 0) (dZ s)) = -1 → Q (.inr 0, (WC z (dU (dEx z t' 11 0 (some 0) (dZ s))) t' X 0 a' (dI z (dEx z t' 11 0 (some 0) (dZ s)) 19) S E C D mode colls taken steps H T fr g f c k n fb R tl, b0 + 1, b1 - 6, false)))
    (h4 : ∀ nd a' t' s', pEx tx 10 0 0 (0, t.2) = .inl (nd, a', t') → ¬ a' < len → dU (dEx z t' 11 0 (some 0) (dZ s)) = -1 → s' = dI z (dEx z t' 11 0 (some 0) (dZ s)) 19 → z < cn (dC s') → Q (.inr 1, (WC z (-1) t' X 0 a' s' S E C D mode colls taken steps H T fr g f c k n fb R tl, b0 + 1, b1 - 6, false)))
    (h5 : ∀ nd a' t' s', pEx tx 10 0 0 (0, t.2) = .inl (nd, a', t') → ¬ a' < len → dU (dEx z t' 11 0 (some 0) (dZ s)) = -1 → s' = dI z (dEx z t' 11 0 (some 0) (dZ s)) 19 → cn (dC s') ≤ z → Q (.inl (some (.int (nI (cn (dC s'))))), (WC z (-1) t' X 0 a' s' vNil vNil vNil vNil 0 colls taken steps (cpV (cH_ (dC s')) H (cn (dC s'))) (cpV (cT_ (dC s')) T (cn (dC s'))) (faN (z - cn (dC s')) (cn (dC s')) (fr, 0)).1 g (faN (z - cn (dC s')) (cn (dC s')) (fr, 0)).2 (cn (dC s')) k n fb R tl, b0 + 2, b1, op))) :
    mj_Mt gT (law_cst xs) gnw (l + 1) y_P_compile [.ref 0] (WC z err t X len a s S E C D mode colls taken steps H T fr g f c k n fb R tl, b0 + 2, b1, op) Q := by
  obtain ⟨l, rfl⟩ : ∃ l', l = l' + 120 := ⟨l - 120, by omega⟩
  have h96 := hx.1
  have ht0 : tOK (0, t.2) := ⟨Nat.zero_le _, ht.2.1, ⟨ht.2.2.1.1, fun i hi => absurd hi (Nat.not_lt_zero i)⟩, ht.2.2.2⟩
  have hg := g_ex hx 10 0 0 (0, t.2) ht0 (Nat.le_refl _) (Nat.zero_le _)
  intro J hJ
  refine hJ _ _ _ _ ?_
  refine q_read (l := l + 119) (tx := tx) (b0 := b0 + 1) (by omega) hx ht (by omega) (fun a2 t2 e => ?_) (fun nd a2 t2 e => ?_)
  · rw [e] at hg
    refine x_tclear ?_
    have ha : ¬ nI a2 = -1 := fun q => nI_pos (n := a2) (by have := hg.2.2; omega) (by rw [q]; decide)
    refine And.intro (fun _ => ?_) (fun (q : nI a2 = -1) => absurd q ha)
    refine And.intro (fun (q : nI a2 = -1) => absurd q ha) (fun _ => ?_)
    exact And.intro (by omega) (h1 a2 t2 e)
  · have hg0 := hg
    rw [e] at hg0
    obtain ⟨g1, g2, g3, g5, g4⟩ := hg0
    by_cases h : a2 < len
    · rw [if_pos h]
      refine x_tclear ?_
      have ha : ¬ nI a2 = -1 := fun q => nI_pos (n := a2) (by omega) (by rw [q]; decide)
      refine And.intro (fun _ => ?_) (fun (q : nI a2 = -1) => absurd q ha)
      refine And.intro (fun (q : nI a2 = -1) => absurd q ha) (fun _ => ?_)
      exact And.intro (by omega) (h2 nd a2 t2 e h)
    · rw [if_neg h]
      refine x_tclear ?_
      refine And.intro (fun q => absurd rfl q) (fun _ => ?_)
      have hlt := lay_lt (z := z) (s := s) e (by omega)
      have h3' := h3 nd a2 t2 e h
      have h4' := h4 nd a2 t2 (dI z (dEx z t2 11 0 (some 0) (dZ s)) 19) e h
      have h5' := h5 nd a2 t2 (dI z (dEx z t2 11 0 (some 0) (dZ s)) 19) e h
      refine m_lay (l := l + 119) (by omega) hz g2 hF hlt ?_
      generalize dU (dEx z t2 11 0 (some 0) (dZ s)) = u at *
      generalize dI z (dEx z t2 11 0 (some 0) (dZ s)) 19 = s2 at *
      refine And.intro (fun (q : u = -1) => ?_) (fun (q : ¬ u = -1) => ?_)
      · subst q
        refine e_cells ?_
        refine And.intro (fun (q : nI (cn (dC s2)) ≤ nI z) => ?_) (fun (q : ¬ nI (cn (dC s2)) ≤ nI z) => ?_)
        · have q2 := (nI_leI (by omega) (by omega)).mp q
          refine M_load hz q2 ?_
          refine e_cells ?_
          exact h5' rfl rfl q2
        · have q2 : z < cn (dC s2) := Nat.lt_of_not_le (fun w => q (nI_le w (by omega)))
          exact And.intro (by omega) (h4' rfl rfl q2)
      · exact And.intro (by omega) (h3' q)
end P2q
