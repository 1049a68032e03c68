section P2n
variable {m b0 b1 : Nat} {op : Bool} {tl : List mj_O} {Q : mj_R → Prop} {xs : List Int32}
variable {o0 : mj_O} {t : tS} {X : Nat → Int32} {len a z : Nat} {s : cD_} {tx : Nat → Nat}
set_option maxRecDepth 10000
theorem m_ex (hz : z ≤ 250) (ht : tOK t) : ∀ (f d : Nat), 1 ≤ f → 11 ≤ f + d → d ≤ 20 → HC xs o0 t X len a z tl b0 b1 op y_Coder_expression (6 * f + 40) (dEx z t f d) d
  | 0, d, h, _, _ => by omega
  | f + 1, d, _, hfd, hd => by
    intro ℓ o s x w Q hx hw hlv ho h hn hQ
    subst hx
    subst hw
    obtain ⟨l, rfl⟩ : ∃ l, ℓ = l + 30 := ⟨ℓ - 30, by omega⟩
    unfold dEx at hQ hn
    intro J hJ
    refine hJ _ _ _ _ ?_
    refine And.intro (fun (g : nI d ≤ nI 9) => ?_) (fun (g : ¬ nI d ≤ nI 9) => ?_)
    · have hd9 := (nI_leI (by omega) (by decide)).mp g
      rw [if_neg (by omega)] at hQ hn
      have hg := s_Ex (z := z) ht f (d + 1)
      have Hg := m_ex hz ht f (d + 1) (by omega) (by omega) (by omega)
      refine t_kind rfl ht.1 ho ?_
      generalize tEi t (tK t) o = kd at hQ hn
      refine And.intro (fun (g1 : kd = 1) => ?_) (fun (g1 : ¬ kd = 1) => ?_)
      · subst g1
        rw [if_pos rfl] at hQ hn
        refine m_con (l := l + 29) rfl rfl (by omega) hz ht hd9 ho h hn ?_
        exact hQ
      rw [if_neg g1] at hQ hn
      refine And.intro (fun (g2 : kd = 2) => ?_) (fun (g2 : ¬ kd = 2) => ?_)
      · subst g2
        rw [if_pos rfl] at hQ hn
        refine m_var rfl hz ht ho h hn ?_
        exact hQ
      rw [if_neg g2] at hQ hn
      refine And.intro (fun (g3 : kd = 3) => ?_) (fun (g3 : ¬ kd = 3) => ?_)
      · subst g3
        rw [if_neg (by decide)] at hQ
        rw [if_neg (by decide)] at hQ
        rw [if_neg (by decide)] at hQ
        rw [if_neg (by decide)] at hQ
        rw [if_neg (by decide)] at hQ
        rw [if_neg (by decide)] at hQ
        exact hQ
      refine And.intro (fun (g4 : kd = 4) => ?_) (fun (g4 : ¬ kd = 4) => ?_)
      · subst g4
        rw [if_pos rfl] at hQ hn
        refine t_firstPart rfl ht.1 ho ?_
        refine m_con (l := l + 29) rfl rfl (by omega) hz ht hd9 (tEn_lt ht.2.1 _) h hn ?_
        exact hQ
      rw [if_neg g4] at hQ hn
      refine And.intro (fun (g5 : kd = 5) => ?_) (fun (g5 : ¬ kd = 5) => ?_)
      · subst g5
        rw [if_pos rfl] at hQ hn
        refine m_oper (l := l + 28) rfl rfl hz ht hg Hg (by omega) (by omega) ho h hn ?_
        exact hQ
      rw [if_neg g5] at hQ hn
      refine And.intro (fun (g6 : kd = 6) => ?_) (fun (g6 : ¬ kd = 6) => ?_)
      · subst g6
        rw [if_pos rfl] at hQ hn
        refine m_fun (l := l + 28) rfl rfl hz ht hg Hg (by omega) (by omega) ho h hn ?_
        exact hQ
      rw [if_neg g6] at hQ hn
      refine And.intro (fun (g7 : kd = 7) => ?_) (fun (g7 : ¬ kd = 7) => ?_)
      · subst g7
        rw [if_neg (by decide)] at hQ
        rw [if_neg (by decide)] at hQ
        rw [if_neg (by decide)] at hQ
        exact hQ
      refine And.intro (fun (g8 : kd = 8) => ?_) (fun (g8 : ¬ kd = 8) => ?_)
      · subst g8
        rw [if_pos rfl] at hQ hn
        refine m_bound (l := l + 28) rfl rfl hz ht hg Hg (by omega) (by omega) ho h hn ?_
        exact hQ
      rw [if_neg g8] at hQ hn
      refine And.intro (fun (g9 : kd = 9) => ?_) (fun (g9 : ¬ kd = 9) => ?_)
      · subst g9
        rw [if_pos rfl] at hQ hn
        refine m_boundF (l := l + 28) rfl rfl hz ht hg Hg (by omega) (by omega) ho h hn ?_
        exact hQ
      rw [if_neg g9] at hQ hn
      refine And.intro (fun (g10 : kd = 10) => ?_) (fun (g10 : ¬ kd = 10) => ?_)
      · subst g10
        rw [if_neg (by decide)] at hQ
        exact hQ
      refine And.intro (fun (g11 : kd = 11) => ?_) (fun (g11 : ¬ kd = 11) => ?_)
      · subst g11
        rw [if_pos rfl] at hQ hn
        refine m_call (l := l + 28) rfl rfl hz ht hg Hg (by omega) (by omega) ho h hn ?_
        exact hQ
      rw [if_neg g11] at hQ hn
      exact hQ
    · have hd9 : ¬ d ≤ 9 := fun q => g (nI_le q (by decide))
      rw [if_pos (by omega)] at hQ
      exact hQ
def dZ (s : cD_) : cD_ := ((cH_ (dC s), cT_ (dC s), 0, none, false), dF s, 0, -1)
theorem m_lay {l : Nat} (hl : 108 ≤ l) (hz : z ≤ 250) (ht : tOK t) (hF : ∀ i j, dF s i = some j → j < 1000) (hn : cn (dC (dI z (dEx z t 11 0 (some 0) (dZ s)) 19)) < 2 ^ 30) (hQ : Q (.inl (some (.int (dU (dEx z t 11 0 (some 0) (dZ s))))), (cdW o0 t X len a z (dI z (dEx z t 11 0 (some 0) (dZ s)) 19) tl, b0, b1, op))) : mj_Mt gT (law_cst xs) gnw (l + 1) y_Coder_layDown [.ref 14] (cdW o0 t X len a z s tl, b0, b1, op) Q := by
  obtain ⟨l, rfl⟩ : ∃ l', l = l' + 108 := ⟨l - 108, by omega⟩
  have h0 : sOK (dZ s) := ⟨Nat.zero_le _, fun k e => (by cases e), hF⟩
  have h1 := s_Ex (z := z) ht 11 0 (some 0) (dZ s) (fun i e => by cases e; decide) h0
  have h2 := s_I (z := z) (x := 19) h1.1
  have e2 := h2.2
  intro J hJ
  refine hJ _ _ _ _ ?_
  intro J2 hJ2
  refine hJ2 _ _ _ _ ?_
  refine And.intro (Or.inl rfl) ?_
  refine m_ex hz ht 11 0 (by decide) (by decide) (by decide) (l + 108) (some 0) (dZ s) _ _ _ rfl rfl (by omega) (fun i e => by cases e; decide) h0 (by omega) ?_
  refine m_in (x := 19) hz h1.1 hn ?_
  exact hQ
theorem x_tlen (hQ : Q (.inl (some (.int (nI len))), (rdW o0 t X len a tl, b0, b1, op))) : mj_Mt gT (law_cst xs) gnw (m + 1) y_Text_length [.ref 8] (rdW o0 t X len a tl, b0, b1, op) Q := by
  intro J hJ
  refine hJ _ _ _ _ ?_
  exact hQ
theorem q_read {l : Nat} (hl : 80 ≤ l) (hx : txOK X len tx) (ht : tOK t) (h6 : 6 ≤ b1)
    (h1 : ∀ a' t', pEx tx 10 0 0 (0, t.2) = .inr (a', t') → Q (.inl (some (.int (nI a'))), (rdW o0 t' X len a' tl, b0, b1 - 6, false)))
    (h2 : ∀ n a' t', pEx tx 10 0 0 (0, t.2) = .inl (n, a', t') → Q (.inl (some (.int (if a' < len then nI a' else -1))), (rdW o0 t' X len a' tl, b0 + 1, b1, op))) :
    mj_Mt gT (law_cst xs) gnw (l + 1) y_Reader_read [.ref 10] (rdW o0 t X len a tl, b0 + 1, b1, op) Q := by
  obtain ⟨l, rfl⟩ : ∃ l', l = l' + 80 := ⟨l - 80, by omega⟩
  have h96 := hx.1
  have ht0 : tOK (0, t.2) := ⟨Nat.zero_le _, ht.2.1, ⟨ht.2.2.1.1, fun i hi => absurd hi (Nat.not_lt_zero i)⟩, ht.2.2.2⟩
  have hg := g_ex hx 10 0 0 (0, t.2) ht0 (Nat.le_refl _) (Nat.zero_le _)
  intro J hJ
  refine hJ _ _ _ _ ?_
  intro J2 hJ2
  refine hJ2 _ _ _ _ ?_
  refine q_ex hx h6 10 0 (by decide) (by decide) (by decide) (l + 80) 0 (0, t.2) _ _ rfl (by omega) ht0 (Nat.le_refl _) (Nat.zero_le _) ?_
  cases hr : pEx tx 10 0 0 (0, t.2) with
  | inl r =>
    obtain ⟨n, a2, t2⟩ := r
    rw [hr] at hg
    obtain ⟨-, -, -, -, g4⟩ := hg
    have hq := h2 n a2 t2 hr
    refine x_tlen ?_
    refine And.intro (fun (g : nI len ≤ nI a2) => ?_) (fun (g : ¬ nI len ≤ nI a2) => ?_)
    · have h9 := (nI_leI (by omega) (by omega)).mp g
      rw [if_neg (by omega)] at hq
      exact hq
    · have h9 : a2 < len := Nat.lt_of_not_le (fun q => g (nI_le q (by omega)))
      rw [if_pos h9] at hq
      exact hq
  | inr r =>
    obtain ⟨a2, t2⟩ := r
    exact h1 a2 t2 hr
end P2n
