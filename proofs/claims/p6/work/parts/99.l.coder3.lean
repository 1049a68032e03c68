section P2m
variable {m b0 b1 : Nat} {op : Bool} {tl : List mj_O} {Q : mj_R → Prop} {xs : List Int32}
variable {o0 : mj_O} {t : tS} {X : Nat → Int32} {len a z : Nat} {s : cD_}
set_option maxRecDepth 10000
theorem s_I {z : Nat} {s : cD_} {x : Int32} (h : sOK s) : sM s (dI z s x) := s_A h
theorem m_dat (hz : z ≤ 250) (ht : tOK t) : ∀ (f d : Nat), 1 ≤ f → 11 ≤ f + d → d ≤ 20 → HC xs o0 t X len a z tl b0 b1 op y_Coder_datum (f + 8) (dDa z t f d) d
  | 0, d, h, _, _ => by omega
  | f + 1, d, _, hfd, hd => by
    intro ℓ o s x w Q hx hw hlv ho h hn hQ
    subst hx
    subst hw
    obtain ⟨l, rfl⟩ : ∃ l, ℓ = l + 8 := ⟨ℓ - 8, by omega⟩
    unfold dDa at hQ hn
    intro J hJ
    refine hJ _ _ _ _ ?_
    refine And.intro (fun (g : nI d ≤ nI 9) => ?_) (fun (g : ¬ nI d ≤ nI 9) => ?_)
    · have hd9 := (nI_leI (by omega) (by decide)).mp g
      rw [if_neg (by omega)] at hQ hn
      refine t_kind rfl ht.1 ho ?_
      generalize tEi t (tK t) o = kd at hQ hn
      refine And.intro (fun (g1 : ¬ kd = 1) => ?_) (fun (g1 : kd = 1) => ?_)
      · rw [if_neg g1] at hQ hn
        refine And.intro (fun (g2 : ¬ kd = 2) => ?_) (fun (g2 : kd = 2) => ?_)
        · rw [if_neg g2] at hQ hn
          obtain ⟨hB1, hB2⟩ := s_B (z := z) h
          have hR := s_Row ht (s_Da (z := z) ht f (d + 1)) 96 (tEn t (tF t) o) (dB z s) (tEn_lt ht.2.1 _) hB1.1
          have hR2 := hR.2
          have hn2 : cn (dC (dRow t (dDa z t f (d + 1)) 96 (tEn t (tF t) o) (dB z s))) < 2 ^ 30 := hn
          refine m_bg hz h (by omega) ?_
          refine t_firstPart rfl ht.1 ho ?_
          have loop : ∀ (j i : Nat) (o2 : Option Nat) (s2 : cD_) (x2 : Int32), j + i = 96 → x2 = nI i → oB o2 → sOK s2 → dRow t (dDa z t f (d + 1)) j o2 s2 = dRow t (dDa z t f (d + 1)) 96 (tEn t (tF t) o) (dB z s) → J 44 [some (.ref 14), some (.int (oV o)), some (.int (nI d)), some (.int kd), some (.int (nI (cn (dC s)))), some (.int (oV o2)), some (.int x2)] [] (cdW o0 t X len a z s2 tl, b0, b1, op) := by
            intro j
            induction j with
            | zero =>
              intro i o2 s2 x2 hi hx2 ho2 h2 e
              subst hx2
              obtain rfl : i = 96 := by omega
              refine hJ _ _ _ _ ?_
              refine And.intro (fun _ => ?_) (fun g => absurd (by decide) g)
              rw [← e] at hQ
              exact e_end hQ
            | succ j ih =>
              intro i o2 s2 x2 hi hx2 ho2 h2 e
              subst hx2
              refine hJ _ _ _ _ ?_
              refine And.intro (fun g => absurd g (nI_ge (a := i) (b := 96) (by omega) (by decide))) (fun _ => ?_)
              cases o2 with
              | none =>
                refine And.intro (fun _ => ?_) (fun g => absurd rfl g)
                rw [← e] at hQ
                exact e_end hQ
              | some q =>
                have hq := ho2 q rfl
                refine And.intro (fun g => absurd g (oV_ne (k := q) (by omega))) (fun _ => ?_)
                have h3 := s_Da (z := z) ht f (d + 1) (some q) s2 ho2 h2
                have h4 := s_Row ht (s_Da (z := z) ht f (d + 1)) j (tEn t (tN t) (some q)) _ (tEn_lt ht.2.2.2 _) h3.1
                have e : dRow t (dDa z t f (d + 1)) j (tEn t (tN t) (some q)) (dDa z t f (d + 1) (some q) s2) = _ := e
                have h5 := h4.2
                rw [e] at h5
                refine m_dat hz ht f (d + 1) (by omega) (by omega) (by omega) (l + 7) (some q) s2 _ _ _ rfl (nI_1 d) (by omega) ho2 h2 (by omega) ?_
                refine t_follower rfl ht.1 ho2 ?_
                exact ih (i + 1) _ _ _ (by omega) (nI_1 i) (tEn_lt ht.2.2.2 _) h3.1 e
          exact loop 96 0 _ _ _ rfl rfl (tEn_lt ht.2.1 _) hB1.1 rfl
        · rw [if_pos g2] at hQ hn
          refine t_value rfl ht.1 ho ?_
          refine v_symbol ?_
          refine m_ap hz h hn ?_
          exact hQ
      · rw [if_pos g1] at hQ hn
        refine t_value rfl ht.1 ho ?_
        refine v_number ?_
        refine m_ap hz h hn ?_
        exact hQ
    · have hd9 : ¬ d ≤ 9 := fun q => g (nI_le q (by decide))
      rw [if_pos (by omega)] at hQ
      exact hQ
theorem m_con {o : Option Nat} {d l : Nat} {x w : Int32} (hx : x = oV o) (hw : w = nI d) (hl : 24 ≤ l) (hz : z ≤ 250) (ht : tOK t) (hd : d ≤ 9) (ho : oB o) (h : sOK s) (hn : cn (dC (dDa z t 11 d o (dI z s 1))) < 2 ^ 30) (hQ : Q (.inl none, (cdW o0 t X len a z (dDa z t 11 d o (dI z s 1)) tl, b0, b1, op))) : mj_Mt gT (law_cst xs) gnw l y_Coder_constant [.ref 14, .int x, .int w] (cdW o0 t X len a z s tl, b0, b1, op) Q := by
  subst hx
  subst hw
  obtain ⟨l, rfl⟩ : ∃ l', l = l' + 24 := ⟨l - 24, by omega⟩
  have h1 := s_I (z := z) (x := 1) h
  have h2 := s_Da (z := z) ht 11 d o _ ho h1.1
  have h3 := h2.2
  intro J hJ
  refine hJ _ _ _ _ ?_
  refine m_in (x := 1) hz h (by omega) ?_
  refine m_dat hz ht 11 d (by decide) (by omega) (by omega) (l + 23) o _ _ _ _ rfl rfl (by omega) ho h1.1 hn ?_
  exact hQ
variable {go : Option Nat → cD_ → cD_} {l lv d : Nat}
theorem t_partD {o : Option Nat} {k : Nat} {y x : Int32} (hy : y = oV o) (hx : x = nI k) (hk : k < 1000) (ht : tOK t) (ho : ∀ i, o = some i → i < 1000) (hQ : Q (.inl (some (.int (oV (dPt t k o)))), (rdW o0 t X len a tl, b0, b1, op))) : mj_Mt gT (law_cst xs) gnw (m + 3) y_Tree_part [.ref 1, .int y, .int x] (rdW o0 t X len a tl, b0, b1, op) Q := t_part hy hx hk ht ho hQ
theorem m_list {o : Option Nat} {x w q : Int32} (hx : x = oV o) (hw : w = nI d) (hz : z ≤ 250) (hg : SGo go) (Hg : HC xs o0 t X len a z tl b0 b1 op y_Coder_expression lv go (d + 1)) (hl : lv ≤ l) (hl3 : 4 ≤ l) (ho : oB o) (h : sOK s) (hn : cn (dC (dLi z go o q s)) < 2 ^ 30) (hQ : Q (.inl none, (cdW o0 t X len a z (dLi z go o q s) tl, b0, b1, op))) : mj_Mt gT (law_cst xs) gnw (l + 1) y_Coder_list [.ref 14, .int x, .int q, .int w] (cdW o0 t X len a z s tl, b0, b1, op) Q := by
  subst hx
  subst hw
  obtain ⟨l, rfl⟩ : ∃ l', l = l' + 4 := ⟨l - 4, by omega⟩
  obtain ⟨hB1, hB2⟩ := s_B (z := z) h
  have h2 := hg _ _ ho hB1.1
  have h3 := s_I (z := z) (x := q) h2.1
  have h4 := h3.2
  have h5 := h2.2
  have hn2 : cn (dC (dI z (go o (dB z s)) q)) < 2 ^ 30 := hn
  intro J hJ
  refine hJ _ _ _ _ ?_
  refine m_bg hz h (by omega) ?_
  refine Hg (l + 4) o _ _ _ _ rfl (nI_1 d) hl ho hB1.1 (by omega) ?_
  refine m_in hz h2.1 hn2 ?_
  refine e_end ?_
  exact hQ
theorem m_body {o fl : Option Nat} {x y w : Int32} (hx : x = oV o) (hy : y = oV fl) (hw : w = nI d) (hz : z ≤ 250) (hg : SGo go) (Hg : HC xs o0 t X len a z tl b0 b1 op y_Coder_expression lv go (d + 1)) (hl : lv + 1 ≤ l) (hl3 : 5 ≤ l) (ho : oB o) (hf : oB fl) (h : sOK s) (hn : cn (dC (dBo z go o fl s)) < 2 ^ 30) (hQ : Q (.inl none, (cdW o0 t X len a z (dBo z go o fl s) tl, b0, b1, op))) : mj_Mt gT (law_cst xs) gnw (l + 1) y_Coder_body [.ref 14, .int x, .int y, .int w] (cdW o0 t X len a z s tl, b0, b1, op) Q := by
  obtain ⟨l, rfl⟩ : ∃ l', l = l' + 5 := ⟨l - 5, by omega⟩
  have h1 := s_I (z := z) (x := 3) h
  have h2 := s_En hf h1.1
  have h3 := s_Li (z := z) (x := 5) hg ho h2.1
  have e2 := h2.2
  have e3 := h3.2
  have hn2 : cn (dC (dLi z go o 5 (dEn (dI z s 3) fl))) < 2 ^ 30 := hn
  intro J hJ
  refine hJ _ _ _ _ ?_
  refine m_in (x := 3) hz h (by omega) ?_
  refine m_enter hy h1.1 ?_
  refine m_list (l := l + 4) (q := 5) hx hw hz hg Hg (by omega) (by omega) ho h2.1 hn2 ?_
  refine m_leave h3.1 ?_
  exact hQ
theorem m_fun {o : Option Nat} {x w : Int32} (hx : x = oV o) (hw : w = nI d) (hz : z ≤ 250) (ht : tOK t) (hg : SGo go) (Hg : HC xs o0 t X len a z tl b0 b1 op y_Coder_expression lv go (d + 1)) (hl : lv + 2 ≤ l) (hl3 : 6 ≤ l) (ho : oB o) (h : sOK s) (hn : cn (dC (dBo z go (dPt t 1 o) (tEn t (tF t) (dPt t 0 o)) s)) < 2 ^ 30) (hQ : Q (.inl none, (cdW o0 t X len a z (dBo z go (dPt t 1 o) (tEn t (tF t) (dPt t 0 o)) s) tl, b0, b1, op))) : mj_Mt gT (law_cst xs) gnw (l + 1) y_Coder_function [.ref 14, .int x, .int w] (cdW o0 t X len a z s tl, b0, b1, op) Q := by
  obtain ⟨l, rfl⟩ : ∃ l', l = l' + 6 := ⟨l - 6, by omega⟩
  intro J hJ
  refine hJ _ _ _ _ ?_
  refine t_partD (k := 1) hx rfl (by decide) ht ho ?_
  refine t_partD (k := 0) hx rfl (by decide) ht ho ?_
  refine t_firstPart rfl ht.1 (oB_pt ht 0 o) ?_
  refine m_body (l := l + 5) rfl rfl hw hz hg Hg (by omega) (by omega) (oB_pt ht 1 o) (tEn_lt ht.2.1 _) h hn ?_
  exact hQ
theorem m_bargs (hz : z ≤ 250) (h : sOK s) (hn : cn (dC (dBA z s)) < 2 ^ 30) (hQ : Q (.inl none, (cdW o0 t X len a z (dBA z s) tl, b0, b1, op))) : mj_Mt gT (law_cst xs) gnw (m + 4) y_Coder_beginArguments [.ref 14] (cdW o0 t X len a z s tl, b0, b1, op) Q := by
  have h1 := s_I (z := z) (x := 1) h
  have h2 := s_A (z := z) (v := vNil) h1.1
  have e2 := h2.2
  have hn2 : cn (dC (dA z (dI z s 1) vNil)) < 2 ^ 30 := hn
  intro J hJ
  refine hJ _ _ _ _ ?_
  refine m_in (x := 1) hz h (by omega) ?_
  refine m_ap (v := vNil) hz h1.1 hn2 ?_
  exact hQ
theorem m_arg {o : Option Nat} {x w : Int32} (hx : x = oV o) (hw : w = nI d) (hz : z ≤ 250) (hg : SGo go) (Hg : HC xs o0 t X len a z tl b0 b1 op y_Coder_expression lv go (d + 1)) (hl : lv ≤ l) (hl3 : 4 ≤ l) (ho : oB o) (h : sOK s) (hn : cn (dC (dAr z go o s)) < 2 ^ 30) (hQ : Q (.inl none, (cdW o0 t X len a z (dAr z go o s) tl, b0, b1, op))) : mj_Mt gT (law_cst xs) gnw (l + 1) y_Coder_argument [.ref 14, .int x, .int w] (cdW o0 t X len a z s tl, b0, b1, op) Q := by
  subst hx
  subst hw
  obtain ⟨l, rfl⟩ : ∃ l', l = l' + 4 := ⟨l - 4, by omega⟩
  have h2 := hg _ _ ho h
  have h3 := s_I (z := z) (x := 13) h2.1
  have e3 := h3.2
  have hn2 : cn (dC (dI z (go o s) 13)) < 2 ^ 30 := hn
  intro J hJ
  refine hJ _ _ _ _ ?_
  refine Hg (l + 4) o _ _ _ _ rfl (nI_1 d) hl ho h (by omega) ?_
  refine m_in (x := 13) hz h2.1 hn2 ?_
  exact hQ
theorem tCn_le (t : tS) : ∀ (k : Nat) (o : Option Nat), tCn t k o ≤ k
  | 0, o => Nat.le_refl _
  | k + 1, none => Nat.zero_le _
  | k + 1, some i => Nat.succ_le_succ (tCn_le t k _)
theorem n_dec {k : Nat} (h : 1 ≤ k) (hk : k < 2 ^ 31) : nI k + Int32.ofInt (-1) = nI (k - 1) := sb_m1 h
theorem m_boundArgs {o : Option Nat} {x w : Int32} (hx : x = oV o) (hw : w = nI d) (hz : z ≤ 250) (ht : tOK t) (hg : SGo go) (Hg : HC xs o0 t X len a z tl b0 b1 op y_Coder_expression lv go (d + 1)) (hl : lv + 1 ≤ l) (hl3 : 5 ≤ l) (ho : oB o) (h : sOK s) (hn : cn (dC (dBs z t go o s)) < 2 ^ 30) (hQ : Q (.inl none, (cdW o0 t X len a z (dBs z t go o s) tl, b0, b1, op))) : mj_Mt gT (law_cst xs) gnw (l + 1) y_Coder_boundArguments [.ref 14, .int x, .int w] (cdW o0 t X len a z s tl, b0, b1, op) Q := by
  subst hx
  subst hw
  obtain ⟨l, rfl⟩ : ∃ l', l = l' + 5 := ⟨l - 5, by omega⟩
  have hpk : ∀ k, oB ((fun k => tEn t (tF t) (dPt t k o)) k) := fun k => tEn_lt ht.2.1 _
  have h1 := s_BA (z := z) h
  have hc := tCn_le t 96 (tEn t (tF t) o)
  have h2 := s_As (z := z) hg (pick := fun k => tEn t (tF t) (dPt t k o)) hpk (tCn t 96 (tEn t (tF t) o) - 1) _ h1.1
  have e1 := h1.2
  have e2 := h2.2
  intro J hJ
  refine hJ _ _ _ _ ?_
  have hnA : cn (dC (dAs z go (fun k => tEn t (tF t) (dPt t k o)) (tCn t 96 (tEn t (tF t) o) - 1) (dBA z s))) < 2 ^ 30 := hn
  refine m_bargs hz h (by omega) ?_
  refine t_parts rfl ht ho ?_
  have loop : ∀ (k : Nat) (s2 : cD_) (y : Int32), k ≤ 95 → (y = nI k ∨ k = 0 ∧ y = nI 0 - Int32.ofInt 1) → sOK s2 → dAs z go (fun k => tEn t (tF t) (dPt t k o)) k s2 = dAs z go (fun k => tEn t (tF t) (dPt t k o)) (tCn t 96 (tEn t (tF t) o) - 1) (dBA z s) → J 9 [some (.ref 14), some (.int (oV o)), some (.int (nI d)), some (.int y)] [] (cdW o0 t X len a z s2 tl, b0, b1, op) := by
    intro k
    induction k with
    | zero =>
      intro s2 y hk hy h3 e
      refine hJ _ _ _ _ ?_
      refine And.intro (fun _ => ?_) (fun g => absurd (show y < Int32.ofInt 1 by rcases hy with rfl | ⟨-, rfl⟩ <;> decide) g)
      have e : s2 = dAs z go (fun k => tEn t (tF t) (dPt t k o)) (tCn t 96 (tEn t (tF t) o) - 1) (dBA z s) := e
      subst e
      exact hQ
    | succ k ih =>
      intro s2 y hk hy h3 e
      obtain rfl : y = nI (k + 1) := by
        rcases hy with hy | hy
        · exact hy
        · omega
      have h4 := hg _ _ (hpk (k + 1)) h3
      have h5 := s_I (z := z) (x := 13) h4.1
      have h6 := s_As (z := z) hg (pick := fun k => tEn t (tF t) (dPt t k o)) hpk k _ h5.1
      have e : dAs z go (fun k => tEn t (tF t) (dPt t k o)) k (dAr z go (tEn t (tF t) (dPt t (k + 1) o)) s2) = _ := e
      have e6 := h6.2
      have e7 : cn (dC (dAr z go (tEn t (tF t) (dPt t (k + 1) o)) s2)) ≤ cn (dC (dAs z go (fun k => tEn t (tF t) (dPt t k o)) (tCn t 96 (tEn t (tF t) o) - 1) (dBA z s))) := by
        rw [← e]
        exact e6
      refine hJ _ _ _ _ ?_
      refine And.intro (fun g => absurd g (nI_nlt (a := k + 1) (b := 1) (by omega) (by omega))) (fun _ => ?_)
      refine t_partD (k := k + 1) rfl rfl (by omega) ht ho ?_
      refine t_firstPart rfl ht.1 (oB_pt ht (k + 1) o) ?_
      refine m_arg (l := l + 4) rfl rfl hz hg Hg (by omega) (by omega) (hpk (k + 1)) h3 (Nat.lt_of_le_of_lt e7 hnA) ?_
      refine ih _ _ (by omega) (Or.inl ?_) h5.1 e
      exact n_dec (by omega) (by omega)
  by_cases hc0 : tCn t 96 (tEn t (tF t) o) = 0
  · rw [hc0]
    refine loop 0 _ _ (by omega) (Or.inr ⟨rfl, rfl⟩) h1.1 ?_
    rw [hc0]
  · refine loop (tCn t 96 (tEn t (tF t) o) - 1) _ _ (by omega) (Or.inl ?_) h1.1 rfl
    exact pk_sub (a := tCn t 96 (tEn t (tF t) o)) (b := 1) (by omega)
theorem m_call {o : Option Nat} {x w : Int32} (hx : x = oV o) (hw : w = nI d) (hz : z ≤ 250) (ht : tOK t) (hg : SGo go) (Hg : HC xs o0 t X len a z tl b0 b1 op y_Coder_expression lv go (d + 1)) (hl : lv + 1 ≤ l) (hl3 : 5 ≤ l) (ho : oB o) (h : sOK s) (hn : cn (dC (dCa z t go o s)) < 2 ^ 30) (hQ : Q (.inl none, (cdW o0 t X len a z (dCa z t go o s) tl, b0, b1, op))) : mj_Mt gT (law_cst xs) gnw (l + 1) y_Coder_call [.ref 14, .int x, .int w] (cdW o0 t X len a z s tl, b0, b1, op) Q := by
  subst hx
  subst hw
  obtain ⟨l, rfl⟩ : ∃ l', l = l' + 5 := ⟨l - 5, by omega⟩
  have hpk : ∀ k, oB ((fun k => dPt t k o) k) := fun k => oB_pt ht k o
  have h1 := s_BA (z := z) h
  have hc := tCn_le t 96 (tEn t (tF t) o)
  have h2 := s_As (z := z) hg (pick := fun k => dPt t k o) hpk (tCn t 96 (tEn t (tF t) o) - 1) _ h1.1
  have e1 := h1.2
  have e2 := h2.2
  intro J hJ
  refine hJ _ _ _ _ ?_
  have h8 := hg _ _ (oB_pt ht 0 o) h2.1
  have h9 := s_I (z := z) (x := 4) h8.1
  have e8 := h8.2
  have e9 := h9.2
  have hn2 : cn (dC (dI z (go (dPt t 0 o) (dAs z go (fun k => dPt t k o) (tCn t 96 (tEn t (tF t) o) - 1) (dBA z s))) 4)) < 2 ^ 30 := hn
  have hnA : cn (dC (dAs z go (fun k => dPt t k o) (tCn t 96 (tEn t (tF t) o) - 1) (dBA z s))) < 2 ^ 30 := by omega
  refine m_bargs hz h (by omega) ?_
  refine t_parts rfl ht ho ?_
  have loop : ∀ (k : Nat) (s2 : cD_) (y : Int32), k ≤ 95 → (y = nI k ∨ k = 0 ∧ y = nI 0 - Int32.ofInt 1) → sOK s2 → dAs z go (fun k => dPt t k o) k s2 = dAs z go (fun k => dPt t k o) (tCn t 96 (tEn t (tF t) o) - 1) (dBA z s) → J 9 [some (.ref 14), some (.int (oV o)), some (.int (nI d)), some (.int y)] [] (cdW o0 t X len a z s2 tl, b0, b1, op) := by
    intro k
    induction k with
    | zero =>
      intro s2 y hk hy h3 e
      refine hJ _ _ _ _ ?_
      refine And.intro (fun _ => ?_) (fun g => absurd (show y < Int32.ofInt 1 by rcases hy with rfl | ⟨-, rfl⟩ <;> decide) g)
      have e : s2 = dAs z go (fun k => dPt t k o) (tCn t 96 (tEn t (tF t) o) - 1) (dBA z s) := e
      subst e
      refine t_partD (k := 0) rfl rfl (by decide) ht ho ?_
      refine Hg (l + 5) _ _ _ _ _ rfl (nI_1 d) (by omega) (oB_pt ht 0 o) h3 (by omega) ?_
      refine m_in (x := 4) hz h8.1 hn2 ?_
      exact hQ
    | succ k ih =>
      intro s2 y hk hy h3 e
      obtain rfl : y = nI (k + 1) := by
        rcases hy with hy | hy
        · exact hy
        · omega
      have h4 := hg _ _ (hpk (k + 1)) h3
      have h5 := s_I (z := z) (x := 13) h4.1
      have h6 := s_As (z := z) hg (pick := fun k => dPt t k o) hpk k _ h5.1
      have e : dAs z go (fun k => dPt t k o) k (dAr z go (dPt t (k + 1) o) s2) = _ := e
      have e6 := h6.2
      have e7 : cn (dC (dAr z go (dPt t (k + 1) o) s2)) ≤ cn (dC (dAs z go (fun k => dPt t k o) (tCn t 96 (tEn t (tF t) o) - 1) (dBA z s))) := by
        rw [← e]
        exact e6
      refine hJ _ _ _ _ ?_
      refine And.intro (fun g => absurd g (nI_nlt (a := k + 1) (b := 1) (by omega) (by omega))) (fun _ => ?_)
      refine t_partD (k := k + 1) rfl rfl (by omega) ht ho ?_
      refine m_arg (l := l + 4) rfl rfl hz hg Hg (by omega) (by omega) (hpk (k + 1)) h3 (Nat.lt_of_le_of_lt e7 hnA) ?_
      refine ih _ _ (by omega) (Or.inl ?_) h5.1 e
      exact n_dec (by omega) (by omega)
  by_cases hc0 : tCn t 96 (tEn t (tF t) o) = 0
  · rw [hc0]
    refine loop 0 _ _ (by omega) (Or.inr ⟨rfl, rfl⟩) h1.1 ?_
    rw [hc0]
  · refine loop (tCn t 96 (tEn t (tF t) o) - 1) _ _ (by omega) (Or.inl ?_) h1.1 rfl
    exact pk_sub (a := tCn t 96 (tEn t (tF t) o)) (b := 1) (by omega)
theorem m_bound {o : Option Nat} {x w : Int32} (hx : x = oV o) (hw : w = nI d) (hz : z ≤ 250) (ht : tOK t) (hg : SGo go) (Hg : HC xs o0 t X len a z tl b0 b1 op y_Coder_expression lv go (d + 1)) (hl : lv + 2 ≤ l) (hl3 : 6 ≤ l) (ho : oB o) (h : sOK s) (hn : cn (dC (dBd z t go o s)) < 2 ^ 30) (hQ : Q (.inl none, (cdW o0 t X len a z (dBd z t go o s) tl, b0, b1, op))) : mj_Mt gT (law_cst xs) gnw (l + 1) y_Coder_bound [.ref 14, .int x, .int w] (cdW o0 t X len a z s tl, b0, b1, op) Q := by
  obtain ⟨l, rfl⟩ : ∃ l', l = l' + 6 := ⟨l - 6, by omega⟩
  have h1 := s_Bs (z := z) ht hg (o := o) h
  have h2 := s_Bo (z := z) hg (oB_pt ht 0 o) (oB_pt ht 1 o) h1.1
  have h3 := s_I (z := z) (x := 4) h2.1
  have e2 := h2.2
  have e3 := h3.2
  have hn2 : cn (dC (dI z (dBo z go (dPt t 0 o) (dPt t 1 o) (dBs z t go o s)) 4)) < 2 ^ 30 := hn
  have hn3 : cn (dC (dI z (dBo z go (dPt t 0 o) (dPt t 1 o) (dBs z t go o s)) 4)) < 2 ^ 30 := hn
  intro J hJ
  refine hJ _ _ _ _ ?_
  refine m_boundArgs (l := l + 5) hx hw hz ht hg Hg (by omega) (by omega) ho h (by omega) ?_
  refine t_partD (k := 0) hx rfl (by decide) ht ho ?_
  refine t_partD (k := 1) hx rfl (by decide) ht ho ?_
  refine m_body (l := l + 5) rfl rfl hw hz hg Hg (by omega) (by omega) (oB_pt ht 0 o) (oB_pt ht 1 o) h1.1 (by omega) ?_
  refine m_in (x := 4) hz h2.1 hn2 ?_
  exact hQ
theorem m_boundF {o : Option Nat} {x w : Int32} (hx : x = oV o) (hw : w = nI d) (hz : z ≤ 250) (ht : tOK t) (hg : SGo go) (Hg : HC xs o0 t X len a z tl b0 b1 op y_Coder_expression lv go (d + 1)) (hl : lv + 2 ≤ l) (hl3 : 6 ≤ l) (ho : oB o) (h : sOK s) (hn : cn (dC (dBf z t go o s)) < 2 ^ 30) (hQ : Q (.inl none, (cdW o0 t X len a z (dBf z t go o s) tl, b0, b1, op))) : mj_Mt gT (law_cst xs) gnw (l + 1) y_Coder_boundInFrame [.ref 14, .int x, .int w] (cdW o0 t X len a z s tl, b0, b1, op) Q := by
  obtain ⟨l, rfl⟩ : ∃ l', l = l' + 6 := ⟨l - 6, by omega⟩
  have h1 := s_I (z := z) (x := 6) h
  have h2 := s_En (oB_pt ht 1 o) h1.1
  have h3 := s_Bs (z := z) ht hg (o := o) h2.1
  have h4 := s_Lv h3.1
  have h5 := s_Bo (z := z) hg (oB_pt ht 0 o) (oB_pt ht 1 o) h4.1
  have h6 := s_I (z := z) (x := 7) h5.1
  have e2 := h2.2
  have e3 := h3.2
  have e4 := h4.2
  have e5 := h5.2
  have e6 := h6.2
  have hn2 : cn (dC (dI z (dBo z go (dPt t 0 o) (dPt t 1 o) (dLv (dBs z t go o (dEn (dI z s 6) (dPt t 1 o))))) 7)) < 2 ^ 30 := hn
  have hn3 : cn (dC (dI z (dBo z go (dPt t 0 o) (dPt t 1 o) (dLv (dBs z t go o (dEn (dI z s 6) (dPt t 1 o))))) 7)) < 2 ^ 30 := hn
  intro J hJ
  refine hJ _ _ _ _ ?_
  refine m_in (x := 6) hz h (by omega) ?_
  refine t_partD (k := 1) hx rfl (by decide) ht ho ?_
  refine m_enter rfl h1.1 ?_
  refine m_boundArgs (l := l + 5) hx hw hz ht hg Hg (by omega) (by omega) ho h2.1 (by omega) ?_
  refine m_leave h3.1 ?_
  refine t_partD (k := 0) hx rfl (by decide) ht ho ?_
  refine t_partD (k := 1) hx rfl (by decide) ht ho ?_
  refine m_body (l := l + 5) rfl rfl hw hz hg Hg (by omega) (by omega) (oB_pt ht 0 o) (oB_pt ht 1 o) h4.1 (by omega) ?_
  refine m_in (x := 7) hz h5.1 hn2 ?_
  exact hQ
theorem m_choice {o : Option Nat} {x w : Int32} (hx : x = oV o) (hw : w = nI d) (hz : z ≤ 250) (ht : tOK t) (hg : SGo go) (Hg : HC xs o0 t X len a z tl b0 b1 op y_Coder_expression lv go (d + 1)) (hl : lv + 1 ≤ l) (hl3 : 6 ≤ l) (ho : oB o) (h : sOK s) (hn : cn (dC (dCh z t go o s)) < 2 ^ 30) (hQ : Q (.inl none, (cdW o0 t X len a z (dCh z t go o s) tl, b0, b1, op))) : mj_Mt gT (law_cst xs) gnw (l + 1) y_Coder_choice [.ref 14, .int x, .int w] (cdW o0 t X len a z s tl, b0, b1, op) Q := by
  subst hw
  obtain ⟨l, rfl⟩ : ∃ l', l = l' + 6 := ⟨l - 6, by omega⟩
  have h1 := hg _ _ (oB_pt ht 0 o) h
  have h2 := s_I (z := z) (x := 8) h1.1
  have h3 := s_Li (z := z) (x := 9) hg (oB_pt ht 1 o) h2.1
  have h4 := s_Li (z := z) (x := 9) hg (oB_pt ht 2 o) h3.1
  have e2 := h2.2
  have e3 := h3.2
  have e4 := h4.2
  have hn2 : cn (dC (dLi z go (dPt t 2 o) 9 (dLi z go (dPt t 1 o) 9 (dI z (go (dPt t 0 o) s) 8)))) < 2 ^ 30 := hn
  intro J hJ
  refine hJ _ _ _ _ ?_
  refine t_partD (k := 0) hx rfl (by decide) ht ho ?_
  refine Hg (l + 6) _ _ _ _ _ rfl (nI_1 d) (by omega) (oB_pt ht 0 o) h (by omega) ?_
  refine m_in (x := 8) hz h1.1 (by omega) ?_
  refine t_partD (k := 1) hx rfl (by decide) ht ho ?_
  refine m_list (l := l + 5) (q := 9) rfl rfl hz hg Hg (by omega) (by omega) (oB_pt ht 1 o) h2.1 (by omega) ?_
  refine t_partD (k := 2) hx rfl (by decide) ht ho ?_
  refine m_list (l := l + 5) (q := 9) rfl rfl hz hg Hg (by omega) (by omega) (oB_pt ht 2 o) h3.1 hn2 ?_
  exact hQ
theorem m_oper {o : Option Nat} {x w : Int32} (hx : x = oV o) (hw : w = nI d) (hz : z ≤ 250) (ht : tOK t) (hg : SGo go) (Hg : HC xs o0 t X len a z tl b0 b1 op y_Coder_expression lv go (d + 1)) (hl : lv + 2 ≤ l) (hl3 : 7 ≤ l) (ho : oB o) (h : sOK s) (hn : cn (dC (dOn z t go o s)) < 2 ^ 30) (hQ : Q (.inl none, (cdW o0 t X len a z (dOn z t go o s) tl, b0, b1, op))) : mj_Mt gT (law_cst xs) gnw (l + 1) y_Coder_operation [.ref 14, .int x, .int w] (cdW o0 t X len a z s tl, b0, b1, op) Q := by
  subst hx
  subst hw
  obtain ⟨l, rfl⟩ : ∃ l', l = l' + 7 := ⟨l - 7, by omega⟩
  unfold dOn at hQ hn
  intro J hJ
  refine hJ _ _ _ _ ?_
  refine t_value rfl ht.1 ho ?_
  generalize tEi t (tV t) o = v at hQ hn
  refine And.intro (fun (g : ¬ v = 8) => ?_) (fun (g : v = 8) => ?_)
  · rw [if_neg g] at hQ hn
    refine t_parts rfl ht ho ?_
    have hc := tCn_le t 96 (tEn t (tF t) o)
    generalize tCn t 96 (tEn t (tF t) o) = n at hQ hn hc
    have h1 := s_Op ht hg (o := o) (w := v) (n := n) n 0 s h
    have h2 := s_I (z := z) (x := v) h1.1
    have e2 := h2.2
    have hn2 : cn (dC (dI z (dOp t go o v n n 0 s) v)) < 2 ^ 30 := hn
    have loop : ∀ (j i : Nat) (s2 : cD_) (y : Int32) (v6 : Option Value), (v6 = none ∨ ∃ w : Int32, v6 = some (.int w)) → j + i = n → y = nI i → sOK s2 → dOp t go o v n j i s2 = dOp t go o v n n 0 s → J 20 [some (.ref 14), some (.int (oV o)), some (.int (nI d)), some (.int v), some (.int (nI n)), some (.int y), v6] [] (cdW o0 t X len a z s2 tl, b0, b1, op) := by
      intro j
      induction j with
      | zero =>
        intro i s2 y v6 hv hi hy h3 e
        subst hy
        have e : s2 = _ := e
        subst e
        refine hJ _ _ _ _ ?_
        refine And.intro (fun _ => ?_) (fun g => absurd (nI_le (a := n) (b := i) (by omega) (by omega)) g)
        refine m_in (x := v) hz h3 hn2 ?_
        exact hQ
      | succ j ih =>
        intro i s2 y v6 hv hi hy h3 e
        subst hy
        have e : dOp t go o v n j (i + 1) (go (dPt t (if v = 13 then n - 1 - i else i) o) s2) = _ := e
        have h4 := hg _ _ (oB_pt ht (if v = 13 then n - 1 - i else i) o) h3
        have h5 := s_Op ht hg (o := o) (w := v) (n := n) j (i + 1) _ h4.1
        have e5 := h5.2
        rw [e] at e5
        have go2 : ∀ (Q' : mj_R → Prop) (y6 : Int32), y6 = nI (if v = 13 then n - 1 - i else i) → Q' (.inl (some (.int (oV (dPt t (if v = 13 then n - 1 - i else i) o)))), (cdW o0 t X len a z s2 tl, b0, b1, op)) → mj_Mt gT (law_cst xs) gnw (l + 7) y_Tree_part [.ref 1, .int (oV o), .int y6] (cdW o0 t X len a z s2 tl, b0, b1, op) Q' := by
          intro Q' y6 hy6 hq
          exact t_partD (k := if v = 13 then n - 1 - i else i) rfl hy6 (by split <;> omega) ht ho hq
        refine hJ _ _ _ _ ?_
        rcases hv with rfl | ⟨w6, rfl⟩
        all_goals
          refine And.intro (fun g => absurd g (nI_ge (a := i) (b := n) (by omega) (by omega))) (fun _ => ?_)
          refine And.intro (fun (g13 : ¬ v = 13) => ?_) (fun (g13 : v = 13) => ?_)
          · refine go2 _ _ (by rw [if_neg g13]) ?_
            refine Hg (l + 7) _ _ _ _ _ rfl (nI_1 d) (by omega) (oB_pt ht _ o) h3 (by omega) ?_
            exact ih (i + 1) _ _ _ (Or.inr ⟨_, rfl⟩) (by omega) (nI_1 i) h4.1 e
          · refine go2 _ _ (by rw [if_pos g13, show nI n - Int32.ofInt 1 = nI (n - 1) from pk_sub (a := n) (b := 1) (by omega)]; exact pk_sub (by omega)) ?_
            refine Hg (l + 7) _ _ _ _ _ rfl (nI_1 d) (by omega) (oB_pt ht _ o) h3 (by omega) ?_
            exact ih (i + 1) _ _ _ (Or.inr ⟨_, rfl⟩) (by omega) (nI_1 i) h4.1 e
    exact loop n 0 s _ none (Or.inl rfl) rfl rfl h rfl
  · rw [if_pos g] at hQ hn
    refine m_choice (l := l + 6) rfl rfl hz ht hg Hg (by omega) (by omega) ho h hn ?_
    exact hQ
end P2m
