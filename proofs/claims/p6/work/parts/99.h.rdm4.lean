section P2j
variable {m b0 b1 : Nat} {op : Bool} {tl : List mj_O} {Q : mj_R → Prop} {xs : List Int32}
variable {o0 : mj_O} {t : tS} {X : Nat → Int32} {len a : Nat} {tx : Nat → Nat} {h : mj_H}
set_option maxRecDepth 10000
theorem j_sgl : ∀ i, i < 9 → ∀ c, c < 127 → (law_s2012.getD i 0 = sb_b c ↔ sgl.getD i 0 = c) := by decide +kernel
theorem j_canEncodeI {c : Nat} (hc : c < 127) (hQ : Q (.inl (some (.int 1)), h)) : mj_Mt gT (law_cst xs) gnw (m + 1) y_StringLatin1_canEncode_I [.int (nI c)] h Q := by
  intro J hJ
  refine hJ _ _ _ _ ?_
  refine And.intro (fun g => absurd g (nI_pos (by omega))) (fun _ => ?_)
  refine And.intro (fun g => absurd g (nI_nlt (a := 255) (b := c) (by omega) (by decide))) (fun _ => ?_)
  exact And.intro (Or.inr rfl) hQ
theorem j_idxChar {c : Nat} {z : Int32} (hz : z = nI 9) (hc : c < 127) (hQ : Q (.inl (some (.int (oV (fdx c 9 0)))), h)) : mj_Mt gT (law_cst xs) gnw (m + 1) y_StringLatin1_indexOfChar [.ref 1112, .int (nI c), .int 0, .int z] h Q := by
  subst hz
  intro J hJ
  have loop : ∀ (k i : Nat) (x : Int32), k + i = 9 → x = nI i → fdx c k i = fdx c 9 0 → J 5 [some (.ref 1112), some (.int (nI c)), some (.int 0), some (.int (nI 9)), some (.int (nI c).toInt8.toInt32), some (.int x)] [] h := by
    intro k
    induction k with
    | zero =>
      intro i x hi hx e
      subst hx
      obtain rfl : i = 9 := by omega
      refine hJ _ _ _ _ ?_
      refine And.intro (fun _ => ?_) (fun g => absurd (by decide) g)
      rw [← e] at hQ
      exact hQ
    | succ k ih =>
      intro i x hi hx e
      subst hx
      have ec : (nI i).toNatClampNeg = i := nI_clamp (by omega)
      refine hJ _ _ _ _ ?_
      refine And.intro (fun g => absurd g (nI_ge (a := i) (b := 9) (by omega) (by decide))) (fun _ => ?_)
      refine And.intro (vp_in_nI (by omega) (by decide)) ?_
      have ev : ∀ j, j = i → (law_s2012.getD j 0 = sb_b c ↔ sgl.getD i 0 = c) := by
        rintro j rfl
        exact j_sgl j (by omega) c hc
      refine And.intro (fun g => ?_) (fun g => ?_)
      · have g2 : ¬ sgl.getD i 0 = c := fun q => g ((ev _ ec).mpr q)
        refine ih (i + 1) _ (by omega) (nI_1 i) ?_
        rw [← e, fdx, if_neg g2]
      · have g2 : sgl.getD i 0 = c := (ev _ ec).mp g
        rw [← e, fdx, if_pos g2] at hQ
        exact hQ
  refine hJ _ _ _ _ ?_
  exact loop 9 0 _ rfl rfl rfl
theorem j_coder2012 (hQ : Q (.inl (some (.int 0)), h)) : mj_Mt gT (law_cst xs) gnw (m + 1) y_String_coder [.ref 2012] h Q := by
  intro J hJ
  refine hJ _ _ _ _ ?_
  refine And.intro (fun h => absurd h (by decide)) (fun _ => ?_)
  exact And.intro (by decide) hQ
theorem j_slen2012 (hQ : Q (.inl (some (.int (nI 9))), h)) : mj_Mt gT (law_cst xs) gnw (m + 2) y_String_length [.ref 2012] h Q := by
  intro J hJ
  refine hJ _ _ _ _ ?_
  refine j_coder2012 ?_
  rw [← sb_shr0 (nI 9)] at hQ
  exact hQ
theorem j_sLatin (hQ : Q (.inl (some (.int 1)), h)) : mj_Mt gT (law_cst xs) gnw (m + 1) y_String_isLatin1 [.ref 2012] h Q := by
  intro J hJ
  refine hJ _ _ _ _ ?_
  refine And.intro (fun h => absurd h (by decide)) (fun _ => ?_)
  refine And.intro (fun h => absurd rfl h) (fun _ => ?_)
  exact And.intro (Or.inr rfl) hQ
theorem j_l1idx {c : Nat} (hc : c < 127) (hQ : Q (.inl (some (.int (oV (fdx c 9 0)))), h)) : mj_Mt gT (law_cst xs) gnw (m + 2) y_StringLatin1_indexOf [.ref 1112, .int (nI c), .int 0, .int (nI 9)] h Q := by
  intro J hJ
  refine hJ _ _ _ _ ?_
  refine j_canEncodeI hc ?_
  refine And.intro (fun _ => ?_) (fun g => absurd g (by decide))
  refine And.intro (fun _ => ?_) (fun g => absurd (by decide) g)
  refine j_idxChar (by decide) hc ?_
  exact hQ
theorem j_indexOf2 {c : Nat} (hc : c < 127) (hQ : Q (.inl (some (.int (oV (fdx c 9 0)))), h)) : mj_Mt gT (law_cst xs) gnw (m + 3) y_String_indexOf_II [.ref 2012, .int (nI c), .int 0] h Q := by
  intro J hJ
  refine hJ _ _ _ _ ?_
  refine j_sLatin ?_
  refine And.intro (fun g => absurd g (by decide)) (fun _ => ?_)
  refine j_slen2012 ?_
  refine j_l1idx hc ?_
  exact hQ
theorem j_indexOf {c : Nat} {y : Int32} (hy : y = nI c) (hc : c < 127) (hQ : Q (.inl (some (.int (oV (fdx c 9 0)))), h)) : mj_Mt gT (law_cst xs) gnw (m + 4) y_String_indexOf_I [.ref 2012, .int y] h Q := by
  subst hy
  intro J hJ
  refine hJ _ _ _ _ ?_
  refine j_indexOf2 hc ?_
  exact hQ
theorem fdx_lt {c : Nat} : ∀ (k i j : Nat), fdx c k i = some j → j < i + k
  | 0, i, j, e => by cases e
  | k + 1, i, j, e => by
    unfold fdx at e
    split at e
    · cases e; omega
    · have := fdx_lt k (i + 1) j e
      omega
theorem o_of {c : Nat} (hc : c < 127) (hQ : Q (.inl (some (.int (oV (opO c)))), h)) : mj_Mt gT (law_cst xs) gnw (m + 5) y_Op_of [.int (nI c)] h Q := by
  unfold opO at hQ
  intro J hJ
  refine hJ _ _ _ _ ?_
  refine And.intro (fun g => ?_) (fun g => ?_)
  · have h63 : ¬ c = 63 := fun e => g (by rw [e]; rfl)
    rw [if_neg h63] at hQ
    refine j_indexOf (sb_byte c (by omega)).2.1 hc ?_
    cases hf : fdx c 9 0 with
    | none =>
      rw [hf] at hQ
      refine And.intro (fun g => absurd g (by decide)) (fun _ => ?_)
      exact hQ
    | some i =>
      have hi := fdx_lt 9 0 i hf
      rw [hf] at hQ
      refine And.intro (fun _ => ?_) (fun g => absurd (nI_pos' (n := i) (by omega)) g)
      have hQ : Q (.inl (some (.int (nI (10 + i)))), h) := hQ
      rw [← nI_add 10 i] at hQ
      exact hQ
  · have h63 : c = 63 := (nI_eq (a := c) (b := 63) (by omega) (by decide)).mp g
    rw [if_pos h63] at hQ
    exact hQ
theorem opO_lt {c o : Nat} (h : opO c = some o) : o < 20 := by
  unfold opO at h
  split at h
  · cases h; omega
  · cases hf : fdx c 9 0 with
    | none => rw [hf] at h; cases h
    | some i =>
      have := fdx_lt 9 0 i hf
      rw [hf] at h
      cases h
      show 10 + i < 20
      omega
theorem q_bra {l d : Nat} {y : Int32} (hy : y = nI d) (hx : txOK X len tx) (ht : tOK t) (hn : tn t ≤ a) (hl : a ≤ len) (hd : d < 800) (h6 : 6 ≤ b1) {pe pe2 pe3 : Nat → tS → PR} {lv : Nat} (H1 : HE xs o0 X len tl b0 b1 op y_Reader_expression lv pe (d + 1)) (H2 : HE xs o0 X len tl b0 b1 op y_Reader_expression lv pe2 (d + 2)) (H3 : HE xs o0 X len tl b0 b1 op y_Reader_expression lv pe3 (d + 3)) (hlv : lv + 3 ≤ l) (h3 : 8 ≤ l) (hg : GE len pe) (hg2 : GE len pe2) (hg3 : GE len pe3) (h40 : tx a = 40) (hQ : rq Q o0 X len tl b0 b1 op (if d < 9 then pBra tx pe pe2 pe3 (d + 1) (a + 1) t else .inr (a, t))) : mj_Mt gT (law_cst xs) gnw (l + 1) y_Reader_bracketed [.ref 10, .int y] (rdW o0 t X len a tl, b0 + 1, b1, op) Q := by
  subst hy
  obtain ⟨l, rfl⟩ : ∃ l', l = l' + 8 := ⟨l - 8, by omega⟩
  have h96 := hx.1
  have h1 := hx.lt (a := a) (by omega)
  have hle := hx.le (a + 1)
  intro J hJ
  refine hJ _ _ _ _ ?_
  refine q_open rfl hx (by omega) (by omega) h6 (fun hd9 _ => ?_) (fun h => ?_)
  · rw [if_pos hd9] at hQ
    unfold pBra at hQ
    refine x_codeAt rfl hx (by omega) ?_
    have call : ∀ (Q' : mj_R → Prop) (z : Int32), z = nI (d + 1) → rq Q' o0 X len tl b0 b1 op (pCall tx pe (a + 1) t) → mj_Mt gT (law_cst xs) gnw (l + 7 + 1) y_Reader_call [.ref 10, .int z] (rdW o0 t X len (a + 1) tl, b0 + 1, b1, op) Q' := fun Q' z hz hq => q_call hz hx ht (by omega) (by omega) h6 H1 (by omega) (by omega) hg hq
    refine And.intro (fun g => ?_) (fun g => ?_)
    · have h92 : ¬ tx (a + 1) = 92 := fun e => g (by rw [e]; rfl)
      rw [if_neg h92] at hQ
      have bou : (tx (a + 1) = 58 ∨ tx (a + 1) = 59) → ∀ (Q' : mj_R → Prop) (z : Int32), z = nI (d + 1) → rq Q' o0 X len tl b0 b1 op (pBou tx pe (pBind tx pe2 (pFun tx pe3 (d + 1 + 2)) (d + 1)) (if tx (a + 1) = 59 then 9 else 8) (a + 1) t) → mj_Mt gT (law_cst xs) gnw (l + 7 + 1) y_Reader_bound [.ref 10, .int (nI (tx (a + 1))), .int z] (rdW o0 t X len (a + 1) tl, b0 + 1, b1, op) Q' := by
        intro hc Q' z hz hq
        exact q_bou rfl hz hc hx ht (by omega) (hx.lt (by omega)) (by omega) h6 H1 H2 H3 (by omega) (by omega) hg hg2 hg3 hq
      refine And.intro (fun g2 => ?_) (fun g2 => ?_)
      · have hc : tx (a + 1) = 58 := (nI_eq (a := tx (a + 1)) (b := 58) (by omega) (by decide)).mp g2
        rw [if_pos (Or.inl hc)] at hQ
        refine bou (Or.inl hc) _ _ (nI_1 d) ?_
        generalize pBou tx pe (pBind tx pe2 (pFun tx pe3 (d + 1 + 2)) (d + 1)) (if tx (a + 1) = 59 then 9 else 8) (a + 1) t = r at hQ
        rcases r with ⟨c, a2, t2⟩ | ⟨a2, t2⟩ <;> exact hQ
      · have h58 : ¬ tx (a + 1) = 58 := fun e => g2 (by rw [e]; rfl)
        refine And.intro (fun g3 => ?_) (fun g3 => ?_)
        · have h59 : ¬ tx (a + 1) = 59 := fun e => g3 (by rw [e]; rfl)
          rw [if_neg (by omega)] at hQ
          have tail : ∀ (F : Nat) (s3 : Int32), (s3 = 0 ∧ ¬ (tx (a + 1) = 45 ∧ cD (tx (a + 1 + 1)) = true) ∨ s3 = 1 ∧ tx (a + 1) = 45 ∧ cD (tx (a + 1 + 1)) = true) → mj_sg (mj_Mt gT (law_cst xs) gnw (l + 8)) (law_cst xs) gnw (mj_hd (mj_off kO_Reader_bracketed) kH_Reader_bracketed) kC_Reader_bracketed J Q (F + 60) false 49 [some (.ref 10), some (.int (nI d)), some (.int (nI (tx (a + 1)))), some (.int s3), none] [.int (oV (opO (tx (a + 1))))] (rdW o0 t X len (a + 1) tl, b0 + 1, b1, op) := by
            intro F s3 hs
            cases ho : opO (tx (a + 1)) with
            | none =>
              rw [ho] at hQ
              refine And.intro (fun _ => ?_) (fun g => absurd rfl g)
              refine call _ _ (nI_1 d) ?_
              have hQ : rq Q o0 X len tl b0 b1 op (pCall tx pe (a + 1) t) := hQ
              generalize pCall tx pe (a + 1) t = r at hQ
              rcases r with ⟨c, a2, t2⟩ | ⟨a2, t2⟩ <;> exact hQ
            | some o =>
              have hol := opO_lt ho
              rw [ho] at hQ
              have hQ : rq Q o0 X len tl b0 b1 op (if tx (a + 1) = 45 ∧ cD (tx (a + 1 + 1)) = true then pCall tx pe (a + 1) t else pOp tx pe o (a + 1) t) := hQ
              have h0 : ¬ tx (a + 1) = 0 := fun e => by rw [e, opO_0] at ho; cases ho
              refine And.intro (fun g => absurd g (oV_ne (k := o) (by omega))) (fun _ => ?_)
              rcases hs with ⟨rfl, hs⟩ | ⟨rfl, hs⟩
              · rw [if_neg hs] at hQ
                refine And.intro (fun _ => ?_) (fun g => absurd rfl g)
                refine q_op (o := o) rfl (nI_1 d) (by omega) hx ht (by omega) (hx.lt h0) h6 H1 (by omega) (by omega) hg ?_
                generalize pOp tx pe o (a + 1) t = r at hQ
                rcases r with ⟨c, a2, t2⟩ | ⟨a2, t2⟩ <;> exact hQ
              · rw [if_pos hs] at hQ
                refine And.intro (fun g => absurd g (by decide)) (fun _ => ?_)
                refine call _ _ (nI_1 d) ?_
                generalize pCall tx pe (a + 1) t = r at hQ
                rcases r with ⟨c, a2, t2⟩ | ⟨a2, t2⟩ <;> exact hQ
          refine And.intro (fun g4 => ?_) (fun g4 => ?_)
          · have h45 : ¬ tx (a + 1) = 45 := fun e => g4 (by rw [e]; rfl)
            refine o_of (by omega) ?_
            exact tail _ 0 (Or.inl ⟨rfl, fun q => h45 q.1⟩)
          · have h45 : tx (a + 1) = 45 := (nI_eq (a := tx (a + 1)) (b := 45) (by omega) (by decide)).mp g4
            have h7 := hx.lt (a := a + 1) (by omega)
            refine x_codeAt (a9 := a + 1 + 1) (nI_1 (a + 1)) hx (by omega) ?_
            refine q_isDigit (hx.le _) ?_
            cases hc : cD (tx (a + 1 + 1)) with
            | false =>
              refine And.intro (fun _ => ?_) (fun g => absurd rfl g)
              refine o_of (by omega) ?_
              exact tail _ 0 (Or.inl ⟨rfl, fun q => by rw [hc] at q; cases q.2⟩)
            | true =>
              refine And.intro (fun g => absurd g (by decide)) (fun _ => ?_)
              refine o_of (by omega) ?_
              exact tail _ 1 (Or.inr ⟨rfl, h45, hc⟩)
        · have hc : tx (a + 1) = 59 := (nI_eq (a := tx (a + 1)) (b := 59) (by omega) (by decide)).mp g3
          rw [if_pos (Or.inr hc)] at hQ
          refine bou (Or.inr hc) _ _ (nI_1 d) ?_
          generalize pBou tx pe (pBind tx pe2 (pFun tx pe3 (d + 1 + 2)) (d + 1)) (if tx (a + 1) = 59 then 9 else 8) (a + 1) t = r at hQ
          rcases r with ⟨c, a2, t2⟩ | ⟨a2, t2⟩ <;> exact hQ
    · have h92 : tx (a + 1) = 92 := (nI_eq (a := tx (a + 1)) (b := 92) (by omega) (by decide)).mp g
      rw [if_pos h92] at hQ
      refine q_fun (l := l + 7) (nI_1 d) hx ht (by omega) (by omega) (by omega) h6 H1 (by omega) (by omega) hg ?_
      generalize pFun tx pe (d + 1) (a + 1) t = r at hQ
      rcases r with ⟨c, a2, t2⟩ | ⟨a2, t2⟩ <;> exact hQ
  · rw [if_neg (fun q => h ⟨q, h40⟩)] at hQ
    exact hQ
theorem q_ex (hx : txOK X len tx) (h6 : 6 ≤ b1) : ∀ (f d : Nat), 1 ≤ f → 10 ≤ f + d → d ≤ 20 → HE xs o0 X len tl b0 b1 op y_Reader_expression (5 * f + 30) (pEx tx f d) d
  | 0, d, h, _, _ => by omega
  | f + 1, d, _, hfd, hd => by
    intro ℓ a t x Q hx9 hlv ht hn hl hQ
    subst hx9
    have h96 := hx.1
    have hle := hx.le a
    obtain ⟨l, rfl⟩ : ∃ l, ℓ = l + 20 := ⟨ℓ - 20, by omega⟩
    unfold pEx at hQ
    intro J hJ
    refine hJ _ _ _ _ ?_
    refine x_codeAt rfl hx (by omega) ?_
    refine And.intro (fun g => ?_) (fun g => ?_)
    · have h40 : ¬ tx a = 40 := fun e => g (by rw [e]; rfl)
      rw [if_neg h40] at hQ
      refine And.intro (fun g2 => ?_) (fun g2 => ?_)
      · have h39 : tx a = 39 := (nI_eq (a := tx a) (b := 39) (by omega) (by decide)).mp g2
        have h1 := hx.lt (a := a) (by omega)
        rw [if_pos h39] at hQ
        have ht1 : tOK (tAdd t 4 0 (nI a)) := tOK_add ht (by omega)
        refine t_add (k := 4) (v := 0) (by omega) ?_
        have hgd := g_dat hx 11 d (a + 1) _ ht1 (by rw [tn_add]; omega) (by omega)
        rw [tn_add] at hgd
        have dat : ∀ (Q' : mj_R → Prop) (z : Int32), z = nI (a + 1) → rq Q' o0 X len tl b0 b1 op (pDat tx 11 d (a + 1) (tAdd t 4 0 (nI a))) → mj_Mt gT (law_cst xs) gnw (l + 19) y_Reader_datum [.ref 10, .int (nI d)] (rdX o0 (tAdd t 4 0 (nI a)) X len z tl, b0 + 1, b1, op) Q' := by
          rintro Q' z rfl hq
          exact q_dat hx h6 11 d (by decide) (by omega) hd (l + 19) (a + 1) _ _ _ rfl (by omega) ht1 (by rw [tn_add]; omega) (by omega) hq
        refine dat _ _ (nI_1 a) ?_
        generalize pDat tx 11 d (a + 1) (tAdd t 4 0 (nI a)) = r at hgd hQ
        rcases r with ⟨c, a2, t2⟩ | ⟨a2, t2⟩
        · obtain ⟨rfl, g1, g5, g3, g4⟩ := hgd
          refine t_addPart g1 (by omega) ?_
          exact hQ
        · exact hQ
      · have h39 : ¬ tx a = 39 := fun e => g2 (by rw [e]; rfl)
        rw [if_neg h39] at hQ
        refine q_atom hx ht hn hl h6 ?_
        generalize pAtom tx a t = r at hQ
        rcases r with ⟨c, a2, t2⟩ | ⟨a2, t2⟩ <;> exact hQ
    · have h40 : tx a = 40 := (nI_eq (a := tx a) (b := 40) (by omega) (by decide)).mp g
      rw [if_pos h40] at hQ
      by_cases hd9 : d < 9
      · refine q_bra (l := l + 18) rfl hx ht hn hl (by omega) h6 (q_ex hx h6 f (d + 1) (by omega) (by omega) (by omega)) (q_ex hx h6 f (d + 2) (by omega) (by omega) (by omega)) (q_ex hx h6 f (d + 3) (by omega) (by omega) (by omega)) (by omega) (by omega) (g_ex hx f (d + 1)) (g_ex hx f (d + 2)) (g_ex hx f (d + 3)) h40 ?_
        generalize (if d < 9 then pBra tx (pEx tx f (d + 1)) (pEx tx f (d + 2)) (pEx tx f (d + 3)) (d + 1) (a + 1) t else .inr (a, t) : PR) = r at hQ
        rcases r with ⟨c, a2, t2⟩ | ⟨a2, t2⟩ <;> exact hQ
      · rw [if_neg hd9] at hQ
        intro J2 hJ2
        refine hJ2 _ _ _ _ ?_
        refine q_open rfl hx (by omega) (by omega) h6 (fun e _ => absurd e hd9) (fun _ => ?_)
        exact hQ
end P2j
