section
def shOK (r : rM) : Prop := ∃ n, n ≤ 120 ∧ r.shown = nI n
def rnS (r : rM) : Prop := r.state = 1 ∨ r.state = 2 ∨ r.state = 3 ∨ r.state = 4
theorem kp_sh {r r' : rM} (h : kp r r') (hs : shOK r) : shOK r' := by
  obtain ⟨n, hn, e⟩ := hs
  exact ⟨n, hn, h.2.2.2.2.1.trans e⟩
theorem inU_beh {H T : Nat → Vl} {ro : Nat → Bool} {U : Nat → Prop} (hS : SI H T ro U) : ∀ (k : Nat) (v : Vl), inU U v → inU U (behV T k v)
  | 0, v, h => h
  | k + 1, v, h => by
    rcases v with u | x | x | i | i
    · exact h
    · exact h
    · exact h
    · exact inU_beh hS k (T i) (SI_t hS (inU_pr h))
    · exact h
theorem kV_pr {v : Vl} (h : kV v = 3) : ∃ a, v = vPr a := by
  rcases v with u | x | x | i | i
  · cases h
  · cases h
  · cases h
  · exact ⟨i, rfl⟩
  · cases h
section RST
variable {cst : Nat → Option (Nat × (Nat → Int32))} {m b0 b1 : Nat} {op : Bool} {tl : List mj_O} {Q : mj_R → Prop} {s : cS} {r : rM} {H T : Nat → Vl} {ro : Nat → Bool} {S E D R : Vl} {k : Sk} {n : Nat} {b : Bool} {e : En} {J : Nat → mj_L → List Value → mj_H → Prop} {c : Nat}
set_option maxRecDepth 10000
theorem rg_U {v : Vl} {x : Int32} (h : rg r v x) : inU (Ur r) v := by
  intro a ea
  rcases h with ⟨rfl, -⟩ | ⟨i, rfl, -, h3, -⟩
  · cases ea
  · cases ea
    exact h3
theorem rg_pr {a : Nat} {x : Int32} (h : rg r (vPr a) x) : x = nI a ∧ Ur r a := by
  rcases h with ⟨h1, -⟩ | ⟨i, h1, h2, h3, -⟩
  · cases h1
  · cases h1
    exact ⟨h2, h3⟩
theorem A_pushC {r3 : rM} {v X : Vl} {kk : Nat} {y : Int32} (hX : RX r H T S E (vPr c) D R) {S' : Vl} (hm : mkd r r3 H T kk v S') (g : r3.reg = upd r.reg 0 (nI kk)) (hy : rg r3 X y) : RX (sR r3 (upd r3.reg 2 y)) (upW H kk v) (upW T kk S') (vPr kk) E X D R ∧ Ur (sR r3 (upd r3.reg 2 y)) = addU (Ur r) kk := by
  obtain ⟨⟨m1, -⟩, ⟨m2, m3, m4⟩, m5, m6, m7, m8⟩ := hm
  obtain ⟨hB, x0, x1, x2, x3, x4⟩ := hX
  refine ⟨⟨sm_RB sm_sR m5, ?_, ?_, sm_rg sm_sR hy, ?_, ?_⟩, (sm_Ur sm_sR).trans m6⟩
  · show rg _ _ (r3.reg 0)
    rw [g]
    exact sm_rg sm_sR m8
  · show rg _ _ (r3.reg 1)
    rw [g]
    exact sm_rg sm_sR (rg_up m4 x1)
  · show rg _ _ (r3.reg 3)
    rw [g]
    exact sm_rg sm_sR (rg_up m4 x3)
  · show rg _ _ (r3.reg 4)
    rw [g]
    exact sm_rg sm_sR (rg_up m4 x4)
theorem A_rest {r3 : rM} {h t : Vl} {kk d : Nat} (hm : mkd r r3 H T kk h t) (ud : Ur r d) (l : isL_ (T d)) : rg r3 (T d) (rsN r3 d) := by
  obtain ⟨⟨m1, -⟩, ⟨m2, m3, m4⟩, m5, m6, m7, m8⟩ := hm
  have hne : ¬ d = kk := fun e => m1 (e ▸ ud)
  have e1 : upW T kk t d = T d := if_neg hne
  have := rs_rg m5 (m4.2 d ud).1 (by rw [e1]; exact l)
  rwa [e1] at this
end RST
end
section
def rqN (i : Int32) : Nat := if i = 4 then 4 else if i = 7 then 3 else if i = 3 ∨ i = 13 then 2 else if i = 9 ∨ i = 19 then 0 else 1
theorem rnd_rq (i : Int32) : rnd i = nI (rqN i) ∧ rqN i ≤ 4 := by
  unfold rnd rqN
  by_cases h1 : i = 4
  · rw [if_pos h1, if_pos h1]
    exact ⟨rfl, by decide⟩
  · rw [if_neg h1, if_neg h1]
    by_cases h2 : i = 7
    · rw [if_pos h2, if_pos h2]
      exact ⟨rfl, by decide⟩
    · rw [if_neg h2, if_neg h2]
      by_cases h3 : i = 3 ∨ i = 13
      · rw [if_pos h3, if_pos h3]
        exact ⟨rfl, by decide⟩
      · rw [if_neg h3, if_neg h3]
        by_cases h4 : i = 9 ∨ i = 19
        · rw [if_pos h4, if_pos h4]
          exact ⟨rfl, by decide⟩
        · rw [if_neg h4, if_neg h4]
          exact ⟨rfl, by decide⟩
def clR (r : rM) (x : Int32) : rM := (r.s_collections x)
def tbR (r : rM) (x : Int32) : rM := (r.s_takenBack x)
section RSP
variable {cst : Nat → Option (Nat × (Nat → Int32))} {m b0 b1 : Nat} {op : Bool} {tl : List mj_O} {Q : mj_R → Prop} {s : cS} {r : rM} {H T : Nat → Vl} {ro : Nat → Bool} {S E C D R : Vl} {k : Sk} {n : Nat} {b : Bool} {e : En} {J : Nat → mj_L → List Value → mj_H → Prop}
set_option maxRecDepth 10000
end RSP
end
section
def ke (r r' : rM) : Prop := r'.z = r.z ∧ r'.typed = r.typed ∧ r'.text = r.text ∧ r'.error = r.error ∧ r'.program = r.program
theorem ke_tr {r r' r2 : rM} (h1 : ke r r') (h2 : ke r' r2) : ke r r2 := by
  obtain ⟨a1, a2, a3, a4, a5⟩ := h1
  obtain ⟨b1, b2, b3, b4, b5⟩ := h2
  exact ⟨b1.trans a1, b2.trans a2, b3.trans a3, b4.trans a4, b5.trans a5⟩
theorem kc_ke {r r' : rM} (h : kc r r') : ke r r' := by
  obtain ⟨a1, a2, a3, a4, a5⟩ := h
  exact ⟨a1, a2, a3, a4, congrArg Prod.fst a5⟩
def RTx (r : rM) (R : Vl) : Prop := rnS r ∧ ∃ (H T : Nat → Vl) (ro : Nat → Bool) (S E C D : Vl) (k : Sk) (n : Nat) (b : Bool) (e : En), RX r H T S E C D R ∧ TI H T ro (Ur r) S E C D R k n b e
def RCx (r : rM) (R : Vl) : Prop := r.state = 0 ∧ ∃ (H T : Nat → Vl) (ro : Nat → Bool), RX r H T vNil vNil vNil vNil R ∧ TS H T ro (Ur r) R
def RMI (r : rM) : Prop := (mkOK r ∧ shOK r) ∧ ((r.program = 0 ∧ r.state = 0 ∧ ∃ H T : Nat → Vl, RX r H T vNil vNil vNil vNil vNil) ∨ (¬ r.program = 0 ∧ ∃ R, RCx r R ∨ RTx r R))
def thR (r : rM) (x : Int32) : rM := (r.s_thrown x)
def spR (r : rM) (x : Int32) : rM := (r.s_steps x)
section RCL
variable {cst : Nat → Option (Nat × (Nat → Int32))} {m b0 b1 : Nat} {op : Bool} {tl : List mj_O} {Q : mj_R → Prop} {s : cS} {r : rM}
set_option maxRecDepth 10000
theorem RMI_sp {x : Int32} (h : RMI r) : RMI (spR r x) := h
theorem RMI_RX (h : RMI r) : ∃ (H T : Nat → Vl) (S E C D R : Vl), RX r H T S E C D R := by
  rcases h.2 with ⟨-, -, H, T, hX⟩ | ⟨-, R, ⟨-, H, T, ro, hX, -⟩ | ⟨-, H, T, ro, S, E, C, D, k, n, b, e, hX, -⟩⟩
  · exact ⟨H, T, _, _, _, _, _, hX⟩
  · exact ⟨H, T, _, _, _, _, _, hX⟩
  · exact ⟨H, T, _, _, _, _, _, hX⟩
theorem R_state (hI : RMI r) (hQ : Q (.inl (some (.int r.state)), (cW s (rW (thR r 0) tl), b0, b1, op))) : mj_Mt gT cst gnw (m + 1) y_R_state [.ref 27] (cW s (rW r tl), b0, b1, op) Q := by
  intro J hJ
  refine hJ _ _ _ _ ?_
  exact hQ
theorem R_position (hQ : Q (.inl (some (.int r.error)), (cW s (rW (thR r 0) tl), b0, b1, op))) : mj_Mt gT cst gnw (m + 1) y_R_position [.ref 27] (cW s (rW r tl), b0, b1, op) Q := by
  intro J hJ
  refine hJ _ _ _ _ ?_
  exact hQ
theorem R_shown {x : Int32} (hI : RMI r) (hQ : ∀ y, Q (.inl (some (.int y)), (cW s (rW (thR r 0) tl), b0, b1, op))) : mj_Mt gT cst gnw (m + 1) y_R_shown [.ref 27, .int x] (cW s (rW r tl), b0, b1, op) Q := by
  obtain ⟨n, hn, en⟩ := hI.1.2
  intro J hJ
  refine hJ _ _ _ _ ?_
  refine And.intro (fun _ => hQ _) (fun _ => ?_)
  refine And.intro (fun _ => hQ _) (fun (g : ¬ x < 0) => ?_)
  refine And.intro (fun _ => hQ _) (fun (g2 : ¬ r.shown ≤ x) => ?_)
  obtain ⟨j, hj, rfl⟩ := nI_of g
  have hlt : j < n := by
    refine Nat.lt_of_not_le (fun w => g2 ?_)
    rw [en]
    exact nI_le w hj
  refine And.intro (vp_in_nI (show j < 120 by omega) (by decide)) ?_
  exact hQ _
theorem R_lengthOf {n : Nat} {x : Int32} (hc : chN r n x) (hQ : ∀ y, Q (.inl (some (.int y)), (cW s (rW r tl), b0, b1, op))) : mj_Mt gT cst gnw (m + 2) y_R_lengthOf [.ref 27, .int x] (cW s (rW r tl), b0, b1, op) Q := by
  intro J hJ
  have loop : ∀ (j : Nat) (a y : Int32), chN r j y → J 4 [some (.ref 27), some (.int x), some (.int a), some (.int y)] [] (cW s (rW r tl), b0, b1, op) := by
    intro j
    induction j with
    | zero =>
      intro a y hy
      refine hJ _ _ _ _ ?_
      exact And.intro (fun _ => hQ _) (fun g => absurd hy g)
    | succ j ih =>
      intro a y hy
      obtain ⟨k, hk, rfl, h2⟩ := hy
      refine hJ _ _ _ _ ?_
      refine And.intro (fun (g : nI k < 0) => absurd g (nI_pos (by omega))) (fun _ => ?_)
      refine r_rest hk ?_
      exact ih _ _ h2
  refine hJ _ _ _ _ ?_
  exact loop n _ x hc
theorem chN_th {y : Int32} : ∀ (n : Nat) (x : Int32), chN r n x → chN (thR r y) n x
  | 0, x, h => h
  | n + 1, x, ⟨k, h1, h2, h3⟩ => ⟨k, h1, h2, chN_th n _ h3⟩
theorem chN_stk {H T : Nat → Vl} {ro : Nat → Bool} (hB : RB r H T) : ∀ (k : Sk) (v : Vl) (x : Int32), stk H T ro k v → rg r v x → chN r k.length x
  | [], v, x, h, hg => by
    have h : v = vNil := h
    subst h
    rcases hg with ⟨-, e⟩ | ⟨a, e, -⟩
    · rw [e]
      show (-1 : Int32) < 0
      decide
    · cases e
  | y :: k, v, x, h, hg => by
    obtain ⟨a, rfl, -, -, h⟩ := h
    obtain ⟨e, ua⟩ := rg_pr hg
    exact ⟨a, Ur_lt hB ua, e, chN_stk hB k _ _ h (rs_rg hB ua (isL_stk h))⟩
theorem chN_dmp {H T : Nat → Vl} {ro : Nat → Bool} {U : Nat → Prop} (hB : RB r H T) (hS : SI H T ro (Ur r)) : ∀ (f : Nat) (v : Vl) (e : En) (x : Int32), dmp H T ro f v e → rg r v x → ∃ n, chN r n x
  | 0, v, e, x, h, hg => by
    have h : v = vNil := h.2
    subst h
    rcases hg with ⟨-, e⟩ | ⟨a, e, -⟩
    · refine ⟨0, ?_⟩
      rw [e]
      show (-1 : Int32) < 0
      decide
    · cases e
  | f + 1, v, e, x, h, hg => by
    rcases h with ⟨e1, a, b, c, k, n, e', rfl, a1, a2, a3, a4, a5, a6, a7, a8, a9⟩ | ⟨k, n, a, e', e1, rfl, a1, a2, a3⟩
    · obtain ⟨ea, ua⟩ := rg_pr hg
      have ub := SI_tp hS ua a3
      have uc := SI_tp hS ub a6
      obtain ⟨j, hj⟩ := chN_dmp (U := U) hB hS f _ _ _ a9 (rs_rg hB uc (isL_dmx ⟨f, a9⟩))
      exact ⟨j + 3, a, Ur_lt hB ua, ea, b, Ur_lt hB ub, rs_pr hB ua a3, c, Ur_lt hB uc, rs_pr hB ub a6, hj⟩
    · obtain ⟨ea, ua⟩ := rg_pr hg
      obtain ⟨j, hj⟩ := chN_dmp (U := U) hB hS f _ _ _ a3 (rs_rg hB ua (isL_dmx ⟨f, a3⟩))
      exact ⟨j + 1, a, Ur_lt hB ua, ea, hj⟩
theorem chN_nil {x : Int32} (h : rg r vNil x) : ∃ n, chN r n x := by
  rcases h with ⟨-, e⟩ | ⟨a, e, -⟩
  · refine ⟨0, ?_⟩
    rw [e]
    show (-1 : Int32) < 0
    decide
  · cases e
theorem RMI_len (h : RMI r) : (∃ n, chN r n (r.reg 0)) ∧ ∃ n, chN r n (r.reg 3) := by
  rcases h.2 with ⟨-, -, H, T, hX⟩ | ⟨-, R, ⟨-, H, T, ro, hX, -⟩ | ⟨-, H, T, ro, S, E, C, D, k, n, b, e, hX, hT⟩⟩
  · exact ⟨chN_nil hX.2.1, chN_nil hX.2.2.2.2.1⟩
  · exact ⟨chN_nil hX.2.1, chN_nil hX.2.2.2.2.1⟩
  · obtain ⟨hS, ⟨uS, tS_⟩, -, -, ⟨uD, f, tD⟩, -⟩ := hT
    exact ⟨⟨_, chN_stk hX.1 k S _ tS_ hX.2.1⟩, chN_dmp (U := Ur r) hX.1 hS.1 f D _ _ tD hX.2.2.2.2.1⟩
theorem RMI_mp {mk : Nat → Bool} {pl : Nat → Nat} {n : Nat} (h : RMI r) : RMI (mpR r mk pl n) := ⟨⟨⟨mk, rfl⟩, h.1.2⟩, h.2⟩
def s1R (r : rM) : rM := ((((r.s_state 1).s_collections 0).s_takenBack 0).s_steps 0)
theorem R_start (hI : RMI r) (h0 : r.program = 0 → Q (.inl (some (.int 0)), (cW s (rW (thR r 0) tl), b0, b1, op))) (h1 : ∀ r', ¬ r.program = 0 → ke r r' → RMI r' → r'.state = 1 → Q (.inl (some (.int 1)), (cW s (rW r' tl), b0, b1, op))) : mj_Mt gT cst gnw (m + 4) y_R_start [.ref 27] (cW s (rW r tl), b0, b1, op) Q := by
  intro J hJ
  refine hJ _ _ _ _ ?_
  refine And.intro (fun (g : ¬ r.program = 0) => ?_) (fun (g : r.program = 0) => And.intro (Or.inl rfl) (h0 g))
  have hr : ∃ (H T : Nat → Vl) (ro : Nat → Bool) (S E C D R : Vl), RX r H T S E C D R ∧ TS H T ro (Ur r) R := by
    rcases hI.2 with ⟨w, -⟩ | ⟨-, R, ⟨-, H, T, ro, hX, hT⟩ | ⟨-, H, T, ro, S, E, C, D, k, n, b, e, hX, hT⟩⟩
    · exact absurd w g
    · exact ⟨H, T, ro, _, _, _, _, R, hX, hT⟩
    · exact ⟨H, T, ro, _, _, _, _, R, hX, hT.1⟩
  obtain ⟨H, T, ro, S, E, C, D, R, ⟨hB, -, -, -, -, x4⟩, hT⟩ := hr
  have loop : ∀ (j k : Nat) (f : Nat → Int32), j + k = 4 → (∀ i, i < k → f i = -1) → f 4 = r.reg 4 → J 10 [some (.ref 27), some (.int (nI k))] [] (cW s (rW (sR (thR r 0) f) tl), b0, b1, op) := by
    intro j
    induction j with
    | zero =>
      intro k f hk hf h4
      obtain rfl : k = 4 := by omega
      refine hJ _ _ _ _ ?_
      refine And.intro (fun _ => ?_) (fun (w : ¬ (4 : Int32) ≤ nI 4) => absurd (by decide) w)
      have n : ∀ i, i < 4 → rg (sR (thR r 0) f) vNil ((sR (thR r 0) f).reg i) := fun i hi => Or.inl ⟨rfl, hf i hi⟩
      have hX1 : RX (sR (thR r 0) f) H T vNil vNil vNil vNil R := ⟨hB, n 0 (by decide), n 1 (by decide), n 2 (by decide), n 3 (by decide), by
        show rg _ R (f 4)
        rw [h4]
        exact x4⟩
      refine R_sweep hX1 hI.1.1 (fun nn r' hnn q1 q2 q3 q4 q5 q6 q7 q8 q9 q10 => ?_)
      have hke := kc_ke q1
      have i54 : vp_in 4 5 := vp_in_nI (show 4 < 5 by decide) (by decide)
      refine And.intro i54 ?_
      refine And.intro i52 ?_
      have hT' : TS H T ro (Ur r') R := ⟨SI_sub hT.1 q8 q9, q10.2.2.2.2, hT.2.2⟩
      obtain ⟨hB', y0, y1, y2, y3, y4⟩ := q7
      have e : r'.reg 0 = -1 ∧ r'.reg 1 = -1 ∧ r'.reg 3 = -1 := by
        rw [q4]
        exact ⟨hf 0 (by decide), hf 1 (by decide), hf 3 (by decide)⟩
      have h3 : RMI (s1R (sR r' (upd r'.reg 2 (r'.reg 4)))) := by
        refine ⟨⟨q2, ?_⟩, Or.inr ⟨?_, R, Or.inr ⟨Or.inl rfl, H, T, ro, vNil, vNil, R, vNil, [], 0, false, eStop, ⟨hB', y0, y1, y4, y3, y4⟩, TI_start hT'⟩⟩⟩
        · obtain ⟨n, hn, en⟩ := hI.1.2
          exact ⟨n, hn, q5.2.2.2.1.trans en⟩
        · show ¬ r'.program = 0
          rw [hke.2.2.2.2]
          exact g
      refine And.intro (fun (w : nI nn < 0) => absurd w (nI_pos (by omega))) (fun _ => ?_)
      exact And.intro (Or.inr rfl) (h1 (s1R (sR r' (upd r'.reg 2 (r'.reg 4)))) g hke h3 rfl)
    | succ j ih =>
      intro k f hk hf h4
      refine hJ _ _ _ _ ?_
      refine And.intro (fun (w : (4 : Int32) ≤ nI k) => absurd w (nI_ge (b := 4) (by omega) (by decide))) (fun _ => ?_)
      refine And.intro (vp_in_nI (show k < 5 by omega) (by decide)) ?_
      have key : ∀ (i : Nat) (y : Int32), i = k → y = nI (k + 1) → J 10 [some (.ref 27), some (.int y)] [] (cW s (rW (sR (thR r 0) (upd f i (-1))) tl), b0, b1, op) := by
        rintro i y rfl rfl
        refine ih (i + 1) _ (by omega) (fun a ha => ?_) ?_
        · unfold upd
          split
          · rfl
          · exact hf a (by omega)
        · unfold upd
          rw [if_neg (by omega)]
          exact h4
      exact key _ _ (nI_clamp (by omega)) (nI_succ k).symm
  exact loop 4 0 r.reg (by omega) (fun i hi => absurd hi (Nat.not_lt_zero i)) rfl
end RCL
end
section
def pdR (r : rM) (a d : Nat) : rM := ((r.s_p (nI a)).s_depth (nI d))
theorem pDg_v (tx : Nat → Nat) : ∀ (k a : Nat) (v w : Int32), (pDg tx k a v).1 = (pDg tx k a w).1
  | 0, a, v, w => rfl
  | k + 1, a, v, w => by
    unfold pDg
    split
    · exact pDg_v tx k (a + 1) _ _
    · rfl
theorem pDg_le (tx : Nat → Nat) : ∀ (k a : Nat) (v : Int32), a ≤ (pDg tx k a v).1 ∧ (pDg tx k a v).1 ≤ a + k
  | 0, a, v => ⟨Nat.le_refl _, Nat.le_refl _⟩
  | k + 1, a, v => by
    unfold pDg
    split
    · have := pDg_le tx k (a + 1) (Int32.ofInt 10 * v + nI (tx a) - Int32.ofInt 48)
      omega
    · exact ⟨Nat.le_refl _, by show a ≤ a + (k + 1); omega⟩
theorem pDg_len {X : Nat → Int32} {len : Nat} {tx : Nat → Nat} (hx : txOK X len tx) : ∀ (k a : Nat) (v : Int32), a ≤ len → (pDg tx k a v).1 ≤ len
  | 0, a, v, h => h
  | k + 1, a, v, h => by
    unfold pDg
    split
    · next hd =>
      refine pDg_len hx k (a + 1) _ ?_
      have := hx.lt (a := a) (fun q => by rw [q] at hd; exact absurd hd (by decide))
      omega
    · exact h
section RD1
variable {cst : Nat → Option (Nat × (Nat → Int32))} {m b0 b1 : Nat} {op : Bool} {tl : List mj_O} {Q : mj_R → Prop} {s : cS} {r : rM} {a d len : Nat} {tx : Nat → Nat}
set_option maxRecDepth 10000
theorem R_here {k : Nat} (hx : txOK r.text len tx) (ht : r.typed = nI len) (ha : a + k ≤ 2000) (hQ : Q (.inl (some (.int (nI (tx (a + k))))), (cW s (rW (pdR r a d) tl), b0, b1, op))) : mj_Mt gT cst gnw (m + 1) y_R_here [.ref 27, .int (nI k)] (cW s (rW (pdR r a d) tl), b0, b1, op) Q := by
  have h96 := hx.1
  have hc := hx.le (a + k)
  have e1 : nI a + nI k = nI (a + k) := nI_add a k
  intro J hJ
  refine hJ _ _ _ _ ?_
  refine And.intro (fun (g : r.typed ≤ nI a + nI k) => ?_) (fun (g : ¬ r.typed ≤ nI a + nI k) => ?_)
  · rw [ht, e1] at g
    have : tx (a + k) = 0 := hx.2.2 _ ((nI_leI (by omega) (by omega)).mp g)
    rw [this] at hQ
    exact And.intro rfl hQ
  · rw [ht, e1] at g
    have hlt : a + k < len := Nat.lt_of_not_le (fun w => g (nI_le w (by omega)))
    obtain ⟨ec, -⟩ := hx.2.1 _ hlt
    refine And.intro (show vp_in (nI a + nI k) 96 by rw [e1]; exact vp_in_nI (by omega) (by decide)) ?_
    have key : ∀ x : Int32, x = nI (tx (a + k)) → narrow .char (.int x) = .int x ∧ Q (.inl (some (.int x)), (cW s (rW (pdR r a d) tl), b0, b1, op)) := by
      rintro x rfl
      exact ⟨(pk_charN (q := tx (a + k)) (by omega)).1, hQ⟩
    refine key _ ?_
    show r.text (nI a + nI k).toNatClampNeg = nI (tx (a + k))
    rw [e1, nI_clamp (by omega), ec]
theorem R_here0 (hx : txOK r.text len tx) (ht : r.typed = nI len) (ha : a ≤ 2000) (hQ : Q (.inl (some (.int (nI (tx a)))), (cW s (rW (pdR r a d) tl), b0, b1, op))) : mj_Mt gT cst gnw (m + 1) y_R_here [.ref 27, .int 0] (cW s (rW (pdR r a d) tl), b0, b1, op) Q := R_here (k := 0) hx ht ha hQ
theorem R_takes {c : Nat} (hx : txOK r.text len tx) (ht : r.typed = nI len) (ha : a ≤ 1000) (hc : c < 2 ^ 31) (h1 : tx a = c → Q (.inl (some (.int 1)), (cW s (rW (pdR r (a + 1) d) tl), b0, b1, op))) (h0 : ¬ tx a = c → Q (.inl (some (.int 0)), (cW s (rW (pdR r a d) tl), b0, b1, op))) : mj_Mt gT cst gnw (m + 2) y_R_takes [.ref 27, .int (nI c)] (cW s (rW (pdR r a d) tl), b0, b1, op) Q := by
  have hcc := hx.le a
  intro J hJ
  refine hJ _ _ _ _ ?_
  refine R_here0 hx ht (by omega) ?_
  refine And.intro (fun (g : ¬ nI (tx a) = nI c) => ?_) (fun (g : nI (tx a) = nI c) => ?_)
  · refine And.intro (fun _ => ?_) (fun g => absurd rfl g)
    exact And.intro (Or.inl rfl) (h0 (fun e => g (by rw [e])))
  · refine And.intro (fun (g : (1 : Int32) = 0) => absurd g (by decide)) (fun _ => ?_)
    have e : tx a = c := nIj (by omega) hc g
    have key : ∀ x : Int32, x = nI (a + 1) → Q (.inl (some (.int 1)), (cW s (rW ((pdR r a d).s_p x) tl), b0, b1, op)) := by
      rintro x rfl
      exact h1 e
    exact And.intro (Or.inr rfl) (key _ (nI_succ a).symm)
theorem R_opens (hx : txOK r.text len tx) (ht : r.typed = nI len) (ha : a ≤ 1000) (hd : d ≤ 9) (h1 : tx a = 40 → d < 9 → Q (.inl (some (.int 1)), (cW s (rW (pdR r (a + 1) (d + 1)) tl), b0, b1, op))) (h0 : ¬ (tx a = 40 ∧ d < 9) → Q (.inl (some (.int 0)), (cW s (rW (pdR r a d) tl), b0, b1, op))) : mj_Mt gT cst gnw (m + 2) y_R_opens [.ref 27] (cW s (rW (pdR r a d) tl), b0, b1, op) Q := by
  have hcc := hx.le a
  intro J hJ
  refine hJ _ _ _ _ ?_
  refine R_here0 hx ht (by omega) ?_
  refine And.intro (fun (g : ¬ nI (tx a) = 40) => ?_) (fun (g : nI (tx a) = 40) => ?_)
  · exact And.intro (Or.inl rfl) (h0 (fun e => g (by rw [e.1]; rfl)))
  · have e : tx a = 40 := nIj (j := 40) (by omega) (by decide) g
    refine And.intro (fun (g2 : ¬ nI d = 9) => ?_) (fun (g2 : nI d = 9) => ?_)
    · have hd9 : d < 9 := by
        rcases Nat.lt_or_ge d 9 with w | w
        · exact w
        · obtain rfl : d = 9 := by omega
          exact absurd rfl g2
      have key : ∀ x y : Int32, x = nI (a + 1) → y = nI (d + 1) → Q (.inl (some (.int 1)), (cW s (rW ((r.s_p x).s_depth y) tl), b0, b1, op)) := by
        rintro x y rfl rfl
        exact h1 e hd9
      exact And.intro (Or.inr rfl) (key _ _ (nI_succ a).symm (nI_succ d).symm)
    · exact And.intro (Or.inl rfl) (h0 (fun w => by
        have := nIj (i := d) (j := 9) (by omega) (by decide) g2
        omega))
theorem R_closes (hx : txOK r.text len tx) (ht : r.typed = nI len) (ha : a ≤ 1000) (h1 : tx a = 41 → Q (.inl (some (.int 1)), (cW s (rW (pdR r (a + 1) d) tl), b0, b1, op))) (h0 : ¬ tx a = 41 → Q (.inl (some (.int 0)), (cW s (rW (pdR r a (d + 1)) tl), b0, b1, op))) : mj_Mt gT cst gnw (m + 3) y_R_closes [.ref 27] (cW s (rW (pdR r a (d + 1)) tl), b0, b1, op) Q := by
  intro J hJ
  refine hJ _ _ _ _ ?_
  refine R_takes (c := 41) hx ht ha (by decide) (fun e => ?_) (fun e => ?_)
  · refine And.intro (fun (g : (1 : Int32) = 0) => absurd g (by decide)) (fun _ => ?_)
    have key : ∀ y : Int32, y = nI d → Q (.inl (some (.int 1)), (cW s (rW ((pdR r (a + 1) (d + 1)).s_depth y) tl), b0, b1, op)) := by
      rintro y rfl
      exact h1 e
    exact And.intro (Or.inr rfl) (key _ (nI_pred d))
  · refine And.intro (fun _ => ?_) (fun g => absurd rfl g)
    exact And.intro (Or.inl rfl) (h0 e)
theorem R_isDigit {h : mj_H} {c : Nat} (hc : c < 2 ^ 31) (h1 : cD c = true → Q (.inl (some (.int 1)), h)) (h0 : cD c = false → Q (.inl (some (.int 0)), h)) : mj_Mt gT cst gnw (m + 1) y_R_isDigit [.int (nI c)] h Q := by
  intro J hJ
  refine hJ _ _ _ _ ?_
  refine And.intro (fun (g : nI c < 48) => ?_) (fun (g : ¬ nI c < 48) => ?_)
  · have w : c < 48 := (nI_ltI (b := 48) hc (by decide)).mp g
    exact And.intro (Or.inl rfl) (h0 (decide_eq_false (by omega)))
  · have w : ¬ c < 48 := fun q => g (nI_lt (b := 48) q (by decide))
    refine And.intro (fun (g2 : 57 < nI c) => ?_) (fun (g2 : ¬ 57 < nI c) => ?_)
    · have w2 : 57 < c := (nI_ltI (a := 57) (by decide) hc).mp g2
      exact And.intro (Or.inl rfl) (h0 (decide_eq_false (by omega)))
    · have w2 : ¬ 57 < c := fun q => g2 (nI_lt (a := 57) q hc)
      exact And.intro (Or.inr rfl) (h1 (decide_eq_true (by omega)))
theorem R_isLetter {h : mj_H} {c : Nat} (hc : c < 2 ^ 31) (h1 : cL c = true → Q (.inl (some (.int 1)), h)) (h0 : cL c = false → Q (.inl (some (.int 0)), h)) : mj_Mt gT cst gnw (m + 1) y_R_isLetter [.int (nI c)] h Q := by
  intro J hJ
  refine hJ _ _ _ _ ?_
  refine And.intro (fun (g : nI c < 97) => ?_) (fun (g : ¬ nI c < 97) => ?_)
  · have w : c < 97 := (nI_ltI (b := 97) hc (by decide)).mp g
    exact And.intro (Or.inl rfl) (h0 (decide_eq_false (by omega)))
  · have w : ¬ c < 97 := fun q => g (nI_lt (b := 97) q (by decide))
    refine And.intro (fun (g2 : 122 < nI c) => ?_) (fun (g2 : ¬ 122 < nI c) => ?_)
    · have w2 : 122 < c := (nI_ltI (a := 122) (by decide) hc).mp g2
      exact And.intro (Or.inl rfl) (h0 (decide_eq_false (by omega)))
    · have w2 : ¬ 122 < c := fun q => g2 (nI_lt (a := 122) q hc)
      exact And.intro (Or.inr rfl) (h1 (decide_eq_true (by omega)))
theorem R_number (hx : txOK r.text len tx) (ht : r.typed = nI len) (ha : a ≤ 500) (h1 : cD (tx (pA1 tx a)) = true → Q (.inl (some (.int 1)), (cW s (rW (pdR r (pDg tx 4 (pA1 tx a) 0).1 d) tl), b0, b1, op))) (h0 : cD (tx (pA1 tx a)) = false → Q (.inl (some (.int 0)), (cW s (rW (pdR r (pA1 tx a) d) tl), b0, b1, op))) : mj_Mt gT cst gnw (m + 3) y_R_number [.ref 27] (cW s (rW (pdR r a d) tl), b0, b1, op) Q := by
  intro J hJ
  have fin : ∀ (n q : Nat) (x : Int32), n ≤ 4 → (0 < n → cD (tx (pA1 tx a)) = true ∧ q = (pDg tx 4 (pA1 tx a) 0).1) → (n = 0 → cD (tx (pA1 tx a)) = false ∧ q = pA1 tx a) → ∀ F : Nat, mj_sg (mj_Mt gT cst gnw (m + 2)) cst gnw (mj_hd (mj_off kO_R_number) kH_R_number) kC_R_number J Q (F + 20) false 22 [some (.ref 27), some (.int x), some (.int (nI n))] [] (cW s (rW (pdR r q d) tl), b0, b1, op) := by
    intro n q x hn hp hz F
    refine And.intro (fun (g : nI n ≤ 0) => ?_) (fun (g : ¬ nI n ≤ 0) => ?_)
    · have : n = 0 := by
        have := (nI_leI (b := 0) (by omega) (by decide)).mp g
        omega
      obtain ⟨e1, e2⟩ := hz this
      subst e2
      exact And.intro (Or.inl rfl) (h0 e1)
    · have : 0 < n := Nat.pos_of_ne_zero (fun e => g (by rw [e]; decide))
      obtain ⟨e1, e2⟩ := hp this
      subst e2
      refine And.intro (fun _ => ?_) (fun _ => ?_)
      · exact And.intro (Or.inr rfl) (h1 e1)
      · exact And.intro (Or.inr rfl) (h1 e1)
  have loop : ∀ (j n q : Nat) (x : Int32), j + n = 4 → q ≤ 501 + n → (pDg tx j q 0).1 = (pDg tx 4 (pA1 tx a) 0).1 → (0 < n → cD (tx (pA1 tx a)) = true) → (n = 0 → q = pA1 tx a) → J 6 [some (.ref 27), some (.int x), some (.int (nI n))] [] (cW s (rW (pdR r q d) tl), b0, b1, op) := by
    intro j
    induction j with
    | zero =>
      intro n q x hn hq e hp hz
      obtain rfl : n = 4 := by omega
      refine hJ _ _ _ _ ?_
      refine And.intro (fun _ => ?_) (fun (g : ¬ (4 : Int32) ≤ nI 4) => absurd (by decide) g)
      exact fin 4 q x (by omega) (fun w => ⟨hp w, e⟩) (fun w => by omega) _
    | succ j ih =>
      intro n q x hn hq e hp hz
      refine hJ _ _ _ _ ?_
      refine And.intro (fun (g : (4 : Int32) ≤ nI n) => absurd g (nI_ge (b := 4) (by omega) (by decide))) (fun _ => ?_)
      refine R_here0 hx ht (by omega) ?_
      have hcc := hx.le q
      have e0 : (pDg tx (j + 1) q 0).1 = if cD (tx q) then (pDg tx j (q + 1) (Int32.ofInt 10 * 0 + nI (tx q) - Int32.ofInt 48)).1 else q := by
        show (if cD (tx q) then pDg tx j (q + 1) (Int32.ofInt 10 * 0 + nI (tx q) - Int32.ofInt 48) else (q, 0)).1 = _
        split <;> rfl
      rw [e0] at e
      refine R_isDigit (by omega) (fun hd => ?_) (fun hd => ?_)
      · rw [if_pos hd, pDg_v tx j (q + 1) _ 0] at e
        refine And.intro (fun (g : (1 : Int32) = 0) => absurd g (by decide)) (fun _ => ?_)
        have key : ∀ y z : Int32, y = nI (q + 1) → z = nI (n + 1) → J 6 [some (.ref 27), some (.int x), some (.int z)] [] (cW s (rW ((pdR r q d).s_p y) tl), b0, b1, op) := by
          rintro y z rfl rfl
          refine ih (n + 1) (q + 1) x (by omega) (by omega) e (fun _ => ?_) (fun w => by omega)
          rcases Nat.eq_zero_or_pos n with w | w
          · rw [← hz w]
            exact hd
          · exact hp w
        exact key _ _ (nI_succ q).symm (nI_succ n).symm
      · rw [if_neg (by rw [hd]; decide)] at e
        refine And.intro (fun _ => ?_) (fun g => absurd rfl g)
        refine fin n q x (by omega) (fun w => ⟨hp w, e⟩) (fun w => ?_) _
        rw [← hz w]
        exact ⟨hd, rfl⟩
  refine hJ _ _ _ _ ?_
  refine R_takes (c := 45) hx ht (by omega) (by decide) (fun e => ?_) (fun e => ?_)
  · have e1 : pA1 tx a = a + 1 := if_pos e
    exact loop 4 0 (a + 1) _ (by omega) (by omega) (by rw [e1]) (fun w => absurd w (Nat.lt_irrefl 0)) (fun _ => e1.symm)
  · have e1 : pA1 tx a = a := if_neg e
    exact loop 4 0 a _ (by omega) (by omega) (by rw [e1]) (fun w => absurd w (Nat.lt_irrefl 0)) (fun _ => e1.symm)
theorem R_numberAt (hx : txOK r.text len tx) (ht : r.typed = nI len) (ha : a < len) (hQ : Q (.inl (some (.int (pVal tx a))), (cW s (rW r tl), b0, b1, op))) : mj_Mt gT cst gnw (m + 2) y_R_numberAt [.ref 27, .int (nI a)] (cW s (rW r tl), b0, b1, op) Q := by
  have h96 := hx.1
  have hca := hx.le a
  obtain ⟨ea, -⟩ := hx.2.1 a ha
  have eka : (nI a).toNatClampNeg = a := nI_clamp (by omega)
  intro J hJ
  have fin : ∀ (v x3 x5 : Int32) (b : Nat), b ≤ 1 → (b = 1 ↔ tx a = 45) → v = (pDg tx 4 (pA1 tx a) 0).2 → ∀ F : Nat, mj_sg (mj_Mt gT cst gnw (m + 1)) cst gnw (mj_hd (mj_off kO_R_numberAt) kH_R_numberAt) kC_R_numberAt J Q (F + 20) false 49 [some (.ref 27), some (.int (nI a)), some (.int (nI b)), some (.int x3), some (.int v), some (.int x5)] [] (cW s (rW r tl), b0, b1, op) := by
    intro v x3 x5 b hb hbt hv F
    subst hv
    have e0 : pVal tx a = if tx a = 45 then -(pDg tx 4 (pA1 tx a) 0).2 else (pDg tx 4 (pA1 tx a) 0).2 := rfl
    rw [e0] at hQ
    refine And.intro (fun (g : nI b = 0) => ?_) (fun (g : ¬ nI b = 0) => ?_)
    · have : b = 0 := nIj (j := 0) (by omega) (by decide) g
      rw [if_neg (fun w => by have := hbt.mpr w; omega)] at hQ
      exact hQ
    · have : b = 1 := by
        rcases Nat.lt_or_ge b 1 with w | w
        · obtain rfl : b = 0 := by omega
          exact absurd rfl g
        · omega
      rw [if_pos (hbt.mp this)] at hQ
      exact hQ
  have loop : ∀ (j n q b : Nat) (v : Int32), j + n = 4 → q ≤ 97 + n → b ≤ 1 → (b = 1 ↔ tx a = 45) → (pDg tx j q v).2 = (pDg tx 4 (pA1 tx a) 0).2 → J 22 [some (.ref 27), some (.int (nI a)), some (.int (nI b)), some (.int (nI q)), some (.int v), some (.int (nI n))] [] (cW s (rW r tl), b0, b1, op) := by
    intro j
    induction j with
    | zero =>
      intro n q b v hn hq hb hbt e
      obtain rfl : n = 4 := by omega
      refine hJ _ _ _ _ ?_
      refine And.intro (fun _ => ?_) (fun (g : ¬ (4 : Int32) ≤ nI 4) => absurd (by decide) g)
      exact fin v _ _ b hb hbt e _
    | succ j ih =>
      intro n q b v hn hq hb hbt e
      have e0 : (pDg tx (j + 1) q v).2 = if cD (tx q) then (pDg tx j (q + 1) (Int32.ofInt 10 * v + nI (tx q) - Int32.ofInt 48)).2 else v := by
        show (if cD (tx q) then pDg tx j (q + 1) (Int32.ofInt 10 * v + nI (tx q) - Int32.ofInt 48) else (q, v)).2 = _
        split <;> rfl
      rw [e0] at e
      refine hJ _ _ _ _ ?_
      refine And.intro (fun (g : (4 : Int32) ≤ nI n) => absurd g (nI_ge (b := 4) (by omega) (by decide))) (fun _ => ?_)
      refine And.intro (fun (g : r.typed ≤ nI q) => ?_) (fun (g : ¬ r.typed ≤ nI q) => ?_)
      · rw [ht] at g
        have : tx q = 0 := hx.2.2 _ ((nI_leI (by omega) (by omega)).mp g)
        rw [this, if_neg (by decide)] at e
        exact fin v _ _ b hb hbt e _
      · rw [ht] at g
        have hlt : q < len := Nat.lt_of_not_le (fun w => g (nI_le w (by omega)))
        obtain ⟨eq, -⟩ := hx.2.1 q hlt
        have hcq := hx.le q
        have ekq : (nI q).toNatClampNeg = q := nI_clamp (by omega)
        have hin : vp_in (nI q) 96 := vp_in_nI (by omega) (by decide)
        refine And.intro hin ?_
        rw [ekq, eq]
        refine R_isDigit (by omega) (fun hd => ?_) (fun hd => ?_)
        · rw [if_pos hd] at e
          refine And.intro (fun (g : (1 : Int32) = 0) => absurd g (by decide)) (fun _ => ?_)
          refine And.intro hin ?_
          rw [ekq, eq]
          have key : ∀ y z : Int32, y = nI (q + 1) → z = nI (n + 1) → J 22 [some (.ref 27), some (.int (nI a)), some (.int (nI b)), some (.int y), some (.int (Int32.ofInt 10 * v + nI (tx q) - Int32.ofInt 48)), some (.int z)] [] (cW s (rW r tl), b0, b1, op) := by
            rintro y z rfl rfl
            exact ih (n + 1) (q + 1) b _ (by omega) (by omega) hb hbt e
          exact key _ _ (nI_succ q).symm (nI_succ n).symm
        · rw [if_neg (by rw [hd]; decide)] at e
          refine And.intro (fun _ => ?_) (fun g => absurd rfl g)
          exact fin v _ _ b hb hbt e _
  refine hJ _ _ _ _ ?_
  refine And.intro (vp_in_nI (show a < 96 by omega) (by decide)) ?_
  rw [eka, ea]
  refine And.intro (fun (g : ¬ nI (tx a) = 45) => ?_) (fun (g : nI (tx a) = 45) => ?_)
  · have hne : ¬ tx a = 45 := fun e => g (by rw [e]; rfl)
    have e1 : pA1 tx a = a := if_neg hne
    refine And.intro (fun _ => ?_) (fun g => absurd rfl g)
    exact loop 4 0 a 0 0 (by omega) (by omega) (by omega) ⟨fun w => by omega, fun w => absurd w hne⟩ (by rw [e1])
  · have he : tx a = 45 := nIj (j := 45) (by omega) (by decide) g
    have e1 : pA1 tx a = a + 1 := if_pos he
    refine And.intro (fun (g : (1 : Int32) = 0) => absurd g (by decide)) (fun _ => ?_)
    have key : ∀ y : Int32, y = nI (a + 1) → J 22 [some (.ref 27), some (.int (nI a)), some (.int (nI 1)), some (.int y), some (.int 0), some (.int (nI 0))] [] (cW s (rW r tl), b0, b1, op) := by
      rintro y rfl
      exact loop 4 0 (a + 1) 1 0 (by omega) (by omega) (by omega) ⟨fun _ => he, fun _ => rfl⟩ (by rw [e1])
    exact key _ (nI_succ a).symm
end RD1
end
section
abbrev TL : Type := List (Int32 × Int32)
def cns (t : Int32 × Int32) : (TL × Nat) ⊕ Nat → (TL × Nat) ⊕ Nat
  | .inl (D, a) => .inl (t :: D, a)
  | .inr a => .inr a
def gD (tx : Nat → Nat) : Nat → Bool → Nat → Nat → Nat → (TL × Nat) ⊕ Nat
  | 0, _, _, _, a => .inr a
  | f + 1, false, o, d, a => if tx a = 40 then (if d + o < 9 then cns (4, 0) (gD tx f (decide (tx (a + 1) = 41)) (o + 1) d (a + 1)) else .inr a)
      else if cL (tx a) then cns (2, nI (tx a)) (gD tx f true o d (a + 1))
      else if cD (tx (pA1 tx a)) then cns (1, pVal tx a) (gD tx f true o d (pDg tx 4 (pA1 tx a) 0).1) else .inr (pA1 tx a)
  | _ + 1, true, 0, _, a => .inl ([], a)
  | f + 1, true, o + 1, d, a => if tx a = 41 then cns (5, 0) (gD tx f true o d (a + 1)) else if tx a = 32 then gD tx f false (o + 1) d (a + 1) else .inr a
theorem nI_dec (n : Nat) : nI (n + 1) + Int32.ofInt (-1) = nI n := by
  rw [nI_succ, Int32.add_assoc, show (1 : Int32) + Int32.ofInt (-1) = 0 by decide, Int32.add_zero]
theorem cns_l {t : Int32 × Int32} {x : (TL × Nat) ⊕ Nat} {D : TL} {a : Nat} (h : x = .inl (D, a)) : cns t x = .inl (t :: D, a) := by rw [h]; rfl
theorem cns_r {t : Int32 × Int32} {x : (TL × Nat) ⊕ Nat} {a : Nat} (h : x = .inr a) : cns t x = .inr a := by rw [h]; rfl
theorem pA1_len {X : Nat → Int32} {len : Nat} {tx : Nat → Nat} (hx : txOK X len tx) {a : Nat} (h : a ≤ len) : a ≤ pA1 tx a ∧ pA1 tx a ≤ len ∧ pA1 tx a ≤ a + 1 := by
  unfold pA1
  split
  · next e =>
    have := hx.lt (a := a) (by omega)
    omega
  · omega
theorem num_len {X : Nat → Int32} {len : Nat} {tx : Nat → Nat} (hx : txOK X len tx) {a : Nat} (h : a ≤ len) (hd : cD (tx (pA1 tx a)) = true) : a < (pDg tx 4 (pA1 tx a) 0).1 ∧ (pDg tx 4 (pA1 tx a) 0).1 ≤ len ∧ a < len := by
  obtain ⟨h1, h2, h3⟩ := pA1_len hx h
  have hl := pDg_len hx 4 (pA1 tx a) 0 h2
  have e : (pDg tx 4 (pA1 tx a) 0) = pDg tx 3 (pA1 tx a + 1) (Int32.ofInt 10 * 0 + nI (tx (pA1 tx a)) - Int32.ofInt 48) := by
    show (if cD (tx (pA1 tx a)) then _ else _) = _
    rw [if_pos hd]
  have hp := pDg_le tx 3 (pA1 tx a + 1) (Int32.ofInt 10 * 0 + nI (tx (pA1 tx a)) - Int32.ofInt 48)
  rw [← e] at hp
  omega
section RDD
variable {cst : Nat → Option (Nat × (Nat → Int32))} {m b0 b1 : Nat} {op : Bool} {tl : List mj_O} {Q : mj_R → Prop} {s : cS} {r : rM} {d len : Nat} {tx : Nat → Nat}
set_option maxRecDepth 10000
theorem R_datLoop (hx : txOK r.text len tx) (ht : r.typed = nI len) {J : Nat → mj_L → List Value → mj_H → Prop} (hJ : ∀ pc ls st h, mj_sg (mj_Mt gT cst gnw (m + 3)) cst gnw (mj_hd (mj_off kO_R_datum) kH_R_datum) kC_R_datum J Q 400 true pc ls st h → J pc ls st h) :
    ∀ (f : Nat) (b : Bool) (o k a : Nat), a ≤ len → k ≤ a → d + o ≤ 9 → len - a < f → (∀ D a', gD tx f b o d a = .inl (D, a') → Q (.inl (some (.int 1)), (cW s (rW (pdR r a' d) tl), b0, b1, op))) → (∀ a' d', gD tx f b o d a = .inr a' → Q (.inl (some (.int 0)), (cW s (rW (pdR r a' d') tl), b0, b1, op))) →
      (b = false → ∀ x3, J 4 [some (.ref 27), some (.int (nI o)), some (.int (nI k)), x3] [] (cW s (rW (pdR r a (d + o)) tl), b0, b1, op)) ∧ (b = true → J 51 [some (.ref 27), some (.int (nI o)), some (.int (nI k)), some (.int 1)] [] (cW s (rW (pdR r a (d + o)) tl), b0, b1, op)) := by
  have h96 := hx.1
  have j0 : ∀ (o k a dd : Nat), (∀ x3, J 4 [some (.ref 27), some (.int (nI o)), some (.int (nI (k + 1))), x3] [] (cW s (rW (pdR r a dd) tl), b0, b1, op)) → J 51 [some (.ref 27), some (.int (nI o)), some (.int (nI k)), some (.int 0)] [] (cW s (rW (pdR r a dd) tl), b0, b1, op) := by
    intro o k a dd h
    refine hJ _ _ _ _ ?_
    refine And.intro (fun _ => ?_) (fun g => absurd rfl g)
    have key : ∀ y : Int32, y = nI (k + 1) → J 4 [some (.ref 27), some (.int (nI o)), some (.int y), some (.int 0)] [] (cW s (rW (pdR r a dd) tl), b0, b1, op) := by
      rintro y rfl
      exact h _
    exact key _ (nI_succ k).symm
  intro f
  induction f with
  | zero => intro b o k a _ _ _ hf; omega
  | succ f ih =>
    intro b o k a ha hk hd hf hQ1 hQ0
    refine ⟨fun eb x3 => ?_, fun eb => ?_⟩
    · subst eb
      have e0 : gD tx (f + 1) false o d a = if tx a = 40 then (if d + o < 9 then cns (4, 0) (gD tx f (decide (tx (a + 1) = 41)) (o + 1) d (a + 1)) else .inr a) else if cL (tx a) then cns (2, nI (tx a)) (gD tx f true o d (a + 1)) else if cD (tx (pA1 tx a)) then cns (1, pVal tx a) (gD tx f true o d (pDg tx 4 (pA1 tx a) 0).1) else .inr (pA1 tx a) := rfl
      rw [e0] at hQ1 hQ0
      have hca := hx.le a
      refine hJ _ _ _ _ ?_
      refine And.intro (fun (g : (100 : Int32) ≤ nI k) => absurd g (nI_ge (b := 100) (by omega) (by decide))) (fun _ => ?_)
      refine R_here0 hx ht (by omega) ?_
      refine And.intro (fun (g : ¬ nI (tx a) = 40) => ?_) (fun (g : nI (tx a) = 40) => ?_)
      · have n40 : ¬ tx a = 40 := fun e => g (by rw [e]; rfl)
        rw [if_neg n40] at hQ1 hQ0
        refine R_here0 hx ht (by omega) ?_
        refine R_isLetter (by omega) (fun hl => ?_) (fun hl => ?_)
        · rw [if_pos hl] at hQ1 hQ0
          refine And.intro (fun (g : (1 : Int32) = 0) => absurd g (by decide)) (fun _ => ?_)
          have hlt := hx.lt (a := a) (fun q => by rw [q] at hl; exact absurd hl (by decide))
          have key : ∀ y : Int32, y = nI (a + 1) → J 51 [some (.ref 27), some (.int (nI o)), some (.int (nI k)), some (.int 1)] [] (cW s (rW ((pdR r a (d + o)).s_p y) tl), b0, b1, op) := by
            rintro y rfl
            exact (ih true o k (a + 1) (by omega) (by omega) hd (by omega) (fun D a' e => hQ1 _ a' (cns_l e)) (fun a' d' e => hQ0 a' d' (cns_r e))).2 rfl
          exact key _ (nI_succ a).symm
        · rw [if_neg (by rw [hl]; decide)] at hQ1 hQ0
          refine And.intro (fun _ => ?_) (fun g => absurd rfl g)
          refine R_number hx ht (by omega) (fun hn => ?_) (fun hn => ?_)
          · rw [if_pos hn] at hQ1 hQ0
            obtain ⟨w1, w2, w3⟩ := num_len hx ha hn
            refine And.intro (fun _ => ?_) (fun (g : (1 : Int32) = 0) => absurd g (by decide))
            exact (ih true o k _ w2 (by omega) hd (by omega) (fun D a' e => hQ1 _ a' (cns_l e)) (fun a' d' e => hQ0 a' d' (cns_r e))).2 rfl
          · rw [if_neg (by rw [hn]; decide)] at hQ1 hQ0
            refine And.intro (fun g => absurd rfl g) (fun _ => ?_)
            exact And.intro (Or.inl rfl) (hQ0 _ _ rfl)
      · have e40 : tx a = 40 := nIj (j := 40) (by omega) (by decide) g
        rw [if_pos e40] at hQ1 hQ0
        have hlt := hx.lt (a := a) (by omega)
        refine R_opens hx ht (by omega) hd (fun _ h9 => ?_) (fun h9 => ?_)
        · rw [if_pos h9] at hQ1 hQ0
          refine And.intro (fun _ => ?_) (fun (g : (1 : Int32) = 0) => absurd g (by decide))
          refine R_here0 hx ht (by omega) ?_
          have hc1 := hx.le (a + 1)
          have go : ∀ (b : Bool), decide (tx (a + 1) = 41) = b → ∀ y : Int32, y = nI (o + 1) → (b = false → ∀ x3, J 4 [some (.ref 27), some (.int y), some (.int (nI (k + 1))), x3] [] (cW s (rW (pdR r (a + 1) (d + o + 1)) tl), b0, b1, op)) ∧ (b = true → J 51 [some (.ref 27), some (.int y), some (.int (nI (k + 1))), some (.int 1)] [] (cW s (rW (pdR r (a + 1) (d + o + 1)) tl), b0, b1, op)) := by
            rintro b eb y rfl
            rw [eb] at hQ1 hQ0
            exact ih b (o + 1) (k + 1) (a + 1) (by omega) (by omega) (by omega) (by omega) (fun D a' e => hQ1 _ a' (cns_l e)) (fun a' d' e => hQ0 a' d' (cns_r e))
          have go2 : ∀ y : Int32, y = nI (o + 1) → tx (a + 1) = 41 → J 51 [some (.ref 27), some (.int y), some (.int (nI k)), some (.int 1)] [] (cW s (rW (pdR r (a + 1) (d + o + 1)) tl), b0, b1, op) := by
            rintro y rfl e41
            have eb : decide (tx (a + 1) = 41) = true := decide_eq_true e41
            rw [eb] at hQ1 hQ0
            exact (ih true (o + 1) k (a + 1) (by omega) (by omega) (by omega) (by omega) (fun D a' e => hQ1 _ a' (cns_l e)) (fun a' d' e => hQ0 a' d' (cns_r e))).2 rfl
          refine And.intro (fun (g2 : ¬ nI (tx (a + 1)) = 41) => ?_) (fun (g2 : nI (tx (a + 1)) = 41) => ?_)
          · have n41 : ¬ tx (a + 1) = 41 := fun e => g2 (by rw [e]; rfl)
            have key : ∀ y : Int32, y = nI (o + 1) → J 51 [some (.ref 27), some (.int y), some (.int (nI k)), some (.int 0)] [] (cW s (rW (pdR r (a + 1) (d + o + 1)) tl), b0, b1, op) := by
              rintro y rfl
              exact j0 _ _ _ _ ((go false (decide_eq_false n41) _ rfl).1 rfl)
            exact key _ (nI_succ o).symm
          · have e41 : tx (a + 1) = 41 := nIj (j := 41) (by omega) (by decide) g2
            exact go2 _ (nI_succ o).symm e41
        · have h9' : ¬ d + o < 9 := fun w => h9 ⟨e40, w⟩
          rw [if_neg h9'] at hQ1 hQ0
          refine And.intro (fun g => absurd rfl g) (fun _ => ?_)
          exact And.intro (Or.inl rfl) (hQ0 _ _ rfl)
    · subst eb
      cases o with
      | zero =>
        refine hJ _ _ _ _ ?_
        refine And.intro (fun (g : (1 : Int32) = 0) => absurd g (by decide)) (fun _ => ?_)
        refine And.intro (fun (g : ¬ nI 0 = 0) => absurd rfl g) (fun _ => ?_)
        exact And.intro (Or.inr rfl) (hQ1 [] a rfl)
      | succ o =>
        have e0 : gD tx (f + 1) true (o + 1) d a = if tx a = 41 then cns (5, 0) (gD tx f true o d (a + 1)) else if tx a = 32 then gD tx f false (o + 1) d (a + 1) else .inr a := rfl
        rw [e0] at hQ1 hQ0
        have hca := hx.le a
        refine hJ _ _ _ _ ?_
        refine And.intro (fun (g : (1 : Int32) = 0) => absurd g (by decide)) (fun _ => ?_)
        refine And.intro (fun _ => ?_) (fun (g : nI (o + 1) = 0) => absurd (nIj (j := 0) (by omega) (by decide) g) (by omega))
        refine R_here0 hx ht (by omega) ?_
        refine And.intro (fun (g : ¬ nI (tx a) = 41) => ?_) (fun (g : nI (tx a) = 41) => ?_)
        · have n41 : ¬ tx a = 41 := fun e => g (by rw [e]; rfl)
          rw [if_neg n41] at hQ1 hQ0
          refine R_takes (c := 32) hx ht (by omega) (by decide) (fun e => ?_) (fun e => ?_)
          · rw [if_pos e] at hQ1 hQ0
            have hlt := hx.lt (a := a) (by omega)
            refine And.intro (fun _ => ?_) (fun (g : (1 : Int32) = 0) => absurd g (by decide))
            exact j0 _ _ _ _ ((ih false (o + 1) (k + 1) (a + 1) (by omega) (by omega) hd (by omega) hQ1 hQ0).1 rfl)
          · rw [if_neg e] at hQ1 hQ0
            refine And.intro (fun g => absurd rfl g) (fun _ => ?_)
            exact And.intro (Or.inl rfl) (hQ0 _ _ rfl)
        · have e41 : tx a = 41 := nIj (j := 41) (by omega) (by decide) g
          rw [if_pos e41] at hQ1 hQ0
          have hlt := hx.lt (a := a) (by omega)
          have key : ∀ x y z : Int32, x = nI (a + 1) → y = nI (d + o) → z = nI o → J 51 [some (.ref 27), some (.int z), some (.int (nI k)), some (.int 1)] [] (cW s (rW ((r.s_p x).s_depth y) tl), b0, b1, op) := by
            rintro x y z rfl rfl rfl
            exact (ih true o k (a + 1) (by omega) (by omega) (by omega) (by omega) (fun D a' e => hQ1 _ a' (cns_l e)) (fun a' d' e => hQ0 a' d' (cns_r e))).2 rfl
          exact key _ _ _ (nI_succ a).symm (nI_pred (d + o)) (nI_dec o)
theorem R_datum {a : Nat} (hx : txOK r.text len tx) (ht : r.typed = nI len) (ha : a ≤ len) (hd : d ≤ 9) (h1 : ∀ D a', gD tx 200 false 0 d a = .inl (D, a') → Q (.inl (some (.int 1)), (cW s (rW (pdR r a' d) tl), b0, b1, op))) (h0 : ∀ a' d', gD tx 200 false 0 d a = .inr a' → Q (.inl (some (.int 0)), (cW s (rW (pdR r a' d') tl), b0, b1, op))) : mj_Mt gT cst gnw (m + 4) y_R_datum [.ref 27] (cW s (rW (pdR r a d) tl), b0, b1, op) Q := by
  intro J hJ
  have h96 := hx.1
  refine hJ _ _ _ _ ?_
  exact (R_datLoop hx ht hJ 200 false 0 0 a ha (Nat.zero_le _) (by omega) (by omega) h1 h0).1 rfl _
end RDD
end
