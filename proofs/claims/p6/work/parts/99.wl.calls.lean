def ke (r r' : rM) : Prop := r'.z = r.z ∧ r'.typed = r.typed ∧ r'.text = r.text ∧ r'.error = r.error ∧ r'.program = r.program
theorem ke_tr {r r' r2 : rM} (h1 : ke r r') (h2 : ke r' r2) : ke r r2 := by
  obtain ⟨a1, a2, a3, a4, a5⟩ := h1
  obtain ⟨b1, b2, b3, b4, b5⟩ := h2
  exact ⟨b1.trans a1, b2.trans a2, b3.trans a3, b4.trans a4, b5.trans a5⟩
theorem kc_ke {r r' : rM} (h : kc r r') : ke r r' := by
  obtain ⟨a1, a2, a3, a4, a5⟩ := h
  exact ⟨a1, a2, a3, a4, congrArg Prod.fst a5⟩
def RTx (r : rM) (R : Vl) : Prop := rnS r ∧ ∃ (H T : Nat → Vl) (ro : Nat → Bool) (S E C D : Vl) (k : Sk) (n : Nat) (b : Bool) (e : En), RX r H T S E C D R ∧ TI H T ro (Ur r) S E C D R k n b e
def RCx (r : rM) (R : Vl) : Prop := r.state = 0 ∧ ∃ (H T : Nat → Vl) (ro : Nat → Bool), RX r H T vNil vNil vNil vNil R ∧ TS H T ro (Ur r) R
def RMI (r : rM) : Prop := (mkOK r ∧ shOK r) ∧ ((r.program = 0 ∧ r.state = 0 ∧ ∃ H T : Nat → Vl, RX r H T vNil vNil vNil vNil vNil) ∨ (¬ r.program = 0 ∧ ∃ R, RCx r R ∨ RTx r R))
def thR (r : rM) (x : Int32) : rM := (r.s_thrown x)
def spR (r : rM) (x : Int32) : rM := (r.s_steps x)
section RCL
variable {cst : Nat → Option (Nat × (Nat → Int32))} {m b0 b1 : Nat} {op : Bool} {tl : List mj_O} {Q : mj_R → Prop} {s : cS} {r : rM}
set_option maxRecDepth 10000
theorem RMI_th {x : Int32} (h : RMI r) : RMI (thR r x) := h
theorem RMI_sp {x : Int32} (h : RMI r) : RMI (spR r x) := h
theorem RMI_RX (h : RMI r) : ∃ (H T : Nat → Vl) (S E C D R : Vl), RX r H T S E C D R := by
  rcases h.2 with ⟨-, -, H, T, hX⟩ | ⟨-, R, ⟨-, H, T, ro, hX, -⟩ | ⟨-, H, T, ro, S, E, C, D, k, n, b, e, hX, -⟩⟩
  · exact ⟨H, T, _, _, _, _, _, hX⟩
  · exact ⟨H, T, _, _, _, _, _, hX⟩
  · exact ⟨H, T, _, _, _, _, _, hX⟩
theorem R_run {x : Int32} (hI : RMI r) (hQ : ∀ y r', ke r r' → RMI r' → Q (.inl (some (.int y)), (cW s (rW r' tl), b0, b1, op))) : mj_Mt gT cst gnw (m + 6) y_R_run [.ref 27, .int x] (cW s (rW r tl), b0, b1, op) Q := by
  intro J hJ
  have loop : ∀ (j k N : Nat) (r1 : rM), x = nI N → N ≤ 200 → j + k = N → ke r r1 → RMI r1 → J 12 [some (.ref 27), some (.int x), some (.int (nI k))] [] (cW s (rW r1 tl), b0, b1, op) := by
    intro j
    induction j with
    | zero =>
      intro k N r1 ex hN hk h1 h2
      refine hJ _ _ _ _ ?_
      refine And.intro (fun _ => hQ _ r1 h1 h2) (fun _ => ?_)
      refine And.intro (fun _ => hQ _ r1 h1 h2) (fun (g : ¬ x ≤ nI k) => absurd (by rw [ex]; exact nI_le (by omega) (by omega)) g)
    | succ j ih =>
      intro k N r1 ex hN hk h1 h2
      refine hJ _ _ _ _ ?_
      refine And.intro (fun _ => hQ _ r1 h1 h2) (fun _ => ?_)
      refine And.intro (fun _ => hQ _ r1 h1 h2) (fun _ => ?_)
      refine And.intro (fun _ => hQ _ r1 h1 h2) (fun (g : r1.state = 1) => ?_)
      have hr : ¬ r1.program = 0 ∧ ∃ R, RTx r1 R := by
        rcases h2.2 with ⟨-, w, -⟩ | ⟨w0, R, ⟨w, -⟩ | w⟩
        · rw [g] at w
          exact absurd w (by decide)
        · rw [g] at w
          exact absurd w (by decide)
        · exact ⟨w0, R, w⟩
      obtain ⟨hp, R, -, H, T, ro, S, E, C, D, k0, n0, b0', e0, hX, hT⟩ := hr
      refine R_step hX hT g h2.1.1 h2.1.2 (fun r' H' T' ro' S' E' C' D' k' n' b' e' q1 q2 q3 q4 q5 q6 => ?_)
      have hke := kc_ke q1
      have h3 : RMI r' := ⟨⟨q2, q4⟩, Or.inr ⟨by rw [hke.2.2.2.2]; exact hp, R, Or.inr ⟨q3, H', T', ro', S', E', C', D', k', n', b', e', q5, q6⟩⟩⟩
      have key : ∀ y z : Int32, y = nI (k + 1) → J 12 [some (.ref 27), some (.int x), some (.int y)] [] (cW s (rW (spR r' z) tl), b0, b1, op) := by
        rintro y z rfl
        exact ih (k + 1) N (spR r' z) ex hN (by omega) (ke_tr h1 hke) (RMI_sp h3)
      exact key _ (r'.steps + Int32.ofInt 1) (nI_succ k).symm
  have out : ∀ (r1 : rM), ke r r1 → RMI r1 → r1.thrown = 1 → J 12 [some (.ref 27), some (.int x), some (.int (nI 0))] [] (cW s (rW r1 tl), b0, b1, op) := by
    intro r1 h1 h2 ht
    refine hJ _ _ _ _ ?_
    refine And.intro (fun _ => hQ _ r1 h1 h2) (fun (g : r1.thrown = 0) => absurd (ht.symm.trans g) (by decide))
  refine hJ _ _ _ _ ?_
  refine And.intro (fun _ => ?_) (fun (g : ¬ x < 0) => ?_)
  · exact out (thR r 1) ⟨rfl, rfl, rfl, rfl, rfl⟩ hI rfl
  · refine And.intro (fun (g2 : x ≤ 200) => ?_) (fun _ => ?_)
    · obtain ⟨N, hN, ex⟩ := nI_of2 (M := 200) (n := 200) (by decide) g g2
      exact loop N 0 N (thR r 0) ex hN (by omega) ⟨rfl, rfl, rfl, rfl, rfl⟩ hI
    · exact out (thR r 1) ⟨rfl, rfl, rfl, rfl, rfl⟩ hI rfl
theorem R_state (hI : RMI r) (hQ : Q (.inl (some (.int r.state)), (cW s (rW (thR r 0) tl), b0, b1, op))) : mj_Mt gT cst gnw (m + 1) y_R_state [.ref 27] (cW s (rW r tl), b0, b1, op) Q := by
  intro J hJ
  refine hJ _ _ _ _ ?_
  exact hQ
theorem R_position (hQ : Q (.inl (some (.int r.error)), (cW s (rW (thR r 0) tl), b0, b1, op))) : mj_Mt gT cst gnw (m + 1) y_R_position [.ref 27] (cW s (rW r tl), b0, b1, op) Q := by
  intro J hJ
  refine hJ _ _ _ _ ?_
  exact hQ
theorem R_next (hI : RMI r) (hQ : ∀ y, Q (.inl (some (.int y)), (cW s (rW (thR r 0) tl), b0, b1, op))) : mj_Mt gT cst gnw (m + 1) y_R_next [.ref 27] (cW s (rW r tl), b0, b1, op) Q := by
  intro J hJ
  refine hJ _ _ _ _ ?_
  refine And.intro (fun _ => hQ _) (fun (g : r.state = 1) => ?_)
  have hr : ∃ R, RTx r R := by
    rcases hI.2 with ⟨-, w, -⟩ | ⟨w0, R, ⟨w, -⟩ | w⟩
    · rw [g] at w
      exact absurd w (by decide)
    · rw [g] at w
      exact absurd w (by decide)
    · exact ⟨R, w⟩
  obtain ⟨R, -, H, T, ro, S, E, C, D, k0, n0, b0', e0, hX, hT⟩ := hr
  obtain ⟨f, hw⟩ : ∃ f, wt H T ro f C k0 n0 b0' e0 := hT.2.2.2.1.2
  cases f with
  | zero => exact absurd hw id
  | succ f =>
  obtain ⟨c, i, rfl, -⟩ := hw
  obtain ⟨h2, uc⟩ := rg_pr hX.2.2.2.1
  refine And.intro i52 ?_
  refine And.intro (show vp_in (r.reg 2) 250 by rw [h2]; exact vp_in_nI (Ur_lt hX.1 uc) (by decide)) ?_
  exact hQ _
theorem R_shown {x : Int32} (hI : RMI r) (hQ : ∀ y, Q (.inl (some (.int y)), (cW s (rW (thR r 0) tl), b0, b1, op))) : mj_Mt gT cst gnw (m + 1) y_R_shown [.ref 27, .int x] (cW s (rW r tl), b0, b1, op) Q := by
  obtain ⟨n, hn, en⟩ := hI.1.2
  intro J hJ
  refine hJ _ _ _ _ ?_
  refine And.intro (fun _ => hQ _) (fun _ => ?_)
  refine And.intro (fun _ => hQ _) (fun (g : ¬ x < 0) => ?_)
  refine And.intro (fun _ => hQ _) (fun (g2 : ¬ r.shown ≤ x) => ?_)
  obtain ⟨j, hj, rfl⟩ := nI_of g
  have hlt : j < n := by
    refine Nat.lt_of_not_le (fun w => g2 ?_)
    rw [en]
    exact nI_le w hj
  refine And.intro (vp_in_nI (show j < 120 by omega) (by decide)) ?_
  exact hQ _
theorem R_lengthOf {n : Nat} {x : Int32} (hc : chN r n x) (hQ : ∀ y, Q (.inl (some (.int y)), (cW s (rW r tl), b0, b1, op))) : mj_Mt gT cst gnw (m + 2) y_R_lengthOf [.ref 27, .int x] (cW s (rW r tl), b0, b1, op) Q := by
  intro J hJ
  have loop : ∀ (j : Nat) (a y : Int32), chN r j y → J 4 [some (.ref 27), some (.int x), some (.int a), some (.int y)] [] (cW s (rW r tl), b0, b1, op) := by
    intro j
    induction j with
    | zero =>
      intro a y hy
      refine hJ _ _ _ _ ?_
      exact And.intro (fun _ => hQ _) (fun g => absurd hy g)
    | succ j ih =>
      intro a y hy
      obtain ⟨k, hk, rfl, h2⟩ := hy
      refine hJ _ _ _ _ ?_
      refine And.intro (fun (g : nI k < 0) => absurd g (nI_pos (by omega))) (fun _ => ?_)
      refine r_rest hk ?_
      exact ih _ _ h2
  refine hJ _ _ _ _ ?_
  exact loop n _ x hc
theorem chN_th {y : Int32} : ∀ (n : Nat) (x : Int32), chN r n x → chN (thR r y) n x
  | 0, x, h => h
  | n + 1, x, ⟨k, h1, h2, h3⟩ => ⟨k, h1, h2, chN_th n _ h3⟩
theorem chN_stk {H T : Nat → Vl} {ro : Nat → Bool} (hB : RB r H T) : ∀ (k : Sk) (v : Vl) (x : Int32), stk H T ro k v → rg r v x → chN r k.length x
  | [], v, x, h, hg => by
    have h : v = vNil := h
    subst h
    rcases hg with ⟨-, e⟩ | ⟨a, e, -⟩
    · rw [e]
      show (-1 : Int32) < 0
      decide
    · cases e
  | y :: k, v, x, h, hg => by
    obtain ⟨a, rfl, -, -, h⟩ := h
    obtain ⟨e, ua⟩ := rg_pr hg
    exact ⟨a, Ur_lt hB ua, e, chN_stk hB k _ _ h (rs_rg hB ua (isL_stk h))⟩
theorem chN_dmp {H T : Nat → Vl} {ro : Nat → Bool} {U : Nat → Prop} (hB : RB r H T) (hS : SI H T ro (Ur r)) : ∀ (f : Nat) (v : Vl) (e : En) (x : Int32), dmp H T ro f v e → rg r v x → ∃ n, chN r n x
  | 0, v, e, x, h, hg => by
    have h : v = vNil := h.2
    subst h
    rcases hg with ⟨-, e⟩ | ⟨a, e, -⟩
    · refine ⟨0, ?_⟩
      rw [e]
      show (-1 : Int32) < 0
      decide
    · cases e
  | f + 1, v, e, x, h, hg => by
    rcases h with ⟨e1, a, b, c, k, n, e', rfl, a1, a2, a3, a4, a5, a6, a7, a8, a9⟩ | ⟨k, n, a, e', e1, rfl, a1, a2, a3⟩
    · obtain ⟨ea, ua⟩ := rg_pr hg
      have ub := SI_tp hS ua a3
      have uc := SI_tp hS ub a6
      obtain ⟨j, hj⟩ := chN_dmp (U := U) hB hS f _ _ _ a9 (rs_rg hB uc (isL_dmx ⟨f, a9⟩))
      exact ⟨j + 3, a, Ur_lt hB ua, ea, b, Ur_lt hB ub, rs_pr hB ua a3, c, Ur_lt hB uc, rs_pr hB ub a6, hj⟩
    · obtain ⟨ea, ua⟩ := rg_pr hg
      obtain ⟨j, hj⟩ := chN_dmp (U := U) hB hS f _ _ _ a3 (rs_rg hB ua (isL_dmx ⟨f, a3⟩))
      exact ⟨j + 1, a, Ur_lt hB ua, ea, hj⟩
theorem chN_nil {x : Int32} (h : rg r vNil x) : ∃ n, chN r n x := by
  rcases h with ⟨-, e⟩ | ⟨a, e, -⟩
  · refine ⟨0, ?_⟩
    rw [e]
    show (-1 : Int32) < 0
    decide
  · cases e
theorem RMI_len (h : RMI r) : (∃ n, chN r n (r.reg 0)) ∧ ∃ n, chN r n (r.reg 3) := by
  rcases h.2 with ⟨-, -, H, T, hX⟩ | ⟨-, R, ⟨-, H, T, ro, hX, -⟩ | ⟨-, H, T, ro, S, E, C, D, k, n, b, e, hX, hT⟩⟩
  · exact ⟨chN_nil hX.2.1, chN_nil hX.2.2.2.2.1⟩
  · exact ⟨chN_nil hX.2.1, chN_nil hX.2.2.2.2.1⟩
  · obtain ⟨hS, ⟨uS, tS_⟩, -, -, ⟨uD, f, tD⟩, -⟩ := hT
    exact ⟨⟨_, chN_stk hX.1 k S _ tS_ hX.2.1⟩, chN_dmp (U := Ur r) hX.1 hS.1 f D _ _ tD hX.2.2.2.2.1⟩
theorem RMI_mp {mk : Nat → Bool} {pl : Nat → Nat} {n : Nat} (h : RMI r) : RMI (mpR r mk pl n) := ⟨⟨⟨mk, rfl⟩, h.1.2⟩, h.2⟩
theorem R_count {x : Int32} (hI : RMI r) (hQ : ∀ y r', ke r r' → RMI r' → Q (.inl (some (.int y)), (cW s (rW r' tl), b0, b1, op))) : mj_Mt gT cst gnw (m + 3) y_R_count [.ref 27, .int x] (cW s (rW r tl), b0, b1, op) Q := by
  obtain ⟨H, T, S, E, C, D, R, hX⟩ := RMI_RX hI
  have hz := hX.1.1.2
  obtain ⟨⟨n1, c1⟩, ⟨n2, c2⟩⟩ := RMI_len hI
  have k0 : ke r (thR r 0) := ⟨rfl, rfl, rfl, rfl, rfl⟩
  have h0 : RMI (thR r 0) := hI
  intro J hJ
  refine hJ _ _ _ _ ?_
  refine And.intro (fun _ => ?_) (fun _ => And.intro (fun _ => ?_) (fun _ => And.intro (fun _ => ?_) (fun _ => And.intro (fun _ => ?_) (fun _ => And.intro (fun _ => ?_) (fun _ => And.intro (fun _ => ?_) (fun _ => And.intro (fun _ => ?_) (fun _ => ?_)))))))
  · refine r_free (r := thR r 0) hz ?_
    exact hQ _ (thR r 0) k0 h0
  · refine R_reach (r := thR r 0) (H := H) (T := T) (S := S) (E := E) (C := C) (D := D) (R := R) hX hI.1.1 (fun c mk pl n _ _ _ _ _ _ _ => ?_)
    exact hQ _ (mpR (thR r 0) mk pl n) ⟨rfl, rfl, rfl, rfl, rfl⟩ (RMI_mp h0)
  · exact hQ _ (thR r 0) k0 h0
  · exact hQ _ (thR r 0) k0 h0
  · exact hQ _ (thR r 0) k0 h0
  · refine And.intro (in0 (by decide)) ?_
    refine R_lengthOf (r := thR r 0) (n := n1) (chN_th _ _ c1) (fun y => ?_)
    exact hQ _ (thR r 0) k0 h0
  · refine And.intro i53 ?_
    refine R_lengthOf (r := thR r 0) (n := n2) (chN_th _ _ c2) (fun y => ?_)
    exact hQ _ (thR r 0) k0 h0
  · exact hQ _ (thR r 0) k0 h0
def s1R (r : rM) : rM := ((((r.s_state 1).s_collections 0).s_takenBack 0).s_steps 0)
theorem R_start (hI : RMI r) (h0 : r.program = 0 → Q (.inl (some (.int 0)), (cW s (rW (thR r 0) tl), b0, b1, op))) (h1 : ∀ r', ¬ r.program = 0 → ke r r' → RMI r' → r'.state = 1 → Q (.inl (some (.int 1)), (cW s (rW r' tl), b0, b1, op))) : mj_Mt gT cst gnw (m + 4) y_R_start [.ref 27] (cW s (rW r tl), b0, b1, op) Q := by
  intro J hJ
  refine hJ _ _ _ _ ?_
  refine And.intro (fun (g : ¬ r.program = 0) => ?_) (fun (g : r.program = 0) => And.intro (Or.inl rfl) (h0 g))
  have hr : ∃ (H T : Nat → Vl) (ro : Nat → Bool) (S E C D R : Vl), RX r H T S E C D R ∧ TS H T ro (Ur r) R := by
    rcases hI.2 with ⟨w, -⟩ | ⟨-, R, ⟨-, H, T, ro, hX, hT⟩ | ⟨-, H, T, ro, S, E, C, D, k, n, b, e, hX, hT⟩⟩
    · exact absurd w g
    · exact ⟨H, T, ro, _, _, _, _, R, hX, hT⟩
    · exact ⟨H, T, ro, _, _, _, _, R, hX, hT.1⟩
  obtain ⟨H, T, ro, S, E, C, D, R, ⟨hB, -, -, -, -, x4⟩, hT⟩ := hr
  have loop : ∀ (j k : Nat) (f : Nat → Int32), j + k = 4 → (∀ i, i < k → f i = -1) → f 4 = r.reg 4 → J 10 [some (.ref 27), some (.int (nI k))] [] (cW s (rW (sR (thR r 0) f) tl), b0, b1, op) := by
    intro j
    induction j with
    | zero =>
      intro k f hk hf h4
      obtain rfl : k = 4 := by omega
      refine hJ _ _ _ _ ?_
      refine And.intro (fun _ => ?_) (fun (w : ¬ (4 : Int32) ≤ nI 4) => absurd (by decide) w)
      have n : ∀ i, i < 4 → rg (sR (thR r 0) f) vNil ((sR (thR r 0) f).reg i) := fun i hi => Or.inl ⟨rfl, hf i hi⟩
      have hX1 : RX (sR (thR r 0) f) H T vNil vNil vNil vNil R := ⟨hB, n 0 (by decide), n 1 (by decide), n 2 (by decide), n 3 (by decide), by
        show rg _ R (f 4)
        rw [h4]
        exact x4⟩
      refine R_sweep hX1 hI.1.1 (fun nn r' hnn q1 q2 q3 q4 q5 q6 q7 q8 q9 q10 => ?_)
      have hke := kc_ke q1
      have i54 : vp_in 4 5 := vp_in_nI (show 4 < 5 by decide) (by decide)
      refine And.intro i54 ?_
      refine And.intro i52 ?_
      have hT' : TS H T ro (Ur r') R := ⟨SI_sub hT.1 q8 q9, q10.2.2.2.2, hT.2.2⟩
      obtain ⟨hB', y0, y1, y2, y3, y4⟩ := q7
      have e : r'.reg 0 = -1 ∧ r'.reg 1 = -1 ∧ r'.reg 3 = -1 := by
        rw [q4]
        exact ⟨hf 0 (by decide), hf 1 (by decide), hf 3 (by decide)⟩
      have h3 : RMI (s1R (sR r' (upd r'.reg 2 (r'.reg 4)))) := by
        refine ⟨⟨q2, ?_⟩, Or.inr ⟨?_, R, Or.inr ⟨Or.inl rfl, H, T, ro, vNil, vNil, R, vNil, [], 0, false, eStop, ⟨hB', y0, y1, y4, y3, y4⟩, TI_start hT'⟩⟩⟩
        · obtain ⟨n, hn, en⟩ := hI.1.2
          exact ⟨n, hn, q5.2.2.2.1.trans en⟩
        · show ¬ r'.program = 0
          rw [hke.2.2.2.2]
          exact g
      refine And.intro (fun (w : nI nn < 0) => absurd w (nI_pos (by omega))) (fun _ => ?_)
      exact And.intro (Or.inr rfl) (h1 (s1R (sR r' (upd r'.reg 2 (r'.reg 4)))) g hke h3 rfl)
    | succ j ih =>
      intro k f hk hf h4
      refine hJ _ _ _ _ ?_
      refine And.intro (fun (w : (4 : Int32) ≤ nI k) => absurd w (nI_ge (b := 4) (by omega) (by decide))) (fun _ => ?_)
      refine And.intro (vp_in_nI (show k < 5 by omega) (by decide)) ?_
      have key : ∀ (i : Nat) (y : Int32), i = k → y = nI (k + 1) → J 10 [some (.ref 27), some (.int y)] [] (cW s (rW (sR (thR r 0) (upd f i (-1))) tl), b0, b1, op) := by
        rintro i y rfl rfl
        refine ih (i + 1) _ (by omega) (fun a ha => ?_) ?_
        · unfold upd
          split
          · rfl
          · exact hf a (by omega)
        · unfold upd
          rw [if_neg (by omega)]
          exact h4
      exact key _ _ (nI_clamp (by omega)) (nI_succ k).symm
  exact loop 4 0 r.reg (by omega) (fun i hi => absurd hi (Nat.not_lt_zero i)) rfl
end RCL
