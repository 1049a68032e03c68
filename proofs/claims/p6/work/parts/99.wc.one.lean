section RC
variable {cst : Nat → Option (Nat × (Nat → Int32))} {m b0 b1 : Nat} {op : Bool} {tl : List mj_O} {Q : mj_R → Prop} {s : cS} {r : rM} {H T : Nat → Vl} {S E C D R C' : Vl}
set_option maxRecDepth 10000
theorem rv_int {v : Vl} {kd x : Int32} (h : rv r v kd x) : kd = 1 ↔ kV v = 1 := by
  rcases v with u | y | y | i | i
  · rw [h.1]
    exact ⟨fun q => absurd q (by decide), fun q => absurd q (show ¬ 0 = 1 by decide)⟩
  · rw [h.1]
    exact ⟨fun _ => rfl, fun _ => rfl⟩
  · rw [h.1]
    exact ⟨fun q => absurd q (by decide), fun q => absurd q (show ¬ 2 = 1 by decide)⟩
  · rw [h.1]
    exact ⟨fun q => absurd q (by decide), fun q => absurd q (show ¬ 3 = 1 by decide)⟩
  · rw [h.1]
    exact ⟨fun q => absurd q (by decide), fun q => absurd q (show ¬ 4 = 1 by decide)⟩
theorem rv_int2 {v : Vl} {kd x : Int32} (h : rv r v kd x) (e : kV v = 1) : v = vInt x := by
  rcases v with u | y | y | i | i
  · cases e
  · rw [h.2]
  · cases e
  · cases e
  · cases e
theorem rv_pair {v : Vl} {kd x : Int32} (h : rv r v kd x) : (kV v = 3 ∧ ∃ k, v = vPr k ∧ kd = 3 ∧ x = nI k ∧ Ur r k ∧ r.function k = 0) ∨ (¬ kV v = 3 ∧ (¬ kd = 3 ∨ ∃ k, kd = 3 ∧ x = nI k ∧ Ur r k ∧ ¬ r.function k = 0)) := by
  rcases v with u | y | y | i | i
  · exact Or.inr ⟨by show ¬ 0 = 3; decide, Or.inl (by rw [h.1]; decide)⟩
  · exact Or.inr ⟨by show ¬ 1 = 3; decide, Or.inl (by rw [h.1]; decide)⟩
  · exact Or.inr ⟨by show ¬ 2 = 3; decide, Or.inl (by rw [h.1]; decide)⟩
  · exact Or.inl ⟨rfl, i, rfl, h⟩
  · exact Or.inr ⟨by show ¬ 4 = 3; decide, Or.inr ⟨i, h⟩⟩
theorem R_wrong {r1 r' : rM} (hX : RX r H T S E C D R) (s1 : sm r r1) (g1 : r1.reg = r.reg) (c1 : kp r1 r') (c2 : r'.state = 3) (c3 : upR r1 r') (c4 : Ur r' = Ur r1) (c5 : r'.reg = r1.reg) (c6 : ∀ H T, RB r1 H T → RB r' H T) : kp r r' ∧ r'.state = 3 ∧ RX r' H T S E C D R ∧ Ur r' = Ur r := by
  obtain ⟨hB, x0, x1, x2, x3, x4⟩ := hX
  have hu := up_tr (sm_up s1) c3
  have e := c5.trans g1
  refine ⟨kp_tr s1.1 c1, c2, ⟨c6 H T (sm_RB s1 hB), by rw [e]; exact rg_up hu x0, by rw [e]; exact rg_up hu x1, by rw [e]; exact rg_up hu x2, by rw [e]; exact rg_up hu x3, by rw [e]; exact rg_up hu x4⟩, c4.trans (sm_Ur s1)⟩
theorem R_choose {a d q : Nat} {y : Int32} (hX : RX r H T (vPr a) E C D R) (hf : 1 ≤ fz r) (lT : isL_ (T a)) (ey : y = nI d) (ud : Ur r d) (e1 : T d = vPr q) (uq : Ur r q) (lq : isL_ (T q)) (l1 : isL_ (H d)) (l2 : isL_ (H q))
    (h1 : ∀ r', kp r r' → r'.state = 3 → RX r' H T (vPr a) E C D R → Ur r' = Ur r → ¬ kV (H a) = 1 → Q (.inl none, (cW s (rW r' tl), b0, b1, op)))
    (h2 : ∀ k r' x, ¬ Ur r k → kp r r' → r'.state = r.state → H a = vInt x → RX r' (upW H k (T q)) (upW T k D) (T a) E (if x = 0 then H q else H d) (vPr k) R → Ur r' = addU (Ur r) k → Q (.inl none, (cW s (rW r' tl), b0, b1, op))) :
    mj_Mt gT cst gnw (m + 3) y_R_choose [.ref 27, .int y] (cW s (rW r tl), b0, b1, op) Q := by
  subst ey
  have hX0 := hX
  obtain ⟨hB, x0, x1, x2, x3, x4⟩ := hX
  obtain ⟨a', ea, h0, ua, -⟩ := x0.resolve_left (fun q => by cases q.1)
  cases ea
  have hz := hB.1.2
  have hv := (hB.2.1 a ua).1
  intro J hJ
  refine hJ _ _ _ _ ?_
  refine R_peek0 (Ur_lt hB ua) h0 (fun r1 s1 g1 g2 g3 => ?_)
  have hB1 := sm_RB s1 hB
  have v1 : ∀ {a}, Ur r a → Ur r1 a := fun h => by rw [sm_Ur s1]; exact h
  refine And.intro (fun (w : r1.gotKind = 1) => ?_) (fun (w : ¬ r1.gotKind = 1) => ?_)
  · rw [g2] at w
    have hi := (rv_int hv).mp w
    have hx := rv_int2 hv hi
    refine R_drop (Ur_lt hB ua) (by rw [g1]; exact h0) (fun r2 s2 g4 g5 g6 => ?_)
    have s12 := sm_tr s1 s2
    have hB2 := sm_RB s12 hB
    have v2 : ∀ {a}, Ur r a → Ur r2 a := fun h => by rw [sm_Ur s12]; exact h
    rw [g1] at g4
    refine R_rest rfl (Ur_lt hB ud) ?_
    refine R_rest (rs_pr hB2 (v2 ud) e1) (Ur_lt hB uq) ?_
    refine And.intro i53 ?_
    refine R_makeOf (h := T q) (t := D) hB2 (by rw [sm_fz s12]; exact hf) (rs_rg hB2 (v2 uq) lq) (by rw [g4]; exact sm_rg s12 x3) (fun k r3 hm g7 g8 => ?_)
    obtain ⟨⟨m1, -⟩, ⟨m2, m3, m4⟩, m5, m6, m7, m8⟩ := hm
    rw [sm_Ur s12] at m1 m6
    have g9 : r3.got = r.head a := g8.trans (g6.trans g3)
    refine And.intro i53 ?_
    change mj_sg _ _ _ _ _ _ _ _ _ _ _ _ (cW s (rW (sR r3 (upd r3.reg 3 (nI k))) tl), b0, b1, op)
    have hu3 := up_tr (sm_up s12) m4
    have k1 : ∀ i, hlN (sR r3 (upd r3.reg 3 (nI k))) i = hlN r3 i := fun _ => rfl
    have fin : ∀ (V : Vl) (w : Int32), rg r3 V w → (V = if r.head a = 0 then H q else H d) → Q (.inl none, (cW s (rW (sR r3 (upd (upd r3.reg 3 (nI k)) 2 w)) tl), b0, b1, op)) := by
      intro V w hV eV
      have h9 := h2 k (sR r3 (upd (upd r3.reg 3 (nI k)) 2 w)) (r.head a) m1 (kp_tr (kp_tr s12.1 m2) kp_sR) (m3.trans s12.2.1) hx
      rw [← eV] at h9
      refine h9 ?_ (by rw [← m6]; exact sm_Ur sm_sR)
      refine ⟨sm_RB sm_sR m5, ?_, ?_, ?_, ?_, ?_⟩
      · show rg _ _ (r3.reg 0)
        rw [g7, g4]
        refine sm_rg sm_sR (rg_up hu3 ?_)
        show rg r (T a) (rsN r1 a)
        rw [sm_rs s1]
        exact rs_rg hB ua lT
      · show rg _ _ (r3.reg 1)
        rw [g7, g4]
        exact sm_rg sm_sR (rg_up hu3 x1)
      · exact sm_rg sm_sR hV
      · exact sm_rg sm_sR m8
      · show rg _ _ (r3.reg 4)
        rw [g7, g4]
        exact sm_rg sm_sR (rg_up hu3 x4)
    have mk : ∀ i, Ur r i → isL_ (H i) → rg r3 (H i) (hlN r3 i) := by
      intro i ui hi
      have hne : ¬ i = k := fun e => m1 (e ▸ ui)
      have e9 : upW H k (T q) i = H i := if_neg hne
      have q1 := hl_rg m5 (hu3.2 i ui).1 (by rw [e9]; exact hi)
      rw [e9] at q1
      exact q1
    refine And.intro (fun (w : (sR r3 (upd r3.reg 3 (nI k))).got = 0) => ?_) (fun (w : ¬ (sR r3 (upd r3.reg 3 (nI k))).got = 0) => ?_)
    · have w2 : r.head a = 0 := g9.symm.trans w
      refine R_headList (rs_pr hB2 (v2 ud) e1) (Ur_lt hB uq) ?_
      refine And.intro i52 ?_
      exact fin (H q) _ (mk q uq l2) (by rw [if_pos w2])
    · have w2 : ¬ r.head a = 0 := fun e => w (g9.trans e)
      refine R_headList rfl (Ur_lt hB ud) ?_
      refine And.intro i52 ?_
      exact fin (H d) _ (mk d ud l1) (by rw [if_neg w2])
  · refine R_stop (fun r' c1 c2 c3 c4 c5 c6 => ?_)
    obtain ⟨w1, w2, w3, w4⟩ := R_wrong hX0 s1 g1 c1 c2 c3 c4 c5 c6
    exact h1 r' w1 w2 w3 w4 (fun e => w (by rw [g2]; exact (rv_int hv).mpr e))
theorem R_ofOne {a : Nat} {i y : Int32} (hi : i = 10 ∨ i = 11 ∨ i = 12) (hX : RX r H T (vPr a) E C D R) (hf : 1 ≤ fz r) (lT : isL_ (T a)) (hC : rg r C' y)
    (h1 : ∀ r', kp r r' → r'.state = 3 → RX r' H T (vPr a) E C D R → Ur r' = Ur r → ¬ i = 12 → ¬ kV (H a) = 3 → Q (.inl none, (cW s (rW r' tl), b0, b1, op)))
    (h2 : ∀ k r' w, ¬ Ur r k → kp r r' → r'.state = r.state → ((i = 10 ∧ kV (H a) = 3 ∧ w = ofV H (H a)) ∨ (i = 11 ∧ kV (H a) = 3 ∧ w = ofV T (H a)) ∨ (i = 12 ∧ w = vInt (if kV (H a) = 3 then 0 else 1))) → RX r' (upW H k w) (upW T k (T a)) (vPr k) E C' D R → Ur r' = addU (Ur r) k → Q (.inl none, (cW s (rW r' tl), b0, b1, op))) :
    mj_Mt gT cst gnw (m + 3) y_R_ofOne [.ref 27, .int i, .int y] (cW s (rW r tl), b0, b1, op) Q := by
  have hX0 := hX
  obtain ⟨hB, x0, x1, x2, x3, x4⟩ := hX
  obtain ⟨a', ea, h0, ua, -⟩ := x0.resolve_left (fun q => by cases q.1)
  cases ea
  have hz := hB.1.2
  have hv := (hB.2.1 a ua).1
  intro J hJ
  refine hJ _ _ _ _ ?_
  refine R_peek0 (Ur_lt hB ua) h0 (fun r1 s1 g1 g2 g3 => ?_)
  have hB1 := sm_RB s1 hB
  have v1 : ∀ {a}, Ur r a → Ur r1 a := fun h => by rw [sm_Ur s1]; exact h
  have fin : ∀ (r2 : rM) (w : Vl) (kd x : Int32), sm r r2 → r2.reg = upd r.reg 0 (rsN r a) → rv r w kd x → ((i = 10 ∧ kV (H a) = 3 ∧ w = ofV H (H a)) ∨ (i = 11 ∧ kV (H a) = 3 ∧ w = ofV T (H a)) ∨ (i = 12 ∧ w = vInt (if kV (H a) = 3 then 0 else 1))) → ∀ Q' : mj_R → Prop, (∀ r3, (∀ r4, r4 = sR r3 (upd r3.reg 2 y) → Q (.inl none, (cW s (rW r4 tl), b0, b1, op))) → Q' (.inl none, (cW s (rW r3 tl), b0, b1, op))) → mj_Mt gT cst gnw (m + 2) y_R_push [.ref 27, .int kd, .int x] (cW s (rW r2 tl), b0, b1, op) Q' := by
    intro r2 w kd x s2 g4 hw hc Q' hQ'
    refine R_push (S := T a) (h := w) (sm_RB s2 hB) (by rw [sm_fz s2]; exact hf) (sm_rv s2 hw) (by rw [g4]; exact sm_rg s2 (rs_rg hB ua lT)) (fun k r3 hm g5 => ?_)
    obtain ⟨⟨m1, -⟩, ⟨m2, m3, m4⟩, m5, m6, m7, m8⟩ := hm
    rw [sm_Ur s2] at m1 m6
    refine hQ' r3 (fun r4 e4 => ?_)
    subst e4
    refine h2 k _ w m1 (kp_tr (kp_tr s2.1 m2) kp_sR) (m3.trans s2.2.1) hc ?_ (by rw [← m6]; exact sm_Ur sm_sR)
    exact RX_up (r := r) (x0 := nI k) (x1 := r.reg 1) (x2 := y) (x3 := r.reg 3) (x4 := r.reg 4) (sm_RB sm_sR m5) (up_tr (sm_up s2) (up_tr m4 (sm_up sm_sR))) (sm_rg sm_sR m8) x1 hC x3 x4 (by show upd r3.reg 2 y 0 = nI k; rw [g5]; rfl) (by show upd r3.reg 2 y 1 = _; rw [g5, g4]; rfl) rfl (by show upd r3.reg 2 y 3 = _; rw [g5, g4]; rfl) (by show upd r3.reg 2 y 4 = _; rw [g5, g4]; rfl)
  have mid : ∀ F : Nat, (¬ i = 12 → kV (H a) = 3) → mj_sg (mj_Mt gT cst gnw (m + 2)) cst gnw (mj_hd (mj_off kO_R_ofOne) kH_R_ofOne) kC_R_ofOne J Q (F + 100) false 13 [some (.ref 27), some (.int i), some (.int y), none, none] [] (cW s (rW r1 tl), b0, b1, op) := by
    intro F hk
    have hg : r1.gotKind = 3 → ∃ k, k < 250 ∧ r1.got = nI k := by
      intro w
      rw [g2] at w
      obtain ⟨j, hj, ej⟩ := rv_raw hv w
      exact ⟨j, by omega, by rw [g3, ej]⟩
    refine r_isPair hg (fun k w1 w2 w3 w4 => ?_) (fun w => ?_)
    · have hw : kV (H a) = 3 ∧ H a = vPr k ∧ Ur r k := by
        rcases rv_pair hv with ⟨p1, j, p2, p3, p4, p5, p6⟩ | ⟨p1, p2⟩
        · have e : k = j := nIj (by omega) (by have := p5.1; omega) (by rw [← w2, g3, p4])
          subst e
          exact ⟨p1, p2, p5⟩
        · exfalso
          rcases p2 with p2 | ⟨j, p2, p3, p4, p5⟩
          · exact p2 (by rw [← g2]; exact w1)
          · have e : k = j := nIj (by omega) (by have := p4.1; omega) (by rw [← w2, g3, p3])
            subst e
            rw [s1.2.2.1.2] at w4
            exact p5 w4
      obtain ⟨hk3, eH, uk⟩ := hw
      refine R_drop (Ur_lt hB ua) (by rw [g1]; exact h0) (fun r2 s2 g4 g5 g6 => ?_)
      have s12 := sm_tr s1 s2
      have g7 : r2.reg = upd r.reg 0 (rsN r a) := by rw [g4, g1, sm_rs s1]
      have ec : r1.got.toNatClampNeg = k := by rw [w2]; exact nI_clamp (by omega)
      have hin : vp_in r1.got 250 := by rw [w2]; exact vp_in_nI w3 (by decide)
      rcases hi with rfl | rfl | rfl
      · refine And.intro (fun (g : ¬ (10 : Int32) = 10) => absurd rfl g) (fun _ => ?_)
        refine And.intro hin (And.intro hin ?_)
        refine fin r2 (ofV H (H a)) _ _ s12 g7 ?_ (Or.inl ⟨rfl, hk3, rfl⟩) _ (fun r3 h4 => ?_)
        · rw [ec, s12.2.2.2.1.1, s12.2.2.2.1.2, eH]
          exact (hB.2.1 k uk).1
        · exact And.intro i52 (h4 _ rfl)
      · refine And.intro (fun _ => ?_) (fun (g : (11 : Int32) = 10) => absurd g (by decide))
        refine And.intro (fun (g : ¬ (11 : Int32) = 11) => absurd rfl g) (fun _ => ?_)
        refine And.intro hin (And.intro hin ?_)
        refine fin r2 (ofV T (H a)) _ _ s12 g7 ?_ (Or.inr (Or.inl ⟨rfl, hk3, rfl⟩)) _ (fun r3 h4 => ?_)
        · rw [ec, s12.2.2.2.2.1, s12.2.2.2.2.2, eH]
          exact (hB.2.1 k uk).2
        · exact And.intro i52 (h4 _ rfl)
      · refine And.intro (fun _ => ?_) (fun (g : (12 : Int32) = 10) => absurd g (by decide))
        refine And.intro (fun _ => ?_) (fun (g : (12 : Int32) = 11) => absurd g (by decide))
        refine And.intro (fun (g : (1 : Int32) = 0) => absurd g (by decide)) (fun _ => ?_)
        refine fin r2 (vInt 0) _ _ s12 g7 ⟨rfl, rfl⟩ (Or.inr (Or.inr ⟨rfl, by rw [if_pos hk3]⟩)) _ (fun r3 h4 => ?_)
        exact And.intro i52 (h4 _ rfl)
    · have hk3 : ¬ kV (H a) = 3 := by
        intro p1
        rcases rv_pair hv with ⟨-, j, p2, p3, p4, p5, p6⟩ | ⟨p2, -⟩
        · rcases w with w | ⟨k, w1, w2, w3⟩
          · exact w (by rw [g2]; exact p3)
          · have e : k = j := nIj (by omega) (by have := p5.1; omega) (by rw [← w2, g3, p4])
            subst e
            rw [s1.2.2.1.2] at w3
            exact w3 p6
        · exact p2 p1
      have e12 : i = 12 := by
        by_cases e : i = 12
        · exact e
        · exact absurd (hk e) hk3
      subst e12
      refine R_drop (Ur_lt hB ua) (by rw [g1]; exact h0) (fun r2 s2 g4 g5 g6 => ?_)
      have s12 := sm_tr s1 s2
      have g7 : r2.reg = upd r.reg 0 (rsN r a) := by rw [g4, g1, sm_rs s1]
      refine And.intro (fun _ => ?_) (fun (g : (12 : Int32) = 10) => absurd g (by decide))
      refine And.intro (fun _ => ?_) (fun (g : (12 : Int32) = 11) => absurd g (by decide))
      refine And.intro (fun _ => ?_) (fun (g : ¬ (0 : Int32) = 0) => absurd rfl g)
      refine fin r2 (vInt 1) _ _ s12 g7 ⟨rfl, rfl⟩ (Or.inr (Or.inr ⟨rfl, by rw [if_neg hk3]⟩)) _ (fun r3 h4 => ?_)
      exact And.intro i52 (h4 _ rfl)
  refine And.intro (fun (w : (12 : Int32) ≤ i) => ?_) (fun (w : ¬ (12 : Int32) ≤ i) => ?_)
  · refine mid _ (fun e => ?_)
    rcases hi with rfl | rfl | rfl
    · exact absurd w (by decide)
    · exact absurd w (by decide)
    · exact absurd rfl e
  · have n12 : ¬ i = 12 := fun e => w (by rw [e]; decide)
    have hg : r1.gotKind = 3 → ∃ k, k < 250 ∧ r1.got = nI k := by
      intro w
      rw [g2] at w
      obtain ⟨j, hj, ej⟩ := rv_raw hv w
      exact ⟨j, by omega, by rw [g3, ej]⟩
    refine r_isPair hg (fun k w1 w2 w3 w4 => ?_) (fun w => ?_)
    · refine And.intro (fun _ => ?_) (fun (g : (1 : Int32) = 0) => absurd g (by decide))
      refine mid _ (fun _ => ?_)
      rcases rv_pair hv with ⟨p1, -⟩ | ⟨p1, p2⟩
      · exact p1
      · exfalso
        rcases p2 with p2 | ⟨j, p2, p3, p4, p5⟩
        · exact p2 (by rw [← g2]; exact w1)
        · have e : k = j := nIj (by omega) (by have := p4.1; omega) (by rw [← w2, g3, p3])
          subst e
          rw [s1.2.2.1.2] at w4
          exact p5 w4
    · refine And.intro (fun (g : ¬ (0 : Int32) = 0) => absurd rfl g) (fun _ => ?_)
      refine R_stop (fun r' c1 c2 c3 c4 c5 c6 => ?_)
      obtain ⟨w1, w2, w3, w4⟩ := R_wrong hX0 s1 g1 c1 c2 c3 c4 c5 c6
      refine h1 r' w1 w2 w3 w4 n12 (fun p1 => ?_)
      rcases rv_pair hv with ⟨-, j, p2, p3, p4, p5, p6⟩ | ⟨p2, -⟩
      · rcases w with w | ⟨k, w1, w2, w3⟩
        · exact w (by rw [g2]; exact p3)
        · have e : k = j := nIj (by omega) (by have := p5.1; omega) (by rw [← w2, g3, p4])
          subst e
          rw [s1.2.2.1.2] at w3
          exact w3 p6
      · exact p2 p1
end RC
