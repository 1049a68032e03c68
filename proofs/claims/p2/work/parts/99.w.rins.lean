def kp (r r' : rM) : Prop := (r'.z = r.z ∧ r'.typed = r.typed ∧ r'.text = r.text ∧ r'.error = r.error ∧ r'.program = r.program) ∧ (r'.collections = r.collections ∧ r'.takenBack = r.takenBack ∧ r'.steps = r.steps ∧ r'.shown = r.shown ∧ r'.show_ = r.show_)
def RX (r : rM) (H T : Nat → Vl) (S E C D R : Vl) : Prop := RB r H T ∧ rg r S (r.reg 0) ∧ rg r E (r.reg 1) ∧ rg r C (r.reg 2) ∧ rg r D (r.reg 3) ∧ rg r R (r.reg 4)
def sR (r : rM) (f : Nat → Int32) : rM := (r.s_reg f)
def gR (r : rM) (a b : Int32) : rM := ((r.s_gotKind a).s_got b)
def stR (r : rM) (x : Int32) : rM := (r.s_state x)
section RI
variable {cst : Nat → Option (Nat × (Nat → Int32))} {m b0 b1 : Nat} {op : Bool} {tl : List mj_O} {Q : mj_R → Prop} {s : cS} {r : rM} {H T : Nat → Vl} {S E C D R : Vl}
set_option maxRecDepth 10000
theorem i51 : vp_in 1 5 := vp_in_nI (show 1 < 5 by decide) (by decide)
theorem i52 : vp_in 2 5 := vp_in_nI (show 2 < 5 by decide) (by decide)
theorem i53 : vp_in 3 5 := vp_in_nI (show 3 < 5 by decide) (by decide)
theorem Ur_lt (hB : RB r H T) {a : Nat} (u : Ur r a) : a < 250 := Nat.lt_of_lt_of_le u.1 hB.1.2
theorem R_rest {k : Nat} {x : Int32} (hx : x = nI k) (hk : k < 250) (hQ : Q (.inl (some (.int (rsN r k))), (cW s (rW r tl), b0, b1, op))) : mj_Mt gT cst gnw (m + 1) y_R_rest [.ref 27, .int x] (cW s (rW r tl), b0, b1, op) Q := by
  subst hx
  exact r_rest hk hQ
theorem R_headList {k : Nat} {x : Int32} (hx : x = nI k) (hk : k < 250) (hQ : Q (.inl (some (.int (hlN r k))), (cW s (rW r tl), b0, b1, op))) : mj_Mt gT cst gnw (m + 1) y_R_headList [.ref 27, .int x] (cW s (rW r tl), b0, b1, op) Q := by
  subst hx
  exact r_headList hk hQ
theorem R_make {a b c : Int32} (hz : r.z ≤ 250) (hz1 : 1 ≤ r.z) (hQ : ∀ k, k = ffN r.used (r.z - 1) 0 → Q (.inl (some (.int (nI k))), (cW s (rW (mkR r k a b c) tl), b0, b1, op))) : mj_Mt gT cst gnw (m + 1) y_R_make [.ref 27, .int a, .int b, .int c] (cW s (rW r tl), b0, b1, op) Q := r_make hz hz1 hQ
theorem R_makeOf {b c : Int32} (hz : r.z ≤ 250) (hz1 : 1 ≤ r.z) (hQ : ∀ k, k = ffN r.used (r.z - 1) 0 → Q (.inl (some (.int (nI k))), (cW s (rW (mkR r k (if b < 0 then 0 else 3) (if b < 0 then 0 else b) c) tl), b0, b1, op))) : mj_Mt gT cst gnw (m + 2) y_R_makeOf [.ref 27, .int b, .int c] (cW s (rW r tl), b0, b1, op) Q := r_makeOf hz hz1 hQ
theorem R_peek0 {k : Nat} (hk : k < 250) (h0 : r.reg 0 = nI k) (hQ : Q (.inl none, (cW s (rW (gR r (r.headKind k) (r.head k)) tl), b0, b1, op))) : mj_Mt gT cst gnw (m + 2) y_R_peek [.ref 27, .int 0] (cW s (rW r tl), b0, b1, op) Q := r_peek0 hk h0 hQ
theorem R_peek1 {k j : Nat} (hk : k < 250) (hj : j < 250) (h0 : r.reg 0 = nI j) (h1 : rsN r j = nI k) (hQ : Q (.inl none, (cW s (rW (gR r (r.headKind k) (r.head k)) tl), b0, b1, op))) : mj_Mt gT cst gnw (m + 2) y_R_peek [.ref 27, .int 1] (cW s (rW r tl), b0, b1, op) Q := r_peek1 hk hj h0 h1 hQ
theorem R_drop {j : Nat} (hj : j < 250) (h0 : r.reg 0 = nI j) (hQ : Q (.inl none, (cW s (rW (sR r (upd r.reg 0 (rsN r j))) tl), b0, b1, op))) : mj_Mt gT cst gnw (m + 2) y_R_drop [.ref 27] (cW s (rW r tl), b0, b1, op) Q := r_drop hj h0 hQ
theorem R_push {a b : Int32} (hz : r.z ≤ 250) (hz1 : 1 ≤ r.z) (hQ : ∀ k, k = ffN r.used (r.z - 1) 0 → Q (.inl none, (cW s (rW (sR (mkR r k a b (r.reg 0)) (upd r.reg 0 (nI k))) tl), b0, b1, op))) : mj_Mt gT cst gnw (m + 2) y_R_push [.ref 27, .int a, .int b] (cW s (rW r tl), b0, b1, op) Q := r_push hz hz1 hQ
theorem R_stop {x : Int32} (hQ : Q (.inl none, (cW s (rW (stR r x) tl), b0, b1, op))) : mj_Mt gT cst gnw (m + 1) y_R_stop [.ref 27, .int x] (cW s (rW r tl), b0, b1, op) Q := r_stop hQ
theorem RX_up {r' : rM} {H' T' : Nat → Vl} (hB : RB r' H' T') (hu : upR r r') {x0 x1 x2 x3 x4 : Int32} (h0 : rg r' S x0) (h1 : rg r E x1) (h2 : rg r C x2) (h3 : rg r D x3) (h4 : rg r R x4) (e0 : r'.reg 0 = x0) (e1 : r'.reg 1 = x1) (e2 : r'.reg 2 = x2) (e3 : r'.reg 3 = x3) (e4 : r'.reg 4 = x4) : RX r' H' T' S E C D R := by
  subst e0 e1 e2 e3 e4
  exact ⟨hB, h0, rg_up hu h1, rg_up hu h2, rg_up hu h3, rg_up hu h4⟩
theorem R_comeBack {a d1 d2 d3 : Nat} (hB : RB r H T) (hf : 1 ≤ fz r) (h0 : r.reg 0 = nI a) (ua : Ur r a) (h3 : r.reg 3 = nI d1) (u1 : Ur r d1) (e1 : T d1 = vPr d2) (u2 : Ur r d2) (e2 : T d2 = vPr d3) (u3 : Ur r d3) (l1 : isL_ (H d1)) (l2 : isL_ (H d2)) (l3 : isL_ (H d3)) (l4 : isL_ (T d3)) (h4 : rg r R (r.reg 4))
    (hQ : ∀ k r', ¬ Ur r k → kp r r' → r'.state = r.state → RX r' (upW H k (H a)) (upW T k (H d1)) (vPr k) (H d2) (H d3) (T d3) R → Ur r' = addU (Ur r) k → Q (.inl none, (cW s (rW r' tl), b0, b1, op))) : mj_Mt gT cst gnw (m + 3) y_R_comeBack [.ref 27] (cW s (rW r tl), b0, b1, op) Q := by
  have hz := hB.1.2
  intro J hJ
  refine hJ _ _ _ _ ?_
  refine R_peek0 (Ur_lt hB ua) h0 ?_
  refine And.intro i53 ?_
  refine R_headList h3 (Ur_lt hB u1) ?_
  refine And.intro (in0 (by decide)) ?_
  change mj_sg _ _ _ _ _ _ _ _ _ _ _ _ (cW s (rW (sR (gR r (r.headKind a) (r.head a)) (upd r.reg 0 (hlN r d1))) tl), b0, b1, op)
  refine R_rest h3 (Ur_lt hB u1) ?_
  refine R_headList (rs_pr hB u1 e1) (Ur_lt hB u2) ?_
  refine And.intro i51 ?_
  change mj_sg _ _ _ _ _ _ _ _ _ _ _ _ (cW s (rW (sR (gR r (r.headKind a) (r.head a)) (upd (upd r.reg 0 (hlN r d1)) 1 (hlN r d2))) tl), b0, b1, op)
  refine R_rest (rs_pr hB u1 e1) (Ur_lt hB u2) ?_
  refine R_headList (rs_pr hB u2 e2) (Ur_lt hB u3) ?_
  refine And.intro i52 ?_
  change mj_sg _ _ _ _ _ _ _ _ _ _ _ _ (cW s (rW (sR (gR r (r.headKind a) (r.head a)) (upd (upd (upd r.reg 0 (hlN r d1)) 1 (hlN r d2)) 2 (hlN r d3))) tl), b0, b1, op)
  refine R_rest (rs_pr hB u2 e2) (Ur_lt hB u3) ?_
  refine And.intro i53 ?_
  change mj_sg _ _ _ _ _ _ _ _ _ _ _ _ (cW s (rW (sR (gR r (r.headKind a) (r.head a)) (upd (upd (upd (upd r.reg 0 (hlN r d1)) 1 (hlN r d2)) 2 (hlN r d3)) 3 (rsN r d3))) tl), b0, b1, op)
  refine R_push (r := sR (gR r (r.headKind a) (r.head a)) (upd (upd (upd (upd r.reg 0 (hlN r d1)) 1 (hlN r d2)) 2 (hlN r d3)) 3 (rsN r d3))) hz hB.1.1 (fun k hk => ?_)
  obtain ⟨m1, m2, m3, m4, m5, m6, m7⟩ := mk_ok (c := hlN r d1) hB hf hk (hB.2.1 a ua).1 (hl_rg hB u1 l1)
  refine hQ k _ m1 ⟨⟨rfl, rfl, rfl, rfl, rfl⟩, rfl, rfl, rfl, rfl, rfl⟩ rfl ?_ m6
  exact RX_up (x0 := nI k) (x1 := hlN r d2) (x2 := hlN r d3) (x3 := rsN r d3) (x4 := r.reg 4) m4 m3 m5 (hl_rg hB u2 l2) (hl_rg hB u3 l3) (rs_rg hB u3 l4) h4 rfl rfl rfl rfl rfl
end RI
