def kp (r r' : rM) : Prop := (r'.z = r.z ∧ r'.typed = r.typed ∧ r'.text = r.text ∧ r'.error = r.error ∧ (r'.program, r'.thrown) = (r.program, r.thrown)) ∧ (r'.collections = r.collections ∧ r'.takenBack = r.takenBack ∧ r'.steps = r.steps ∧ r'.shown = r.shown ∧ (r'.show_, r'.marked) = (r.show_, r.marked))
def sm (r r' : rM) : Prop := kp r r' ∧ r'.state = r.state ∧ (r'.used = r.used ∧ r'.function = r.function) ∧ (r'.headKind = r.headKind ∧ r'.head = r.head) ∧ (r'.tailKind = r.tailKind ∧ r'.tail = r.tail)
def RX (r : rM) (H T : Nat → Vl) (S E C D R : Vl) : Prop := RB r H T ∧ rg r S (r.reg 0) ∧ rg r E (r.reg 1) ∧ rg r C (r.reg 2) ∧ rg r D (r.reg 3) ∧ rg r R (r.reg 4)
def sR (r : rM) (f : Nat → Int32) : rM := (r.s_reg f)
def gR (r : rM) (a b : Int32) : rM := ((r.s_gotKind a).s_got b)
def stR (r : rM) (x : Int32) : rM := (r.s_state x)
def mkd (r r' : rM) (H T : Nat → Vl) (k : Nat) (h t : Vl) : Prop := (¬ Ur r k ∧ k < 250) ∧ (kp r r' ∧ r'.state = r.state ∧ upR r r') ∧ RB r' (upW H k h) (upW T k t) ∧ Ur r' = addU (Ur r) k ∧ fz r' + 1 = fz r ∧ rg r' (vPr k) (nI k)
section RI0
variable {r r' r2 : rM} {H T : Nat → Vl} {v : Vl} {x kd : Int32}
theorem kp_tr (h1 : kp r r') (h2 : kp r' r2) : kp r r2 := by
  obtain ⟨⟨a1, a2, a3, a4, a5⟩, a6, a7, a8, a9, a10⟩ := h1
  obtain ⟨⟨b1, b2, b3, b4, b5⟩, b6, b7, b8, b9, b10⟩ := h2
  exact ⟨⟨b1.trans a1, b2.trans a2, b3.trans a3, b4.trans a4, b5.trans a5⟩, b6.trans a6, b7.trans a7, b8.trans a8, b9.trans a9, b10.trans a10⟩
theorem sm_tr (h1 : sm r r') (h2 : sm r' r2) : sm r r2 := by
  obtain ⟨a1, a2, ⟨a3, a4⟩, ⟨a5, a6⟩, a7, a8⟩ := h1
  obtain ⟨b1, b2, ⟨b3, b4⟩, ⟨b5, b6⟩, b7, b8⟩ := h2
  exact ⟨kp_tr a1 b1, b2.trans a2, ⟨b3.trans a3, b4.trans a4⟩, ⟨b5.trans a5, b6.trans a6⟩, b7.trans a7, b8.trans a8⟩
theorem kp_sR {f : Nat → Int32} : kp r (sR r f) := ⟨⟨rfl, rfl, rfl, rfl, rfl⟩, rfl, rfl, rfl, rfl, rfl⟩
theorem sm_sR {f : Nat → Int32} : sm r (sR r f) := ⟨kp_sR, rfl, ⟨rfl, rfl⟩, ⟨rfl, rfl⟩, rfl, rfl⟩
theorem sm_gR {a b : Int32} : sm r (gR r a b) := ⟨⟨⟨rfl, rfl, rfl, rfl, rfl⟩, rfl, rfl, rfl, rfl, rfl⟩, rfl, ⟨rfl, rfl⟩, ⟨rfl, rfl⟩, rfl, rfl⟩
theorem sm_z (h : sm r r') : r'.z = r.z := h.1.1.1
theorem sm_Ur (h : sm r r') : Ur r' = Ur r := by
  unfold Ur
  rw [sm_z h, h.2.2.1.1]
theorem sm_fz (h : sm r r') : fz r' = fz r := by
  unfold fz
  rw [sm_z h, h.2.2.1.1]
theorem sm_up (h : sm r r') : upR r r' := ⟨sm_z h, fun a ha => ⟨by rw [sm_Ur h]; exact ha, by rw [h.2.2.1.2]⟩⟩
theorem sm_rs (h : sm r r') (k : Nat) : rsN r' k = rsN r k := by
  unfold rsN
  rw [h.2.2.2.2.1, h.2.2.2.2.2]
theorem sm_hl (h : sm r r') (k : Nat) : hlN r' k = hlN r k := by
  unfold hlN
  rw [h.2.2.2.1.1, h.2.2.2.1.2]
theorem sm_rv (h : sm r r') (q : rv r v kd x) : rv r' v kd x := rv_up (sm_up h) q
theorem sm_rg (h : sm r r') (q : rg r v x) : rg r' v x := rg_up (sm_up h) q
theorem sm_RB (h : sm r r') (q : RB r H T) : RB r' H T := by
  obtain ⟨q1, q2, q3⟩ := q
  refine ⟨by rw [sm_z h]; exact q1, fun a ha => ?_, fun a ha => ?_⟩
  · rw [sm_Ur h] at ha
    rw [h.2.2.2.1.1, h.2.2.2.1.2, h.2.2.2.2.1, h.2.2.2.2.2]
    exact ⟨sm_rv h (q2 a ha).1, sm_rv h (q2 a ha).2⟩
  · rw [h.2.2.2.1.1, h.2.2.2.1.2, h.2.2.2.2.1, h.2.2.2.2.2, sm_z h]
    exact q3 a ha
theorem up_tr (h1 : upR r r') (h2 : upR r' r2) : upR r r2 := ⟨h2.1.trans h1.1, fun a ha => ⟨(h2.2 a (h1.2 a ha).1).1, (h2.2 a (h1.2 a ha).1).2.trans (h1.2 a ha).2⟩⟩
end RI0
section RI
variable {cst : Nat → Option (Nat × (Nat → Int32))} {m b0 b1 : Nat} {op : Bool} {tl : List mj_O} {Q : mj_R → Prop} {s : cS} {r : rM} {H T : Nat → Vl} {S E C D R : Vl}
set_option maxRecDepth 10000
theorem i51 : vp_in 1 5 := vp_in_nI (show 1 < 5 by decide) (by decide)
theorem i52 : vp_in 2 5 := vp_in_nI (show 2 < 5 by decide) (by decide)
theorem i53 : vp_in 3 5 := vp_in_nI (show 3 < 5 by decide) (by decide)
theorem Ur_lt (hB : RB r H T) {a : Nat} (u : Ur r a) : a < 250 := Nat.lt_of_lt_of_le u.1 hB.1.2
theorem R_rest {k : Nat} {x : Int32} (hx : x = nI k) (hk : k < 250) (hQ : Q (.inl (some (.int (rsN r k))), (cW s (rW r tl), b0, b1, op))) : mj_Mt gT cst gnw (m + 1) y_R_rest [.ref 27, .int x] (cW s (rW r tl), b0, b1, op) Q := by
  subst hx
  exact r_rest hk hQ
theorem R_headList {k : Nat} {x : Int32} (hx : x = nI k) (hk : k < 250) (hQ : Q (.inl (some (.int (hlN r k))), (cW s (rW r tl), b0, b1, op))) : mj_Mt gT cst gnw (m + 1) y_R_headList [.ref 27, .int x] (cW s (rW r tl), b0, b1, op) Q := by
  subst hx
  exact r_headList hk hQ
theorem R_peek0 {k : Nat} (hk : k < 250) (h0 : r.reg 0 = nI k) (hQ : ∀ r', sm r r' → r'.reg = r.reg → r'.gotKind = r.headKind k → r'.got = r.head k → Q (.inl none, (cW s (rW r' tl), b0, b1, op))) : mj_Mt gT cst gnw (m + 2) y_R_peek [.ref 27, .int 0] (cW s (rW r tl), b0, b1, op) Q := r_peek0 hk h0 (hQ (gR r (r.headKind k) (r.head k)) sm_gR rfl rfl rfl)
theorem R_peek1 {k j : Nat} (hk : k < 250) (hj : j < 250) (h0 : r.reg 0 = nI j) (h1 : rsN r j = nI k) (hQ : ∀ r', sm r r' → r'.reg = r.reg → r'.gotKind = r.headKind k → r'.got = r.head k → Q (.inl none, (cW s (rW r' tl), b0, b1, op))) : mj_Mt gT cst gnw (m + 2) y_R_peek [.ref 27, .int 1] (cW s (rW r tl), b0, b1, op) Q := r_peek1 hk hj h0 h1 (hQ (gR r (r.headKind k) (r.head k)) sm_gR rfl rfl rfl)
theorem R_drop {j : Nat} (hj : j < 250) (h0 : r.reg 0 = nI j) (hQ : ∀ r', sm r r' → r'.reg = upd r.reg 0 (rsN r j) → r'.gotKind = r.gotKind → r'.got = r.got → Q (.inl none, (cW s (rW r' tl), b0, b1, op))) : mj_Mt gT cst gnw (m + 2) y_R_drop [.ref 27] (cW s (rW r tl), b0, b1, op) Q := r_drop hj h0 (hQ (sR r (upd r.reg 0 (rsN r j))) sm_sR rfl rfl rfl)
theorem R_stop {x : Int32} (hQ : ∀ r', kp r r' → r'.state = x → upR r r' → Ur r' = Ur r → r'.reg = r.reg → (∀ H T, RB r H T → RB r' H T) → Q (.inl none, (cW s (rW r' tl), b0, b1, op))) : mj_Mt gT cst gnw (m + 1) y_R_stop [.ref 27, .int x] (cW s (rW r tl), b0, b1, op) Q := r_stop (hQ (stR r x) ⟨⟨rfl, rfl, rfl, rfl, rfl⟩, rfl, rfl, rfl, rfl, rfl⟩ rfl ⟨rfl, fun a ha => ⟨ha, rfl⟩⟩ rfl rfl (fun H T h => h))
theorem mkd_of {h t : Vl} {a b c : Int32} {k : Nat} (hB : RB r H T) (hf : 1 ≤ fz r) (hh : rv r h a b) (ht : rg r t c) (hk : k = ffN r.used (r.z - 1) 0) : mkd r (mkR r k a b c) H T k h t := by
  obtain ⟨m1, m2, m3, m4, m5, m6, m7⟩ := mk_ok hB hf hk hh ht
  exact ⟨⟨m1, Nat.lt_of_lt_of_le m2 hB.1.2⟩, ⟨⟨⟨rfl, rfl, rfl, rfl, rfl⟩, rfl, rfl, rfl, rfl, rfl⟩, rfl, m3⟩, m4, m6, m7, m5⟩
theorem R_make {h t : Vl} {a b c : Int32} (hB : RB r H T) (hf : 1 ≤ fz r) (hh : rv r h a b) (ht : rg r t c) (hQ : ∀ k r', mkd r r' H T k h t → r'.reg = r.reg → Q (.inl (some (.int (nI k))), (cW s (rW r' tl), b0, b1, op))) : mj_Mt gT cst gnw (m + 1) y_R_make [.ref 27, .int a, .int b, .int c] (cW s (rW r tl), b0, b1, op) Q := r_make hB.1.2 hB.1.1 (fun k hk => hQ k (mkR r k a b c) (mkd_of hB hf hh ht hk) rfl)
theorem R_makeOf {h t : Vl} {b c : Int32} (hB : RB r H T) (hf : 1 ≤ fz r) (hh : rg r h b) (ht : rg r t c) (hQ : ∀ k r', mkd r r' H T k h t → r'.reg = r.reg → r'.got = r.got → Q (.inl (some (.int (nI k))), (cW s (rW r' tl), b0, b1, op))) : mj_Mt gT cst gnw (m + 2) y_R_makeOf [.ref 27, .int b, .int c] (cW s (rW r tl), b0, b1, op) Q := r_makeOf hB.1.2 hB.1.1 (fun k hk => hQ k (mkR r k _ _ c) (mkd_of hB hf (rg_rv hh hB.1.2) ht hk) rfl rfl)
theorem mkd_sR {r' : rM} {h t : Vl} {k : Nat} {f : Nat → Int32} (hm : mkd r r' H T k h t) : mkd r (sR r' f) H T k h t := by
  obtain ⟨h1, ⟨h2, h3, h4⟩, h5, h6, h7, h8⟩ := hm
  exact ⟨h1, ⟨kp_tr h2 kp_sR, h3, h4⟩, sm_RB sm_sR h5, h6, h7, sm_rg sm_sR h8⟩
theorem R_push {h : Vl} {a b : Int32} (hB : RB r H T) (hf : 1 ≤ fz r) (hh : rv r h a b) (ht : rg r S (r.reg 0)) (hQ : ∀ k r', mkd r r' H T k h S → r'.reg = upd r.reg 0 (nI k) → Q (.inl none, (cW s (rW r' tl), b0, b1, op))) : mj_Mt gT cst gnw (m + 2) y_R_push [.ref 27, .int a, .int b] (cW s (rW r tl), b0, b1, op) Q := r_push hB.1.2 hB.1.1 (fun k hk => hQ k (sR (mkR r k a b (r.reg 0)) (upd r.reg 0 (nI k))) (mkd_sR (mkd_of hB hf hh ht hk)) rfl)
theorem RX_up {r' : rM} {H' T' : Nat → Vl} (hB : RB r' H' T') (hu : upR r r') {x0 x1 x2 x3 x4 : Int32} (h0 : rg r' S x0) (h1 : rg r E x1) (h2 : rg r C x2) (h3 : rg r D x3) (h4 : rg r R x4) (e0 : r'.reg 0 = x0) (e1 : r'.reg 1 = x1) (e2 : r'.reg 2 = x2) (e3 : r'.reg 3 = x3) (e4 : r'.reg 4 = x4) : RX r' H' T' S E C D R := by
  subst e0 e1 e2 e3 e4
  exact ⟨hB, h0, rg_up hu h1, rg_up hu h2, rg_up hu h3, rg_up hu h4⟩
theorem R_comeBack {a d1 d2 d3 : Nat} (hB : RB r H T) (hf : 1 ≤ fz r) (h0 : r.reg 0 = nI a) (ua : Ur r a) (h3 : r.reg 3 = nI d1) (u1 : Ur r d1) (e1 : T d1 = vPr d2) (u2 : Ur r d2) (e2 : T d2 = vPr d3) (u3 : Ur r d3) (l1 : isL_ (H d1)) (l2 : isL_ (H d2)) (l3 : isL_ (H d3)) (l4 : isL_ (T d3)) (h4 : rg r R (r.reg 4))
    (hQ : ∀ k r', ¬ Ur r k → kp r r' → r'.state = r.state → RX r' (upW H k (H a)) (upW T k (H d1)) (vPr k) (H d2) (H d3) (T d3) R → Ur r' = addU (Ur r) k → Q (.inl none, (cW s (rW r' tl), b0, b1, op))) : mj_Mt gT cst gnw (m + 3) y_R_comeBack [.ref 27] (cW s (rW r tl), b0, b1, op) Q := by
  intro J hJ
  refine hJ _ _ _ _ ?_
  refine R_peek0 (Ur_lt hB ua) h0 (fun r1 s1 g1 g2 g3 => ?_)
  have hB1 := sm_RB s1 hB
  have h31 : r1.reg 3 = nI d1 := by rw [g1]; exact h3
  have v1 : ∀ {a}, Ur r a → Ur r1 a := fun h => by rw [sm_Ur s1]; exact h
  refine And.intro i53 ?_
  refine R_headList h31 (Ur_lt hB u1) ?_
  refine And.intro (in0 (by decide)) ?_
  change mj_sg _ _ _ _ _ _ _ _ _ _ _ _ (cW s (rW (sR r1 (upd r1.reg 0 (hlN r1 d1))) tl), b0, b1, op)
  refine R_rest h31 (Ur_lt hB u1) ?_
  refine R_headList (rs_pr hB1 (v1 u1) e1) (Ur_lt hB u2) ?_
  refine And.intro i51 ?_
  change mj_sg _ _ _ _ _ _ _ _ _ _ _ _ (cW s (rW (sR r1 (upd (upd r1.reg 0 (hlN r1 d1)) 1 (hlN r1 d2))) tl), b0, b1, op)
  refine R_rest (rs_pr hB1 (v1 u1) e1) (Ur_lt hB u2) ?_
  refine R_headList (rs_pr hB1 (v1 u2) e2) (Ur_lt hB u3) ?_
  refine And.intro i52 ?_
  change mj_sg _ _ _ _ _ _ _ _ _ _ _ _ (cW s (rW (sR r1 (upd (upd (upd r1.reg 0 (hlN r1 d1)) 1 (hlN r1 d2)) 2 (hlN r1 d3))) tl), b0, b1, op)
  refine R_rest (rs_pr hB1 (v1 u2) e2) (Ur_lt hB u3) ?_
  refine And.intro i53 ?_
  obtain ⟨r2, hr2⟩ : ∃ r2, r2 = sR r1 (upd (upd (upd (upd r1.reg 0 (hlN r1 d1)) 1 (hlN r1 d2)) 2 (hlN r1 d3)) 3 (rsN r1 d3)) := ⟨_, rfl⟩
  change mj_sg _ _ _ _ _ _ _ _ _ _ _ _ (cW s (rW (sR r1 (upd (upd (upd (upd r1.reg 0 (hlN r1 d1)) 1 (hlN r1 d2)) 2 (hlN r1 d3)) 3 (rsN r1 d3))) tl), b0, b1, op)
  rw [← hr2]
  have s2 : sm r1 r2 := by rw [hr2]; exact sm_sR
  have q1 : r2.gotKind = r.headKind a := by rw [hr2]; exact g2
  have q2 : r2.got = r.head a := by rw [hr2]; exact g3
  have q3 : r2.reg = upd (upd (upd (upd r1.reg 0 (hlN r1 d1)) 1 (hlN r1 d2)) 2 (hlN r1 d3)) 3 (rsN r1 d3) := by rw [hr2]; rfl
  have s3 := sm_tr s1 s2
  have k1 := hl_rg hB1 (v1 u1) l1
  have k2 := hl_rg hB1 (v1 u2) l2
  have k3 := hl_rg hB1 (v1 u3) l3
  have k4 := rs_rg hB1 (v1 u3) l4
  clear hr2
  refine R_push (S := H d1) (h := H a) (sm_RB s3 hB) (by rw [sm_fz s3]; exact hf) (by rw [q1, q2]; exact sm_rv s3 (hB.2.1 a ua).1) (by rw [q3]; exact sm_rg s2 k1) (fun k r3 hm g4 => ?_)
  obtain ⟨⟨m1, -⟩, ⟨m2, m3, m4⟩, m5, m6, m7, m8⟩ := hm
  rw [sm_Ur s3] at m1 m6
  rw [q3] at g4
  refine hQ k r3 m1 (kp_tr s3.1 m2) (m3.trans s3.2.1) ?_ m6
  exact RX_up (r := r1) (x0 := nI k) (x1 := hlN r1 d2) (x2 := hlN r1 d3) (x3 := rsN r1 d3) (x4 := r1.reg 4) m5 (up_tr (sm_up s2) m4) m8 k2 k3 k4 (by rw [g1]; exact sm_rg s1 h4) (by rw [g4]; rfl) (by rw [g4]; rfl) (by rw [g4]; rfl) (by rw [g4]; rfl) (by rw [g4]; rfl)
end RI
