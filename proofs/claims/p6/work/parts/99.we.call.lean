def hdR (r : rM) (k : Nat) (a b : Int32) : rM := ((r.s_headKind (upd r.headKind k a)).s_head (upd r.head k b))
section RA
variable {cst : Nat → Option (Nat × (Nat → Int32))} {m b0 b1 : Nat} {op : Bool} {tl : List mj_O} {Q : mj_R → Prop} {s : cS} {r : rM} {H T : Nat → Vl} {S E C D R C' : Vl}
set_option maxRecDepth 10000
theorem hd_ok {k : Nat} {v : Vl} {a b : Int32} (hB : RB r H T) (hv : rv r v a b) : RB (hdR r k a b) (upW H k v) T := by
  obtain ⟨q1, q2, q3⟩ := hB
  refine ⟨q1, fun i hi => ⟨?_, (q2 i hi).2⟩, fun i hi => ⟨?_, (q3 i hi).2⟩⟩
  · by_cases e : i = k
    · subst e
      have e1 : upW H i v i = v := if_pos rfl
      have e2 : (hdR r i a b).headKind i = a := if_pos rfl
      have e3 : (hdR r i a b).head i = b := if_pos rfl
      rw [e1, e2, e3]
      exact hv
    · have e1 : upW H k v i = H i := if_neg e
      have e2 : (hdR r k a b).headKind i = r.headKind i := if_neg e
      have e3 : (hdR r k a b).head i = r.head i := if_neg e
      rw [e1, e2, e3]
      exact (q2 i hi).1
  · by_cases e : i = k
    · subst e
      have e2 : (hdR r i a b).headKind i = a := if_pos rfl
      have e3 : (hdR r i a b).head i = b := if_pos rfl
      rw [e2, e3]
      exact fun w => rv_raw (r := r) hv w
    · have e2 : (hdR r k a b).headKind i = r.headKind i := if_neg e
      have e3 : (hdR r k a b).head i = r.head i := if_neg e
      rw [e2, e3]
      exact (q3 i hi).1
theorem hd_sm {k : Nat} {a b : Int32} : kp r (hdR r k a b) ∧ (hdR r k a b).state = r.state ∧ upR r (hdR r k a b) ∧ Ur (hdR r k a b) = Ur r ∧ fz (hdR r k a b) = fz r ∧ (hdR r k a b).reg = r.reg := ⟨⟨⟨rfl, rfl, rfl, rfl, rfl⟩, rfl, rfl, rfl, rfl, rfl⟩, rfl, ⟨rfl, fun a ha => ⟨ha, rfl⟩⟩, rfl, rfl, rfl⟩
theorem rv_fun {v : Vl} {kd x : Int32} (h : rv r v kd x) : (∃ k, v = vFn k ∧ kd = 3 ∧ x = nI k ∧ Ur r k ∧ ¬ r.function k = 0) ∨ (¬ kV v = 4 ∧ (¬ kd = 3 ∨ ∃ k, kd = 3 ∧ x = nI k ∧ Ur r k ∧ r.function k = 0)) := by
  rcases v with u | y | y | i | i
  · exact Or.inr ⟨by show ¬ 0 = 4; decide, Or.inl (by rw [h.1]; decide)⟩
  · exact Or.inr ⟨by show ¬ 1 = 4; decide, Or.inl (by rw [h.1]; decide)⟩
  · exact Or.inr ⟨by show ¬ 2 = 4; decide, Or.inl (by rw [h.1]; decide)⟩
  · exact Or.inr ⟨by show ¬ 3 = 4; decide, Or.inr ⟨i, h⟩⟩
  · exact Or.inl ⟨i, rfl, h⟩
set_option maxHeartbeats 400000 in
theorem R_call4 {a a2 : Nat} {y : Int32} (hX : RX r H T (vPr a) E C D R) (hf : 4 ≤ fz r) (eT : T a = vPr a2) (lT : isL_ (T a2)) (hC : rg r C' y) (hg : ∀ f, H a = vFn f → isL_ (T f) ∧ isL_ (H f))
    (h1 : ∀ r', kp r r' → r'.state = 3 → RX r' H T (vPr a) E C D R → Ur r' = Ur r → ¬ kV (H a) = 4 → Q (.inl none, (cW s (rW r' tl), b0, b1, op)))
    (h2 : ∀ k1 k2 k3 k4 f r', ¬ Ur r k1 → ¬ addU (Ur r) k1 k2 → ¬ addU (addU (Ur r) k1) k2 k3 → ¬ (addU (addU (addU (Ur r) k1) k2) k3) k4 → kp r r' → r'.state = r.state → H a = vFn f → Ur r f → RX r' (upW (upW (upW (upW H k1 C') k2 E) k3 (T a2)) k4 (H a2)) (upW (upW (upW (upW T k1 D) k2 (vPr k1)) k3 (vPr k2)) k4 (T f)) vNil (vPr k4) (H f) (vPr k3) R → Ur r' = addU (addU (addU (addU (Ur r) k1) k2) k3) k4 → Q (.inl none, (cW s (rW r' tl), b0, b1, op))) :
    mj_Mt gT cst gnw (m + 3) y_R_call [.ref 27, .int 0, .int y] (cW s (rW r tl), b0, b1, op) Q := by
  have hX0 := hX
  obtain ⟨hB, x0, x1, x2, x3, x4⟩ := hX
  obtain ⟨a', ea, h0, ua, -⟩ := x0.resolve_left (fun q => by cases q.1)
  cases ea
  have hz := hB.1.2
  have hv := (hB.2.1 a ua).1
  have ua2 : Ur r a2 := by
    have := (hB.2.1 a ua).2
    rw [eT] at this
    exact this.2.2.1
  have hv2 := (hB.2.1 a2 ua2).1
  intro J hJ
  refine hJ _ _ _ _ ?_
  refine R_peek0 (Ur_lt hB ua) h0 (fun r1 s1 g1 g2 g3 => ?_)
  have hB1 := sm_RB s1 hB
  have hgk : r1.gotKind = 3 → ∃ k, k < 250 ∧ r1.got = nI k := by
    intro w
    rw [g2] at w
    obtain ⟨j, hj, ej⟩ := rv_raw hv w
    exact ⟨j, by omega, by rw [g3, ej]⟩
  refine r_isFunction hgk (fun f w1 w2 w3 w4 => ?_) (fun w => ?_)
  · have hw : H a = vFn f ∧ Ur r f := by
      rcases rv_fun hv with ⟨j, p2, p3, p4, p5, p6⟩ | ⟨p1, p2⟩
      · have e : f = j := nIj (by omega) (by have := p5.1; omega) (by rw [← w2, g3, p4])
        subst e
        exact ⟨p2, p5⟩
      · exfalso
        rcases p2 with p2 | ⟨j, p2, p3, p4, p5⟩
        · exact p2 (by rw [← g2]; exact w1)
        · have e : f = j := nIj (by omega) (by have := p4.1; omega) (by rw [← w2, g3, p3])
          subst e
          rw [s1.2.2.1.2] at w4
          exact w4 p5
    obtain ⟨eF, uf⟩ := hw
    obtain ⟨lf1, lf2⟩ := hg f eF
    refine And.intro (fun _ => ?_) (fun (g : (1 : Int32) = 0) => absurd g (by decide))
    refine R_peek1 (Ur_lt hB ua2) (Ur_lt hB ua) (by rw [g1]; exact h0) (by rw [sm_rs s1]; exact rs_pr hB ua eT) (fun r2 s2 g4 g5 g6 => ?_)
    have s12 := sm_tr s1 s2
    have g7 : r2.reg = r.reg := g4.trans g1
    rw [s1.2.2.2.1.1] at g5
    rw [s1.2.2.2.1.2] at g6
    refine R_drop (Ur_lt hB ua) (by rw [g7]; exact h0) (fun r3 s3 g8 _ _ => ?_)
    have s13 := sm_tr s12 s3
    have e3 : r3.reg 0 = nI a2 := by
      rw [g8]
      show rsN r2 a = nI a2
      rw [sm_rs s12]
      exact rs_pr hB ua eT
    refine R_drop (Ur_lt hB ua2) e3 (fun r4 s4 g9 _ _ => ?_)
    have s14 := sm_tr s13 s4
    have g10 : r4.reg = upd r.reg 0 (rsN r a2) := by
      rw [g9, g8, g7, sm_rs s13]
      funext j
      unfold upd
      split <;> rfl
    have hB4 := sm_RB s14 hB
    have go : ∀ fv vk vv : Int32, fv = nI f → vk = r.headKind a2 → vv = r.head a2 → ∀ F : Nat, mj_sg (mj_Mt gT cst gnw (m + 2)) cst gnw (mj_hd (mj_off kO_R_call) kH_R_call) kC_R_call J Q (F + 200) false 26 [some (.ref 27), some (.int 0), some (.int y), some (.int fv), some (.int vk), some (.int vv), none] [] (cW s (rW r4 tl), b0, b1, op) := by
     rintro fv vk vv rfl rfl rfl F
     clear hgk w1 w2 w4 g1 g2 g3 g4 g5 g6 g8 g9 hB1 s1 s2 s3 s4 s12 s13 g7 e3
     have three : ∀ (x6 : Int32), rg r E x6 → ∀ F : Nat, mj_sg (mj_Mt gT cst gnw (m + 2)) cst gnw (mj_hd (mj_off kO_R_call) kH_R_call) kC_R_call J Q (F + 100) false 39 [some (.ref 27), some (.int 0), some (.int y), some (.int (nI f)), some (.int (r.headKind a2)), some (.int (r.head a2)), none] [.int x6] (cW s (rW r4 tl), b0, b1, op) := by
       intro x6 hx6 F
       refine And.intro (in0 (by decide)) ?_
       refine And.intro i53 ?_
       refine R_makeOf (h := C') (t := D) hB4 (by rw [sm_fz s14]; omega) (sm_rg s14 hC) (by rw [g10]; exact sm_rg s14 x3) (fun k1 r5 hm g11 _ => ?_)
       obtain ⟨⟨m1, mk⟩, ⟨m2, m3, m4⟩, m5, m6, m7, m8⟩ := hm
       rw [sm_Ur s14] at m1 m6
       rw [sm_fz s14] at m7
       have hu5 := up_tr (sm_up s14) m4
       refine R_makeOf (h := E) (t := vPr k1) m5 (by omega) (rg_up hu5 hx6) m8 (fun k2 r6 hm g12 _ => ?_)
       obtain ⟨⟨n1, nk⟩, ⟨n2, n3, n4⟩, n5, n6, n7, n8⟩ := hm
       rw [m6] at n1 n6
       have hu6 := up_tr hu5 n4
       refine R_makeOf (h := T a2) (t := vPr k2) n5 (by omega) (by rw [g10]; exact rg_up hu6 (rs_rg hB ua2 lT)) n8 (fun k3 r7 hm g13 _ => ?_)
       obtain ⟨⟨o1, ok⟩, ⟨o2, o3, o4⟩, o5, o6, o7, o8⟩ := hm
       rw [n6] at o1 o6
       have hu7 := up_tr hu6 o4
       have g14 : r7.reg = upd r.reg 0 (rsN r a2) := g13.trans (g12.trans (g11.trans g10))
       refine And.intro i53 ?_
       change mj_sg _ _ _ _ _ _ _ _ _ _ _ _ (cW s (rW (sR r7 (upd r7.reg 3 (nI k3))) tl), b0, b1, op)
       refine And.intro (in0 (by decide)) ?_
       change mj_sg _ _ _ _ _ _ _ _ _ 65 _ _ (cW s (rW (sR r7 (upd (upd r7.reg 3 (nI k3)) 0 (-1))) tl), b0, b1, op)
       have kp7 : kp r r7 := kp_tr s14.1 (kp_tr m2 (kp_tr n2 o2))
       have st7 : r7.state = r.state := o3.trans (n3.trans (m3.trans s14.2.1))
       have fz7 : fz r7 + 3 = fz r := by omega
       have k3g : rg r7 (vPr k3) (nI k3) := o8
       obtain ⟨r8, hr8⟩ : ∃ r8, r8 = sR r7 (upd (upd r7.reg 3 (nI k3)) 0 (-1)) := ⟨_, rfl⟩
       rw [← hr8]
       have s8 : sm r7 r8 := by rw [hr8]; exact sm_sR
       have g15 : r8.reg = upd (upd (upd r.reg 0 (rsN r a2)) 3 (nI k3)) 0 (-1) := by rw [hr8, ← g14]; rfl
       have hu8 := up_tr hu7 (sm_up s8)
       have hB8 := sm_RB s8 o5
       have kp8 : kp r r8 := kp_tr kp7 s8.1
       have st8 : r8.state = r.state := s8.2.1.trans st7
       have U8 : Ur r8 = (addU (addU (addU (Ur r) k1) k2) k3) := (sm_Ur s8).trans o6
       have fz8 : fz r8 + 3 = fz r := by rw [sm_fz s8]; exact fz7
       have k3g8 := sm_rg s8 k3g
       have nf : ∀ {i}, Ur r i → ¬ i = k1 ∧ ¬ i = k2 ∧ ¬ i = k3 := fun ui => ⟨fun e => m1 (e ▸ ui), fun e => n1 (Or.inl (e ▸ ui)), fun e => o1 (Or.inl (Or.inl (e ▸ ui)))⟩
       have eH : ∀ {i}, Ur r i → (upW (upW (upW H k1 C') k2 E) k3 (T a2)) i = H i := by
         intro i ui
         obtain ⟨q1, q2, q3⟩ := nf ui
         unfold upW
         rw [if_neg q3, if_neg q2, if_neg q1]
       have eT3 : ∀ {i}, Ur r i → (upW (upW (upW T k1 D) k2 (vPr k1)) k3 (vPr k2)) i = T i := by
         intro i ui
         obtain ⟨q1, q2, q3⟩ := nf ui
         unfold upW
         rw [if_neg q3, if_neg q2, if_neg q1]
       have uf8 : Ur r8 f := (hu8.2 f uf).1
       clear hr8 s8 k3g st7 kp7 fz7 o2 o3 n2 n3 m2 m3 hu5 hu6 hu7 m4 n4 o4 m5 n5 o5 m6 n6 o6 m7 n7 o7 m8 n8 o8 g11 g12 g13
       refine And.intro (fun _ => ?_) (fun (q : ¬ (0 : Int32) = 0) => absurd rfl q)
       have rsf : rg r8 (T f) (rsN r8 f) := by
         have := rs_rg hB8 uf8 (by rw [eT3 uf]; exact lf1)
         rwa [eT3 uf] at this
       refine R_rest rfl (Ur_lt hB uf) ?_
       refine R_make (h := H a2) (t := T f) hB8 (by omega) (rv_up hu8 hv2) rsf (fun k4 r9 hm g16 => ?_)
       obtain ⟨⟨m1', mk'⟩, ⟨m2, m3, m4⟩, m5, m6, m7, m8⟩ := hm
       rw [U8] at m1' m6
       refine And.intro i51 ?_
       change mj_sg _ _ _ _ _ _ _ _ _ 102 _ _ (cW s (rW (sR r9 (upd r9.reg 1 (nI k4))) tl), b0, b1, op)
       have hu9 := up_tr hu8 m4
       have hne : ¬ f = k4 := fun e => m1' (Or.inl (Or.inl (Or.inl (e ▸ uf))))
       have e9 : upW (upW (upW (upW H k1 C') k2 E) k3 (T a2)) k4 (H a2) f = H f := by
         have : upW (upW (upW (upW H k1 C') k2 E) k3 (T a2)) k4 (H a2) f = (upW (upW (upW H k1 C') k2 E) k3 (T a2)) f := if_neg hne
         rw [this, eH uf]
       have hl := hl_rg m5 (hu9.2 f uf).1 (by rw [e9]; exact lf2)
       rw [e9] at hl
       refine R_headList rfl (Ur_lt hB uf) ?_
       refine And.intro i52 ?_
       refine h2 k1 k2 k3 k4 f (sR r9 (upd (upd r9.reg 1 (nI k4)) 2 (hlN r9 f))) m1 n1 o1 m1' (kp_tr kp8 (kp_tr m2 kp_sR)) (m3.trans st8) eF uf ?_ (by rw [← m6]; exact sm_Ur sm_sR)
       refine ⟨sm_RB sm_sR m5, ?_, ?_, ?_, ?_, ?_⟩
       · show rg _ _ (r9.reg 0)
         rw [g16, g15]
         exact Or.inl ⟨rfl, rfl⟩
       · exact sm_rg sm_sR m8
       · exact sm_rg sm_sR hl
       · show rg _ _ (r9.reg 3)
         rw [g16, g15]
         exact sm_rg sm_sR (rg_up m4 k3g8)
       · show rg _ _ (r9.reg 4)
         rw [g16, g15]
         exact sm_rg sm_sR (rg_up hu9 x4)
     refine And.intro (fun _ => ?_) (fun (q : ¬ (0 : Int32) = 0) => absurd rfl q)
     refine And.intro i51 ?_
     exact three _ (by rw [g10]; exact x1) _
    exact go _ _ _ w2 g5 g6 _
  · refine And.intro (fun (g : ¬ (0 : Int32) = 0) => absurd rfl g) (fun _ => ?_)
    refine R_stop (fun r' c1 c2 c3 c4 c5 c6 => ?_)
    obtain ⟨w1, w2, w3, w4⟩ := R_wrong hX0 s1 g1 c1 c2 c3 c4 c5 c6
    refine h1 r' w1 w2 w3 w4 (fun p1 => ?_)
    rcases rv_fun hv with ⟨j, p2, p3, p4, p5, p6⟩ | ⟨p2, -⟩
    · rcases w with w | ⟨k, w1, w2, w3⟩
      · exact w (by rw [g2]; exact p3)
      · have e : k = j := nIj (by omega) (by have := p5.1; omega) (by rw [← w2, g3, p4])
        subst e
        rw [s1.2.2.1.2] at w3
        exact p6 w3
    · exact p2 p1
set_option maxHeartbeats 400000 in
theorem R_call7 {a a2 g0 : Nat} {y : Int32} (hX : RX r H T (vPr a) (vPr g0) C D R) (hf : 3 ≤ fz r) (eT : T a = vPr a2) (lT : isL_ (T a2)) (hC : rg r C' y) (lV : isL_ (T g0)) (hg : ∀ f, H a = vFn f → (∃ g, T f = vPr g) ∧ isL_ (H f))
    (h1 : ∀ r', kp r r' → r'.state = 3 → RX r' H T (vPr a) (vPr g0) C D R → Ur r' = Ur r → ¬ kV (H a) = 4 → Q (.inl none, (cW s (rW r' tl), b0, b1, op)))
    (h2 : ∀ k1 k2 k3 f g r', ¬ Ur r k1 → ¬ addU (Ur r) k1 k2 → ¬ addU (addU (Ur r) k1) k2 k3 → kp r r' → r'.state = r.state → H a = vFn f → Ur r f → T f = vPr g → RX r' (upW (upW (upW (upW H k1 C') k2 (T g0)) k3 (T a2)) g (H a2)) (upW (upW (upW T k1 D) k2 (vPr k1)) k3 (vPr k2)) vNil (vPr g) (H f) (vPr k3) R → Ur r' = (addU (addU (addU (Ur r) k1) k2) k3) → Q (.inl none, (cW s (rW r' tl), b0, b1, op))) :
    mj_Mt gT cst gnw (m + 3) y_R_call [.ref 27, .int 1, .int y] (cW s (rW r tl), b0, b1, op) Q := by
  have hX0 := hX
  obtain ⟨hB, x0, x1, x2, x3, x4⟩ := hX
  obtain ⟨a', ea, h0, ua, -⟩ := x0.resolve_left (fun q => by cases q.1)
  cases ea
  have hz := hB.1.2
  have hv := (hB.2.1 a ua).1
  have ua2 : Ur r a2 := by
    have := (hB.2.1 a ua).2
    rw [eT] at this
    exact this.2.2.1
  have hv2 := (hB.2.1 a2 ua2).1
  intro J hJ
  refine hJ _ _ _ _ ?_
  refine R_peek0 (Ur_lt hB ua) h0 (fun r1 s1 g1 g2 g3 => ?_)
  have hB1 := sm_RB s1 hB
  have hgk : r1.gotKind = 3 → ∃ k, k < 250 ∧ r1.got = nI k := by
    intro w
    rw [g2] at w
    obtain ⟨j, hj, ej⟩ := rv_raw hv w
    exact ⟨j, by omega, by rw [g3, ej]⟩
  refine r_isFunction hgk (fun f w1 w2 w3 w4 => ?_) (fun w => ?_)
  · have hw : H a = vFn f ∧ Ur r f := by
      rcases rv_fun hv with ⟨j, p2, p3, p4, p5, p6⟩ | ⟨p1, p2⟩
      · have e : f = j := nIj (by omega) (by have := p5.1; omega) (by rw [← w2, g3, p4])
        subst e
        exact ⟨p2, p5⟩
      · exfalso
        rcases p2 with p2 | ⟨j, p2, p3, p4, p5⟩
        · exact p2 (by rw [← g2]; exact w1)
        · have e : f = j := nIj (by omega) (by have := p4.1; omega) (by rw [← w2, g3, p3])
          subst e
          rw [s1.2.2.1.2] at w4
          exact w4 p5
    obtain ⟨eF, uf⟩ := hw
    obtain ⟨lf1, lf2⟩ := hg f eF
    refine And.intro (fun _ => ?_) (fun (g : (1 : Int32) = 0) => absurd g (by decide))
    refine R_peek1 (Ur_lt hB ua2) (Ur_lt hB ua) (by rw [g1]; exact h0) (by rw [sm_rs s1]; exact rs_pr hB ua eT) (fun r2 s2 g4 g5 g6 => ?_)
    have s12 := sm_tr s1 s2
    have g7 : r2.reg = r.reg := g4.trans g1
    rw [s1.2.2.2.1.1] at g5
    rw [s1.2.2.2.1.2] at g6
    refine R_drop (Ur_lt hB ua) (by rw [g7]; exact h0) (fun r3 s3 g8 _ _ => ?_)
    have s13 := sm_tr s12 s3
    have e3 : r3.reg 0 = nI a2 := by
      rw [g8]
      show rsN r2 a = nI a2
      rw [sm_rs s12]
      exact rs_pr hB ua eT
    refine R_drop (Ur_lt hB ua2) e3 (fun r4 s4 g9 _ _ => ?_)
    have s14 := sm_tr s13 s4
    have g10 : r4.reg = upd r.reg 0 (rsN r a2) := by
      rw [g9, g8, g7, sm_rs s13]
      funext j
      unfold upd
      split <;> rfl
    have hB4 := sm_RB s14 hB
    have go : ∀ fv vk vv : Int32, fv = nI f → vk = r.headKind a2 → vv = r.head a2 → ∀ F : Nat, mj_sg (mj_Mt gT cst gnw (m + 2)) cst gnw (mj_hd (mj_off kO_R_call) kH_R_call) kC_R_call J Q (F + 200) false 26 [some (.ref 27), some (.int 1), some (.int y), some (.int fv), some (.int vk), some (.int vv), none] [] (cW s (rW r4 tl), b0, b1, op) := by
     rintro fv vk vv rfl rfl rfl F
     clear hgk w1 w2 w4 g1 g2 g3 g4 g5 g6 g8 g9 hB1 s1 s2 s3 s4 s12 s13 g7 e3
     have three : ∀ (x6 : Int32), rg r (T g0) x6 → ∀ F : Nat, mj_sg (mj_Mt gT cst gnw (m + 2)) cst gnw (mj_hd (mj_off kO_R_call) kH_R_call) kC_R_call J Q (F + 100) false 34 [some (.ref 27), some (.int 1), some (.int y), some (.int (nI f)), some (.int (r.headKind a2)), some (.int (r.head a2)), none] [.int x6] (cW s (rW r4 tl), b0, b1, op) := by
       intro x6 hx6 F
       refine And.intro (in0 (by decide)) ?_
       refine And.intro i53 ?_
       refine R_makeOf (h := C') (t := D) hB4 (by rw [sm_fz s14]; omega) (sm_rg s14 hC) (by rw [g10]; exact sm_rg s14 x3) (fun k1 r5 hm g11 _ => ?_)
       obtain ⟨⟨m1, mk⟩, ⟨m2, m3, m4⟩, m5, m6, m7, m8⟩ := hm
       rw [sm_Ur s14] at m1 m6
       rw [sm_fz s14] at m7
       have hu5 := up_tr (sm_up s14) m4
       refine R_makeOf (h := (T g0)) (t := vPr k1) m5 (by omega) (rg_up hu5 hx6) m8 (fun k2 r6 hm g12 _ => ?_)
       obtain ⟨⟨n1, nk⟩, ⟨n2, n3, n4⟩, n5, n6, n7, n8⟩ := hm
       rw [m6] at n1 n6
       have hu6 := up_tr hu5 n4
       refine R_makeOf (h := T a2) (t := vPr k2) n5 (by omega) (by rw [g10]; exact rg_up hu6 (rs_rg hB ua2 lT)) n8 (fun k3 r7 hm g13 _ => ?_)
       obtain ⟨⟨o1, ok⟩, ⟨o2, o3, o4⟩, o5, o6, o7, o8⟩ := hm
       rw [n6] at o1 o6
       have hu7 := up_tr hu6 o4
       have g14 : r7.reg = upd r.reg 0 (rsN r a2) := g13.trans (g12.trans (g11.trans g10))
       refine And.intro i53 ?_
       change mj_sg _ _ _ _ _ _ _ _ _ _ _ _ (cW s (rW (sR r7 (upd r7.reg 3 (nI k3))) tl), b0, b1, op)
       refine And.intro (in0 (by decide)) ?_
       change mj_sg _ _ _ _ _ _ _ _ _ 65 _ _ (cW s (rW (sR r7 (upd (upd r7.reg 3 (nI k3)) 0 (-1))) tl), b0, b1, op)
       have kp7 : kp r r7 := kp_tr s14.1 (kp_tr m2 (kp_tr n2 o2))
       have st7 : r7.state = r.state := o3.trans (n3.trans (m3.trans s14.2.1))
       have fz7 : fz r7 + 3 = fz r := by omega
       have k3g : rg r7 (vPr k3) (nI k3) := o8
       obtain ⟨r8, hr8⟩ : ∃ r8, r8 = sR r7 (upd (upd r7.reg 3 (nI k3)) 0 (-1)) := ⟨_, rfl⟩
       rw [← hr8]
       have s8 : sm r7 r8 := by rw [hr8]; exact sm_sR
       have g15 : r8.reg = upd (upd (upd r.reg 0 (rsN r a2)) 3 (nI k3)) 0 (-1) := by rw [hr8, ← g14]; rfl
       have hu8 := up_tr hu7 (sm_up s8)
       have hB8 := sm_RB s8 o5
       have kp8 : kp r r8 := kp_tr kp7 s8.1
       have st8 : r8.state = r.state := s8.2.1.trans st7
       have U8 : Ur r8 = (addU (addU (addU (Ur r) k1) k2) k3) := (sm_Ur s8).trans o6
       have fz8 : fz r8 + 3 = fz r := by rw [sm_fz s8]; exact fz7
       have k3g8 := sm_rg s8 k3g
       have nf : ∀ {i}, Ur r i → ¬ i = k1 ∧ ¬ i = k2 ∧ ¬ i = k3 := fun ui => ⟨fun e => m1 (e ▸ ui), fun e => n1 (Or.inl (e ▸ ui)), fun e => o1 (Or.inl (Or.inl (e ▸ ui)))⟩
       have eH : ∀ {i}, Ur r i → (upW (upW (upW H k1 C') k2 (T g0)) k3 (T a2)) i = H i := by
         intro i ui
         obtain ⟨q1, q2, q3⟩ := nf ui
         unfold upW
         rw [if_neg q3, if_neg q2, if_neg q1]
       have eT3 : ∀ {i}, Ur r i → (upW (upW (upW T k1 D) k2 (vPr k1)) k3 (vPr k2)) i = T i := by
         intro i ui
         obtain ⟨q1, q2, q3⟩ := nf ui
         unfold upW
         rw [if_neg q3, if_neg q2, if_neg q1]
       have uf8 : Ur r8 f := (hu8.2 f uf).1
       clear hr8 s8 k3g st7 kp7 fz7 o2 o3 n2 n3 m2 m3 hu5 hu6 hu7 m4 n4 o4 m5 n5 o5 m6 n6 o6 m7 n7 o7 m8 n8 o8 g11 g12 g13
       obtain ⟨g, eg⟩ := lf1
       refine And.intro (fun (q : (1 : Int32) = 0) => absurd q (by decide)) (fun _ => ?_)
       have rsf : rsN r8 f = nI g := rs_pr hB8 uf8 (by rw [eT3 uf]; exact eg)
       have gg : rg r (T f) (nI g) := by
         have := rs_rg hB uf (Or.inr ⟨g, eg⟩)
         rwa [rs_pr hB uf eg] at this
       rw [eg] at gg
       have ug : Ur r g := by
         rcases gg with ⟨q, -⟩ | ⟨b, q, -, q3, -⟩
         · cases q
         · cases q
           exact q3
       have hg250 := Ur_lt hB ug
       refine R_rest rfl (Ur_lt hB uf) ?_
       rw [rsf]
       refine And.intro i51 ?_
       change mj_sg _ _ _ _ _ _ _ _ _ 74 _ _ (cW s (rW (sR r8 (upd r8.reg 1 (nI g))) tl), b0, b1, op)
       have ek : (nI g).toNatClampNeg = g := nI_clamp (by omega)
       have hin : vp_in (nI g) 250 := vp_in_nI hg250 (by decide)
       refine And.intro i51 ?_
       refine And.intro hin ?_
       have key : ∀ (i j : Nat), i = g → j = g → ∀ G : Nat, mj_sg (mj_Mt gT cst gnw (m + 2)) cst gnw (mj_hd (mj_off kO_R_call) kH_R_call) kC_R_call J Q (G + 20) false 90 [some (.ref 27), some (.int 1), some (.int y), some (.int (nI f)), some (.int (r.headKind a2)), some (.int (r.head a2)), some (.int x6)] [] (cW s (rW (((sR r8 (upd r8.reg 1 (nI g))).s_headKind (upd r8.headKind i (r.headKind a2))).s_head (upd r8.head j (r.head a2))) tl), b0, b1, op) := by
         intro i j ei ej G
         rw [ei, ej]
         change mj_sg _ _ _ _ _ _ _ _ _ 90 _ _ (cW s (rW (hdR (sR r8 (upd r8.reg 1 (nI g))) g (r.headKind a2) (r.head a2)) tl), b0, b1, op)
         obtain ⟨r9, hr9⟩ : ∃ r9, r9 = sR r8 (upd r8.reg 1 (nI g)) := ⟨_, rfl⟩
         rw [← hr9]
         have s9 : sm r8 r9 := by rw [hr9]; exact sm_sR
         have g16 : r9.reg = upd r8.reg 1 (nI g) := by rw [hr9]; rfl
         clear hr9
         have hB9 := hd_ok (k := g) (sm_RB s9 hB8) (sm_rv s9 (rv_up hu8 hv2))
         obtain ⟨q1, q2, q3, q4, q5, q6⟩ := hd_sm (r := r9) (k := g) (a := r.headKind a2) (b := r.head a2)
         generalize hdR r9 g (r.headKind a2) (r.head a2) = r10 at *
         have hu10 := up_tr hu8 (up_tr (sm_up s9) q3)
         have uf10 : Ur r10 f := (hu10.2 f uf).1
         have hfg : ¬ f = g := by
           rintro rfl
           obtain ⟨-, -, -, w⟩ := (show rv r (vFn f) (r.headKind a) (r.head a) by rw [← eF]; exact hv)
           rcases gg with ⟨q, -⟩ | ⟨b, q, -, -, q4⟩
           · cases q
           · cases q
             exact w q4
         have e9 : upW (upW (upW (upW H k1 C') k2 (T g0)) k3 (T a2)) g (H a2) f = H f := by
           have : upW (upW (upW (upW H k1 C') k2 (T g0)) k3 (T a2)) g (H a2) f = (upW (upW (upW H k1 C') k2 (T g0)) k3 (T a2)) f := if_neg hfg
           rw [this, eH uf]
         have hl := hl_rg hB9 uf10 (by rw [e9]; exact lf2)
         rw [e9] at hl
         refine R_headList rfl (Ur_lt hB uf) ?_
         refine And.intro i52 ?_
         refine h2 k1 k2 k3 f g (sR r10 (upd r10.reg 2 (hlN r10 f))) m1 n1 o1 (kp_tr kp8 (kp_tr s9.1 (kp_tr q1 kp_sR))) (q2.trans (s9.2.1.trans st8)) eF uf eg ?_ (by rw [← U8, ← sm_Ur s9, ← q4]; exact sm_Ur sm_sR)
         refine ⟨sm_RB sm_sR hB9, ?_, ?_, ?_, ?_, ?_⟩
         · show rg _ _ (r10.reg 0)
           rw [q6, g16, g15]
           exact Or.inl ⟨rfl, rfl⟩
         · show rg _ _ (r10.reg 1)
           rw [q6, g16]
           exact sm_rg sm_sR (rg_up hu10 gg)
         · exact sm_rg sm_sR hl
         · show rg _ _ (r10.reg 3)
           rw [q6, g16, g15]
           exact sm_rg sm_sR (rg_up (up_tr (sm_up s9) q3) k3g8)
         · show rg _ _ (r10.reg 4)
           rw [q6, g16, g15]
           exact sm_rg sm_sR (rg_up hu10 x4)
       refine And.intro i51 ?_
       refine And.intro hin ?_
       exact key _ _ ek ek _
     refine And.intro (fun (q : (1 : Int32) = 0) => absurd q (by decide)) (fun _ => ?_)
     obtain ⟨g0', eg0, hg0, ug0, -⟩ := x1.resolve_left (fun q => by cases q.1)
     cases eg0
     refine And.intro i51 ?_
     refine R_rest (k := g0) (by rw [g10]; exact hg0) (Ur_lt hB ug0) ?_
     have hr0 := rs_rg hB ug0 lV
     rw [sm_rs s14]
     exact three _ hr0 _
    exact go _ _ _ w2 g5 g6 _
  · refine And.intro (fun (g : ¬ (0 : Int32) = 0) => absurd rfl g) (fun _ => ?_)
    refine R_stop (fun r' c1 c2 c3 c4 c5 c6 => ?_)
    obtain ⟨w1, w2, w3, w4⟩ := R_wrong hX0 s1 g1 c1 c2 c3 c4 c5 c6
    refine h1 r' w1 w2 w3 w4 (fun p1 => ?_)
    rcases rv_fun hv with ⟨j, p2, p3, p4, p5, p6⟩ | ⟨p2, -⟩
    · rcases w with w | ⟨k, w1, w2, w3⟩
      · exact w (by rw [g2]; exact p3)
      · have e : k = j := nIj (by omega) (by have := p5.1; omega) (by rw [← w2, g3, p4])
        subst e
        rw [s1.2.2.1.2] at w3
        exact p6 w3
    · exact p2 p1
end RA
