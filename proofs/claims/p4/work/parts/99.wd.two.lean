section
def tlR (r : rM) (k : Nat) (a b : Int32) : rM := ((r.s_tailKind (upd r.tailKind k a)).s_tail (upd r.tail k b))
section RT
variable {cst : Nat → Option (Nat × (Nat → Int32))} {m b0 b1 : Nat} {op : Bool} {tl : List mj_O} {Q : mj_R → Prop} {s : cS} {r : rM} {H T : Nat → Vl} {S E C D R C' : Vl}
set_option maxRecDepth 10000
theorem upW_2 {α : Type} (F : Nat → α) (k : Nat) (x y : α) : upW (upW F k x) k y = upW F k y := by
  funext i
  unfold upW
  split <;> rfl
theorem tl_ok {k : Nat} {v : Vl} {a b : Int32} (hB : RB r H T) (hv : rv r v a b) : RB (tlR r k a b) H (upW T k v) := by
  obtain ⟨q1, q2, q3⟩ := hB
  refine ⟨q1, fun i hi => ⟨(q2 i hi).1, ?_⟩, fun i hi => ⟨(q3 i hi).1, ?_⟩⟩
  · by_cases e : i = k
    · subst e
      have e1 : upW T i v i = v := if_pos rfl
      have e2 : (tlR r i a b).tailKind i = a := if_pos rfl
      have e3 : (tlR r i a b).tail i = b := if_pos rfl
      rw [e1, e2, e3]
      exact hv
    · have e1 : upW T k v i = T i := if_neg e
      have e2 : (tlR r k a b).tailKind i = r.tailKind i := if_neg e
      have e3 : (tlR r k a b).tail i = r.tail i := if_neg e
      rw [e1, e2, e3]
      exact (q2 i hi).2
  · by_cases e : i = k
    · subst e
      have e2 : (tlR r i a b).tailKind i = a := if_pos rfl
      have e3 : (tlR r i a b).tail i = b := if_pos rfl
      rw [e2, e3]
      exact fun w => rv_raw (r := r) hv w
    · have e2 : (tlR r k a b).tailKind i = r.tailKind i := if_neg e
      have e3 : (tlR r k a b).tail i = r.tail i := if_neg e
      rw [e2, e3]
      exact (q3 i hi).2
theorem tl_sm {k : Nat} {a b : Int32} : kp r (tlR r k a b) ∧ (tlR r k a b).state = r.state ∧ upR r (tlR r k a b) ∧ Ur (tlR r k a b) = Ur r ∧ fz (tlR r k a b) = fz r ∧ (tlR r k a b).reg = r.reg := ⟨⟨⟨rfl, rfl, rfl, rfl, rfl⟩, rfl, rfl, rfl, rfl, rfl⟩, rfl, ⟨rfl, fun a ha => ⟨ha, rfl⟩⟩, rfl, rfl, rfl⟩
def smB (xk x yk y : Int32) : Prop := xk = yk ∧ ¬ xk = 3 ∧ (xk = 0 ∨ x = y)
theorem smB_iff {v w : Vl} {xk x yk y : Int32} (h1 : rv r v xk x) (h2 : rv r w yk y) : smB xk x yk y ↔ (v = w ∧ ceV v = none) := by
  unfold smB
  rcases v with u | v | v | v | v <;> rcases w with u' | w | w | w | w <;> rw [h1.1, h2.1]
  · exact ⟨fun _ => ⟨rfl, rfl⟩, fun _ => ⟨rfl, by decide, Or.inl rfl⟩⟩
  all_goals first
    | exact ⟨fun q => absurd q.1 (by decide), fun q => by cases q.1⟩
    | exact ⟨fun q => absurd rfl q.2.1, fun q => by cases q.2⟩
    | (rw [h1.2, h2.2]
       exact ⟨fun q => by
         rcases q.2.2 with q | q
         · exact absurd q (by decide)
         · rw [q]
           exact ⟨rfl, rfl⟩, fun q => by
         have e := q.1
         cases e
         exact ⟨rfl, by decide, Or.inr rfl⟩⟩)
set_option maxHeartbeats 8000000 in
theorem R_ofTwo {a a2 : Nat} {i y : Int32} (hi : i = 13 ∨ i = 14 ∨ i = 15 ∨ i = 16 ∨ i = 17 ∨ i = 18) (hX : RX r H T (vPr a) E C D R) (hf : 1 ≤ fz r) (hf2 : i = 13 → 2 ≤ fz r) (eT : T a = vPr a2) (lT : isL_ (T a2)) (hC : rg r C' y)
    (h1 : ∀ r', kp r r' → r'.state = 3 → RX r' H T (vPr a) E C D R → Ur r' = Ur r → ¬ i = 13 → ¬ i = 14 → ¬ (kV (H a2) = 1 ∧ kV (H a) = 1) → Q (.inl none, (cW s (rW r' tl), b0, b1, op)))
    (h2 : ∀ k r' v, ¬ Ur r k → kp r r' → r'.state = r.state → ((i = 14 ∧ v = if H a2 = H a ∧ ceV (H a2) = none then 1 else 0) ∨ (¬ i = 13 ∧ ¬ i = 14 ∧ ∃ x y, H a2 = vInt x ∧ H a = vInt y ∧ v = calV i x y)) → RX r' (upW H k (vInt v)) (upW T k (T a2)) (vPr k) E C' D R → Ur r' = addU (Ur r) k → Q (.inl none, (cW s (rW r' tl), b0, b1, op)))
    (h3 : ∀ k1 k2 r', ¬ Ur r k1 → ¬ addU (Ur r) k1 k2 → kp r r' → r'.state = r.state → i = 13 → RX r' (upW (upW H k1 (H a)) k2 (vPr k1)) (upW (upW T k1 (H a2)) k2 (T a2)) (vPr k2) E C' D R → Ur r' = addU (addU (Ur r) k1) k2 → Q (.inl none, (cW s (rW r' tl), b0, b1, op))) :
    mj_Mt gT cst gnw (m + 3) y_R_ofTwo [.ref 27, .int i, .int y] (cW s (rW r tl), b0, b1, op) Q := by
  have hX0 := hX
  obtain ⟨hB, x0, x1, x2, x3, x4⟩ := hX
  obtain ⟨a', ea, h0, ua, -⟩ := x0.resolve_left (fun q => by cases q.1)
  cases ea
  have hz := hB.1.2
  have hv := (hB.2.1 a ua).1
  have ua2 : Ur r a2 := by
    have := (hB.2.1 a ua).2
    rw [eT] at this
    exact this.2.2.1
  have hv2 := (hB.2.1 a2 ua2).1
  intro J hJ
  refine hJ _ _ _ _ ?_
  refine R_peek0 (Ur_lt hB ua) h0 (fun r1 s1 g1 g2 g3 => ?_)
  have hB1 := sm_RB s1 hB
  refine R_peek1 (Ur_lt hB ua2) (Ur_lt hB ua) (by rw [g1]; exact h0) (by rw [sm_rs s1]; exact rs_pr hB ua eT) (fun r2 s2 g4 g5 g6 => ?_)
  have s12 := sm_tr s1 s2
  have g7 : r2.reg = r.reg := g4.trans g1
  rw [s1.2.2.2.1.1] at g5
  rw [s1.2.2.2.1.2] at g6
  have go : ∀ yk yv xk xv : Int32, yk = r.headKind a → yv = r.head a → xk = r.headKind a2 → xv = r.head a2 → ∀ F : Nat, mj_sg (mj_Mt gT cst gnw (m + 2)) cst gnw (mj_hd (mj_off kO_R_ofTwo) kH_R_ofTwo) kC_R_ofTwo J Q (F + 300) false 18 [some (.ref 27), some (.int i), some (.int y), some (.int yk), some (.int yv), some (.int xk), some (.int xv), none] [] (cW s (rW r2 tl), b0, b1, op) := by
    rintro yk yv xk xv rfl rfl rfl rfl F
    have fin : ∀ (r4 : rM) (v : Int32), sm r r4 → r4.reg = upd r.reg 0 (rsN r a2) → ((i = 14 ∧ v = if H a2 = H a ∧ ceV (H a2) = none then 1 else 0) ∨ (¬ i = 13 ∧ ¬ i = 14 ∧ ∃ x y, H a2 = vInt x ∧ H a = vInt y ∧ v = calV i x y)) → ∀ Q' : mj_R → Prop, (∀ r3, (∀ r4, r4 = sR r3 (upd r3.reg 2 y) → Q (.inl none, (cW s (rW r4 tl), b0, b1, op))) → Q' (.inl none, (cW s (rW r3 tl), b0, b1, op))) → mj_Mt gT cst gnw (m + 2) y_R_push [.ref 27, .int 1, .int v] (cW s (rW r4 tl), b0, b1, op) Q' := by
      intro r4 v s4 g8 hc Q' hQ'
      refine R_push (S := T a2) (h := vInt v) (sm_RB s4 hB) (by rw [sm_fz s4]; exact hf) ⟨rfl, rfl⟩ (by rw [g8]; exact sm_rg s4 (rs_rg hB ua2 lT)) (fun k r3 hm g9 => ?_)
      obtain ⟨⟨m1, -⟩, ⟨m2, m3, m4⟩, m5, m6, m7, m8⟩ := hm
      rw [sm_Ur s4] at m1 m6
      refine hQ' r3 (fun r5 e5 => ?_)
      subst e5
      refine h2 k _ v m1 (kp_tr (kp_tr s4.1 m2) kp_sR) (m3.trans s4.2.1) hc ?_ (by rw [← m6]; exact sm_Ur sm_sR)
      exact RX_up (r := r) (x0 := nI k) (x1 := r.reg 1) (x2 := y) (x3 := r.reg 3) (x4 := r.reg 4) (sm_RB sm_sR m5) (up_tr (sm_up s4) (up_tr m4 (sm_up sm_sR))) (sm_rg sm_sR m8) x1 hC x3 x4 (by show upd r3.reg 2 y 0 = nI k; rw [g9]; rfl) (by show upd r3.reg 2 y 1 = _; rw [g9, g8]; rfl) rfl (by show upd r3.reg 2 y 3 = _; rw [g9, g8]; rfl) (by show upd r3.reg 2 y 4 = _; rw [g9, g8]; rfl)
    have mid : ∀ F : Nat, (¬ i = 13 → ¬ i = 14 → kV (H a2) = 1 ∧ kV (H a) = 1) → mj_sg (mj_Mt gT cst gnw (m + 2)) cst gnw (mj_hd (mj_off kO_R_ofTwo) kH_R_ofTwo) kC_R_ofTwo J Q (F + 200) false 31 [some (.ref 27), some (.int i), some (.int y), some (.int (r.headKind a)), some (.int (r.head a)), some (.int (r.headKind a2)), some (.int (r.head a2)), none] [] (cW s (rW r2 tl), b0, b1, op) := by
      intro F hk
      refine R_drop (Ur_lt hB ua) (by rw [g7]; exact h0) (fun r3 s3 g8 _ _ => ?_)
      have s13 := sm_tr s12 s3
      have e3 : r3.reg 0 = nI a2 := by
        rw [g8]
        show rsN r2 a = nI a2
        rw [sm_rs s12]
        exact rs_pr hB ua eT
      refine R_drop (Ur_lt hB ua2) e3 (fun r4 s4 g9 _ _ => ?_)
      have s14 := sm_tr s13 s4
      have g10 : r4.reg = upd r.reg 0 (rsN r a2) := by
        rw [g9, g8, g7, sm_rs s13]
        funext j
        unfold upd
        split <;> rfl
      by_cases e13 : i = 13
      · subst e13
        refine And.intro (fun (g : ¬ (13 : Int32) = 13) => absurd rfl g) (fun _ => ?_)
        refine R_make (h := H a) (t := vNil) (sm_RB s14 hB) (by rw [sm_fz s14]; exact hf) (sm_rv s14 hv) (Or.inl ⟨rfl, rfl⟩) (fun k1 r5 hm g11 => ?_)
        obtain ⟨⟨m1, mk⟩, ⟨m2, m3, m4⟩, m5, m6, m7, m8⟩ := hm
        rw [sm_Ur s14] at m1 m6
        rw [sm_fz s14] at m7
        have ek : (nI k1).toNatClampNeg = k1 := nI_clamp (by omega)
        have hin : vp_in (nI k1) 250 := vp_in_nI mk (by decide)
        have hu5 := up_tr (sm_up s14) m4
        refine And.intro hin ?_
        rw [ek]
        refine And.intro hin ?_
        rw [ek]
        change mj_sg _ _ _ _ _ _ _ _ _ _ _ _ (cW s (rW (tlR r5 k1 (r.headKind a2) (r.head a2)) tl), b0, b1, op)
        have hB6 := tl_ok (k := k1) m5 (rv_up hu5 hv2)
        rw [upW_2] at hB6
        obtain ⟨n1, n2, n3, n4, n5, n6⟩ := tl_sm (r := r5) (k := k1) (a := r.headKind a2) (b := r.head a2)
        generalize tlR r5 k1 (r.headKind a2) (r.head a2) = r6 at *
        have rk : rv r6 (vPr k1) 3 (nI k1) := by
          have := rg_rv (rg_up n3 m8) hB6.1.2
          rw [if_neg (nI_pos (by omega)), if_neg (nI_pos (by omega))] at this
          exact this
        have hu6 := up_tr hu5 n3
        refine R_push (S := T a2) (h := vPr k1) hB6 (by rw [n5]; have := hf2 rfl; omega) rk (by rw [n6, g11, g10]; exact rg_up hu6 (rs_rg hB ua2 lT)) (fun k2 r7 hm g12 => ?_)
        obtain ⟨⟨o1, -⟩, ⟨o2, o3, o4⟩, o5, o6, o7, o8⟩ := hm
        rw [n4, m6] at o1 o6
        have hu7 := up_tr hu6 o4
        refine And.intro i52 ?_
        refine h3 k1 k2 (sR r7 (upd r7.reg 2 y)) m1 o1 (kp_tr (kp_tr s14.1 m2) (kp_tr n1 (kp_tr o2 kp_sR))) (o3.trans (n2.trans (m3.trans s14.2.1))) rfl ?_ (by rw [← o6]; exact sm_Ur sm_sR)
        exact RX_up (r := r) (x0 := nI k2) (x1 := r.reg 1) (x2 := y) (x3 := r.reg 3) (x4 := r.reg 4) (sm_RB sm_sR o5) (up_tr hu7 (sm_up sm_sR)) (sm_rg sm_sR o8) x1 hC x3 x4 (by show upd r7.reg 2 y 0 = nI k2; rw [g12]; rfl) (by show upd r7.reg 2 y 1 = _; rw [g12, n6, g11, g10]; rfl) rfl (by show upd r7.reg 2 y 3 = _; rw [g12, n6, g11, g10]; rfl) (by show upd r7.reg 2 y 4 = _; rw [g12, n6, g11, g10]; rfl)
      · refine And.intro (fun _ => ?_) (fun (g : i = 13) => absurd g e13)
        have hs := smB_iff (r := r) hv2 hv
        have hc : ∀ v : Int32, ¬ i = 14 → v = calV i (r.head a2) (r.head a) → ((i = 14 ∧ v = if H a2 = H a ∧ ceV (H a2) = none then 1 else 0) ∨ (¬ i = 13 ∧ ¬ i = 14 ∧ ∃ x y, H a2 = vInt x ∧ H a = vInt y ∧ v = calV i x y)) := fun v w ev => Or.inr ⟨e13, w, r.head a2, r.head a, rv_int2 hv2 (hk e13 w).1, rv_int2 hv (hk e13 w).2, ev⟩
        have t1 : ∀ F : Nat, smB (r.headKind a2) (r.head a2) (r.headKind a) (r.head a) → mj_sg (mj_Mt gT cst gnw (m + 2)) cst gnw (mj_hd (mj_off kO_R_ofTwo) kH_R_ofTwo) kC_R_ofTwo J Q (F + 100) false 70 [some (.ref 27), some (.int i), some (.int y), some (.int (r.headKind a)), some (.int (r.head a)), some (.int (r.headKind a2)), some (.int (r.head a2)), none] [] (cW s (rW r4 tl), b0, b1, op) := by
          intro F hb
          rcases hi with rfl | rfl | rfl | rfl | rfl | rfl
          · exact absurd rfl e13
          · refine And.intro (fun (g : ¬ (14 : Int32) = 14) => absurd rfl g) (fun _ => ?_)
            refine And.intro (fun (g : (1 : Int32) = 0) => absurd g (by decide)) (fun _ => ?_)
            refine fin r4 1 s14 g10 (Or.inl ⟨rfl, by rw [if_pos (hs.mp hb)]⟩) _ (fun r5 h5 => ?_)
            exact And.intro i52 (h5 _ rfl)
          · refine And.intro (fun _ => ?_) (fun (g : (15 : Int32) = 14) => absurd g (by decide))
            refine And.intro (fun (g : ¬ (15 : Int32) = 15) => absurd rfl g) (fun _ => ?_)
            refine fin r4 _ s14 g10 (hc _ (by decide) rfl) _ (fun r5 h5 => ?_)
            exact And.intro i52 (h5 _ rfl)
          · refine And.intro (fun _ => ?_) (fun (g : (16 : Int32) = 14) => absurd g (by decide))
            refine And.intro (fun _ => ?_) (fun (g : (16 : Int32) = 15) => absurd g (by decide))
            refine And.intro (fun (g : ¬ (16 : Int32) = 16) => absurd rfl g) (fun _ => ?_)
            refine fin r4 _ s14 g10 (hc _ (by decide) rfl) _ (fun r5 h5 => ?_)
            exact And.intro i52 (h5 _ rfl)
          · refine And.intro (fun _ => ?_) (fun (g : (17 : Int32) = 14) => absurd g (by decide))
            refine And.intro (fun _ => ?_) (fun (g : (17 : Int32) = 15) => absurd g (by decide))
            refine And.intro (fun _ => ?_) (fun (g : (17 : Int32) = 16) => absurd g (by decide))
            refine And.intro (fun (g : ¬ (17 : Int32) = 17) => absurd rfl g) (fun _ => ?_)
            refine fin r4 _ s14 g10 (hc _ (by decide) rfl) _ (fun r5 h5 => ?_)
            exact And.intro i52 (h5 _ rfl)
          · refine And.intro (fun _ => ?_) (fun (g : (18 : Int32) = 14) => absurd g (by decide))
            refine And.intro (fun _ => ?_) (fun (g : (18 : Int32) = 15) => absurd g (by decide))
            refine And.intro (fun _ => ?_) (fun (g : (18 : Int32) = 16) => absurd g (by decide))
            refine And.intro (fun _ => ?_) (fun (g : (18 : Int32) = 17) => absurd g (by decide))
            refine And.intro (fun (g : r.head a ≤ r.head a2) => ?_) (fun (g : ¬ r.head a ≤ r.head a2) => ?_)
            · refine fin r4 0 s14 g10 (hc _ (by decide) ?_) _ (fun r5 h5 => ?_)
              · show 0 = if r.head a2 < r.head a then (1 : Int32) else 0
                rw [if_neg (Int32.not_lt.mpr g)]
              · exact And.intro i52 (h5 _ rfl)
            · refine fin r4 1 s14 g10 (hc _ (by decide) ?_) _ (fun r5 h5 => ?_)
              · show 1 = if r.head a2 < r.head a then (1 : Int32) else 0
                rw [if_pos (Int32.not_le.mp g)]
              · exact And.intro i52 (h5 _ rfl)
        have t0 : ∀ F : Nat, ¬ smB (r.headKind a2) (r.head a2) (r.headKind a) (r.head a) → mj_sg (mj_Mt gT cst gnw (m + 2)) cst gnw (mj_hd (mj_off kO_R_ofTwo) kH_R_ofTwo) kC_R_ofTwo J Q (F + 100) false 72 [some (.ref 27), some (.int i), some (.int y), some (.int (r.headKind a)), some (.int (r.head a)), some (.int (r.headKind a2)), some (.int (r.head a2)), none] [] (cW s (rW r4 tl), b0, b1, op) := by
          intro F hb
          rcases hi with rfl | rfl | rfl | rfl | rfl | rfl
          · exact absurd rfl e13
          · refine And.intro (fun (g : ¬ (14 : Int32) = 14) => absurd rfl g) (fun _ => ?_)
            refine And.intro (fun _ => ?_) (fun (g : ¬ (0 : Int32) = 0) => absurd rfl g)
            refine fin r4 0 s14 g10 (Or.inl ⟨rfl, by rw [if_neg (fun q => hb (hs.mpr q))]⟩) _ (fun r5 h5 => ?_)
            exact And.intro i52 (h5 _ rfl)
          · refine And.intro (fun _ => ?_) (fun (g : (15 : Int32) = 14) => absurd g (by decide))
            refine And.intro (fun (g : ¬ (15 : Int32) = 15) => absurd rfl g) (fun _ => ?_)
            refine fin r4 _ s14 g10 (hc _ (by decide) rfl) _ (fun r5 h5 => ?_)
            exact And.intro i52 (h5 _ rfl)
          · refine And.intro (fun _ => ?_) (fun (g : (16 : Int32) = 14) => absurd g (by decide))
            refine And.intro (fun _ => ?_) (fun (g : (16 : Int32) = 15) => absurd g (by decide))
            refine And.intro (fun (g : ¬ (16 : Int32) = 16) => absurd rfl g) (fun _ => ?_)
            refine fin r4 _ s14 g10 (hc _ (by decide) rfl) _ (fun r5 h5 => ?_)
            exact And.intro i52 (h5 _ rfl)
          · refine And.intro (fun _ => ?_) (fun (g : (17 : Int32) = 14) => absurd g (by decide))
            refine And.intro (fun _ => ?_) (fun (g : (17 : Int32) = 15) => absurd g (by decide))
            refine And.intro (fun _ => ?_) (fun (g : (17 : Int32) = 16) => absurd g (by decide))
            refine And.intro (fun (g : ¬ (17 : Int32) = 17) => absurd rfl g) (fun _ => ?_)
            refine fin r4 _ s14 g10 (hc _ (by decide) rfl) _ (fun r5 h5 => ?_)
            exact And.intro i52 (h5 _ rfl)
          · refine And.intro (fun _ => ?_) (fun (g : (18 : Int32) = 14) => absurd g (by decide))
            refine And.intro (fun _ => ?_) (fun (g : (18 : Int32) = 15) => absurd g (by decide))
            refine And.intro (fun _ => ?_) (fun (g : (18 : Int32) = 16) => absurd g (by decide))
            refine And.intro (fun _ => ?_) (fun (g : (18 : Int32) = 17) => absurd g (by decide))
            refine And.intro (fun (g : r.head a ≤ r.head a2) => ?_) (fun (g : ¬ r.head a ≤ r.head a2) => ?_)
            · refine fin r4 0 s14 g10 (hc _ (by decide) ?_) _ (fun r5 h5 => ?_)
              · show 0 = if r.head a2 < r.head a then (1 : Int32) else 0
                rw [if_neg (Int32.not_lt.mpr g)]
              · exact And.intro i52 (h5 _ rfl)
            · refine fin r4 1 s14 g10 (hc _ (by decide) ?_) _ (fun r5 h5 => ?_)
              · show 1 = if r.head a2 < r.head a then (1 : Int32) else 0
                rw [if_pos (Int32.not_le.mp g)]
              · exact And.intro i52 (h5 _ rfl)
        refine And.intro (fun (g : ¬ r.headKind a2 = r.headKind a) => t0 _ (fun q => g q.1)) (fun (g : r.headKind a2 = r.headKind a) => ?_)
        refine And.intro (fun (g' : r.headKind a2 = 3) => t0 _ (fun q => q.2.1 g')) (fun (g' : ¬ r.headKind a2 = 3) => ?_)
        refine And.intro (fun (w : r.headKind a2 = 0) => t1 _ ⟨g, g', Or.inl w⟩) (fun (w : ¬ r.headKind a2 = 0) => ?_)
        refine And.intro (fun (u : ¬ r.head a2 = r.head a) => t0 _ (fun q => q.2.2.elim w u)) (fun (u : r.head a2 = r.head a) => t1 _ ⟨g, g', Or.inr u⟩)
    have wrong : ∀ F : Nat, ¬ i ≤ 14 → ¬ (kV (H a2) = 1 ∧ kV (H a) = 1) → mj_sg (mj_Mt gT cst gnw (m + 2)) cst gnw (mj_hd (mj_off kO_R_ofTwo) kH_R_ofTwo) kC_R_ofTwo J Q (F + 100) false 27 [some (.ref 27), some (.int i), some (.int y), some (.int (r.headKind a)), some (.int (r.head a)), some (.int (r.headKind a2)), some (.int (r.head a2)), none] [] (cW s (rW r2 tl), b0, b1, op) := by
      intro F w wk
      refine R_stop (fun r' c1 c2 c3 c4 c5 c6 => ?_)
      obtain ⟨w1, w2, w3, w4⟩ := R_wrong hX0 s12 g7 c1 c2 c3 c4 c5 c6
      exact h1 r' w1 w2 w3 w4 (fun e => w (by rw [e]; decide)) (fun e => w (by rw [e]; decide)) wk
    refine And.intro (fun (w : i ≤ 14) => mid _ (fun e1 e2 => ?_)) (fun (w : ¬ i ≤ 14) => ?_)
    · rcases hi with rfl | rfl | rfl | rfl | rfl | rfl
      · exact absurd rfl e1
      · exact absurd rfl e2
      · exact absurd w (by decide)
      · exact absurd w (by decide)
      · exact absurd w (by decide)
      · exact absurd w (by decide)
    · refine And.intro (fun (w1 : ¬ r.headKind a2 = 1) => wrong _ w (fun q => w1 ((rv_int hv2).mpr q.1))) (fun (w1 : r.headKind a2 = 1) => ?_)
      refine And.intro (fun (w2 : r.headKind a = 1) => mid _ (fun _ _ => ⟨(rv_int hv2).mp w1, (rv_int hv).mp w2⟩)) (fun (w2 : ¬ r.headKind a = 1) => wrong _ w (fun q => w2 ((rv_int hv).mpr q.2)))
  exact go _ _ _ _ g2 g3 g5 g6 _
end RT
end
section
def hdR (r : rM) (k : Nat) (a b : Int32) : rM := ((r.s_headKind (upd r.headKind k a)).s_head (upd r.head k b))
section RA
variable {cst : Nat → Option (Nat × (Nat → Int32))} {m b0 b1 : Nat} {op : Bool} {tl : List mj_O} {Q : mj_R → Prop} {s : cS} {r : rM} {H T : Nat → Vl} {S E C D R C' : Vl}
set_option maxRecDepth 10000
theorem hd_ok {k : Nat} {v : Vl} {a b : Int32} (hB : RB r H T) (hv : rv r v a b) : RB (hdR r k a b) (upW H k v) T := by
  obtain ⟨q1, q2, q3⟩ := hB
  refine ⟨q1, fun i hi => ⟨?_, (q2 i hi).2⟩, fun i hi => ⟨?_, (q3 i hi).2⟩⟩
  · by_cases e : i = k
    · subst e
      have e1 : upW H i v i = v := if_pos rfl
      have e2 : (hdR r i a b).headKind i = a := if_pos rfl
      have e3 : (hdR r i a b).head i = b := if_pos rfl
      rw [e1, e2, e3]
      exact hv
    · have e1 : upW H k v i = H i := if_neg e
      have e2 : (hdR r k a b).headKind i = r.headKind i := if_neg e
      have e3 : (hdR r k a b).head i = r.head i := if_neg e
      rw [e1, e2, e3]
      exact (q2 i hi).1
  · by_cases e : i = k
    · subst e
      have e2 : (hdR r i a b).headKind i = a := if_pos rfl
      have e3 : (hdR r i a b).head i = b := if_pos rfl
      rw [e2, e3]
      exact fun w => rv_raw (r := r) hv w
    · have e2 : (hdR r k a b).headKind i = r.headKind i := if_neg e
      have e3 : (hdR r k a b).head i = r.head i := if_neg e
      rw [e2, e3]
      exact (q3 i hi).1
theorem hd_sm {k : Nat} {a b : Int32} : kp r (hdR r k a b) ∧ (hdR r k a b).state = r.state ∧ upR r (hdR r k a b) ∧ Ur (hdR r k a b) = Ur r ∧ fz (hdR r k a b) = fz r ∧ (hdR r k a b).reg = r.reg := ⟨⟨⟨rfl, rfl, rfl, rfl, rfl⟩, rfl, rfl, rfl, rfl, rfl⟩, rfl, ⟨rfl, fun a ha => ⟨ha, rfl⟩⟩, rfl, rfl, rfl⟩
theorem rv_fun {v : Vl} {kd x : Int32} (h : rv r v kd x) : (∃ k, v = vFn k ∧ kd = 3 ∧ x = nI k ∧ Ur r k ∧ ¬ r.function k = 0) ∨ (¬ kV v = 4 ∧ (¬ kd = 3 ∨ ∃ k, kd = 3 ∧ x = nI k ∧ Ur r k ∧ r.function k = 0)) := by
  rcases v with u | y | y | i | i
  · exact Or.inr ⟨by show ¬ 0 = 4; decide, Or.inl (by rw [h.1]; decide)⟩
  · exact Or.inr ⟨by show ¬ 1 = 4; decide, Or.inl (by rw [h.1]; decide)⟩
  · exact Or.inr ⟨by show ¬ 2 = 4; decide, Or.inl (by rw [h.1]; decide)⟩
  · exact Or.inr ⟨by show ¬ 3 = 4; decide, Or.inr ⟨i, h⟩⟩
  · exact Or.inl ⟨i, rfl, h⟩
set_option maxHeartbeats 400000 in
theorem R_call4 {a a2 : Nat} {y : Int32} (hX : RX r H T (vPr a) E C D R) (hf : 4 ≤ fz r) (eT : T a = vPr a2) (lT : isL_ (T a2)) (hC : rg r C' y) (hg : ∀ f, H a = vFn f → isL_ (T f) ∧ isL_ (H f))
    (h1 : ∀ r', kp r r' → r'.state = 3 → RX r' H T (vPr a) E C D R → Ur r' = Ur r → ¬ kV (H a) = 4 → Q (.inl none, (cW s (rW r' tl), b0, b1, op)))
    (h2 : ∀ k1 k2 k3 k4 f r', ¬ Ur r k1 → ¬ addU (Ur r) k1 k2 → ¬ addU (addU (Ur r) k1) k2 k3 → ¬ (addU (addU (addU (Ur r) k1) k2) k3) k4 → kp r r' → r'.state = r.state → H a = vFn f → Ur r f → RX r' (upW (upW (upW (upW H k1 C') k2 E) k3 (T a2)) k4 (H a2)) (upW (upW (upW (upW T k1 D) k2 (vPr k1)) k3 (vPr k2)) k4 (T f)) vNil (vPr k4) (H f) (vPr k3) R → Ur r' = addU (addU (addU (addU (Ur r) k1) k2) k3) k4 → Q (.inl none, (cW s (rW r' tl), b0, b1, op))) :
    mj_Mt gT cst gnw (m + 3) y_R_call [.ref 27, .int 0, .int y] (cW s (rW r tl), b0, b1, op) Q := by
  have hX0 := hX
  obtain ⟨hB, x0, x1, x2, x3, x4⟩ := hX
  obtain ⟨a', ea, h0, ua, -⟩ := x0.resolve_left (fun q => by cases q.1)
  cases ea
  have hz := hB.1.2
  have hv := (hB.2.1 a ua).1
  have ua2 : Ur r a2 := by
    have := (hB.2.1 a ua).2
    rw [eT] at this
    exact this.2.2.1
  have hv2 := (hB.2.1 a2 ua2).1
  intro J hJ
  refine hJ _ _ _ _ ?_
  refine R_peek0 (Ur_lt hB ua) h0 (fun r1 s1 g1 g2 g3 => ?_)
  have hB1 := sm_RB s1 hB
  have hgk : r1.gotKind = 3 → ∃ k, k < 250 ∧ r1.got = nI k := by
    intro w
    rw [g2] at w
    obtain ⟨j, hj, ej⟩ := rv_raw hv w
    exact ⟨j, by omega, by rw [g3, ej]⟩
  refine r_isFunction hgk (fun f w1 w2 w3 w4 => ?_) (fun w => ?_)
  · have hw : H a = vFn f ∧ Ur r f := by
      rcases rv_fun hv with ⟨j, p2, p3, p4, p5, p6⟩ | ⟨p1, p2⟩
      · have e : f = j := nIj (by omega) (by have := p5.1; omega) (by rw [← w2, g3, p4])
        subst e
        exact ⟨p2, p5⟩
      · exfalso
        rcases p2 with p2 | ⟨j, p2, p3, p4, p5⟩
        · exact p2 (by rw [← g2]; exact w1)
        · have e : f = j := nIj (by omega) (by have := p4.1; omega) (by rw [← w2, g3, p3])
          subst e
          rw [s1.2.2.1.2] at w4
          exact w4 p5
    obtain ⟨eF, uf⟩ := hw
    obtain ⟨lf1, lf2⟩ := hg f eF
    refine And.intro (fun _ => ?_) (fun (g : (1 : Int32) = 0) => absurd g (by decide))
    refine R_peek1 (Ur_lt hB ua2) (Ur_lt hB ua) (by rw [g1]; exact h0) (by rw [sm_rs s1]; exact rs_pr hB ua eT) (fun r2 s2 g4 g5 g6 => ?_)
    have s12 := sm_tr s1 s2
    have g7 : r2.reg = r.reg := g4.trans g1
    rw [s1.2.2.2.1.1] at g5
    rw [s1.2.2.2.1.2] at g6
    refine R_drop (Ur_lt hB ua) (by rw [g7]; exact h0) (fun r3 s3 g8 _ _ => ?_)
    have s13 := sm_tr s12 s3
    have e3 : r3.reg 0 = nI a2 := by
      rw [g8]
      show rsN r2 a = nI a2
      rw [sm_rs s12]
      exact rs_pr hB ua eT
    refine R_drop (Ur_lt hB ua2) e3 (fun r4 s4 g9 _ _ => ?_)
    have s14 := sm_tr s13 s4
    have g10 : r4.reg = upd r.reg 0 (rsN r a2) := by
      rw [g9, g8, g7, sm_rs s13]
      funext j
      unfold upd
      split <;> rfl
    have hB4 := sm_RB s14 hB
    have go : ∀ fv vk vv : Int32, fv = nI f → vk = r.headKind a2 → vv = r.head a2 → ∀ F : Nat, mj_sg (mj_Mt gT cst gnw (m + 2)) cst gnw (mj_hd (mj_off kO_R_call) kH_R_call) kC_R_call J Q (F + 200) false 26 [some (.ref 27), some (.int 0), some (.int y), some (.int fv), some (.int vk), some (.int vv), none] [] (cW s (rW r4 tl), b0, b1, op) := by
     rintro fv vk vv rfl rfl rfl F
     clear hgk w1 w2 w4 g1 g2 g3 g4 g5 g6 g8 g9 hB1 s1 s2 s3 s4 s12 s13 g7 e3
     have three : ∀ (x6 : Int32), rg r E x6 → ∀ F : Nat, mj_sg (mj_Mt gT cst gnw (m + 2)) cst gnw (mj_hd (mj_off kO_R_call) kH_R_call) kC_R_call J Q (F + 100) false 39 [some (.ref 27), some (.int 0), some (.int y), some (.int (nI f)), some (.int (r.headKind a2)), some (.int (r.head a2)), none] [.int x6] (cW s (rW r4 tl), b0, b1, op) := by
       intro x6 hx6 F
       refine And.intro (in0 (by decide)) ?_
       refine And.intro i53 ?_
       refine R_makeOf (h := C') (t := D) hB4 (by rw [sm_fz s14]; omega) (sm_rg s14 hC) (by rw [g10]; exact sm_rg s14 x3) (fun k1 r5 hm g11 _ => ?_)
       obtain ⟨⟨m1, mk⟩, ⟨m2, m3, m4⟩, m5, m6, m7, m8⟩ := hm
       rw [sm_Ur s14] at m1 m6
       rw [sm_fz s14] at m7
       have hu5 := up_tr (sm_up s14) m4
       refine R_makeOf (h := E) (t := vPr k1) m5 (by omega) (rg_up hu5 hx6) m8 (fun k2 r6 hm g12 _ => ?_)
       obtain ⟨⟨n1, nk⟩, ⟨n2, n3, n4⟩, n5, n6, n7, n8⟩ := hm
       rw [m6] at n1 n6
       have hu6 := up_tr hu5 n4
       refine R_makeOf (h := T a2) (t := vPr k2) n5 (by omega) (by rw [g10]; exact rg_up hu6 (rs_rg hB ua2 lT)) n8 (fun k3 r7 hm g13 _ => ?_)
       obtain ⟨⟨o1, ok⟩, ⟨o2, o3, o4⟩, o5, o6, o7, o8⟩ := hm
       rw [n6] at o1 o6
       have hu7 := up_tr hu6 o4
       have g14 : r7.reg = upd r.reg 0 (rsN r a2) := g13.trans (g12.trans (g11.trans g10))
       refine And.intro i53 ?_
       change mj_sg _ _ _ _ _ _ _ _ _ _ _ _ (cW s (rW (sR r7 (upd r7.reg 3 (nI k3))) tl), b0, b1, op)
       refine And.intro (in0 (by decide)) ?_
       change mj_sg _ _ _ _ _ _ _ _ _ 65 _ _ (cW s (rW (sR r7 (upd (upd r7.reg 3 (nI k3)) 0 (-1))) tl), b0, b1, op)
       have kp7 : kp r r7 := kp_tr s14.1 (kp_tr m2 (kp_tr n2 o2))
       have st7 : r7.state = r.state := o3.trans (n3.trans (m3.trans s14.2.1))
       have fz7 : fz r7 + 3 = fz r := by omega
       have k3g : rg r7 (vPr k3) (nI k3) := o8
       obtain ⟨r8, hr8⟩ : ∃ r8, r8 = sR r7 (upd (upd r7.reg 3 (nI k3)) 0 (-1)) := ⟨_, rfl⟩
       rw [← hr8]
       have s8 : sm r7 r8 := by rw [hr8]; exact sm_sR
       have g15 : r8.reg = upd (upd (upd r.reg 0 (rsN r a2)) 3 (nI k3)) 0 (-1) := by rw [hr8, ← g14]; rfl
       have hu8 := up_tr hu7 (sm_up s8)
       have hB8 := sm_RB s8 o5
       have kp8 : kp r r8 := kp_tr kp7 s8.1
       have st8 : r8.state = r.state := s8.2.1.trans st7
       have U8 : Ur r8 = (addU (addU (addU (Ur r) k1) k2) k3) := (sm_Ur s8).trans o6
       have fz8 : fz r8 + 3 = fz r := by rw [sm_fz s8]; exact fz7
       have k3g8 := sm_rg s8 k3g
       have nf : ∀ {i}, Ur r i → ¬ i = k1 ∧ ¬ i = k2 ∧ ¬ i = k3 := fun ui => ⟨fun e => m1 (e ▸ ui), fun e => n1 (Or.inl (e ▸ ui)), fun e => o1 (Or.inl (Or.inl (e ▸ ui)))⟩
       have eH : ∀ {i}, Ur r i → (upW (upW (upW H k1 C') k2 E) k3 (T a2)) i = H i := by
         intro i ui
         obtain ⟨q1, q2, q3⟩ := nf ui
         unfold upW
         rw [if_neg q3, if_neg q2, if_neg q1]
       have eT3 : ∀ {i}, Ur r i → (upW (upW (upW T k1 D) k2 (vPr k1)) k3 (vPr k2)) i = T i := by
         intro i ui
         obtain ⟨q1, q2, q3⟩ := nf ui
         unfold upW
         rw [if_neg q3, if_neg q2, if_neg q1]
       have uf8 : Ur r8 f := (hu8.2 f uf).1
       clear hr8 s8 k3g st7 kp7 fz7 o2 o3 n2 n3 m2 m3 hu5 hu6 hu7 m4 n4 o4 m5 n5 o5 m6 n6 o6 m7 n7 o7 m8 n8 o8 g11 g12 g13
       refine And.intro (fun _ => ?_) (fun (q : ¬ (0 : Int32) = 0) => absurd rfl q)
       have rsf : rg r8 (T f) (rsN r8 f) := by
         have := rs_rg hB8 uf8 (by rw [eT3 uf]; exact lf1)
         rwa [eT3 uf] at this
       refine R_rest rfl (Ur_lt hB uf) ?_
       refine R_make (h := H a2) (t := T f) hB8 (by omega) (rv_up hu8 hv2) rsf (fun k4 r9 hm g16 => ?_)
       obtain ⟨⟨m1', mk'⟩, ⟨m2, m3, m4⟩, m5, m6, m7, m8⟩ := hm
       rw [U8] at m1' m6
       refine And.intro i51 ?_
       change mj_sg _ _ _ _ _ _ _ _ _ 102 _ _ (cW s (rW (sR r9 (upd r9.reg 1 (nI k4))) tl), b0, b1, op)
       have hu9 := up_tr hu8 m4
       have hne : ¬ f = k4 := fun e => m1' (Or.inl (Or.inl (Or.inl (e ▸ uf))))
       have e9 : upW (upW (upW (upW H k1 C') k2 E) k3 (T a2)) k4 (H a2) f = H f := by
         have : upW (upW (upW (upW H k1 C') k2 E) k3 (T a2)) k4 (H a2) f = (upW (upW (upW H k1 C') k2 E) k3 (T a2)) f := if_neg hne
         rw [this, eH uf]
       have hl := hl_rg m5 (hu9.2 f uf).1 (by rw [e9]; exact lf2)
       rw [e9] at hl
       refine R_headList rfl (Ur_lt hB uf) ?_
       refine And.intro i52 ?_
       refine h2 k1 k2 k3 k4 f (sR r9 (upd (upd r9.reg 1 (nI k4)) 2 (hlN r9 f))) m1 n1 o1 m1' (kp_tr kp8 (kp_tr m2 kp_sR)) (m3.trans st8) eF uf ?_ (by rw [← m6]; exact sm_Ur sm_sR)
       refine ⟨sm_RB sm_sR m5, ?_, ?_, ?_, ?_, ?_⟩
       · show rg _ _ (r9.reg 0)
         rw [g16, g15]
         exact Or.inl ⟨rfl, rfl⟩
       · exact sm_rg sm_sR m8
       · exact sm_rg sm_sR hl
       · show rg _ _ (r9.reg 3)
         rw [g16, g15]
         exact sm_rg sm_sR (rg_up m4 k3g8)
       · show rg _ _ (r9.reg 4)
         rw [g16, g15]
         exact sm_rg sm_sR (rg_up hu9 x4)
     refine And.intro (fun _ => ?_) (fun (q : ¬ (0 : Int32) = 0) => absurd rfl q)
     refine And.intro i51 ?_
     exact three _ (by rw [g10]; exact x1) _
    exact go _ _ _ w2 g5 g6 _
  · refine And.intro (fun (g : ¬ (0 : Int32) = 0) => absurd rfl g) (fun _ => ?_)
    refine R_stop (fun r' c1 c2 c3 c4 c5 c6 => ?_)
    obtain ⟨w1, w2, w3, w4⟩ := R_wrong hX0 s1 g1 c1 c2 c3 c4 c5 c6
    refine h1 r' w1 w2 w3 w4 (fun p1 => ?_)
    rcases rv_fun hv with ⟨j, p2, p3, p4, p5, p6⟩ | ⟨p2, -⟩
    · rcases w with w | ⟨k, w1, w2, w3⟩
      · exact w (by rw [g2]; exact p3)
      · have e : k = j := nIj (by omega) (by have := p5.1; omega) (by rw [← w2, g3, p4])
        subst e
        rw [s1.2.2.1.2] at w3
        exact p6 w3
    · exact p2 p1
set_option maxHeartbeats 400000 in
theorem R_call7 {a a2 g0 : Nat} {y : Int32} (hX : RX r H T (vPr a) (vPr g0) C D R) (hf : 3 ≤ fz r) (eT : T a = vPr a2) (lT : isL_ (T a2)) (hC : rg r C' y) (lV : isL_ (T g0)) (hg : ∀ f, H a = vFn f → (∃ g, T f = vPr g) ∧ isL_ (H f))
    (h1 : ∀ r', kp r r' → r'.state = 3 → RX r' H T (vPr a) (vPr g0) C D R → Ur r' = Ur r → ¬ kV (H a) = 4 → Q (.inl none, (cW s (rW r' tl), b0, b1, op)))
    (h2 : ∀ k1 k2 k3 f g r', ¬ Ur r k1 → ¬ addU (Ur r) k1 k2 → ¬ addU (addU (Ur r) k1) k2 k3 → kp r r' → r'.state = r.state → H a = vFn f → Ur r f → T f = vPr g → RX r' (upW (upW (upW (upW H k1 C') k2 (T g0)) k3 (T a2)) g (H a2)) (upW (upW (upW T k1 D) k2 (vPr k1)) k3 (vPr k2)) vNil (vPr g) (H f) (vPr k3) R → Ur r' = (addU (addU (addU (Ur r) k1) k2) k3) → Q (.inl none, (cW s (rW r' tl), b0, b1, op))) :
    mj_Mt gT cst gnw (m + 3) y_R_call [.ref 27, .int 1, .int y] (cW s (rW r tl), b0, b1, op) Q := by
  have hX0 := hX
  obtain ⟨hB, x0, x1, x2, x3, x4⟩ := hX
  obtain ⟨a', ea, h0, ua, -⟩ := x0.resolve_left (fun q => by cases q.1)
  cases ea
  have hz := hB.1.2
  have hv := (hB.2.1 a ua).1
  have ua2 : Ur r a2 := by
    have := (hB.2.1 a ua).2
    rw [eT] at this
    exact this.2.2.1
  have hv2 := (hB.2.1 a2 ua2).1
  intro J hJ
  refine hJ _ _ _ _ ?_
  refine R_peek0 (Ur_lt hB ua) h0 (fun r1 s1 g1 g2 g3 => ?_)
  have hB1 := sm_RB s1 hB
  have hgk : r1.gotKind = 3 → ∃ k, k < 250 ∧ r1.got = nI k := by
    intro w
    rw [g2] at w
    obtain ⟨j, hj, ej⟩ := rv_raw hv w
    exact ⟨j, by omega, by rw [g3, ej]⟩
  refine r_isFunction hgk (fun f w1 w2 w3 w4 => ?_) (fun w => ?_)
  · have hw : H a = vFn f ∧ Ur r f := by
      rcases rv_fun hv with ⟨j, p2, p3, p4, p5, p6⟩ | ⟨p1, p2⟩
      · have e : f = j := nIj (by omega) (by have := p5.1; omega) (by rw [← w2, g3, p4])
        subst e
        exact ⟨p2, p5⟩
      · exfalso
        rcases p2 with p2 | ⟨j, p2, p3, p4, p5⟩
        · exact p2 (by rw [← g2]; exact w1)
        · have e : f = j := nIj (by omega) (by have := p4.1; omega) (by rw [← w2, g3, p3])
          subst e
          rw [s1.2.2.1.2] at w4
          exact w4 p5
    obtain ⟨eF, uf⟩ := hw
    obtain ⟨lf1, lf2⟩ := hg f eF
    refine And.intro (fun _ => ?_) (fun (g : (1 : Int32) = 0) => absurd g (by decide))
    refine R_peek1 (Ur_lt hB ua2) (Ur_lt hB ua) (by rw [g1]; exact h0) (by rw [sm_rs s1]; exact rs_pr hB ua eT) (fun r2 s2 g4 g5 g6 => ?_)
    have s12 := sm_tr s1 s2
    have g7 : r2.reg = r.reg := g4.trans g1
    rw [s1.2.2.2.1.1] at g5
    rw [s1.2.2.2.1.2] at g6
    refine R_drop (Ur_lt hB ua) (by rw [g7]; exact h0) (fun r3 s3 g8 _ _ => ?_)
    have s13 := sm_tr s12 s3
    have e3 : r3.reg 0 = nI a2 := by
      rw [g8]
      show rsN r2 a = nI a2
      rw [sm_rs s12]
      exact rs_pr hB ua eT
    refine R_drop (Ur_lt hB ua2) e3 (fun r4 s4 g9 _ _ => ?_)
    have s14 := sm_tr s13 s4
    have g10 : r4.reg = upd r.reg 0 (rsN r a2) := by
      rw [g9, g8, g7, sm_rs s13]
      funext j
      unfold upd
      split <;> rfl
    have hB4 := sm_RB s14 hB
    have go : ∀ fv vk vv : Int32, fv = nI f → vk = r.headKind a2 → vv = r.head a2 → ∀ F : Nat, mj_sg (mj_Mt gT cst gnw (m + 2)) cst gnw (mj_hd (mj_off kO_R_call) kH_R_call) kC_R_call J Q (F + 200) false 26 [some (.ref 27), some (.int 1), some (.int y), some (.int fv), some (.int vk), some (.int vv), none] [] (cW s (rW r4 tl), b0, b1, op) := by
     rintro fv vk vv rfl rfl rfl F
     clear hgk w1 w2 w4 g1 g2 g3 g4 g5 g6 g8 g9 hB1 s1 s2 s3 s4 s12 s13 g7 e3
     have three : ∀ (x6 : Int32), rg r (T g0) x6 → ∀ F : Nat, mj_sg (mj_Mt gT cst gnw (m + 2)) cst gnw (mj_hd (mj_off kO_R_call) kH_R_call) kC_R_call J Q (F + 100) false 34 [some (.ref 27), some (.int 1), some (.int y), some (.int (nI f)), some (.int (r.headKind a2)), some (.int (r.head a2)), none] [.int x6] (cW s (rW r4 tl), b0, b1, op) := by
       intro x6 hx6 F
       refine And.intro (in0 (by decide)) ?_
       refine And.intro i53 ?_
       refine R_makeOf (h := C') (t := D) hB4 (by rw [sm_fz s14]; omega) (sm_rg s14 hC) (by rw [g10]; exact sm_rg s14 x3) (fun k1 r5 hm g11 _ => ?_)
       obtain ⟨⟨m1, mk⟩, ⟨m2, m3, m4⟩, m5, m6, m7, m8⟩ := hm
       rw [sm_Ur s14] at m1 m6
       rw [sm_fz s14] at m7
       have hu5 := up_tr (sm_up s14) m4
       refine R_makeOf (h := (T g0)) (t := vPr k1) m5 (by omega) (rg_up hu5 hx6) m8 (fun k2 r6 hm g12 _ => ?_)
       obtain ⟨⟨n1, nk⟩, ⟨n2, n3, n4⟩, n5, n6, n7, n8⟩ := hm
       rw [m6] at n1 n6
       have hu6 := up_tr hu5 n4
       refine R_makeOf (h := T a2) (t := vPr k2) n5 (by omega) (by rw [g10]; exact rg_up hu6 (rs_rg hB ua2 lT)) n8 (fun k3 r7 hm g13 _ => ?_)
       obtain ⟨⟨o1, ok⟩, ⟨o2, o3, o4⟩, o5, o6, o7, o8⟩ := hm
       rw [n6] at o1 o6
       have hu7 := up_tr hu6 o4
       have g14 : r7.reg = upd r.reg 0 (rsN r a2) := g13.trans (g12.trans (g11.trans g10))
       refine And.intro i53 ?_
       change mj_sg _ _ _ _ _ _ _ _ _ _ _ _ (cW s (rW (sR r7 (upd r7.reg 3 (nI k3))) tl), b0, b1, op)
       refine And.intro (in0 (by decide)) ?_
       change mj_sg _ _ _ _ _ _ _ _ _ 65 _ _ (cW s (rW (sR r7 (upd (upd r7.reg 3 (nI k3)) 0 (-1))) tl), b0, b1, op)
       have kp7 : kp r r7 := kp_tr s14.1 (kp_tr m2 (kp_tr n2 o2))
       have st7 : r7.state = r.state := o3.trans (n3.trans (m3.trans s14.2.1))
       have fz7 : fz r7 + 3 = fz r := by omega
       have k3g : rg r7 (vPr k3) (nI k3) := o8
       obtain ⟨r8, hr8⟩ : ∃ r8, r8 = sR r7 (upd (upd r7.reg 3 (nI k3)) 0 (-1)) := ⟨_, rfl⟩
       rw [← hr8]
       have s8 : sm r7 r8 := by rw [hr8]; exact sm_sR
       have g15 : r8.reg = upd (upd (upd r.reg 0 (rsN r a2)) 3 (nI k3)) 0 (-1) := by rw [hr8, ← g14]; rfl
       have hu8 := up_tr hu7 (sm_up s8)
       have hB8 := sm_RB s8 o5
       have kp8 : kp r r8 := kp_tr kp7 s8.1
       have st8 : r8.state = r.state := s8.2.1.trans st7
       have U8 : Ur r8 = (addU (addU (addU (Ur r) k1) k2) k3) := (sm_Ur s8).trans o6
       have fz8 : fz r8 + 3 = fz r := by rw [sm_fz s8]; exact fz7
       have k3g8 := sm_rg s8 k3g
       have nf : ∀ {i}, Ur r i → ¬ i = k1 ∧ ¬ i = k2 ∧ ¬ i = k3 := fun ui => ⟨fun e => m1 (e ▸ ui), fun e => n1 (Or.inl (e ▸ ui)), fun e => o1 (Or.inl (Or.inl (e ▸ ui)))⟩
       have eH : ∀ {i}, Ur r i → (upW (upW (upW H k1 C') k2 (T g0)) k3 (T a2)) i = H i := by
         intro i ui
         obtain ⟨q1, q2, q3⟩ := nf ui
         unfold upW
         rw [if_neg q3, if_neg q2, if_neg q1]
       have eT3 : ∀ {i}, Ur r i → (upW (upW (upW T k1 D) k2 (vPr k1)) k3 (vPr k2)) i = T i := by
         intro i ui
         obtain ⟨q1, q2, q3⟩ := nf ui
         unfold upW
         rw [if_neg q3, if_neg q2, if_neg q1]
       have uf8 : Ur r8 f := (hu8.2 f uf).1
       clear hr8 s8 k3g st7 kp7 fz7 o2 o3 n2 n3 m2 m3 hu5 hu6 hu7 m4 n4 o4 m5 n5 o5 m6 n6 o6 m7 n7 o7 m8 n8 o8 g11 g12 g13
       obtain ⟨g, eg⟩ := lf1
       refine And.intro (fun (q : (1 : Int32) = 0) => absurd q (by decide)) (fun _ => ?_)
       have rsf : rsN r8 f = nI g := rs_pr hB8 uf8 (by rw [eT3 uf]; exact eg)
       have gg : rg r (T f) (nI g) := by
         have := rs_rg hB uf (Or.inr ⟨g, eg⟩)
         rwa [rs_pr hB uf eg] at this
       rw [eg] at gg
       have ug : Ur r g := by
         rcases gg with ⟨q, -⟩ | ⟨b, q, -, q3, -⟩
         · cases q
         · cases q
           exact q3
       have hg250 := Ur_lt hB ug
       refine R_rest rfl (Ur_lt hB uf) ?_
       rw [rsf]
       refine And.intro i51 ?_
       change mj_sg _ _ _ _ _ _ _ _ _ 74 _ _ (cW s (rW (sR r8 (upd r8.reg 1 (nI g))) tl), b0, b1, op)
       have ek : (nI g).toNatClampNeg = g := nI_clamp (by omega)
       have hin : vp_in (nI g) 250 := vp_in_nI hg250 (by decide)
       refine And.intro i51 ?_
       refine And.intro hin ?_
       have key : ∀ (i j : Nat), i = g → j = g → ∀ G : Nat, mj_sg (mj_Mt gT cst gnw (m + 2)) cst gnw (mj_hd (mj_off kO_R_call) kH_R_call) kC_R_call J Q (G + 20) false 90 [some (.ref 27), some (.int 1), some (.int y), some (.int (nI f)), some (.int (r.headKind a2)), some (.int (r.head a2)), some (.int x6)] [] (cW s (rW (((sR r8 (upd r8.reg 1 (nI g))).s_headKind (upd r8.headKind i (r.headKind a2))).s_head (upd r8.head j (r.head a2))) tl), b0, b1, op) := by
         intro i j ei ej G
         rw [ei, ej]
         change mj_sg _ _ _ _ _ _ _ _ _ 90 _ _ (cW s (rW (hdR (sR r8 (upd r8.reg 1 (nI g))) g (r.headKind a2) (r.head a2)) tl), b0, b1, op)
         obtain ⟨r9, hr9⟩ : ∃ r9, r9 = sR r8 (upd r8.reg 1 (nI g)) := ⟨_, rfl⟩
         rw [← hr9]
         have s9 : sm r8 r9 := by rw [hr9]; exact sm_sR
         have g16 : r9.reg = upd r8.reg 1 (nI g) := by rw [hr9]; rfl
         clear hr9
         have hB9 := hd_ok (k := g) (sm_RB s9 hB8) (sm_rv s9 (rv_up hu8 hv2))
         obtain ⟨q1, q2, q3, q4, q5, q6⟩ := hd_sm (r := r9) (k := g) (a := r.headKind a2) (b := r.head a2)
         generalize hdR r9 g (r.headKind a2) (r.head a2) = r10 at *
         have hu10 := up_tr hu8 (up_tr (sm_up s9) q3)
         have uf10 : Ur r10 f := (hu10.2 f uf).1
         have hfg : ¬ f = g := by
           rintro rfl
           obtain ⟨-, -, -, w⟩ := (show rv r (vFn f) (r.headKind a) (r.head a) by rw [← eF]; exact hv)
           rcases gg with ⟨q, -⟩ | ⟨b, q, -, -, q4⟩
           · cases q
           · cases q
             exact w q4
         have e9 : upW (upW (upW (upW H k1 C') k2 (T g0)) k3 (T a2)) g (H a2) f = H f := by
           have : upW (upW (upW (upW H k1 C') k2 (T g0)) k3 (T a2)) g (H a2) f = (upW (upW (upW H k1 C') k2 (T g0)) k3 (T a2)) f := if_neg hfg
           rw [this, eH uf]
         have hl := hl_rg hB9 uf10 (by rw [e9]; exact lf2)
         rw [e9] at hl
         refine R_headList rfl (Ur_lt hB uf) ?_
         refine And.intro i52 ?_
         refine h2 k1 k2 k3 f g (sR r10 (upd r10.reg 2 (hlN r10 f))) m1 n1 o1 (kp_tr kp8 (kp_tr s9.1 (kp_tr q1 kp_sR))) (q2.trans (s9.2.1.trans st8)) eF uf eg ?_ (by rw [← U8, ← sm_Ur s9, ← q4]; exact sm_Ur sm_sR)
         refine ⟨sm_RB sm_sR hB9, ?_, ?_, ?_, ?_, ?_⟩
         · show rg _ _ (r10.reg 0)
           rw [q6, g16, g15]
           exact Or.inl ⟨rfl, rfl⟩
         · show rg _ _ (r10.reg 1)
           rw [q6, g16]
           exact sm_rg sm_sR (rg_up hu10 gg)
         · exact sm_rg sm_sR hl
         · show rg _ _ (r10.reg 3)
           rw [q6, g16, g15]
           exact sm_rg sm_sR (rg_up (up_tr (sm_up s9) q3) k3g8)
         · show rg _ _ (r10.reg 4)
           rw [q6, g16, g15]
           exact sm_rg sm_sR (rg_up hu10 x4)
       refine And.intro i51 ?_
       refine And.intro hin ?_
       exact key _ _ ek ek _
     refine And.intro (fun (q : (1 : Int32) = 0) => absurd q (by decide)) (fun _ => ?_)
     obtain ⟨g0', eg0, hg0, ug0, -⟩ := x1.resolve_left (fun q => by cases q.1)
     cases eg0
     refine And.intro i51 ?_
     refine R_rest (k := g0) (by rw [g10]; exact hg0) (Ur_lt hB ug0) ?_
     have hr0 := rs_rg hB ug0 lV
     rw [sm_rs s14]
     exact three _ hr0 _
    exact go _ _ _ w2 g5 g6 _
  · refine And.intro (fun (g : ¬ (0 : Int32) = 0) => absurd rfl g) (fun _ => ?_)
    refine R_stop (fun r' c1 c2 c3 c4 c5 c6 => ?_)
    obtain ⟨w1, w2, w3, w4⟩ := R_wrong hX0 s1 g1 c1 c2 c3 c4 c5 c6
    refine h1 r' w1 w2 w3 w4 (fun p1 => ?_)
    rcases rv_fun hv with ⟨j, p2, p3, p4, p5, p6⟩ | ⟨p2, -⟩
    · rcases w with w | ⟨k, w1, w2, w3⟩
      · exact w (by rw [g2]; exact p3)
      · have e : k = j := nIj (by omega) (by have := p5.1; omega) (by rw [← w2, g3, p4])
        subst e
        rw [s1.2.2.1.2] at w3
        exact p6 w3
    · exact p2 p1
end RA
end
section
def cu (mk : Nat → Bool) : Nat → Nat
  | 0 => 0
  | n + 1 => cu mk n + (if mk n = false then 1 else 0)
theorem cu_out (mk : Nat → Bool) (j : Nat) : ∀ n, n ≤ j → cu (upW mk j true) n = cu mk n
  | 0, _ => rfl
  | n + 1, h => by
    have e1 : cu (upW mk j true) (n + 1) = cu (upW mk j true) n + (if upW mk j true n = false then 1 else 0) := rfl
    have e2 : cu mk (n + 1) = cu mk n + (if mk n = false then 1 else 0) := rfl
    have e3 : upW mk j true n = mk n := if_neg (by omega)
    rw [e1, e2, e3, cu_out mk j n (by omega)]
theorem cu_upd (mk : Nat → Bool) (j : Nat) (hj : mk j = false) : ∀ n, j < n → cu (upW mk j true) n + 1 = cu mk n
  | 0, h => by omega
  | n + 1, h => by
    have e1 : cu (upW mk j true) (n + 1) = cu (upW mk j true) n + (if upW mk j true n = false then 1 else 0) := rfl
    have e2 : cu mk (n + 1) = cu mk n + (if mk n = false then 1 else 0) := rfl
    by_cases e : n = j
    · subst e
      have e3 : upW mk n true n = true := if_pos rfl
      rw [e1, e2, e3, cu_out mk n n (Nat.le_refl _), hj, if_pos rfl, if_neg (by decide)]
    · have e3 : upW mk j true n = mk n := if_neg e
      have := cu_upd mk j hj n (by omega)
      rw [e1, e2, e3]
      omega
theorem cu_le (mk : Nat → Bool) : ∀ n, cu mk n ≤ n
  | 0 => Nat.le_refl _
  | n + 1 => by
    have e2 : cu mk (n + 1) = cu mk n + (if mk n = false then 1 else 0) := rfl
    have := cu_le mk n
    rw [e2]
    split <;> omega
def dI_ (z : Nat) (g : gS) : Prop := g.2.2 + cu g.1 z ≤ z ∧ ∀ i, i < g.2.2 → g.2.1 i < z ∧ g.1 (g.2.1 i) = true
def dL_ (z : Nat) (N : Nat → Prop) (g g2 : gS) : Prop := 2 * cu g2.1 z + g2.2.2 ≤ 2 * cu g.1 z + g.2.2 ∧ (∀ a, g.1 a = true → g2.1 a = true) ∧ g.2.2 ≤ g2.2.2 ∧ (∀ i, i < g.2.2 → g2.2.1 i = g.2.1 i) ∧ (∀ a, g2.1 a = true → g.1 a = true ∨ (N a ∧ ∃ i, i < g2.2.2 ∧ g2.2.1 i = a))
theorem rmk_ok {z : Nat} {kd x : Int32} {g : gS} (hz : z ≤ 250) (hx : kd = 3 → ∃ j, j < z ∧ x = nI j) (h : dI_ z g) : dI_ z (rmk kd x g) ∧ dL_ z (fun a => kd = 3 ∧ x = nI a ∧ a < z) g (rmk kd x g) ∧ (kd = 3 → (rmk kd x g).1 x.toNatClampNeg = true) := by
  obtain ⟨mk, pl, n⟩ := g
  obtain ⟨h1, h2⟩ := h
  have h1 : n + cu mk z ≤ z := h1
  have h2 : ∀ i, i < n → pl i < z ∧ mk (pl i) = true := h2
  have e0 : rmk kd x (mk, pl, n) = if kd = 3 ∧ mk x.toNatClampNeg = false then (upW mk x.toNatClampNeg true, upW pl n x.toNatClampNeg, n + 1) else (mk, pl, n) := rfl
  rw [e0]
  by_cases hc : kd = 3 ∧ mk x.toNatClampNeg = false
  · rw [if_pos hc]
    obtain ⟨hk, hm⟩ := hc
    obtain ⟨j, hj, rfl⟩ := hx hk
    have ej : (nI j).toNatClampNeg = j := nI_clamp (by omega)
    rw [ej] at hm ⊢
    have hu := cu_upd mk j hm z hj
    have e1 : upW mk j true j = true := if_pos rfl
    have e2 : upW pl n j n = j := if_pos rfl
    have e3 : ∀ i, i < n → upW pl n j i = pl i := fun i hi => if_neg (by omega)
    have e4 : ∀ a, mk a = true → upW mk j true a = true := by
      intro a ha
      show (if a = j then true else mk a) = true
      split
      · rfl
      · exact ha
    refine ⟨⟨?_, ?_⟩, ⟨?_, e4, ?_, e3, ?_⟩, fun _ => e1⟩
    · show n + 1 + cu (upW mk j true) z ≤ z
      omega
    · intro i hi
      have hi : i < n + 1 := hi
      show upW pl n j i < z ∧ upW mk j true (upW pl n j i) = true
      by_cases e : i = n
      · subst e
        rw [e2]
        exact ⟨hj, e1⟩
      · rw [e3 i (by omega)]
        exact ⟨(h2 i (by omega)).1, e4 _ (h2 i (by omega)).2⟩
    · show 2 * cu (upW mk j true) z + (n + 1) ≤ 2 * cu mk z + n
      omega
    · show n ≤ n + 1
      omega
    · intro a ha
      by_cases e : a = j
      · subst e
        exact Or.inr ⟨⟨hk, rfl, hj⟩, n, by show n < n + 1; omega, e2⟩
      · refine Or.inl ?_
        have : upW mk j true a = mk a := if_neg e
        exact this.symm.trans ha
  · rw [if_neg hc]
    refine ⟨⟨h1, h2⟩, ⟨Nat.le_refl _, fun a ha => ha, Nat.le_refl _, fun i _ => rfl, fun a ha => Or.inl ha⟩, fun hk => ?_⟩
    show mk x.toNatClampNeg = true
    cases hm : mk x.toNatClampNeg with
    | true => rfl
    | false => exact absurd ⟨hk, hm⟩ hc
theorem dL_tr {z : Nat} {N1 N2 : Nat → Prop} {g g2 g3 : gS} (h1 : dL_ z N1 g g2) (h2 : dL_ z N2 g2 g3) : dL_ z (fun a => N1 a ∨ N2 a) g g3 := by
  obtain ⟨a1, a2, a3, a4, a5⟩ := h1
  obtain ⟨b1, b2, b3, b4, b5⟩ := h2
  refine ⟨Nat.le_trans b1 a1, fun a ha => b2 a (a2 a ha), Nat.le_trans a3 b3, fun i hi => (b4 i (by omega)).trans (a4 i hi), fun a ha => ?_⟩
  rcases b5 a ha with q | ⟨q1, i, q2, q3⟩
  · rcases a5 a q with q | ⟨q1, i, q2, q3⟩
    · exact Or.inl q
    · exact Or.inr ⟨Or.inl q1, i, by omega, (b4 i q2).trans q3⟩
  · exact Or.inr ⟨Or.inr q1, i, q2, q3⟩
section DF
variable {hk hd tk tv : Nat → Int32} {z : Nat}
def dC_ (hk hd tk tv : Nat → Int32) (mk : Nat → Bool) (a : Nat) : Prop := (hk a = 3 → mk (hd a).toNatClampNeg = true) ∧ (tk a = 3 → mk (tv a).toNatClampNeg = true)
theorem dfs_ok (hz : z ≤ 250) (hr : ∀ a, a < z → (hk a = 3 → ∃ j, j < z ∧ hd a = nI j) ∧ (tk a = 3 → ∃ j, j < z ∧ tv a = nI j)) {M : Nat → Prop} (hM : ∀ a, a < z → M a → (∀ j, hk a = 3 → hd a = nI j → j < z → M j) ∧ (∀ j, tk a = 3 → tv a = nI j → j < z → M j)) :
    ∀ (f c : Nat) (g : gS), dI_ z g → (∀ a, a < z → g.1 a = true → M a) → (∀ a, a < z → g.1 a = true → dC_ hk hd tk tv g.1 a ∨ ∃ i, i < g.2.2 ∧ g.2.1 i = a) → 2 * cu g.1 z + g.2.2 < f → ∃ c' g', dfs hk hd tk tv f c g = some (c', g') ∧ c' ≤ c + f ∧ (∀ a, g.1 a = true → g'.1 a = true) ∧ (∀ a, a < z → g'.1 a = true → M a ∧ dC_ hk hd tk tv g'.1 a)
  | 0, c, g, _, _, _, h => by omega
  | f + 1, c, g, hI, hm, hp, h => by
    obtain ⟨mk, pl, n⟩ := g
    cases n with
    | zero =>
      refine ⟨c, (mk, pl, 0), rfl, by omega, fun a ha => ha, fun a ha hb => ⟨hm a ha hb, ?_⟩⟩
      rcases hp a ha hb with q | ⟨i, q, -⟩
      · exact q
      · exact absurd q (Nat.not_lt_zero i)
    | succ n =>
      have h1 : n + 1 + cu mk z ≤ z := hI.1
      have h2 : ∀ i, i < n + 1 → pl i < z ∧ mk (pl i) = true := hI.2
      have h : 2 * cu mk z + (n + 1) < f + 1 := h
      obtain ⟨hpl, hpm⟩ := h2 n (by omega)
      have e2 : dfs hk hd tk tv (f + 1) c (mk, pl, n + 1) = if n < 250 ∧ pl n < 250 then dfs hk hd tk tv f (c + 1) (rmk (tk (pl n)) (tv (pl n)) (rmk (hk (pl n)) (hd (pl n)) (mk, pl, n))) else none := rfl
      rw [e2, if_pos ⟨by omega, by omega⟩]
      have hI0 : dI_ z (mk, pl, n) := ⟨by show n + cu mk z ≤ z; omega, fun i hi => h2 i (by have hi : i < n := hi; omega)⟩
      obtain ⟨i1, l1, k1⟩ := rmk_ok (kd := hk (pl n)) (x := hd (pl n)) hz (hr _ hpl).1 hI0
      obtain ⟨i2, l2, k2⟩ := rmk_ok (kd := tk (pl n)) (x := tv (pl n)) hz (hr _ hpl).2 i1
      have l12 := dL_tr l1 l2
      generalize rmk (hk (pl n)) (hd (pl n)) (mk, pl, n) = g1 at *
      generalize rmk (tk (pl n)) (tv (pl n)) g1 = g2 at *
      obtain ⟨a1, a2, a3, a4, a5⟩ := l12
      have a1 : 2 * cu g2.1 z + g2.2.2 ≤ 2 * cu mk z + n := a1
      obtain ⟨hMa, hMb⟩ := hM (pl n) hpl (hm _ hpl hpm)
      have hm2 : ∀ a, a < z → g2.1 a = true → M a := by
        intro a ha hb
        rcases a5 a hb with q | ⟨q, -⟩
        · exact hm a ha q
        · rcases q with ⟨q1, q2, q3⟩ | ⟨q1, q2, q3⟩
          · exact hMa a q1 q2 q3
          · exact hMb a q1 q2 q3
      have hp2 : ∀ a, a < z → g2.1 a = true → dC_ hk hd tk tv g2.1 a ∨ ∃ i, i < g2.2.2 ∧ g2.2.1 i = a := by
        intro a ha hb
        rcases a5 a hb with q | ⟨-, q⟩
        · by_cases e : a = pl n
          · subst e
            exact Or.inl ⟨fun w => l2.2.1 _ (k1 w), k2⟩
          · rcases hp a ha q with w | ⟨i, w1, w2⟩
            · exact Or.inl ⟨fun u => a2 _ (w.1 u), fun u => a2 _ (w.2 u)⟩
            · have w1 : i < n + 1 := w1
              have w2 : pl i = a := w2
              have hin : i < n := by
                rcases Nat.lt_or_ge i n with u | u
                · exact u
                · obtain rfl : i = n := by omega
                  exact absurd w2.symm e
              exact Or.inr ⟨i, Nat.lt_of_lt_of_le hin a3, (a4 i hin).trans w2⟩
        · exact Or.inr q
      obtain ⟨c', g', e3, e4, e5, e6⟩ := dfs_ok hz hr hM f (c + 1) g2 i2 hm2 hp2 (by omega)
      exact ⟨c', g', e3, by omega, fun a ha => e5 a (a2 a ha), e6⟩
theorem rgs_ok {reg : Nat → Int32} (hz : z ≤ 250) {M : Nat → Prop} : ∀ (n k : Nat) (g : gS), (∀ i, i < n → ¬ reg (k + i) < 0 → ∃ j, j < z ∧ reg (k + i) = nI j ∧ M j) → dI_ z g → dI_ z (rgs reg n k g) ∧ dL_ z M g (rgs reg n k g) ∧ (∀ i j, i < n → reg (k + i) = nI j → j < z → (rgs reg n k g).1 j = true)
  | 0, k, g, _, hI => ⟨hI, ⟨Nat.le_refl _, fun a ha => ha, Nat.le_refl _, fun i _ => rfl, fun a ha => Or.inl ha⟩, fun i j hi => absurd hi (Nat.not_lt_zero i)⟩
  | n + 1, k, g, h, hI => by
    have e2 : rgs reg (n + 1) k g = rgs reg n (k + 1) (rmk (if reg k < 0 then 0 else 3) (reg k) g) := rfl
    rw [e2]
    have h0 := h 0 (by omega)
    rw [Nat.add_zero] at h0
    have hx : (if reg k < 0 then (0 : Int32) else 3) = 3 → ∃ j, j < z ∧ reg k = nI j := by
      intro q
      by_cases w : reg k < 0
      · rw [if_pos w] at q
        exact absurd q (by decide)
      · obtain ⟨j, j1, j2, -⟩ := h0 w
        exact ⟨j, j1, j2⟩
    obtain ⟨i1, l1, k1⟩ := rmk_ok (kd := if reg k < 0 then 0 else 3) (x := reg k) hz hx hI
    obtain ⟨i2, l2, k2⟩ := rgs_ok (reg := reg) (M := M) hz n (k + 1) (rmk (if reg k < 0 then 0 else 3) (reg k) g) (fun i hi w => by
      have := h (i + 1) (by omega)
      rw [show k + (i + 1) = k + 1 + i by omega] at this
      exact this w) i1
    refine ⟨i2, ?_, fun i j hi ej hj => ?_⟩
    · obtain ⟨a1, a2, a3, a4, a5⟩ := dL_tr l1 l2
      refine ⟨a1, a2, a3, a4, fun a ha => ?_⟩
      rcases a5 a ha with q | ⟨q, w⟩
      · exact Or.inl q
      · refine Or.inr ⟨?_, w⟩
        rcases q with ⟨q1, q2, q3⟩ | q
        · by_cases u : reg k < 0
          · rw [if_pos u] at q1
            exact absurd q1 (by decide)
          · obtain ⟨j, j1, j2, j3⟩ := h0 u
            have : a = j := nIj (by omega) (by omega) (q2.symm.trans j2)
            rw [this]
            exact j3
        · exact q
    · cases i with
      | zero =>
        rw [Nat.add_zero] at ej
        have hn : ¬ reg k < 0 := by rw [ej]; exact nI_pos (by omega)
        have := l2.2.1 _ (k1 (if_neg hn))
        rw [ej, nI_clamp (by omega)] at this
        rw [ej]
        exact this
      | succ i =>
        rw [show k + (i + 1) = k + 1 + i by omega] at ej
        exact k2 i j (by omega) ej hj
theorem dfs_all {reg : Nat → Int32} {mk : Nat → Bool} {pl : Nat → Nat} (hz : z ≤ 250) (hr : ∀ a, a < z → (hk a = 3 → ∃ j, j < z ∧ hd a = nI j) ∧ (tk a = 3 → ∃ j, j < z ∧ tv a = nI j)) {M : Nat → Prop} (hM : ∀ a, a < z → M a → (∀ j, hk a = 3 → hd a = nI j → j < z → M j) ∧ (∀ j, tk a = 3 → tv a = nI j → j < z → M j)) (hg : ∀ i, i < 5 → ¬ reg i < 0 → ∃ j, j < z ∧ reg i = nI j ∧ M j) :
    ∃ c' g', dfs hk hd tk tv 600 0 (rgs reg 5 0 (clr z mk, pl, 0)) = some (c', g') ∧ c' ≤ 600 ∧ (∀ a, a < z → g'.1 a = true → M a ∧ dC_ hk hd tk tv g'.1 a) ∧ (∀ i j, i < 5 → reg i = nI j → j < z → g'.1 j = true) := by
  have hc : ∀ a, a < z → clr z mk a = false := fun a ha => if_pos ha
  have hI : dI_ z (clr z mk, pl, 0) := by
    refine ⟨?_, fun i hi => absurd hi (Nat.not_lt_zero i)⟩
    have := cu_le (clr z mk) z
    show 0 + cu (clr z mk) z ≤ z
    omega
  obtain ⟨i1, l1, k1⟩ := rgs_ok (reg := reg) (M := M) hz 5 0 (clr z mk, pl, 0) (fun i hi w => by
    have := hg i hi
    rw [Nat.zero_add] at w ⊢
    exact this w) hI
  obtain ⟨a1, a2, a3, a4, a5⟩ := l1
  have hcu := cu_le (clr z mk) z
  have a1 : 2 * cu (rgs reg 5 0 (clr z mk, pl, 0)).1 z + (rgs reg 5 0 (clr z mk, pl, 0)).2.2 ≤ 2 * cu (clr z mk) z + 0 := a1
  obtain ⟨c', g', e1, e2, e3, e4⟩ := dfs_ok hz hr hM 600 0 (rgs reg 5 0 (clr z mk, pl, 0)) i1 (fun a ha hb => by
    rcases a5 a hb with q | ⟨q, -⟩
    · have q : clr z mk a = true := q
      rw [hc a ha] at q
      cases q
    · exact q) (fun a ha hb => by
    rcases a5 a hb with q | ⟨-, q⟩
    · have q : clr z mk a = true := q
      rw [hc a ha] at q
      cases q
    · exact Or.inr q) (by omega)
  refine ⟨c', g', e1, by omega, e4, fun i j hi ej hj => e3 _ ?_⟩
  have := k1 i j hi
  rw [Nat.zero_add] at this
  exact this ej hj
end DF
end
section
def mkOK (r : rM) : Prop := ∃ mk, r.marked = eB mk
def kc (r r' : rM) : Prop := r'.z = r.z ∧ r'.typed = r.typed ∧ r'.text = r.text ∧ r'.error = r.error ∧ (r'.program, r'.thrown) = (r.program, r.thrown)
theorem kc_tr {r r' r2 : rM} (h1 : kc r r') (h2 : kc r' r2) : kc r r2 := by
  obtain ⟨a1, a2, a3, a4, a5⟩ := h1
  obtain ⟨b1, b2, b3, b4, b5⟩ := h2
  exact ⟨b1.trans a1, b2.trans a2, b3.trans a3, b4.trans a4, b5.trans a5⟩
theorem kp_kc {r r' : rM} (h : kp r r') : kc r r' := h.1
theorem kp_mk {r r' : rM} (h : kp r r') (hm : mkOK r) : mkOK r' := by
  obtain ⟨mk, e⟩ := hm
  have := congrArg Prod.snd h.2.2.2.2.2
  exact ⟨mk, this.trans e⟩
theorem nI_sur (x : Int32) : ∃ n, x = nI n := by
  refine ⟨x.toBitVec.toNat, i32_ext ?_⟩
  show x.toBitVec.toNat = (BitVec.ofNat 32 x.toBitVec.toNat).toNat
  rw [BitVec.toNat_ofNat, Nat.mod_eq_of_lt x.toBitVec.isLt]
theorem eN_sur (p : Nat → Int32) : ∃ f, p = eN f := by
  refine ⟨fun i => (p i).toBitVec.toNat, funext (fun i => i32_ext ?_)⟩
  show (p i).toBitVec.toNat = (BitVec.ofNat 32 (p i).toBitVec.toNat).toNat
  rw [BitVec.toNat_ofNat, Nat.mod_eq_of_lt (p i).toBitVec.isLt]
theorem rv_ce {r : rM} {v : Vl} {kd x : Int32} {b : Nat} (h : rv r v kd x) (e : ceV v = some b) : kd = 3 ∧ x = nI b ∧ Ur r b := by
  rcases v with u | y | y | i | i
  · cases e
  · cases e
  · cases e
  · cases e
    exact ⟨h.1, h.2.1, h.2.2.1⟩
  · cases e
    exact ⟨h.1, h.2.1, h.2.2.1⟩
theorem rv_3 {r : rM} {v : Vl} {kd x : Int32} (h : rv r v kd x) (e : kd = 3) : ∃ j, x = nI j ∧ Ur r j ∧ ceV v = some j := by
  rcases v with u | y | y | i | i
  · obtain ⟨h1, -⟩ := h
    rw [e] at h1
    exact absurd h1 (by decide)
  · obtain ⟨h1, -⟩ := h
    rw [e] at h1
    exact absurd h1 (by decide)
  · obtain ⟨h1, -⟩ := h
    rw [e] at h1
    exact absurd h1 (by decide)
  · exact ⟨i, h.2.1, h.2.2.1, rfl⟩
  · exact ⟨i, h.2.1, h.2.2.1, rfl⟩
def clM (r : rM) (H T : Nat → Vl) (mk : Nat → Bool) : Prop := ∀ a, a < r.z → mk a = true → Ur r a ∧ (∀ b, ceV (H a) = some b → mk b = true) ∧ (∀ b, ceV (T a) = some b → mk b = true)
def rtM (mk : Nat → Bool) (v : Vl) : Prop := ∀ b, ceV v = some b → mk b = true
section RS
variable {cst : Nat → Option (Nat × (Nat → Int32))} {m b0 b1 : Nat} {op : Bool} {tl : List mj_O} {Q : mj_R → Prop} {s : cS} {r : rM} {H T : Nat → Vl} {S E C D R : Vl}
set_option maxRecDepth 10000
theorem rg_of {v : Vl} {x : Int32} (h : rg r v x) (hz : r.z ≤ 250) (hn : ¬ x < 0) : ∃ j, j < r.z ∧ x = nI j ∧ Ur r j := by
  rcases rg_neg h hz with ⟨-, h2, -⟩ | ⟨a, -, h2, -, h3, -⟩
  · exact absurd h2 hn
  · exact ⟨a, h3.1, h2, h3⟩
def mpR (r : rM) (mk : Nat → Bool) (pl : Nat → Nat) (n : Nat) : rM := (((r.s_marked (eB mk)).s_pile (eN pl)).s_piled (nI n))
theorem R_reach (hX : RX r H T S E C D R) (hm : mkOK r) (hQ : ∀ c mk pl n, c ≤ 600 → clM r H T mk → rtM mk S → rtM mk E → rtM mk C → rtM mk D → rtM mk R → Q (.inl (some (.int (nI c))), (cW s (rW (mpR r mk pl n) tl), b0, b1, op))) : mj_Mt gT cst gnw (m + 2) y_R_reach [.ref 27] (cW s (rW r tl), b0, b1, op) Q := by
  obtain ⟨hB, x0, x1, x2, x3, x4⟩ := hX
  have hz := hB.1.2
  obtain ⟨mk, em⟩ := hm
  obtain ⟨pl, ep⟩ := eN_sur r.pile
  obtain ⟨n, en⟩ := nI_sur r.piled
  have raw2 := hB.2.2
  have hreg : ∀ i, i < 5 → ¬ r.reg i < 0 → ∃ j, j < r.z ∧ r.reg i = nI j ∧ Ur r j := by
    intro i hi hn
    match i, hi with
    | 0, _ => exact rg_of x0 hz hn
    | 1, _ => exact rg_of x1 hz hn
    | 2, _ => exact rg_of x2 hz hn
    | 3, _ => exact rg_of x3 hz hn
    | 4, _ => exact rg_of x4 hz hn
  obtain ⟨c, g', e1, e2, e3, e4⟩ := dfs_all (hk := r.headKind) (hd := r.head) (tk := r.tailKind) (tv := r.tail) (reg := r.reg) (mk := mk) (pl := pl) (M := Ur r) hz (fun a ha => raw2 a (by omega)) (fun a ha ua => by
    constructor
    · intro j h3 ej hj
      obtain ⟨i, i1, i2, -⟩ := rv_3 (hB.2.1 a ua).1 h3
      have : j = i := nIj (by omega) (by have := i2.1; omega) (ej.symm.trans i1)
      rw [this]
      exact i2
    · intro j h3 ej hj
      obtain ⟨i, i1, i2, -⟩ := rv_3 (hB.2.1 a ua).2 h3
      have : j = i := nIj (by omega) (by have := i2.1; omega) (ej.symm.trans i1)
      rw [this]
      exact i2) hreg
  have root : ∀ (v : Vl) (i : Nat), i < 5 → rg r v (r.reg i) → rtM g'.1 v := by
    intro v i hi hv b eb
    rcases hv with ⟨rfl, -⟩ | ⟨a, rfl, h2, h3, -⟩
    · cases eb
    · cases eb
      exact e4 i b hi h2 h3.1
  have h9 := hQ c g'.1 g'.2.1 g'.2.2 e2 (fun a ha hb => by
    obtain ⟨ua, d1, d2⟩ := e3 a ha hb
    refine ⟨ua, fun b eb => ?_, fun b eb => ?_⟩
    · obtain ⟨q1, q2, q3⟩ := rv_ce (hB.2.1 a ua).1 eb
      have := d1 q1
      rw [q2, nI_clamp (by have := q3.1; omega)] at this
      exact this
    · obtain ⟨q1, q2, q3⟩ := rv_ce (hB.2.1 a ua).2 eb
      have := d2 q1
      rw [q2, nI_clamp (by have := q3.1; omega)] at this
      exact this) (root S 0 (by decide) x0) (root E 1 (by decide) x1) (root C 2 (by decide) x2) (root D 3 (by decide) x3) (root R 4 (by decide) x4)
  have er : r = mpR r mk pl n := by
    have e : r = (((r.s_marked r.marked).s_pile r.pile).s_piled r.piled) := rfl
    rw [em, ep, en] at e
    exact e
  have main : mj_Mt gT cst gnw (m + 2) y_R_reach [.ref 27] (cW s (rW (mpR r mk pl n) tl), b0, b1, op) Q := by
    refine r_reach (g := (mk, pl, n)) (c := c) (g' := g') hz (fun k hk hn => ?_) (fun k hk h3 => ?_) (fun k hk h3 => ?_) e1 h9
    · obtain ⟨j, j1, j2, -⟩ := hreg k hk hn
      exact ⟨j, by omega, j2⟩
    · obtain ⟨j, j1, j2⟩ := (raw2 k hk).1 h3
      exact ⟨j, by omega, j2⟩
    · obtain ⟨j, j1, j2⟩ := (raw2 k hk).2 h3
      exact ⟨j, by omega, j2⟩
  rw [← er] at main
  exact main
theorem swN_le (u : Nat → Int32) (mk : Nat → Bool) : ∀ n k a, swN u mk n k a ≤ a + n
  | 0, k, a => Nat.le_refl _
  | n + 1, k, a => by
    have e : swN u mk (n + 1) k a = swN u mk n (k + 1) (if ¬ u k = 0 ∧ mk k = false then a + 1 else a) := rfl
    rw [e]
    split
    · have := swN_le u mk n (k + 1) (a + 1)
      omega
    · have := swN_le u mk n (k + 1) a
      omega
def swR (r : rM) (mk : Nat → Bool) (pl : Nat → Nat) (n : Nat) : rM := ((((r.s_used (swU r.z r.used mk)).s_marked (eB mk)).s_pile (eN pl)).s_piled (nI n))
theorem sw_ok {mk : Nat → Bool} {pl : Nat → Nat} {n : Nat} (hX : RX r H T S E C D R) (hc : clM r H T mk) (t1 : rtM mk S) (t2 : rtM mk E) (t3 : rtM mk C) (t4 : rtM mk D) (t5 : rtM mk R) :
    RX (swR r mk pl n) H T S E C D R ∧ (∀ a, Ur (swR r mk pl n) a → Ur r a) ∧ (∀ a, Ur (swR r mk pl n) a → inU (Ur (swR r mk pl n)) (H a) ∧ inU (Ur (swR r mk pl n)) (T a)) ∧ inU (Ur (swR r mk pl n)) S ∧ inU (Ur (swR r mk pl n)) E ∧ inU (Ur (swR r mk pl n)) C ∧ inU (Ur (swR r mk pl n)) D ∧ inU (Ur (swR r mk pl n)) R := by
  obtain ⟨hB, x0, x1, x2, x3, x4⟩ := hX
  have hz := hB.1.2
  have hU : ∀ a, Ur (swR r mk pl n) a ↔ (a < r.z ∧ mk a = true) := by
    intro a
    show (a < r.z ∧ ¬ swU r.z r.used mk a = 0) ↔ _
    unfold swU
    constructor
    · rintro ⟨h1, h2⟩
      rw [if_pos h1] at h2
      refine ⟨h1, ?_⟩
      cases h : mk a with
      | true => rfl
      | false => rw [h] at h2; exact absurd rfl h2
    · rintro ⟨h1, h2⟩
      rw [if_pos h1, h2]
      exact ⟨h1, by decide⟩
  have hsub : ∀ a, Ur (swR r mk pl n) a → Ur r a := fun a ha => (hc a ((hU a).mp ha).1 ((hU a).mp ha).2).1
  have kv : ∀ v kd x, rv r v kd x → rtM mk v → rv (swR r mk pl n) v kd x := by
    intro v kd x h ht
    rcases v with u | y | y | i | i
    · exact h
    · exact h
    · exact h
    · exact ⟨h.1, h.2.1, (hU i).mpr ⟨h.2.2.1.1, ht i rfl⟩, h.2.2.2⟩
    · exact ⟨h.1, h.2.1, (hU i).mpr ⟨h.2.2.1.1, ht i rfl⟩, h.2.2.2⟩
  have kg : ∀ v x, rg r v x → rtM mk v → rg (swR r mk pl n) v x := by
    intro v x h ht
    rcases h with h | ⟨a, rfl, h2, h3, h4⟩
    · exact Or.inl h
    · exact Or.inr ⟨a, rfl, h2, (hU a).mpr ⟨h3.1, ht a rfl⟩, h4⟩
  have gi : ∀ v x, rg r v x → rtM mk v → inU (Ur (swR r mk pl n)) v := by
    intro v x h ht b eb
    rcases h with ⟨rfl, -⟩ | ⟨a, rfl, h2, h3, h4⟩
    · cases eb
    · cases eb
      exact (hU b).mpr ⟨h3.1, ht b rfl⟩
  refine ⟨⟨⟨hB.1, fun a ha => ?_, hB.2.2⟩, kg _ _ x0 t1, kg _ _ x1 t2, kg _ _ x2 t3, kg _ _ x3 t4, kg _ _ x4 t5⟩, hsub, fun a ha => ?_, gi _ _ x0 t1, gi _ _ x1 t2, gi _ _ x2 t3, gi _ _ x3 t4, gi _ _ x4 t5⟩
  · obtain ⟨c1, c2, c3⟩ := hc a ((hU a).mp ha).1 ((hU a).mp ha).2
    exact ⟨kv _ _ _ (hB.2.1 a c1).1 c2, kv _ _ _ (hB.2.1 a c1).2 c3⟩
  · obtain ⟨c1, c2, c3⟩ := hc a ((hU a).mp ha).1 ((hU a).mp ha).2
    refine ⟨fun b eb => ?_, fun b eb => ?_⟩
    · exact (hU b).mpr ⟨(rv_ce (hB.2.1 a c1).1 eb).2.2.1, c2 b eb⟩
    · exact (hU b).mpr ⟨(rv_ce (hB.2.1 a c1).2 eb).2.2.1, c3 b eb⟩
theorem R_sweep (hX : RX r H T S E C D R) (hm : mkOK r) (hQ : ∀ n r', n ≤ 250 → kc r r' → mkOK r' → r'.state = r.state → r'.reg = r.reg → (r'.collections = r.collections ∧ r'.takenBack = r.takenBack ∧ r'.steps = r.steps ∧ r'.shown = r.shown ∧ r'.show_ = r.show_) → (r'.head = r.head ∧ r'.headKind = r.headKind) → RX r' H T S E C D R → (∀ a, Ur r' a → Ur r a) → (∀ a, Ur r' a → inU (Ur r') (H a) ∧ inU (Ur r') (T a)) → (inU (Ur r') S ∧ inU (Ur r') E ∧ inU (Ur r') C ∧ inU (Ur r') D ∧ inU (Ur r') R) → Q (.inl (some (.int (nI n))), (cW s (rW r' tl), b0, b1, op))) : mj_Mt gT cst gnw (m + 3) y_R_sweep [.ref 27] (cW s (rW r tl), b0, b1, op) Q := by
  intro J hJ
  refine hJ _ _ _ _ ?_
  refine R_reach hX hm (fun c mk pl n hc c1 t1 t2 t3 t4 t5 => ?_)
  have hz := hX.1.1.2
  obtain ⟨w1, w2, w3, w4⟩ := sw_ok (pl := pl) (n := n) hX c1 t1 t2 t3 t4 t5
  have h9 := hQ (swN r.used mk r.z 0 0) (swR r mk pl n) (by have := swN_le r.used mk r.z 0 0; omega) ⟨rfl, rfl, rfl, rfl, rfl⟩ ⟨mk, rfl⟩ rfl rfl ⟨rfl, rfl, rfl, rfl, rfl⟩ ⟨rfl, rfl⟩ w1 w2 w3 w4
  have loop := r_sweepLoop (cst := cst) (m := m + 2) (b0 := b0) (b1 := b1) (op := op) (tl := tl) (s := s) (c := c) (mk := mk) (J := J) (Q := Q) (r := mpR r mk pl n) (by omega) hz hJ h9 r.z 0 0 (by show r.z + 0 = r.z; omega) rfl
  have e0 : swU 0 (mpR r mk pl n).used mk = r.used := swU_0 _ _
  rw [e0] at loop
  exact loop
end RS
end
section
abbrev sP : Type := Nat × (Nat → Int32)
def sy (c : Int32) (p : sP) : sP := if p.1 < 120 then (p.1 + 1, upd p.2 p.1 (vp_nar .char (c.toUInt32 % 65536).toInt32)) else p
theorem sy_le {c : Int32} {p : sP} (h : p.1 ≤ 120) : (sy c p).1 ≤ 120 ∧ p.1 ≤ (sy c p).1 ∧ (p.1 < 120 → (sy c p).1 = p.1 + 1) := by
  unfold sy
  split
  · next h1 => exact ⟨h1, Nat.le_succ _, fun _ => rfl⟩
  · next h1 => exact ⟨h, Nat.le_refl _, fun h2 => absurd h2 h1⟩
def jE (l : Nat) : Nat → Nat → Nat
  | 0, j => j
  | f + 1, j => if 9 < l / 10 ^ j then jE l f (j + 1) else j
def dG (l : Nat) : Nat → sP → sP
  | 0, p => sy (nI (48 + l / 10 ^ 0 % 10)) p
  | j + 1, p => dG l j (sy (nI (48 + l / 10 ^ (j + 1) % 10)) p)
theorem dG_le {l : Nat} : ∀ (j : Nat) (p : sP), p.1 ≤ 120 → (dG l j p).1 ≤ 120 ∧ p.1 ≤ (dG l j p).1 ∧ (p.1 < 120 → p.1 < (dG l j p).1)
  | 0, p, h => by
    obtain ⟨h1, h2, h3⟩ := sy_le (c := nI (48 + l / 10 ^ 0 % 10)) h
    refine ⟨h1, h2, fun q => ?_⟩
    have := h3 q
    show p.1 < (sy (nI (48 + l / 10 ^ 0 % 10)) p).1
    omega
  | j + 1, p, h => by
    obtain ⟨h1, h2, h3⟩ := sy_le (c := nI (48 + l / 10 ^ (j + 1) % 10)) h
    obtain ⟨k1, k2, k3⟩ := dG_le (l := l) j (sy (nI (48 + l / 10 ^ (j + 1) % 10)) p) h1
    refine ⟨k1, Nat.le_trans h2 k2, fun q => ?_⟩
    have := h3 q
    show p.1 < (dG l j (sy (nI (48 + l / 10 ^ (j + 1) % 10)) p)).1
    omega
def syN (v : Int32) (p : sP) : sP := dG v.toInt.natAbs (jE v.toInt.natAbs 9 0) (if v < 0 then sy 45 p else p)
theorem syN_le {v : Int32} {p : sP} (h : p.1 ≤ 120) : (syN v p).1 ≤ 120 ∧ p.1 ≤ (syN v p).1 ∧ (p.1 < 120 → p.1 < (syN v p).1) := by
  unfold syN
  split
  · obtain ⟨h1, h2, h3⟩ := sy_le (c := 45) h
    obtain ⟨k1, k2, k3⟩ := dG_le (l := v.toInt.natAbs) (jE v.toInt.natAbs 9 0) (sy 45 p) h1
    refine ⟨k1, Nat.le_trans h2 k2, fun q => ?_⟩
    have := h3 q
    omega
  · exact dG_le _ p h
def phR (r : rM) (p : sP) (n : Nat) (pl : Nat → Int32) : rM := ((((r.s_shown (nI p.1)).s_show_ p.2).s_piled (nI n)).s_pile pl)
def atS (kd x : Int32) (p : sP) : sP := if kd = 1 then syN x p else if kd = 2 then sy x p else if kd = 0 then sy 41 (sy 40 p) else sy 35 p
theorem atS_le {kd x : Int32} {p : sP} (h : p.1 ≤ 120) : (atS kd x p).1 ≤ 120 ∧ p.1 ≤ (atS kd x p).1 ∧ (p.1 < 120 → p.1 < (atS kd x p).1) := by
  unfold atS
  split
  · exact syN_le h
  · split
    · obtain ⟨h1, h2, h3⟩ := sy_le (c := x) h
      exact ⟨h1, h2, fun q => by have := h3 q; omega⟩
    · split
      · obtain ⟨h1, h2, h3⟩ := sy_le (c := 40) h
        obtain ⟨k1, k2, k3⟩ := sy_le (c := 41) h1
        exact ⟨k1, Nat.le_trans h2 k2, fun q => by have := h3 q; omega⟩
      · obtain ⟨h1, h2, h3⟩ := sy_le (c := 35) h
        exact ⟨h1, h2, fun q => by have := h3 q; omega⟩
theorem abs_i64 (v : Int32) (h : v < 0) : -v.toInt64 = lN v.toInt.natAbs ∧ v.toInt.natAbs ≤ 2 ^ 31 := by
  have h0 : v.toInt < 0 := by
    have := Int32.lt_iff_toInt_lt.mp h
    rwa [show (0 : Int32).toInt = 0 by decide] at this
  have h1 := Int32.le_toInt v
  have h2 : v.toInt.natAbs ≤ 2 ^ 31 := by omega
  refine ⟨Int64.toInt_inj.mp ?_, h2⟩
  rw [pk_lT (by omega), Int64.toInt_neg, Int32.toInt_toInt64]
  rw [Int.bmod_eq_of_le (by omega) (by omega)]
  omega
theorem pos_i64 (v : Int32) (h : ¬ v < 0) : v.toInt64 = lN v.toInt.natAbs ∧ v.toInt.natAbs ≤ 2 ^ 31 := by
  obtain ⟨j, hj, rfl⟩ := nI_of h
  rw [nI_toInt hj]
  exact ⟨nI_l hj, by show j ≤ 2 ^ 31; omega⟩
section RH
variable {cst : Nat → Option (Nat × (Nat → Int32))} {m b0 b1 : Nat} {op : Bool} {tl : List mj_O} {Q : mj_R → Prop} {s : cS} {r : rM} {p : sP} {n : Nat} {pl : Nat → Int32}
set_option maxRecDepth 10000
theorem R_say {c : Int32} (hp : p.1 ≤ 120) (hQ : Q (.inl none, (cW s (rW (phR r (sy c p) n pl) tl), b0, b1, op))) : mj_Mt gT cst gnw (m + 1) y_R_say [.ref 27, .int c] (cW s (rW (phR r p n pl) tl), b0, b1, op) Q := by
  obtain ⟨q, f⟩ := p
  have hp : q ≤ 120 := hp
  have e0 : sy c (q, f) = if q < 120 then (q + 1, upd f q (vp_nar .char (c.toUInt32 % 65536).toInt32)) else (q, f) := rfl
  rw [e0] at hQ
  intro J hJ
  refine hJ _ _ _ _ ?_
  refine And.intro (fun (g : (120 : Int32) ≤ nI q) => ?_) (fun (g : ¬ (120 : Int32) ≤ nI q) => ?_)
  · have : ¬ q < 120 := fun w => nI_ge (b := 120) w (by decide) g
    rw [if_neg this] at hQ
    exact hQ
  · have hlt : q < 120 := Nat.lt_of_not_le (fun w => g (nI_le (a := 120) w (by omega)))
    rw [if_pos hlt] at hQ
    refine And.intro (vp_in_nI hlt (by decide)) ?_
    have key : ∀ (i : Nat) (y : Int32), i = q → y = nI (q + 1) → Q (.inl none, (cW s (rW (((phR r (q, f) n pl).s_shown y).s_show_ (upd f i (vp_nar .char (c.toUInt32 % 65536).toInt32))) tl), b0, b1, op)) := by
      rintro i y rfl rfl
      exact hQ
    exact key _ _ (nI_clamp (by omega)) (nI_succ q).symm
theorem pow_lt {j : Nat} (h : j ≤ 10) : 0 < 10 ^ j ∧ 10 ^ j ≤ 10000000000 := by
  refine ⟨Nat.pow_pos (by decide), ?_⟩
  have : 10 ^ j ≤ 10 ^ 10 := Nat.pow_le_pow_right (by decide) h
  exact this
theorem R_sayNumber {v : Int32} (hp : p.1 ≤ 120) (hQ : Q (.inl none, (cW s (rW (phR r (syN v p) n pl) tl), b0, b1, op))) : mj_Mt gT cst gnw (m + 2) y_R_sayNumber [.ref 27, .int v] (cW s (rW (phR r p n pl) tl), b0, b1, op) Q := by
  intro J hJ
  have loop2 : ∀ (j : Nat) (p' : sP), j ≤ 9 → p'.1 ≤ 120 → v.toInt.natAbs ≤ 2 ^ 31 → dG v.toInt.natAbs j p' = syN v p → J 27 [some (.ref 27), some (.int v), some (.long (lN v.toInt.natAbs)), none, some (.long (lN (10 ^ j))), none] [] (cW s (rW (phR r p' n pl) tl), b0, b1, op) := by
    intro j
    induction j with
    | zero =>
      intro p' hj hp' hl e
      refine hJ _ _ _ _ ?_
      refine And.intro (fun (g : lg_cmp (lN (10 ^ 0)) 0 ≤ 0) => absurd g (by decide)) (fun _ => ?_)
      refine And.intro (by decide) ?_
      refine And.intro (by decide) ?_
      refine R_say hp' ?_
      refine And.intro (by decide) ?_
      have key : ∀ (c : Int32) (t : Int64), c = nI (48 + v.toInt.natAbs / 10 ^ 0 % 10) → t = 0 → J 27 [some (.ref 27), some (.int v), some (.long (lN v.toInt.natAbs)), none, some (.long t), none] [] (cW s (rW (phR r (sy c p') n pl) tl), b0, b1, op) := by
        rintro c t rfl rfl
        have e : sy (nI (48 + v.toInt.natAbs / 10 ^ 0 % 10)) p' = syN v p := e
        rw [e]
        refine hJ _ _ _ _ ?_
        refine And.intro (fun _ => hQ) (fun (g : ¬ lg_cmp 0 0 ≤ 0) => absurd (by decide) g)
      refine key _ _ ?_ (by decide)
      have q1 := pk_lDiv (a := v.toInt.natAbs) (b := 10 ^ 0) (by omega) (by decide) (by decide)
      have q2 := pk_lRem (a := v.toInt.natAbs / 10 ^ 0) (b := 10) (Nat.lt_of_le_of_lt (Nat.div_le_self _ _) (by omega)) (by decide) (by decide)
      have e10 : Int64.ofNat 10 = lN 10 := rfl
      rw [q1, e10, q2, lN_i, show Int32.ofInt 48 = nI 48 by decide, nI_add]
    | succ j ih =>
      intro p' hj hp' hl e
      have ⟨t0, t1⟩ := pow_lt (j := j + 1) (by omega)
      refine hJ _ _ _ _ ?_
      refine And.intro (fun (g : lg_cmp (lN (10 ^ (j + 1))) 0 ≤ 0) => absurd g ?_) (fun _ => ?_)
      · unfold lg_cmp
        rw [if_pos (show lN (10 ^ (j + 1)) > 0 from (pk_lLT (a := 0) (by decide) (by omega)).mpr t0)]
        decide
      have hne : ¬ lN (10 ^ (j + 1)) = 0 := fun q => by
        have := (pk_lEQ (b := 0) (by omega) (by decide)).mp q
        omega
      refine And.intro hne ?_
      refine And.intro (by decide) ?_
      refine R_say hp' ?_
      refine And.intro (by decide) ?_
      have key : ∀ (c : Int32) (t : Int64), c = nI (48 + v.toInt.natAbs / 10 ^ (j + 1) % 10) → t = lN (10 ^ j) → J 27 [some (.ref 27), some (.int v), some (.long (lN v.toInt.natAbs)), none, some (.long t), none] [] (cW s (rW (phR r (sy c p') n pl) tl), b0, b1, op) := by
        rintro c t rfl rfl
        exact ih _ (by omega) (sy_le hp').1 hl e
      have e10 : Int64.ofNat 10 = lN 10 := rfl
      refine key _ _ ?_ ?_
      · have q1 := pk_lDiv (a := v.toInt.natAbs) (b := 10 ^ (j + 1)) (by omega) t0 (by omega)
        have q2 := pk_lRem (a := v.toInt.natAbs / 10 ^ (j + 1)) (b := 10) (Nat.lt_of_le_of_lt (Nat.div_le_self _ _) (by omega)) (by decide) (by decide)
        rw [q1, e10, q2, lN_i, show Int32.ofInt 48 = nI 48 by decide, nI_add]
      · have q1 := pk_lDiv (a := 10 ^ (j + 1)) (b := 10) (by omega) (by decide) (by decide)
        rw [e10, q1, Nat.pow_succ, Nat.mul_div_cancel _ (by decide)]
  have loop1 : ∀ (f j : Nat) (p' : sP), f + j = 9 → p'.1 ≤ 120 → v.toInt.natAbs ≤ 2 ^ 31 → dG v.toInt.natAbs (jE v.toInt.natAbs f j) p' = syN v p → J 16 [some (.ref 27), some (.int v), some (.long (lN v.toInt.natAbs)), none, some (.long (lN (10 ^ j))), none] [] (cW s (rW (phR r p' n pl) tl), b0, b1, op) := by
    intro f
    induction f with
    | zero =>
      intro j p' hj hp' hl e
      obtain rfl : j = 9 := by omega
      have e : dG v.toInt.natAbs 9 p' = syN v p := e
      refine hJ _ _ _ _ ?_
      refine And.intro (by decide) ?_
      have q1 := pk_lDiv (a := v.toInt.natAbs) (b := 10 ^ 9) (by omega) (by decide) (by decide)
      refine And.intro (fun _ => ?_) (fun (g : ¬ lg_cmp (lN v.toInt.natAbs / lN (10 ^ 9)) (Int64.ofNat 9) ≤ 0) => absurd ?_ g)
      · exact loop2 9 p' (by omega) hp' hl e
      · rw [q1]
        have hd : v.toInt.natAbs / 10 ^ 9 ≤ 2 := by
          have : v.toInt.natAbs / 10 ^ 9 ≤ 2 ^ 31 / 10 ^ 9 := Nat.div_le_div_right hl
          exact Nat.le_trans this (by decide)
        unfold lg_cmp
        rw [if_neg (show ¬ lN (v.toInt.natAbs / 10 ^ 9) > Int64.ofNat 9 from fun w => by
          have := (pk_lLT (a := 9) (by decide) (by omega)).mp w
          omega)]
        split <;> decide
    | succ f ih =>
      intro j p' hj hp' hl e
      have ⟨t0, t1⟩ := pow_lt (j := j) (by omega)
      have e9 : jE v.toInt.natAbs (f + 1) j = if 9 < v.toInt.natAbs / 10 ^ j then jE v.toInt.natAbs f (j + 1) else j := rfl
      rw [e9] at e
      have q1 := pk_lDiv (a := v.toInt.natAbs) (b := 10 ^ j) (by omega) t0 (by omega)
      have hlt : v.toInt.natAbs / 10 ^ j < 2 ^ 63 := Nat.lt_of_le_of_lt (Nat.div_le_self _ _) (by omega)
      have hne : ¬ lN (10 ^ j) = 0 := fun q => by
        have := (pk_lEQ (b := 0) (by omega) (by decide)).mp q
        omega
      refine hJ _ _ _ _ ?_
      refine And.intro hne ?_
      refine And.intro (fun (g : lg_cmp (lN v.toInt.natAbs / lN (10 ^ j)) (Int64.ofNat 9) ≤ 0) => ?_) (fun (g : ¬ lg_cmp (lN v.toInt.natAbs / lN (10 ^ j)) (Int64.ofNat 9) ≤ 0) => ?_)
      · rw [q1] at g
        have h9 : ¬ 9 < v.toInt.natAbs / 10 ^ j := by
          intro w
          have : lN (v.toInt.natAbs / 10 ^ j) > Int64.ofNat 9 := (pk_lLT (a := 9) (by decide) hlt).mpr w
          unfold lg_cmp at g
          rw [if_pos this] at g
          exact absurd g (by decide)
        rw [if_neg h9] at e
        exact loop2 j p' (by omega) hp' hl e
      · rw [q1] at g
        have h9 : 9 < v.toInt.natAbs / 10 ^ j := by
          refine Nat.lt_of_not_le (fun w => g ?_)
          unfold lg_cmp
          rw [if_neg (show ¬ lN (v.toInt.natAbs / 10 ^ j) > Int64.ofNat 9 from fun u => by
            have := (pk_lLT (a := 9) (by decide) hlt).mp u
            omega)]
          split <;> decide
        rw [if_pos h9] at e
        have key : ∀ t : Int64, t = lN (10 ^ (j + 1)) → J 16 [some (.ref 27), some (.int v), some (.long (lN v.toInt.natAbs)), none, some (.long t), none] [] (cW s (rW (phR r p' n pl) tl), b0, b1, op) := by
          rintro t rfl
          exact ih (j + 1) p' (by omega) hp' hl e
        refine key _ ?_
        show lN (10 ^ j) * lN 10 = _
        rw [lN_mul, Nat.pow_succ]
  refine hJ _ _ _ _ ?_
  by_cases hv : v < 0
  · obtain ⟨e1, e2⟩ := abs_i64 v hv
    have e3 : syN v p = dG v.toInt.natAbs (jE v.toInt.natAbs 9 0) (sy 45 p) := by
      unfold syN
      rw [if_pos hv]
    refine And.intro (fun (g : (0 : Int32) ≤ v) => absurd hv (Int32.not_lt.mpr g)) (fun _ => ?_)
    refine And.intro (fun (g : (0 : Int32) ≤ v) => absurd hv (Int32.not_lt.mpr g)) (fun _ => ?_)
    refine R_say hp ?_
    have key : ∀ x : Int64, x = lN v.toInt.natAbs → J 16 [some (.ref 27), some (.int v), some (.long x), none, some (.long (lN (10 ^ 0))), none] [] (cW s (rW (phR r (sy 45 p) n pl) tl), b0, b1, op) := by
      rintro x rfl
      exact loop1 9 0 _ (by omega) (sy_le hp).1 e2 e3.symm
    exact key _ e1
  · obtain ⟨e1, e2⟩ := pos_i64 v hv
    have e3 : syN v p = dG v.toInt.natAbs (jE v.toInt.natAbs 9 0) p := by
      unfold syN
      rw [if_neg hv]
    refine And.intro (fun _ => ?_) (fun (g : ¬ (0 : Int32) ≤ v) => absurd (Int32.not_lt.mp hv) g)
    refine And.intro (fun _ => ?_) (fun (g : ¬ (0 : Int32) ≤ v) => absurd (Int32.not_lt.mp hv) g)
    have key : ∀ x : Int64, x = lN v.toInt.natAbs → J 16 [some (.ref 27), some (.int v), some (.long x), none, some (.long (lN (10 ^ 0))), none] [] (cW s (rW (phR r p n pl) tl), b0, b1, op) := by
      rintro x rfl
      exact loop1 9 0 _ (by omega) hp e2 e3.symm
    exact key _ e1
theorem R_sayHead {kd x : Int32} (hp : p.1 ≤ 120) (hn : n < 260) (hx : kd = 3 → ∃ k, k < 250 ∧ x = nI k)
    (h1 : ∀ k, k < 250 → kd = 3 → x = nI k → r.function k = 0 → Q (.inl none, (cW s (rW (phR r (sy 40 p) (n + 1) (upd pl n x)) tl), b0, b1, op)))
    (h2 : (¬ kd = 3 ∨ ∃ k, k < 250 ∧ x = nI k ∧ ¬ r.function k = 0) → Q (.inl none, (cW s (rW (phR r (atS kd x p) n pl) tl), b0, b1, op))) : mj_Mt gT cst gnw (m + 3) y_R_sayHead [.ref 27, .int kd, .int x] (cW s (rW (phR r p n pl) tl), b0, b1, op) Q := by
  intro J hJ
  have atom : (¬ kd = 3 ∨ ∃ k, k < 250 ∧ x = nI k ∧ ¬ r.function k = 0) → ∀ F : Nat, mj_sg (mj_Mt gT cst gnw (m + 2)) cst gnw (mj_hd (mj_off kO_R_sayHead) kH_R_sayHead) kC_R_sayHead J Q (F + 60) false 24 [some (.ref 27), some (.int kd), some (.int x)] [] (cW s (rW (phR r p n pl) tl), b0, b1, op) := by
    intro hc F
    have h9 := h2 hc
    unfold atS at h9
    refine And.intro (fun (g : ¬ kd = 1) => ?_) (fun (g : kd = 1) => ?_)
    · rw [if_neg g] at h9
      refine And.intro (fun (g2 : ¬ kd = 2) => ?_) (fun (g2 : kd = 2) => ?_)
      · rw [if_neg g2] at h9
        refine And.intro (fun (g3 : ¬ kd = 0) => ?_) (fun (g3 : kd = 0) => ?_)
        · rw [if_neg g3] at h9
          refine R_say hp ?_
          exact h9
        · rw [if_pos g3] at h9
          refine R_say hp ?_
          refine R_say (sy_le hp).1 ?_
          exact h9
      · rw [if_pos g2] at h9
        refine R_say hp ?_
        exact h9
    · rw [if_pos g] at h9
      refine R_sayNumber hp ?_
      exact h9
  refine hJ _ _ _ _ ?_
  refine And.intro (fun (g : ¬ kd = 3) => atom (Or.inl g) _) (fun (g : kd = 3) => ?_)
  obtain ⟨k, hk, rfl⟩ := hx g
  have ek : (nI k).toNatClampNeg = k := nI_clamp (by omega)
  refine And.intro (vp_in_nI hk (by decide)) ?_
  rw [ek]
  refine And.intro (fun (g2 : ¬ r.function k = 0) => atom (Or.inr ⟨k, hk, rfl, g2⟩) _) (fun (g2 : r.function k = 0) => ?_)
  refine R_say hp ?_
  refine And.intro (vp_in_nI hn (by decide)) ?_
  have key : ∀ (i : Nat) (y : Int32), i = n → y = nI (n + 1) → Q (.inl none, (cW s (rW (((phR r (sy 40 p) n pl).s_piled y).s_pile (upd pl i (nI k))) tl), b0, b1, op)) := by
    rintro i y rfl rfl
    exact h1 k hk g rfl g2
  exact key _ _ (nI_clamp (by omega)) (nI_succ n).symm
end RH
end
section
theorem neg_pile : ∀ k, k < 250 → (Int32.ofInt (-1) - nI k : Int32) < 0 := by decide +kernel
theorem neg_neg1 (x : Int32) : Int32.ofInt (-1) - (Int32.ofInt (-1) - x) = x := by
  rw [Int32.sub_eq_iff_eq_add, Int32.add_comm, Int32.sub_add_cancel]
def pOK (n : Nat) (pl : Nat → Int32) : Prop := ∀ i, i < n → (∃ k, k < 250 ∧ pl i = nI k) ∨ (∃ k, k < 250 ∧ pl i = Int32.ofInt (-1) - nI k)
theorem pOK_le {n j : Nat} {pl : Nat → Int32} (h : pOK n pl) (hj : j ≤ n) : pOK j pl := fun i hi => h i (by omega)
theorem pOK_upd {n j : Nat} {pl : Nat → Int32} {x : Int32} (h : pOK n pl) (hj : j ≤ n) (hx : (∃ k, k < 250 ∧ x = nI k) ∨ (∃ k, k < 250 ∧ x = Int32.ofInt (-1) - nI k)) : pOK (max n (j + 1)) (upd pl j x) := by
  intro i hi
  unfold upd
  split
  · exact hx
  · exact h i (by omega)
section RHA
variable {cst : Nat → Option (Nat × (Nat → Int32))} {m b0 b1 : Nat} {op : Bool} {tl : List mj_O} {Q : mj_R → Prop} {s : cS} {r : rM}
set_option maxRecDepth 10000
set_option maxHeartbeats 4000000 in
theorem R_showLoop {J : Nat → mj_L → List Value → mj_H → Prop} (hJ : ∀ pc ls st h, mj_sg (mj_Mt gT cst gnw (m + 3)) cst gnw (mj_hd (mj_off kO_R_showAll) kH_R_showAll) kC_R_showAll J Q 400 true pc ls st h → J pc ls st h) (hr : ∀ a, a < 250 → (r.headKind a = 3 → ∃ j, j < 250 ∧ r.head a = nI j) ∧ (r.tailKind a = 3 → ∃ j, j < 250 ∧ r.tail a = nI j))
    (hQ : ∀ (p : sP) (n : Nat) (pl : Nat → Int32), p.1 ≤ 120 → Q (.inl none, (cW s (rW (phR r p n pl) tl), b0, b1, op))) :
    ∀ (d : Nat) (p : sP) (n : Nat) (pl : Nat → Int32) (x1 x2 : Option Value), 120 - p.1 ≤ d → p.1 ≤ 120 → n ≤ p.1 → pOK n pl → J 15 [some (.ref 27), x1, x2] [] (cW s (rW (phR r p n pl) tl), b0, b1, op) := by
  intro d
  induction d with
  | zero =>
    intro p n pl x1 x2 hd hp hn hl
    refine hJ _ _ _ _ ?_
    refine And.intro (fun _ => hQ p n pl hp) (fun _ => ?_)
    refine And.intro (fun _ => hQ p n pl hp) (fun (g : ¬ (120 : Int32) ≤ nI p.1) => absurd (nI_le (a := 120) (by omega) (by omega)) g)
  | succ d ih =>
    intro p n pl x1 x2 hd hp hn hl
    refine hJ _ _ _ _ ?_
    refine And.intro (fun _ => hQ p n pl hp) (fun (g : ¬ nI n ≤ 0) => ?_)
    cases n with
    | zero => exact absurd (by decide) g
    | succ n =>
    refine And.intro (fun _ => hQ p (n + 1) pl hp) (fun (g1 : ¬ (120 : Int32) ≤ nI p.1) => ?_)
    have hlt : p.1 < 120 := Nat.lt_of_not_le (fun w => g1 (nI_le (a := 120) w (by omega)))
    have e1 : nI (n + 1) - Int32.ofInt 1 = nI n := nI_pred n
    have en : (nI n).toNatClampNeg = n := nI_clamp (by omega)
    have hin : vp_in (nI (n + 1) - Int32.ofInt 1) 260 := by rw [e1]; exact vp_in_nI (by omega) (by decide)
    have hin2 : vp_in (nI n) 260 := vp_in_nI (by omega) (by decide)
    refine And.intro hin ?_
    rcases hl n (by omega) with ⟨k, hk, ek⟩ | ⟨k, hk, ek⟩
    · -- its head
      have kk : (nI k).toNatClampNeg = k := nI_clamp (by omega)
      have hik : vp_in (nI k) 250 := vp_in_nI hk (by decide)
      have key : ∀ (x : Int32), x = nI k → ∀ F : Nat, mj_sg (mj_Mt gT cst gnw (m + 3)) cst gnw (mj_hd (mj_off kO_R_showAll) kH_R_showAll) kC_R_showAll J Q (F + 60) false 29 [some (.ref 27), x1, x2] [.int x] (cW s (rW (phR r p (n + 1) pl) tl), b0, b1, op) := by
        rintro x rfl F
        refine And.intro (fun (g : nI k < 0) => absurd g (nI_pos (by omega))) (fun _ => ?_)
        refine And.intro hin ?_
        refine And.intro hik ?_
        rw [kk]
        refine And.intro hik ?_
        rw [kk]
        have key2 : ∀ (i : Nat) (F : Nat), i = n → mj_sg (mj_Mt gT cst gnw (m + 3)) cst gnw (mj_hd (mj_off kO_R_showAll) kH_R_showAll) kC_R_showAll J Q (F + 5) false 51 [some (.ref 27), some (.int (nI k)), x2] [.int (r.head k), .int (r.headKind k), .ref 27] (cW s (rW (phR r p (n + 1) (upd pl i (Int32.ofInt (-1) - nI k))) tl), b0, b1, op) := by
          rintro i F rfl
          have hl2 : pOK (i + 1) (upd pl i (Int32.ofInt (-1) - nI k)) := by
            have := pOK_upd (j := i) hl (by omega) (x := Int32.ofInt (-1) - nI k) (Or.inr ⟨k, hk, rfl⟩)
            exact pOK_le this (by omega)
          refine R_sayHead hp (by omega) (hr k hk).1 (fun j hj q1 q2 q3 => ?_) (fun _ => ?_)
          · obtain ⟨w1, w2, w3⟩ := sy_le (c := 40) hp
            have w4 := w3 hlt
            refine ih _ _ _ _ _ (by omega) w1 (by omega) ?_
            have := pOK_upd (j := i + 1) hl2 (by omega) (x := r.head k) (Or.inl ⟨j, hj, q2⟩)
            exact pOK_le this (by omega)
          · obtain ⟨w1, w2, w3⟩ := atS_le (kd := r.headKind k) (x := r.head k) hp
            have w4 := w3 hlt
            exact ih (atS (r.headKind k) (r.head k) p) (i + 1) (upd pl i (Int32.ofInt (-1) - nI k)) _ _ (by omega) w1 (by omega) hl2
        exact key2 _ _ (by show (nI (n + 1) - Int32.ofInt 1).toNatClampNeg = n; rw [e1]; exact en)
      exact key _ (by show pl (nI (n + 1) - Int32.ofInt 1).toNatClampNeg = nI k; rw [e1, en]; exact ek) _
    · -- its tail
      have kk : (nI k).toNatClampNeg = k := nI_clamp (by omega)
      have hik : vp_in (nI k) 250 := vp_in_nI hk (by decide)
      have key : ∀ (x : Int32), x = Int32.ofInt (-1) - nI k → ∀ F : Nat, mj_sg (mj_Mt gT cst gnw (m + 3)) cst gnw (mj_hd (mj_off kO_R_showAll) kH_R_showAll) kC_R_showAll J Q (F + 120) false 29 [some (.ref 27), x1, x2] [.int x] (cW s (rW (phR r p (n + 1) pl) tl), b0, b1, op) := by
        rintro x rfl F
        refine And.intro (fun _ => ?_) (fun (g : ¬ Int32.ofInt (-1) - nI k < 0) => absurd (neg_pile k hk) g)
        have hl0 : pOK n pl := pOK_le hl (by omega)
        have key2 : ∀ (y z x : Int32), y = nI k → z = nI n → x = r.tailKind k → ∀ F : Nat, mj_sg (mj_Mt gT cst gnw (m + 3)) cst gnw (mj_hd (mj_off kO_R_showAll) kH_R_showAll) kC_R_showAll J Q (F + 100) false 67 [some (.ref 27), some (.int (Int32.ofInt (-1) - nI k)), some (.int y)] [.int x] (cW s (rW ((phR r p n pl).s_piled z) tl), b0, b1, op) := by
          rintro y z x rfl rfl rfl F
          have other : (¬ r.tailKind k = 3 ∨ ∃ j, j < 250 ∧ r.tail k = nI j ∧ ¬ r.function j = 0) → ∀ F : Nat, mj_sg (mj_Mt gT cst gnw (m + 3)) cst gnw (mj_hd (mj_off kO_R_showAll) kH_R_showAll) kC_R_showAll J Q (F + 60) false 96 [some (.ref 27), some (.int (Int32.ofInt (-1) - nI k)), some (.int (nI k))] [] (cW s (rW (phR r p n pl) tl), b0, b1, op) := by
            intro ho F
            refine And.intro hik ?_
            rw [kk]
            refine And.intro (fun _ => ?_) (fun _ => ?_)
            · refine R_say hp ?_
              obtain ⟨w1, w2, w3⟩ := sy_le (c := Int32.ofInt 41) hp
              have w4 := w3 hlt
              exact ih _ _ _ _ _ (by omega) w1 (by omega) hl0
            · refine R_say hp ?_
              obtain ⟨w1, w2, w3⟩ := sy_le (c := Int32.ofInt 32) hp
              have w4 := w3 hlt
              refine R_say w1 ?_
              obtain ⟨v1, v2, v3⟩ := sy_le (c := Int32.ofInt 46) w1
              refine R_say v1 ?_
              obtain ⟨u1, u2, u3⟩ := sy_le (c := Int32.ofInt 32) v1
              refine And.intro hik ?_
              rw [kk]
              refine And.intro hik ?_
              rw [kk]
              refine R_sayHead u1 (by omega) (hr k hk).2 (fun j hj q1 q2 q3 => ?_) (fun _ => ?_)
              · exfalso
                rcases ho with ho | ⟨j2, hj2, o1, o2⟩
                · exact ho q1
                · have : j = j2 := nIj (by omega) (by omega) (q2.symm.trans o1)
                  subst this
                  exact o2 q3
              · obtain ⟨t1, t2, t3⟩ := atS_le (kd := r.tailKind k) (x := r.tail k) u1
                refine R_say t1 ?_
                obtain ⟨s1, s2, s3⟩ := sy_le (c := Int32.ofInt 41) t1
                exact ih (sy (Int32.ofInt 41) (atS (r.tailKind k) (r.tail k) (sy (Int32.ofInt 32) (sy (Int32.ofInt 46) (sy (Int32.ofInt 32) p))))) n pl _ _ (by omega) s1 (by omega) hl0
          refine And.intro (fun (q : ¬ r.tailKind k = 3) => other (Or.inl q) _) (fun (q : r.tailKind k = 3) => ?_)
          obtain ⟨j, hj, ej⟩ := (hr k hk).2 q
          have jj : (r.tail k).toNatClampNeg = j := by rw [ej]; exact nI_clamp (by omega)
          have hij : vp_in (r.tail k) 250 := by rw [ej]; exact vp_in_nI hj (by decide)
          refine And.intro hik ?_
          rw [kk]
          refine And.intro hij ?_
          refine And.intro (fun (q2 : ¬ r.function (r.tail k).toNatClampNeg = 0) => other (Or.inr ⟨j, hj, ej, by rw [jj] at q2; exact q2⟩) _) (fun _ => ?_)
          refine R_say hp ?_
          obtain ⟨w1, w2, w3⟩ := sy_le (c := Int32.ofInt 32) hp
          have w4 := w3 hlt
          refine And.intro hik ?_
          rw [kk]
          refine And.intro hin2 ?_
          have key3 : ∀ (i : Nat) (y : Int32), i = n → y = nI (n + 1) → J 15 [some (.ref 27), some (.int (Int32.ofInt (-1) - nI k)), some (.int (nI k))] [] (cW s (rW ((phR r (sy (Int32.ofInt 32) p) n (upd pl i (r.tail k))).s_piled y) tl), b0, b1, op) := by
            rintro i y rfl rfl
            refine ih (sy (Int32.ofInt 32) p) (i + 1) (upd pl i (r.tail k)) _ _ (by omega) w1 (by omega) ?_
            have := pOK_upd (j := i) hl (by omega) (x := r.tail k) (Or.inl ⟨j, hj, ej⟩)
            exact pOK_le this (by omega)
          exact key3 _ _ en (nI_succ n).symm
        refine And.intro (show vp_in (Int32.ofInt (-1) - (Int32.ofInt (-1) - nI k)) 250 by rw [neg_neg1]; exact hik) ?_
        exact key2 _ _ _ (neg_neg1 _) e1 (by rw [neg_neg1, kk]; rfl) _
      exact key _ (by show pl (nI (n + 1) - Int32.ofInt 1).toNatClampNeg = Int32.ofInt (-1) - nI k; rw [e1, en]; exact ek) _
theorem R_showAll {a : Nat} (ha : a < 250) (h0 : r.reg 0 = nI a) (hr : ∀ a, a < 250 → (r.headKind a = 3 → ∃ j, j < 250 ∧ r.head a = nI j) ∧ (r.tailKind a = 3 → ∃ j, j < 250 ∧ r.tail a = nI j))
    (hQ : ∀ (p : sP) (n : Nat) (pl : Nat → Int32), p.1 ≤ 120 → Q (.inl none, (cW s (rW (phR (gR r (r.headKind a) (r.head a)) p n pl) tl), b0, b1, op))) : mj_Mt gT cst gnw (m + 4) y_R_showAll [.ref 27] (cW s (rW r tl), b0, b1, op) Q := by
  intro J hJ
  have loop := R_showLoop (r := gR r (r.headKind a) (r.head a)) hJ hr hQ
  refine hJ _ _ _ _ ?_
  refine r_peek0 (r := phR r (0, r.show_) 0 r.pile) ha h0 ?_
  change mj_sg _ _ _ _ _ _ _ _ _ _ _ _ (cW s (rW (phR (gR r (r.headKind a) (r.head a)) (0, r.show_) 0 r.pile) tl), b0, b1, op)
  refine R_sayHead (p := (0, r.show_)) (Nat.zero_le 120) (by decide) (hr a ha).1 (fun k hk q1 q2 q3 => ?_) (fun _ => ?_)
  · obtain ⟨w1, w2, w3⟩ := sy_le (c := 40) (p := (0, r.show_)) (Nat.zero_le 120)
    have w4 := w3 (Nat.lt_of_lt_of_le Nat.zero_lt_one (by decide : 1 ≤ 120))
    refine loop 120 _ _ _ _ _ (by omega) w1 (by have : (0, r.show_).1 = 0 := rfl; omega) ?_
    have := pOK_upd (n := 0) (j := 0) (pl := r.pile) (fun i hi => absurd hi (Nat.not_lt_zero i)) (by omega) (x := r.head a) (Or.inl ⟨k, hk, q2⟩)
    exact pOK_le this (by omega)
  · obtain ⟨w1, w2, w3⟩ := atS_le (kd := r.headKind a) (x := r.head a) (p := (0, r.show_)) (Nat.zero_le 120)
    exact loop 120 _ _ _ _ _ (by omega) w1 (Nat.zero_le _) (fun i hi => absurd hi (Nat.not_lt_zero i))
end RHA
end
