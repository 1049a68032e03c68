def tlR (r : rM) (k : Nat) (a b : Int32) : rM := ((r.s_tailKind (upd r.tailKind k a)).s_tail (upd r.tail k b))
section RT
variable {cst : Nat → Option (Nat × (Nat → Int32))} {m b0 b1 : Nat} {op : Bool} {tl : List mj_O} {Q : mj_R → Prop} {s : cS} {r : rM} {H T : Nat → Vl} {S E C D R C' : Vl}
set_option maxRecDepth 10000
theorem upW_2 {α : Type} (F : Nat → α) (k : Nat) (x y : α) : upW (upW F k x) k y = upW F k y := by
  funext i
  unfold upW
  split <;> rfl
theorem tl_ok {k : Nat} {v : Vl} {a b : Int32} (hB : RB r H T) (hv : rv r v a b) : RB (tlR r k a b) H (upW T k v) := by
  obtain ⟨q1, q2, q3⟩ := hB
  refine ⟨q1, fun i hi => ⟨(q2 i hi).1, ?_⟩, fun i hi => ⟨(q3 i hi).1, ?_⟩⟩
  · by_cases e : i = k
    · subst e
      have e1 : upW T i v i = v := if_pos rfl
      have e2 : (tlR r i a b).tailKind i = a := if_pos rfl
      have e3 : (tlR r i a b).tail i = b := if_pos rfl
      rw [e1, e2, e3]
      exact hv
    · have e1 : upW T k v i = T i := if_neg e
      have e2 : (tlR r k a b).tailKind i = r.tailKind i := if_neg e
      have e3 : (tlR r k a b).tail i = r.tail i := if_neg e
      rw [e1, e2, e3]
      exact (q2 i hi).2
  · by_cases e : i = k
    · subst e
      have e2 : (tlR r i a b).tailKind i = a := if_pos rfl
      have e3 : (tlR r i a b).tail i = b := if_pos rfl
      rw [e2, e3]
      exact fun w => rv_raw (r := r) hv w
    · have e2 : (tlR r k a b).tailKind i = r.tailKind i := if_neg e
      have e3 : (tlR r k a b).tail i = r.tail i := if_neg e
      rw [e2, e3]
      exact (q3 i hi).2
theorem tl_sm {k : Nat} {a b : Int32} : kp r (tlR r k a b) ∧ (tlR r k a b).state = r.state ∧ upR r (tlR r k a b) ∧ Ur (tlR r k a b) = Ur r ∧ fz (tlR r k a b) = fz r ∧ (tlR r k a b).reg = r.reg := ⟨⟨⟨rfl, rfl, rfl, rfl, rfl⟩, rfl, rfl, rfl, rfl, rfl⟩, rfl, ⟨rfl, fun a ha => ⟨ha, rfl⟩⟩, rfl, rfl, rfl⟩
def smB (xk x yk y : Int32) : Prop := xk = yk ∧ ¬ xk = 3 ∧ (xk = 0 ∨ x = y)
theorem smB_iff {v w : Vl} {xk x yk y : Int32} (h1 : rv r v xk x) (h2 : rv r w yk y) : smB xk x yk y ↔ (v = w ∧ ceV v = none) := by
  unfold smB
  rcases v with u | v | v | v | v <;> rcases w with u' | w | w | w | w <;> rw [h1.1, h2.1]
  · exact ⟨fun _ => ⟨rfl, rfl⟩, fun _ => ⟨rfl, by decide, Or.inl rfl⟩⟩
  all_goals first
    | exact ⟨fun q => absurd q.1 (by decide), fun q => by cases q.1⟩
    | exact ⟨fun q => absurd rfl q.2.1, fun q => by cases q.2⟩
    | (rw [h1.2, h2.2]
       exact ⟨fun q => by
         rcases q.2.2 with q | q
         · exact absurd q (by decide)
         · rw [q]
           exact ⟨rfl, rfl⟩, fun q => by
         have e := q.1
         cases e
         exact ⟨rfl, by decide, Or.inr rfl⟩⟩)
set_option maxHeartbeats 8000000 in
theorem R_ofTwo {a a2 : Nat} {i y : Int32} (hi : i = 13 ∨ i = 14 ∨ i = 15 ∨ i = 16 ∨ i = 17 ∨ i = 18) (hX : RX r H T (vPr a) E C D R) (hf : 1 ≤ fz r) (hf2 : i = 13 → 2 ≤ fz r) (eT : T a = vPr a2) (lT : isL_ (T a2)) (hC : rg r C' y)
    (h1 : ∀ r', kp r r' → r'.state = 3 → RX r' H T (vPr a) E C D R → Ur r' = Ur r → ¬ i = 13 → ¬ i = 14 → ¬ (kV (H a2) = 1 ∧ kV (H a) = 1) → Q (.inl none, (cW s (rW r' tl), b0, b1, op)))
    (h2 : ∀ k r' v, ¬ Ur r k → kp r r' → r'.state = r.state → ((i = 14 ∧ v = if H a2 = H a ∧ ceV (H a2) = none then 1 else 0) ∨ (¬ i = 13 ∧ ¬ i = 14 ∧ ∃ x y, H a2 = vInt x ∧ H a = vInt y ∧ v = calV i x y)) → RX r' (upW H k (vInt v)) (upW T k (T a2)) (vPr k) E C' D R → Ur r' = addU (Ur r) k → Q (.inl none, (cW s (rW r' tl), b0, b1, op)))
    (h3 : ∀ k1 k2 r', ¬ Ur r k1 → ¬ addU (Ur r) k1 k2 → kp r r' → r'.state = r.state → i = 13 → RX r' (upW (upW H k1 (H a)) k2 (vPr k1)) (upW (upW T k1 (H a2)) k2 (T a2)) (vPr k2) E C' D R → Ur r' = addU (addU (Ur r) k1) k2 → Q (.inl none, (cW s (rW r' tl), b0, b1, op))) :
    mj_Mt gT cst gnw (m + 3) y_R_ofTwo [.ref 27, .int i, .int y] (cW s (rW r tl), b0, b1, op) Q := by
  have hX0 := hX
  obtain ⟨hB, x0, x1, x2, x3, x4⟩ := hX
  obtain ⟨a', ea, h0, ua, -⟩ := x0.resolve_left (fun q => by cases q.1)
  cases ea
  have hz := hB.1.2
  have hv := (hB.2.1 a ua).1
  have ua2 : Ur r a2 := by
    have := (hB.2.1 a ua).2
    rw [eT] at this
    exact this.2.2.1
  have hv2 := (hB.2.1 a2 ua2).1
  intro J hJ
  refine hJ _ _ _ _ ?_
  refine R_peek0 (Ur_lt hB ua) h0 (fun r1 s1 g1 g2 g3 => ?_)
  have hB1 := sm_RB s1 hB
  refine R_peek1 (Ur_lt hB ua2) (Ur_lt hB ua) (by rw [g1]; exact h0) (by rw [sm_rs s1]; exact rs_pr hB ua eT) (fun r2 s2 g4 g5 g6 => ?_)
  have s12 := sm_tr s1 s2
  have g7 : r2.reg = r.reg := g4.trans g1
  rw [s1.2.2.2.1.1] at g5
  rw [s1.2.2.2.1.2] at g6
  have go : ∀ yk yv xk xv : Int32, yk = r.headKind a → yv = r.head a → xk = r.headKind a2 → xv = r.head a2 → ∀ F : Nat, mj_sg (mj_Mt gT cst gnw (m + 2)) cst gnw (mj_hd (mj_off kO_R_ofTwo) kH_R_ofTwo) kC_R_ofTwo J Q (F + 300) false 18 [some (.ref 27), some (.int i), some (.int y), some (.int yk), some (.int yv), some (.int xk), some (.int xv), none] [] (cW s (rW r2 tl), b0, b1, op) := by
    rintro yk yv xk xv rfl rfl rfl rfl F
    have fin : ∀ (r4 : rM) (v : Int32), sm r r4 → r4.reg = upd r.reg 0 (rsN r a2) → ((i = 14 ∧ v = if H a2 = H a ∧ ceV (H a2) = none then 1 else 0) ∨ (¬ i = 13 ∧ ¬ i = 14 ∧ ∃ x y, H a2 = vInt x ∧ H a = vInt y ∧ v = calV i x y)) → ∀ Q' : mj_R → Prop, (∀ r3, (∀ r4, r4 = sR r3 (upd r3.reg 2 y) → Q (.inl none, (cW s (rW r4 tl), b0, b1, op))) → Q' (.inl none, (cW s (rW r3 tl), b0, b1, op))) → mj_Mt gT cst gnw (m + 2) y_R_push [.ref 27, .int 1, .int v] (cW s (rW r4 tl), b0, b1, op) Q' := by
      intro r4 v s4 g8 hc Q' hQ'
      refine R_push (S := T a2) (h := vInt v) (sm_RB s4 hB) (by rw [sm_fz s4]; exact hf) ⟨rfl, rfl⟩ (by rw [g8]; exact sm_rg s4 (rs_rg hB ua2 lT)) (fun k r3 hm g9 => ?_)
      obtain ⟨⟨m1, -⟩, ⟨m2, m3, m4⟩, m5, m6, m7, m8⟩ := hm
      rw [sm_Ur s4] at m1 m6
      refine hQ' r3 (fun r5 e5 => ?_)
      subst e5
      refine h2 k _ v m1 (kp_tr (kp_tr s4.1 m2) kp_sR) (m3.trans s4.2.1) hc ?_ (by rw [← m6]; exact sm_Ur sm_sR)
      exact RX_up (r := r) (x0 := nI k) (x1 := r.reg 1) (x2 := y) (x3 := r.reg 3) (x4 := r.reg 4) (sm_RB sm_sR m5) (up_tr (sm_up s4) (up_tr m4 (sm_up sm_sR))) (sm_rg sm_sR m8) x1 hC x3 x4 (by show upd r3.reg 2 y 0 = nI k; rw [g9]; rfl) (by show upd r3.reg 2 y 1 = _; rw [g9, g8]; rfl) rfl (by show upd r3.reg 2 y 3 = _; rw [g9, g8]; rfl) (by show upd r3.reg 2 y 4 = _; rw [g9, g8]; rfl)
    have mid : ∀ F : Nat, (¬ i = 13 → ¬ i = 14 → kV (H a2) = 1 ∧ kV (H a) = 1) → mj_sg (mj_Mt gT cst gnw (m + 2)) cst gnw (mj_hd (mj_off kO_R_ofTwo) kH_R_ofTwo) kC_R_ofTwo J Q (F + 200) false 31 [some (.ref 27), some (.int i), some (.int y), some (.int (r.headKind a)), some (.int (r.head a)), some (.int (r.headKind a2)), some (.int (r.head a2)), none] [] (cW s (rW r2 tl), b0, b1, op) := by
      intro F hk
      refine R_drop (Ur_lt hB ua) (by rw [g7]; exact h0) (fun r3 s3 g8 _ _ => ?_)
      have s13 := sm_tr s12 s3
      have e3 : r3.reg 0 = nI a2 := by
        rw [g8]
        show rsN r2 a = nI a2
        rw [sm_rs s12]
        exact rs_pr hB ua eT
      refine R_drop (Ur_lt hB ua2) e3 (fun r4 s4 g9 _ _ => ?_)
      have s14 := sm_tr s13 s4
      have g10 : r4.reg = upd r.reg 0 (rsN r a2) := by
        rw [g9, g8, g7, sm_rs s13]
        funext j
        unfold upd
        split <;> rfl
      by_cases e13 : i = 13
      · subst e13
        refine And.intro (fun (g : ¬ (13 : Int32) = 13) => absurd rfl g) (fun _ => ?_)
        refine R_make (h := H a) (t := vNil) (sm_RB s14 hB) (by rw [sm_fz s14]; exact hf) (sm_rv s14 hv) (Or.inl ⟨rfl, rfl⟩) (fun k1 r5 hm g11 => ?_)
        obtain ⟨⟨m1, mk⟩, ⟨m2, m3, m4⟩, m5, m6, m7, m8⟩ := hm
        rw [sm_Ur s14] at m1 m6
        rw [sm_fz s14] at m7
        have ek : (nI k1).toNatClampNeg = k1 := nI_clamp (by omega)
        have hin : vp_in (nI k1) 250 := vp_in_nI mk (by decide)
        have hu5 := up_tr (sm_up s14) m4
        refine And.intro hin ?_
        rw [ek]
        refine And.intro hin ?_
        rw [ek]
        change mj_sg _ _ _ _ _ _ _ _ _ _ _ _ (cW s (rW (tlR r5 k1 (r.headKind a2) (r.head a2)) tl), b0, b1, op)
        have hB6 := tl_ok (k := k1) m5 (rv_up hu5 hv2)
        rw [upW_2] at hB6
        obtain ⟨n1, n2, n3, n4, n5, n6⟩ := tl_sm (r := r5) (k := k1) (a := r.headKind a2) (b := r.head a2)
        generalize tlR r5 k1 (r.headKind a2) (r.head a2) = r6 at *
        have rk : rv r6 (vPr k1) 3 (nI k1) := by
          have := rg_rv (rg_up n3 m8) hB6.1.2
          rw [if_neg (nI_pos (by omega)), if_neg (nI_pos (by omega))] at this
          exact this
        have hu6 := up_tr hu5 n3
        refine R_push (S := T a2) (h := vPr k1) hB6 (by rw [n5]; have := hf2 rfl; omega) rk (by rw [n6, g11, g10]; exact rg_up hu6 (rs_rg hB ua2 lT)) (fun k2 r7 hm g12 => ?_)
        obtain ⟨⟨o1, -⟩, ⟨o2, o3, o4⟩, o5, o6, o7, o8⟩ := hm
        rw [n4, m6] at o1 o6
        have hu7 := up_tr hu6 o4
        refine And.intro i52 ?_
        refine h3 k1 k2 (sR r7 (upd r7.reg 2 y)) m1 o1 (kp_tr (kp_tr s14.1 m2) (kp_tr n1 (kp_tr o2 kp_sR))) (o3.trans (n2.trans (m3.trans s14.2.1))) rfl ?_ (by rw [← o6]; exact sm_Ur sm_sR)
        exact RX_up (r := r) (x0 := nI k2) (x1 := r.reg 1) (x2 := y) (x3 := r.reg 3) (x4 := r.reg 4) (sm_RB sm_sR o5) (up_tr hu7 (sm_up sm_sR)) (sm_rg sm_sR o8) x1 hC x3 x4 (by show upd r7.reg 2 y 0 = nI k2; rw [g12]; rfl) (by show upd r7.reg 2 y 1 = _; rw [g12, n6, g11, g10]; rfl) rfl (by show upd r7.reg 2 y 3 = _; rw [g12, n6, g11, g10]; rfl) (by show upd r7.reg 2 y 4 = _; rw [g12, n6, g11, g10]; rfl)
      · refine And.intro (fun _ => ?_) (fun (g : i = 13) => absurd g e13)
        have hs := smB_iff (r := r) hv2 hv
        have hc : ∀ v : Int32, ¬ i = 14 → v = calV i (r.head a2) (r.head a) → ((i = 14 ∧ v = if H a2 = H a ∧ ceV (H a2) = none then 1 else 0) ∨ (¬ i = 13 ∧ ¬ i = 14 ∧ ∃ x y, H a2 = vInt x ∧ H a = vInt y ∧ v = calV i x y)) := fun v w ev => Or.inr ⟨e13, w, r.head a2, r.head a, rv_int2 hv2 (hk e13 w).1, rv_int2 hv (hk e13 w).2, ev⟩
        have t1 : ∀ F : Nat, smB (r.headKind a2) (r.head a2) (r.headKind a) (r.head a) → mj_sg (mj_Mt gT cst gnw (m + 2)) cst gnw (mj_hd (mj_off kO_R_ofTwo) kH_R_ofTwo) kC_R_ofTwo J Q (F + 100) false 70 [some (.ref 27), some (.int i), some (.int y), some (.int (r.headKind a)), some (.int (r.head a)), some (.int (r.headKind a2)), some (.int (r.head a2)), none] [] (cW s (rW r4 tl), b0, b1, op) := by
          intro F hb
          rcases hi with rfl | rfl | rfl | rfl | rfl | rfl
          · exact absurd rfl e13
          · refine And.intro (fun (g : ¬ (14 : Int32) = 14) => absurd rfl g) (fun _ => ?_)
            refine And.intro (fun (g : (1 : Int32) = 0) => absurd g (by decide)) (fun _ => ?_)
            refine fin r4 1 s14 g10 (Or.inl ⟨rfl, by rw [if_pos (hs.mp hb)]⟩) _ (fun r5 h5 => ?_)
            exact And.intro i52 (h5 _ rfl)
          · refine And.intro (fun _ => ?_) (fun (g : (15 : Int32) = 14) => absurd g (by decide))
            refine And.intro (fun (g : ¬ (15 : Int32) = 15) => absurd rfl g) (fun _ => ?_)
            refine fin r4 _ s14 g10 (hc _ (by decide) rfl) _ (fun r5 h5 => ?_)
            exact And.intro i52 (h5 _ rfl)
          · refine And.intro (fun _ => ?_) (fun (g : (16 : Int32) = 14) => absurd g (by decide))
            refine And.intro (fun _ => ?_) (fun (g : (16 : Int32) = 15) => absurd g (by decide))
            refine And.intro (fun (g : ¬ (16 : Int32) = 16) => absurd rfl g) (fun _ => ?_)
            refine fin r4 _ s14 g10 (hc _ (by decide) rfl) _ (fun r5 h5 => ?_)
            exact And.intro i52 (h5 _ rfl)
          · refine And.intro (fun _ => ?_) (fun (g : (17 : Int32) = 14) => absurd g (by decide))
            refine And.intro (fun _ => ?_) (fun (g : (17 : Int32) = 15) => absurd g (by decide))
            refine And.intro (fun _ => ?_) (fun (g : (17 : Int32) = 16) => absurd g (by decide))
            refine And.intro (fun (g : ¬ (17 : Int32) = 17) => absurd rfl g) (fun _ => ?_)
            refine fin r4 _ s14 g10 (hc _ (by decide) rfl) _ (fun r5 h5 => ?_)
            exact And.intro i52 (h5 _ rfl)
          · refine And.intro (fun _ => ?_) (fun (g : (18 : Int32) = 14) => absurd g (by decide))
            refine And.intro (fun _ => ?_) (fun (g : (18 : Int32) = 15) => absurd g (by decide))
            refine And.intro (fun _ => ?_) (fun (g : (18 : Int32) = 16) => absurd g (by decide))
            refine And.intro (fun _ => ?_) (fun (g : (18 : Int32) = 17) => absurd g (by decide))
            refine And.intro (fun (g : r.head a ≤ r.head a2) => ?_) (fun (g : ¬ r.head a ≤ r.head a2) => ?_)
            · refine fin r4 0 s14 g10 (hc _ (by decide) ?_) _ (fun r5 h5 => ?_)
              · show 0 = if r.head a2 < r.head a then (1 : Int32) else 0
                rw [if_neg (Int32.not_lt.mpr g)]
              · exact And.intro i52 (h5 _ rfl)
            · refine fin r4 1 s14 g10 (hc _ (by decide) ?_) _ (fun r5 h5 => ?_)
              · show 1 = if r.head a2 < r.head a then (1 : Int32) else 0
                rw [if_pos (Int32.not_le.mp g)]
              · exact And.intro i52 (h5 _ rfl)
        have t0 : ∀ F : Nat, ¬ smB (r.headKind a2) (r.head a2) (r.headKind a) (r.head a) → mj_sg (mj_Mt gT cst gnw (m + 2)) cst gnw (mj_hd (mj_off kO_R_ofTwo) kH_R_ofTwo) kC_R_ofTwo J Q (F + 100) false 72 [some (.ref 27), some (.int i), some (.int y), some (.int (r.headKind a)), some (.int (r.head a)), some (.int (r.headKind a2)), some (.int (r.head a2)), none] [] (cW s (rW r4 tl), b0, b1, op) := by
          intro F hb
          rcases hi with rfl | rfl | rfl | rfl | rfl | rfl
          · exact absurd rfl e13
          · refine And.intro (fun (g : ¬ (14 : Int32) = 14) => absurd rfl g) (fun _ => ?_)
            refine And.intro (fun _ => ?_) (fun (g : ¬ (0 : Int32) = 0) => absurd rfl g)
            refine fin r4 0 s14 g10 (Or.inl ⟨rfl, by rw [if_neg (fun q => hb (hs.mpr q))]⟩) _ (fun r5 h5 => ?_)
            exact And.intro i52 (h5 _ rfl)
          · refine And.intro (fun _ => ?_) (fun (g : (15 : Int32) = 14) => absurd g (by decide))
            refine And.intro (fun (g : ¬ (15 : Int32) = 15) => absurd rfl g) (fun _ => ?_)
            refine fin r4 _ s14 g10 (hc _ (by decide) rfl) _ (fun r5 h5 => ?_)
            exact And.intro i52 (h5 _ rfl)
          · refine And.intro (fun _ => ?_) (fun (g : (16 : Int32) = 14) => absurd g (by decide))
            refine And.intro (fun _ => ?_) (fun (g : (16 : Int32) = 15) => absurd g (by decide))
            refine And.intro (fun (g : ¬ (16 : Int32) = 16) => absurd rfl g) (fun _ => ?_)
            refine fin r4 _ s14 g10 (hc _ (by decide) rfl) _ (fun r5 h5 => ?_)
            exact And.intro i52 (h5 _ rfl)
          · refine And.intro (fun _ => ?_) (fun (g : (17 : Int32) = 14) => absurd g (by decide))
            refine And.intro (fun _ => ?_) (fun (g : (17 : Int32) = 15) => absurd g (by decide))
            refine And.intro (fun _ => ?_) (fun (g : (17 : Int32) = 16) => absurd g (by decide))
            refine And.intro (fun (g : ¬ (17 : Int32) = 17) => absurd rfl g) (fun _ => ?_)
            refine fin r4 _ s14 g10 (hc _ (by decide) rfl) _ (fun r5 h5 => ?_)
            exact And.intro i52 (h5 _ rfl)
          · refine And.intro (fun _ => ?_) (fun (g : (18 : Int32) = 14) => absurd g (by decide))
            refine And.intro (fun _ => ?_) (fun (g : (18 : Int32) = 15) => absurd g (by decide))
            refine And.intro (fun _ => ?_) (fun (g : (18 : Int32) = 16) => absurd g (by decide))
            refine And.intro (fun _ => ?_) (fun (g : (18 : Int32) = 17) => absurd g (by decide))
            refine And.intro (fun (g : r.head a ≤ r.head a2) => ?_) (fun (g : ¬ r.head a ≤ r.head a2) => ?_)
            · refine fin r4 0 s14 g10 (hc _ (by decide) ?_) _ (fun r5 h5 => ?_)
              · show 0 = if r.head a2 < r.head a then (1 : Int32) else 0
                rw [if_neg (Int32.not_lt.mpr g)]
              · exact And.intro i52 (h5 _ rfl)
            · refine fin r4 1 s14 g10 (hc _ (by decide) ?_) _ (fun r5 h5 => ?_)
              · show 1 = if r.head a2 < r.head a then (1 : Int32) else 0
                rw [if_pos (Int32.not_le.mp g)]
              · exact And.intro i52 (h5 _ rfl)
        refine And.intro (fun (g : ¬ r.headKind a2 = r.headKind a) => t0 _ (fun q => g q.1)) (fun (g : r.headKind a2 = r.headKind a) => ?_)
        refine And.intro (fun (g' : r.headKind a2 = 3) => t0 _ (fun q => q.2.1 g')) (fun (g' : ¬ r.headKind a2 = 3) => ?_)
        refine And.intro (fun (w : r.headKind a2 = 0) => t1 _ ⟨g, g', Or.inl w⟩) (fun (w : ¬ r.headKind a2 = 0) => ?_)
        refine And.intro (fun (u : ¬ r.head a2 = r.head a) => t0 _ (fun q => q.2.2.elim w u)) (fun (u : r.head a2 = r.head a) => t1 _ ⟨g, g', Or.inr u⟩)
    have wrong : ∀ F : Nat, ¬ i ≤ 14 → ¬ (kV (H a2) = 1 ∧ kV (H a) = 1) → mj_sg (mj_Mt gT cst gnw (m + 2)) cst gnw (mj_hd (mj_off kO_R_ofTwo) kH_R_ofTwo) kC_R_ofTwo J Q (F + 100) false 27 [some (.ref 27), some (.int i), some (.int y), some (.int (r.headKind a)), some (.int (r.head a)), some (.int (r.headKind a2)), some (.int (r.head a2)), none] [] (cW s (rW r2 tl), b0, b1, op) := by
      intro F w wk
      refine R_stop (fun r' c1 c2 c3 c4 c5 c6 => ?_)
      obtain ⟨w1, w2, w3, w4⟩ := R_wrong hX0 s12 g7 c1 c2 c3 c4 c5 c6
      exact h1 r' w1 w2 w3 w4 (fun e => w (by rw [e]; decide)) (fun e => w (by rw [e]; decide)) wk
    refine And.intro (fun (w : i ≤ 14) => mid _ (fun e1 e2 => ?_)) (fun (w : ¬ i ≤ 14) => ?_)
    · rcases hi with rfl | rfl | rfl | rfl | rfl | rfl
      · exact absurd rfl e1
      · exact absurd rfl e2
      · exact absurd w (by decide)
      · exact absurd w (by decide)
      · exact absurd w (by decide)
      · exact absurd w (by decide)
    · refine And.intro (fun (w1 : ¬ r.headKind a2 = 1) => wrong _ w (fun q => w1 ((rv_int hv2).mpr q.1))) (fun (w1 : r.headKind a2 = 1) => ?_)
      refine And.intro (fun (w2 : r.headKind a = 1) => mid _ (fun _ _ => ⟨(rv_int hv2).mp w1, (rv_int hv).mp w2⟩)) (fun (w2 : ¬ r.headKind a = 1) => wrong _ w (fun q => w2 ((rv_int hv).mpr q.2)))
  exact go _ _ _ _ g2 g3 g5 g6 _
end RT
