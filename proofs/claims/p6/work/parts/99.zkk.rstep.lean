section RSQ
variable {cst : Nat → Option (Nat × (Nat → Int32))} {m b0 b1 : Nat} {op : Bool} {tl : List mj_O} {Q : mj_R → Prop} {s : cS} {r : rM} {H T : Nat → Vl} {ro : Nat → Bool} {S E C D R : Vl} {k : Sk} {n : Nat} {b : Bool} {e : En} {J : Nat → mj_L → List Value → mj_H → Prop}
set_option maxRecDepth 10000
theorem R_actE {c f : Nat} {i : Int32} (hX : RX r H T S E (vPr c) D R) (hT : TI H T ro (Ur r) S E (vPr c) D R k n b e) (hst : r.state = 1) (hmk : mkOK r) (hsh : shOK r) (hQ : stE b0 b1 op tl Q s r H T S E (vPr c) D R i) (hi : rqN i ≤ fz r) (hw : wt H T ro (f + 1) (vPr c) k n b e) (hH : H c = vInt i) (F : Nat) :
    mj_sg (mj_Mt gT cst gnw (m + 4)) cst gnw (mj_hd (mj_off kO_R_step) kH_R_step) kC_R_step J Q (F + 160) false 37 [some (.ref 27), some (.int (nI c)), some (.int i), none, none] [] (cW s (rW r tl), b0, b1, op) := by
  have hc : c < 250 := Ur_lt hX.1 (rg_pr hX.2.2.2.1).2
  refine R_rest rfl hc ?_
  obtain ⟨c', i', ec, -, hH', h⟩ := hw
  cases ec
  rw [hH] at hH'
  cases hH'
  rcases h with ⟨e1, d, t, a1, a2, a0, a3⟩ | ⟨e1, d, x, a1, a2, a3, a4⟩ | ⟨e1, d, a1, a2, a3, a4⟩ | ⟨e1, x, k', a1, a2⟩ | ⟨e1, x, k', a1, a2⟩ | ⟨e1, a1⟩ | ⟨e1, x, k', a1, a2, a3, a4⟩ | ⟨e1, x, k', d, q, a1, a2, a3, a4, a5, a6, a7, a8⟩ | ⟨e1, a1⟩ | ⟨e1, x, k', a1, a2⟩ | ⟨e1, x, y, t, k', a1, a0, a2⟩ | ⟨e1, x, k', a1, a2⟩
  · subst e1
    exact AE_1 hX hT hst hmk hsh a1 a0 a3 hi hQ _
  · subst e1
    exact AE_2 hX hT hst hmk hsh a1 a3.1 a3.2 a4 hi hQ _
  · subst e1
    exact AE_3 hX hT hst hmk hsh a1 a3 a4 hi hQ _
  · subst e1
    exact AE_4 hX hT hst hmk hsh a1 a2 hi hQ _
  · subst e1
    exact AE_5 hX hT hst hmk hsh a1 a2 hi hQ _
  · subst e1
    exact AE_6 hX hT hst hmk hsh a1 hi hQ _
  · subst e1
    exact AE_7 hX hT hst hmk hsh a1 a2 a3 a4 hi hQ _
  · subst e1
    exact AE_8 hX hT hst hmk hsh a1 a2 a4 a6 a7 a8 hi hQ _
  · subst e1
    exact AE_9 hX hT hst hmk hsh a1 hQ _
  · refine AE_10 hX hT hst hmk hsh e1 a1 a2 ?_ hQ _
    rcases e1 with rfl | rfl | rfl <;> exact hi
  · refine AE_13 hX hT hst hmk hsh e1 a1 a0 a2 ?_ (fun q => ?_) hQ _
    · rcases e1 with rfl | rfl | rfl | rfl | rfl | rfl
      · exact Nat.le_trans (by decide) hi
      · exact hi
      · exact hi
      · exact hi
      · exact hi
      · exact hi
    · subst q
      exact hi
  · subst e1
    exact AE_19 hX hT hst hmk hsh a1 hQ _
def stB (z cc : Nat) (σ' : KS) (b0 b1 : Nat) (op : Bool) (tl : List mj_O) (Q : mj_R → Prop) (s : cS) (r : rM) (R : Vl) : Prop := ∀ (r' : rM) (H' T' : Nat → Vl) (ro' : Nat → Bool) (S' E' C' D' : Vl) (k' : Sk) (n' : Nat) (b' : Bool) (e' : En) (U' : Nat → Prop) (ρ' : Nat → Nat → Prop), kc r r' → mkOK r' → rnS r' → shOK r' → RX r' H' T' S' E' C' D' R → TI H' T' ro' (Ur r') S' E' C' D' R k' n' b' e' → r'.state = σ'.2.2.2.2.2 → KT z cc σ'.1 σ'.2.1 σ'.2.2.1.1 σ'.2.2.1.2.1 σ'.2.2.1.2.2.1 σ'.2.2.1.2.2.2 σ'.2.2.2.1 σ'.2.2.2.2.1 U' → BIS cc σ'.1 σ'.2.1 σ'.2.2.1.1 σ'.2.2.1.2.1 σ'.2.2.1.2.2.1 σ'.2.2.1.2.2.2 σ'.2.2.2.2.1 U' r' H' T' S' E' C' D' R ρ' → Q (.inl none, (cW s (rW r' tl), b0, b1, op))
theorem wt_19 {f c : Nat} {i : Int32} (hw : wt H T ro (f + 1) (vPr c) k n b e) (hH : H c = vInt i) : 1 ≤ i ∧ i ≤ 19 := by
  obtain ⟨c', i', ec, -, hH', hw⟩ := hw
  cases ec
  rw [hH] at hH'
  cases hH'
  rcases hw with ⟨e1, -⟩ | ⟨e1, -⟩ | ⟨e1, -⟩ | ⟨e1, -⟩ | ⟨e1, -⟩ | ⟨e1, -⟩ | ⟨e1, -⟩ | ⟨e1, -⟩ | ⟨e1, -⟩ | ⟨e1, -⟩ | ⟨e1, -⟩ | ⟨e1, -⟩
  · rw [e1]; decide
  · rw [e1]; decide
  · rw [e1]; decide
  · rw [e1]; decide
  · rw [e1]; decide
  · rw [e1]; decide
  · rw [e1]; decide
  · rw [e1]; decide
  · rw [e1]; decide
  · rcases e1 with e1 | e1 | e1 <;> rw [e1] <;> decide
  · rcases e1 with e1 | e1 | e1 | e1 | e1 | e1 <;> rw [e1] <;> decide
  · rw [e1]; decide
theorem R_stepE {z cc : Nat} {H1 T1 : Nat → Vl} {S1 E1 C1 D1 : Vl} {fr : Nat → Nat} {f1 : Nat} {U : Nat → Prop} {ρ : Nat → Nat → Prop} {σ' : KS} (hX : RX r H T S E C D R) (hT : TI H T ro (Ur r) S E C D R k n b e) (hst : r.state = 1) (hmk : mkOK r) (hsh : shOK r) (hzz : r.z = z) (hK : KT z cc H1 T1 S1 E1 C1 D1 fr f1 U) (hCD : CDE cc H1 T1) (hBI : BIS cc H1 T1 S1 E1 C1 D1 f1 U r H T S E C D R ρ) (hCS : CSTEP z (H1, T1, (S1, E1, C1, D1), fr, f1, 1) σ') (hQ : stB z cc σ' b0 b1 op tl Q s r R) : mj_Mt gT cst gnw (m + 5) y_R_step [.ref 27] (cW s (rW r tl), b0, b1, op) Q := by
  obtain ⟨f, hw⟩ : ∃ f, wt H T ro f C k n b e := hT.2.2.2.1.2
  cases f with
  | zero => exact absurd hw id
  | succ f =>
  have hw0 := hw
  obtain ⟨c, i, rfl, -, hH, -⟩ := hw
  have h19 := wt_19 hw0 hH
  have hB := hX.1
  have hz := hB.1.2
  obtain ⟨h2, uc⟩ := rg_pr hX.2.2.2.1
  have hc : c < 250 := Ur_lt hB uc
  have ek : (nI c).toNatClampNeg = c := nI_clamp (by omega)
  have eh : r.head c = i := by
    have := (hB.2.1 c uc).1
    rw [hH] at this
    exact this.2
  obtain ⟨en, hn4⟩ := rnd_rq i
  have hfz : ∀ r' : rM, r'.z ≤ 250 → fz r' ≤ 250 := fun r' h => by
    have := czN_le r'.used r'.z 0 0
    unfold fz
    omega
  obtain ⟨x, hx, hCS⟩ := hCS
  have hx : ofV H1 C1 = vInt x := hx
  have exi : x = i := by
    have q := VR_H hBI.2.1 hBI.2.2.1.2.2.1
    rw [hx] at q
    have q : VR ρ (vInt x) (H c) := q
    rw [hH] at q
    exact q
  subst exi
  have hf := hBI.2.2.2.2.1
  intro J hJ
  have key1 : ∀ y : Int32, y = nI c → ∀ F : Nat, mj_sg (mj_Mt gT cst gnw (m + 4)) cst gnw (mj_hd (mj_off kO_R_step) kH_R_step) kC_R_step J Q (F + 300) false 4 [some (.ref 27), none, none, none, none] [.int y] (cW s (rW r tl), b0, b1, op) := by
    rintro y rfl F
    refine And.intro (vp_in_nI hc (by decide)) ?_
    rw [ek, eh]
    refine r_free hz ?_
    refine r_needs ?_
    refine And.intro (fun (g : rnd x ≤ nI (fz r)) => ?_) (fun (g : ¬ rnd x ≤ nI (fz r)) => ?_)
    · rw [en] at g
      have hle := (nI_leI (by omega) (by have := hfz r hz; omega)).mp g
      rcases hCS with ⟨hn, hA⟩ | ⟨hn, -⟩
      · refine R_actE hX hT hst hmk hsh (fun r' H' T' ro' S' E' C' D' k' n' b' e' p1 p2 p3 p4 p5 p6 p7 => ?_) hle hw0 hH _
        obtain ⟨w1, U', ρ', w2, w3⟩ := BIS_act hBI hK hx h19 hn p1.1 hA p7
        exact hQ r' H' T' ro' S' E' C' D' k' n' b' e' U' ρ' p1 p2 p3 p4 p5 p6 w1 w2 w3
      · have hn : f1 < rqN x := hn
        omega
    · rw [en] at g
      rcases hCS with ⟨hn, -⟩ | ⟨hn, mk, hCOL, hCS⟩
      · have hn : rqN x ≤ f1 := hn
        exact absurd (nI_le (show rqN x ≤ fz r by omega) (by have := hfz r hz; omega)) g
      have hCOL : COL z H1 T1 S1 E1 C1 D1 mk := hCOL
      obtain ⟨hI, hBH, ⟨qS, qE, qC, qD, qR⟩, hdom, -, hcR, hSh⟩ := hBI
      have hUz : ∀ a, U a → a < z := hK.2.1
      have cellr : ∀ {v w : Vl}, VR ρ v w → rtM mk v → inU (fun b => ∃ a, a < z ∧ mk a = true ∧ ρ a b) w := by
        intro v w q hm b eb
        rcases v with u | y | y | i | i <;> rcases w with u' | y' | y' | j | j <;> first | exact absurd q id | cases eb
        · exact ⟨i, hUz i (hdom _ _ q).1, hm i rfl, q⟩
        · exact ⟨i, hUz i (hdom _ _ q).1, hm i rfl, q⟩
      obtain ⟨⟨rS, rE, rC, rD, r0⟩, hcl, hmin⟩ := hCOL
      refine R_sweepM (r := clR r (r.collections + Int32.ofInt 1)) (H := H) (T := T) (S := S) (E := E) (C := vPr c) (D := D) (R := R) (M := fun b => ∃ a, a < z ∧ mk a = true ∧ ρ a b) (fun b _ hb => ?_) (cellr qS rS) (cellr qE rE) (cellr qC rC) (cellr qD rD) (cellr qR r0) hX hmk (fun nn r' hnn q1 q2 q3 q4 q5 q6 q7 q8 q9 q10 => ?_)
      · obtain ⟨a, a1, a2, a3⟩ := hb
        obtain ⟨c1, c2⟩ := hcl a a1 a2
        exact ⟨cellr (hBH a b a3).1 c1, cellr (hBH a b a3).2 c2⟩
      obtain ⟨p1, p2, p3, p4, p5⟩ := q10
      have hT' : TI H T ro (Ur r') S E (vPr c) D R k n b e := TI_sub hT (fun a ha => (q8 a ha).1) q9 p1 p2 p3 p4 p5
      have hst' : r'.state = 1 := q3.trans hst
      have hsh' : shOK r' := by
        obtain ⟨j, hj, ej⟩ := hsh
        exact ⟨j, hj, q5.2.2.2.1.trans ej⟩
      have hkc : kc r r' := kc_tr (r' := clR r (r.collections + Int32.ofInt 1)) ⟨rfl, rfl, rfl, rfl, rfl⟩ q1
      have hz' := q7.1.1.2
      obtain ⟨ρ2, hB2⟩ := BIS_col (r' := r') (fr := fr) ⟨hI, hBH, ⟨qS, qE, qC, qD, qR⟩, hdom, hf, hcR, hSh⟩ hK hCD ⟨⟨rS, rE, rC, rD, r0⟩, hcl, hmin⟩ hkc.1 hst' hzz (fun b ub => ⟨(q8 b ub).1, (q8 b ub).2⟩) q9 p1 p2 p3 p4 p5
      obtain ⟨hK2, -⟩ := KT_col hK hCD (mk := mk) ⟨⟨rS, rE, rC, rD, r0⟩, hcl, hmin⟩
      have key2 : ∀ y0 y1 : Int32, ∀ F : Nat, mj_sg (mj_Mt gT cst gnw (m + 4)) cst gnw (mj_hd (mj_off kO_R_step) kH_R_step) kC_R_step J Q (F + 200) false 26 [some (.ref 27), some (.int (nI c)), some (.int x), none, none] [.int y1, .int y0, .ref 27] (cW s (rW r' tl), b0, b1, op) := by
        intro y0 y1 F
        have hX2 : RX (tbR r' (y0 + y1)) H T S E (vPr c) D R := q7
        have hT2 : TI H T ro (Ur (tbR r' (y0 + y1))) S E (vPr c) D R k n b e := hT'
        have hkc2 : kc r (tbR r' (y0 + y1)) := hkc
        have hst2 : (tbR r' (y0 + y1)).state = 1 := hst'
        have hmk2 : mkOK (tbR r' (y0 + y1)) := q2
        have hsh2 : shOK (tbR r' (y0 + y1)) := hsh'
        have hz2 : (tbR r' (y0 + y1)).z ≤ 250 := hz'
        have hB3 : BIS cc H1 T1 S1 E1 C1 D1 (fuN mk z 0 (fr, 0)).2 (fun a => a < z ∧ mk a = true) (tbR r' (y0 + y1)) H T S E (vPr c) D R ρ2 := hB2
        have hf3 := hB3.2.2.2.2.1
        refine r_free (r := tbR r' (y0 + y1)) hz2 ?_
        refine r_needs ?_
        refine And.intro (fun (g : rnd x ≤ nI (fz (tbR r' (y0 + y1)))) => ?_) (fun (g : ¬ rnd x ≤ nI (fz (tbR r' (y0 + y1)))) => ?_)
        · rw [en] at g
          have hle := (nI_leI (by omega) (by have := hfz (tbR r' (y0 + y1)) hz2; omega)).mp g
          rcases hCS with ⟨hn2, hA⟩ | ⟨hn2, -⟩
          · refine R_actE hX2 hT2 hst2 hmk2 hsh2 (fun r3 H' T' ro' S' E' C' D' k' n' b' e' w1 w2 w3 w4 w5 w6 w7 => ?_) hle hw0 hH _
            obtain ⟨v1, U', ρ', v2, v3⟩ := BIS_act hB3 hK2 hx h19 hn2 w1.1 hA w7
            exact hQ r3 H' T' ro' S' E' C' D' k' n' b' e' U' ρ' (kc_tr hkc2 w1) w2 w3 w4 w5 w6 v1 v2 v3
          · have hn2 : (fuN mk z 0 (fr, 0)).2 < rqN x := hn2
            omega
        · rw [en] at g
          rcases hCS with ⟨hn2, -⟩ | ⟨hn2, rfl⟩
          · have hn2 : rqN x ≤ (fuN mk z 0 (fr, 0)).2 := hn2
            exact absurd (nI_le (show rqN x ≤ fz (tbR r' (y0 + y1)) by omega) (by have := hfz (tbR r' (y0 + y1)) hz2; omega)) g
          · refine R_stop (fun r3 c1 c2 c3 c4 c5 c6 => ?_)
            obtain ⟨hB2', x0, x1, x2, x3, x4⟩ := hX2
            obtain ⟨t1, t2, t3, t4, t5, t6, -⟩ := hB3
            refine hQ r3 H T ro S E (vPr c) D k n b e _ ρ2 (kc_tr hkc2 (kp_kc c1)) (kp_mk c1 hmk2) (Or.inr (Or.inr (Or.inr c2))) (kp_sh c1 hsh2) ⟨c6 H T hB2', by rw [c5]; exact rg_up c3 x0, by rw [c5]; exact rg_up c3 x1, by rw [c5]; exact rg_up c3 x2, by rw [c5]; exact rg_up c3 x3, by rw [c5]; exact rg_up c3 x4⟩ ?_ c2 hK2 ⟨t1, t2, t3, fun a b q => ⟨(t4 a b q).1, by rw [c4]; exact (t4 a b q).2⟩, ?_, t6, fun w => absurd (c2.symm.trans w) (by decide)⟩
            · rw [c4]
              exact hT2
            · show (fuN mk z 0 (fr, 0)).2 = fz r3
              rw [t5, fz_cu, fz_cu, c4, c1.1.1]
      exact key2 _ _ _
  refine hJ _ _ _ _ ?_
  refine And.intro i52 ?_
  exact key1 _ h2 _
end RSQ
