def rqN (i : Int32) : Nat := if i = 4 then 4 else if i = 7 then 3 else if i = 3 ∨ i = 13 then 2 else if i = 9 ∨ i = 19 then 0 else 1
theorem rnd_rq (i : Int32) : rnd i = nI (rqN i) ∧ rqN i ≤ 4 := by
  unfold rnd rqN
  by_cases h1 : i = 4
  · rw [if_pos h1, if_pos h1]
    exact ⟨rfl, by decide⟩
  · rw [if_neg h1, if_neg h1]
    by_cases h2 : i = 7
    · rw [if_pos h2, if_pos h2]
      exact ⟨rfl, by decide⟩
    · rw [if_neg h2, if_neg h2]
      by_cases h3 : i = 3 ∨ i = 13
      · rw [if_pos h3, if_pos h3]
        exact ⟨rfl, by decide⟩
      · rw [if_neg h3, if_neg h3]
        by_cases h4 : i = 9 ∨ i = 19
        · rw [if_pos h4, if_pos h4]
          exact ⟨rfl, by decide⟩
        · rw [if_neg h4, if_neg h4]
          exact ⟨rfl, by decide⟩
def clR (r : rM) (x : Int32) : rM := (r.s_collections x)
def tbR (r : rM) (x : Int32) : rM := (r.s_takenBack x)
section RSP
variable {cst : Nat → Option (Nat × (Nat → Int32))} {m b0 b1 : Nat} {op : Bool} {tl : List mj_O} {Q : mj_R → Prop} {s : cS} {r : rM} {H T : Nat → Vl} {ro : Nat → Bool} {S E C D R : Vl} {k : Sk} {n : Nat} {b : Bool} {e : En} {J : Nat → mj_L → List Value → mj_H → Prop}
set_option maxRecDepth 10000
theorem stG_kc {r' : rM} (h : kc r r') (hQ : stG b0 b1 op tl Q s r R) : stG b0 b1 op tl Q s r' R := fun r2 H' T' ro' S' E' C' D' k' n' b' e' h1 h2 h3 h4 h5 h6 => hQ r2 H' T' ro' S' E' C' D' k' n' b' e' (kc_tr h h1) h2 h3 h4 h5 h6
theorem R_act {c f : Nat} {i : Int32} (hX : RX r H T S E (vPr c) D R) (hT : TI H T ro (Ur r) S E (vPr c) D R k n b e) (hst : r.state = 1) (hmk : mkOK r) (hsh : shOK r) (hQ : stG b0 b1 op tl Q s r R) (hi : rqN i ≤ fz r) (hw : wt H T ro (f + 1) (vPr c) k n b e) (hH : H c = vInt i) (F : Nat) :
    mj_sg (mj_Mt gT cst gnw (m + 4)) cst gnw (mj_hd (mj_off kO_R_step) kH_R_step) kC_R_step J Q (F + 160) false 37 [some (.ref 27), some (.int (nI c)), some (.int i), none, none] [] (cW s (rW r tl), b0, b1, op) := by
  have hc : c < 250 := Ur_lt hX.1 (rg_pr hX.2.2.2.1).2
  refine R_rest rfl hc ?_
  obtain ⟨c', i', ec, -, hH', h⟩ := hw
  cases ec
  rw [hH] at hH'
  cases hH'
  rcases h with ⟨e1, d, t, a1, a2, a0, a3⟩ | ⟨e1, d, x, a1, a2, a3, a4⟩ | ⟨e1, d, a1, a2, a3, a4⟩ | ⟨e1, x, k', a1, a2⟩ | ⟨e1, x, k', a1, a2⟩ | ⟨e1, a1⟩ | ⟨e1, x, k', a1, a2, a3, a4⟩ | ⟨e1, x, k', d, q, a1, a2, a3, a4, a5, a6, a7, a8⟩ | ⟨e1, a1⟩ | ⟨e1, x, k', a1, a2⟩ | ⟨e1, x, y, t, k', a1, a0, a2⟩ | ⟨e1, x, k', a1, a2⟩
  · subst e1
    exact A_1 hX hT hst hmk hsh a1 a0 a3 hi hQ _
  · subst e1
    exact A_2 hX hT hst hmk hsh a1 a3.1 a3.2 a4 hi hQ _
  · subst e1
    exact A_3 hX hT hst hmk hsh a1 a3 a4 hi hQ _
  · subst e1
    exact A_4 hX hT hst hmk hsh a1 a2 hi hQ _
  · subst e1
    exact A_5 hX hT hst hmk hsh a1 a2 hi hQ _
  · subst e1
    exact A_6 hX hT hst hmk hsh a1 hi hQ _
  · subst e1
    exact A_7 hX hT hst hmk hsh a1 a2 a3 a4 hi hQ _
  · subst e1
    exact A_8 hX hT hst hmk hsh a1 a2 a4 a6 a7 a8 hi hQ _
  · subst e1
    exact A_9 hX hT hst hmk hsh a1 hQ _
  · refine A_10 hX hT hst hmk hsh e1 a1 a2 ?_ hQ _
    rcases e1 with rfl | rfl | rfl <;> exact hi
  · refine A_13 hX hT hst hmk hsh e1 a1 a0 a2 ?_ (fun q => ?_) hQ _
    · rcases e1 with rfl | rfl | rfl | rfl | rfl | rfl
      · exact Nat.le_trans (by decide) hi
      · exact hi
      · exact hi
      · exact hi
      · exact hi
      · exact hi
    · subst q
      exact hi
  · subst e1
    exact A_19 hX hT hst hmk hsh a1 hQ _
theorem R_step (hX : RX r H T S E C D R) (hT : TI H T ro (Ur r) S E C D R k n b e) (hst : r.state = 1) (hmk : mkOK r) (hsh : shOK r) (hQ : stG b0 b1 op tl Q s r R) : mj_Mt gT cst gnw (m + 5) y_R_step [.ref 27] (cW s (rW r tl), b0, b1, op) Q := by
  obtain ⟨f, hw⟩ : ∃ f, wt H T ro f C k n b e := hT.2.2.2.1.2
  cases f with
  | zero => exact absurd hw id
  | succ f =>
  have hw0 := hw
  obtain ⟨c, i, rfl, -, hH, -⟩ := hw
  have hB := hX.1
  have hz := hB.1.2
  obtain ⟨h2, uc⟩ := rg_pr hX.2.2.2.1
  have hc : c < 250 := Ur_lt hB uc
  have ek : (nI c).toNatClampNeg = c := nI_clamp (by omega)
  have eh : r.head c = i := by
    have := (hB.2.1 c uc).1
    rw [hH] at this
    exact this.2
  obtain ⟨en, hn4⟩ := rnd_rq i
  have hfz : ∀ r' : rM, r'.z ≤ 250 → fz r' ≤ 250 := fun r' h => by
    have := czN_le r'.used r'.z 0 0
    unfold fz
    omega
  intro J hJ
  have key1 : ∀ x : Int32, x = nI c → ∀ F : Nat, mj_sg (mj_Mt gT cst gnw (m + 4)) cst gnw (mj_hd (mj_off kO_R_step) kH_R_step) kC_R_step J Q (F + 300) false 4 [some (.ref 27), none, none, none, none] [.int x] (cW s (rW r tl), b0, b1, op) := by
    rintro x rfl F
    refine And.intro (vp_in_nI hc (by decide)) ?_
    rw [ek, eh]
    refine r_free hz ?_
    refine r_needs ?_
    refine And.intro (fun (g : rnd i ≤ nI (fz r)) => ?_) (fun (g : ¬ rnd i ≤ nI (fz r)) => ?_)
    · rw [en] at g
      have hle := (nI_leI (by omega) (by have := hfz r hz; omega)).mp g
      exact R_act hX hT hst hmk hsh hQ hle hw0 hH _
    · refine R_sweep (r := clR r (r.collections + Int32.ofInt 1)) (H := H) (T := T) (S := S) (E := E) (C := vPr c) (D := D) (R := R) hX hmk (fun nn r' hnn q1 q2 q3 q4 q5 q6 q7 q8 q9 q10 => ?_)
      obtain ⟨p1, p2, p3, p4, p5⟩ := q10
      have hT' : TI H T ro (Ur r') S E (vPr c) D R k n b e := TI_sub hT q8 q9 p1 p2 p3 p4 p5
      have hst' : r'.state = 1 := q3.trans hst
      have hsh' : shOK r' := by
        obtain ⟨j, hj, ej⟩ := hsh
        exact ⟨j, hj, q5.2.2.2.1.trans ej⟩
      have hkc : kc r r' := kc_tr (r' := clR r (r.collections + Int32.ofInt 1)) ⟨rfl, rfl, rfl, rfl, rfl⟩ q1
      have hz' := q7.1.1.2
      have key2 : ∀ y0 y1 : Int32, ∀ F : Nat, mj_sg (mj_Mt gT cst gnw (m + 4)) cst gnw (mj_hd (mj_off kO_R_step) kH_R_step) kC_R_step J Q (F + 200) false 26 [some (.ref 27), some (.int (nI c)), some (.int i), none, none] [.int y1, .int y0, .ref 27] (cW s (rW r' tl), b0, b1, op) := by
        intro y0 y1 F
        have hX2 : RX (tbR r' (y0 + y1)) H T S E (vPr c) D R := q7
        have hT2 : TI H T ro (Ur (tbR r' (y0 + y1))) S E (vPr c) D R k n b e := hT'
        have hkc2 : kc r (tbR r' (y0 + y1)) := hkc
        have hst2 : (tbR r' (y0 + y1)).state = 1 := hst'
        have hmk2 : mkOK (tbR r' (y0 + y1)) := q2
        have hsh2 : shOK (tbR r' (y0 + y1)) := hsh'
        have hz2 : (tbR r' (y0 + y1)).z ≤ 250 := hz'
        refine r_free (r := tbR r' (y0 + y1)) hz2 ?_
        refine r_needs ?_
        refine And.intro (fun (g : rnd i ≤ nI (fz (tbR r' (y0 + y1)))) => ?_) (fun (g : ¬ rnd i ≤ nI (fz (tbR r' (y0 + y1)))) => ?_)
        · rw [en] at g
          have hle := (nI_leI (by omega) (by have := hfz (tbR r' (y0 + y1)) hz2; omega)).mp g
          exact R_act hX2 hT2 hst2 hmk2 hsh2 (stG_kc hkc2 hQ) hle hw0 hH _
        · refine R_stop (fun r3 c1 c2 c3 c4 c5 c6 => ?_)
          obtain ⟨hB2, x0, x1, x2, x3, x4⟩ := hX2
          refine hQ r3 H T ro S E (vPr c) D k n b e (kc_tr hkc2 (kp_kc c1)) (kp_mk c1 hmk2) (Or.inr (Or.inr (Or.inr c2))) (kp_sh c1 hsh2) ⟨c6 H T hB2, by rw [c5]; exact rg_up c3 x0, by rw [c5]; exact rg_up c3 x1, by rw [c5]; exact rg_up c3 x2, by rw [c5]; exact rg_up c3 x3, by rw [c5]; exact rg_up c3 x4⟩ ?_
          rw [c4]
          exact hT2
      exact key2 _ _ _
  refine hJ _ _ _ _ ?_
  refine And.intro i52 ?_
  exact key1 _ h2 _
end RSP
