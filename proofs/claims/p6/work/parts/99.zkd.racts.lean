def EXA (r : rM) (H T : Nat → Vl) (S E C D : Vl) (i : Int32) (r' : rM) (H' T' : Nat → Vl) (S' E' C' D' : Vl) : Prop :=
    ((r'.state = 3 ∨ r'.state = 2) ∧ (H' = H ∧ T' = T) ∧ (S' = S ∧ E' = E ∧ C' = C ∧ D' = D) ∧ Ur r' = Ur r ∧ (r'.state = 3 → ¬ i = 19 ∧ ∀ kk, stp kk H T S E C D i = none) ∧ (r'.state = 2 → i = 19 ∧ RSH r' H T S))
  ∨ (r'.state = 1 ∧ ¬ i = 19 ∧ ∃ kk al sh, stp kk H T S E C D i = some (al, sh, S', E', C', D') ∧ H' = stH sh (alH kk 0 al H) ∧ T' = alT kk 0 al T ∧ (∀ j, j < rqN i → ¬ Ur r (kk j) ∧ ∀ l, l < rqN i → ¬ l = j → ¬ kk l = kk j) ∧ Ur r' = fun a => Ur r a ∨ ∃ j, j < rqN i ∧ a = kk j)
def stE (b0 b1 : Nat) (op : Bool) (tl : List mj_O) (Q : mj_R → Prop) (s : cS) (r : rM) (H T : Nat → Vl) (S E C D R : Vl) (i : Int32) : Prop := ∀ (r' : rM) (H' T' : Nat → Vl) (ro' : Nat → Bool) (S' E' C' D' : Vl) (k' : Sk) (n' : Nat) (b' : Bool) (e' : En), kc r r' → mkOK r' → rnS r' → shOK r' → RX r' H' T' S' E' C' D' R → TI H' T' ro' (Ur r') S' E' C' D' R k' n' b' e' → EXA r H T S E C D i r' H' T' S' E' C' D' → Q (.inl none, (cW s (rW r' tl), b0, b1, op))
theorem smV_eq (v w : Vl) : (if smV v w = true then (1 : Int32) else 0) = if v = w ∧ ceV v = none then 1 else 0 := by
  have key : smV v w = true ↔ v = w ∧ ceV v = none := by
    rcases v with u | x | x | a | a <;> rcases w with u | y | y | b | b <;> simp [smV, ceV]
  by_cases h : smV v w = true
  · rw [if_pos h, if_pos (key.mp h)]
  · rw [if_neg h, if_neg (fun q => h (key.mpr q))]
section ZKF
variable {r r' : rM} {H T : Nat → Vl} {S E C D S' E' C' D' : Vl} {i : Int32} {k1 k2 k3 k4 : Nat} {v1 w1 v2 w2 v3 w3 v4 w4 : Vl}
theorem EXf (hs : r'.state = 3) (hU : Ur r' = Ur r) (hi : ¬ i = 19) (h : ∀ kk, stp kk H T S E C D i = none) : EXA r H T S E C D i r' H T S E C D := Or.inl ⟨Or.inl hs, ⟨rfl, rfl⟩, ⟨rfl, rfl, rfl, rfl⟩, hU, fun _ => ⟨hi, h⟩, fun q => absurd (hs.symm.trans q) (by decide)⟩
theorem EXd (hs : r'.state = 2) {r2 : rM} (hU : Ur r' = Ur r) (hR : RSH r2 H T S) (e1 : r2.state = r'.state := by rfl) (e2 : Ur r2 = Ur r' := by rfl) : EXA r H T S E C D 19 r2 H T S E C D := Or.inl ⟨Or.inr (e1.trans hs), ⟨rfl, rfl⟩, ⟨rfl, rfl, rfl, rfl⟩, e2.trans hU, fun q => absurd ((e1.trans hs).symm.trans q) (by decide), fun _ => ⟨rfl, hR⟩⟩
theorem EX0 (hs : r'.state = 1) (hi : rqN i = 0) (hU : Ur r' = Ur r) (h : stp (fun _ => 0) H T S E C D i = some ([], none, S', E', C', D')) (h19 : ¬ i = 19 := by decide) : EXA r H T S E C D i r' H T S' E' C' D' := by
  refine Or.inr ⟨hs, h19, fun _ => 0, [], none, h, rfl, rfl, fun j hj => absurd hj (by omega), ?_⟩
  rw [hU]
  funext a
  exact propext ⟨Or.inl, fun q => q.elim id (fun ⟨j, hj, _⟩ => absurd hj (by omega))⟩
theorem EX1 (hs : r'.state = 1) (hi : rqN i = 1) (n1 : ¬ Ur r k1) (hU : Ur r' = addU (Ur r) k1) (h : stp (fun _ => k1) H T S E C D i = some ([(v1, w1)], none, S', E', C', D')) (h19 : ¬ i = 19 := by decide) : EXA r H T S E C D i r' (upW H k1 v1) (upW T k1 w1) S' E' C' D' := by
  refine Or.inr ⟨hs, h19, fun _ => k1, [(v1, w1)], none, h, rfl, rfl, fun j hj => ⟨n1, fun l hl e => absurd (by omega) e⟩, ?_⟩
  rw [hU]
  funext a
  exact propext ⟨fun q => q.imp id (fun e => ⟨0, by omega, e⟩), fun q => q.imp id (fun ⟨j, _, e⟩ => e)⟩
def kk2 (k1 k2 : Nat) : Nat → Nat := fun j => if j = 0 then k1 else k2
theorem EX2 (hs : r'.state = 1) (hi : rqN i = 2) (n1 : ¬ Ur r k1) (n2 : ¬ addU (Ur r) k1 k2) (hU : Ur r' = addU (addU (Ur r) k1) k2) (h : stp (kk2 k1 k2) H T S E C D i = some ([(v1, w1), (v2, w2)], none, S', E', C', D')) (h19 : ¬ i = 19 := by decide) : EXA r H T S E C D i r' (upW (upW H k1 v1) k2 v2) (upW (upW T k1 w1) k2 w2) S' E' C' D' := by
  have d2 : ¬ k2 = k1 := fun e => n2 (Or.inr e)
  have u2 : ¬ Ur r k2 := fun u => n2 (Or.inl u)
  refine Or.inr ⟨hs, h19, kk2 k1 k2, [(v1, w1), (v2, w2)], none, h, rfl, rfl, fun j hj => ?_, ?_⟩
  · rw [hi] at hj ⊢
    have : j = 0 ∨ j = 1 := by omega
    rcases this with rfl | rfl
    · exact ⟨n1, fun l hl e => by obtain rfl : l = 1 := by omega
                                  exact d2⟩
    · exact ⟨u2, fun l hl e => by obtain rfl : l = 0 := by omega
                                  exact fun q => d2 q.symm⟩
  · rw [hU]
    funext a
    refine propext ⟨fun q => ?_, fun q => ?_⟩
    · rcases q with (q | q) | q
      · exact Or.inl q
      · exact Or.inr ⟨0, by omega, q⟩
      · exact Or.inr ⟨1, by omega, q⟩
    · rcases q with q | ⟨j, hj, q⟩
      · exact Or.inl (Or.inl q)
      · have : j = 0 ∨ j = 1 := by omega
        rcases this with rfl | rfl
        · exact Or.inl (Or.inr q)
        · exact Or.inr q
def kk4 (k1 k2 k3 k4 : Nat) : Nat → Nat := fun j => if j = 0 then k1 else if j = 1 then k2 else if j = 2 then k3 else k4
theorem EX3 {y : Vl} {g : Nat} (hs : r'.state = 1) (hi : rqN i = 3) (n1 : ¬ Ur r k1) (n2 : ¬ addU (Ur r) k1 k2) (n3 : ¬ addU (addU (Ur r) k1) k2 k3) (hU : Ur r' = addU (addU (addU (Ur r) k1) k2) k3) (h : stp (kk4 k1 k2 k3 0) H T S E C D i = some ([(v1, w1), (v2, w2), (v3, w3)], some (vPr g, y), S', E', C', D')) (h19 : ¬ i = 19 := by decide) : EXA r H T S E C D i r' (upW (upW (upW (upW H k1 v1) k2 v2) k3 v3) g y) (upW (upW (upW T k1 w1) k2 w2) k3 w3) S' E' C' D' := by
  have d2 : ¬ k2 = k1 := fun e => n2 (Or.inr e)
  have u2 : ¬ Ur r k2 := fun u => n2 (Or.inl u)
  have d3 : ¬ k3 = k1 := fun e => n3 (Or.inl (Or.inr e))
  have d4 : ¬ k3 = k2 := fun e => n3 (Or.inr e)
  have u3 : ¬ Ur r k3 := fun u => n3 (Or.inl (Or.inl u))
  refine Or.inr ⟨hs, h19, kk4 k1 k2 k3 0, [(v1, w1), (v2, w2), (v3, w3)], some (vPr g, y), h, rfl, rfl, fun j hj => ?_, ?_⟩
  · rw [hi] at hj ⊢
    have : j = 0 ∨ j = 1 ∨ j = 2 := by omega
    rcases this with rfl | rfl | rfl
    · refine ⟨n1, fun l hl e => ?_⟩
      have : l = 1 ∨ l = 2 := by omega
      rcases this with rfl | rfl
      · exact d2
      · exact d3
    · refine ⟨u2, fun l hl e => ?_⟩
      have : l = 0 ∨ l = 2 := by omega
      rcases this with rfl | rfl
      · exact fun q => d2 q.symm
      · exact d4
    · refine ⟨u3, fun l hl e => ?_⟩
      have : l = 0 ∨ l = 1 := by omega
      rcases this with rfl | rfl
      · exact fun q => d3 q.symm
      · exact fun q => d4 q.symm
  · rw [hU]
    funext a
    refine propext ⟨fun q => ?_, fun q => ?_⟩
    · rcases q with ((q | q) | q) | q
      · exact Or.inl q
      · exact Or.inr ⟨0, by omega, q⟩
      · exact Or.inr ⟨1, by omega, q⟩
      · exact Or.inr ⟨2, by omega, q⟩
    · rcases q with q | ⟨j, hj, q⟩
      · exact Or.inl (Or.inl (Or.inl q))
      · have : j = 0 ∨ j = 1 ∨ j = 2 := by omega
        rcases this with rfl | rfl | rfl
        · exact Or.inl (Or.inl (Or.inr q))
        · exact Or.inl (Or.inr q)
        · exact Or.inr q
theorem EX4 (hs : r'.state = 1) (hi : rqN i = 4) (n1 : ¬ Ur r k1) (n2 : ¬ addU (Ur r) k1 k2) (n3 : ¬ addU (addU (Ur r) k1) k2 k3) (n4 : ¬ addU (addU (addU (Ur r) k1) k2) k3 k4) (hU : Ur r' = addU (addU (addU (addU (Ur r) k1) k2) k3) k4) (h : stp (kk4 k1 k2 k3 k4) H T S E C D i = some ([(v1, w1), (v2, w2), (v3, w3), (v4, w4)], none, S', E', C', D')) (h19 : ¬ i = 19 := by decide) : EXA r H T S E C D i r' (upW (upW (upW (upW H k1 v1) k2 v2) k3 v3) k4 v4) (upW (upW (upW (upW T k1 w1) k2 w2) k3 w3) k4 w4) S' E' C' D' := by
  have d2 : ¬ k2 = k1 := fun e => n2 (Or.inr e)
  have u2 : ¬ Ur r k2 := fun u => n2 (Or.inl u)
  have d3 : ¬ k3 = k1 := fun e => n3 (Or.inl (Or.inr e))
  have d4 : ¬ k3 = k2 := fun e => n3 (Or.inr e)
  have u3 : ¬ Ur r k3 := fun u => n3 (Or.inl (Or.inl u))
  have d5 : ¬ k4 = k1 := fun e => n4 (Or.inl (Or.inl (Or.inr e)))
  have d6 : ¬ k4 = k2 := fun e => n4 (Or.inl (Or.inr e))
  have d7 : ¬ k4 = k3 := fun e => n4 (Or.inr e)
  have u4 : ¬ Ur r k4 := fun u => n4 (Or.inl (Or.inl (Or.inl u)))
  refine Or.inr ⟨hs, h19, kk4 k1 k2 k3 k4, [(v1, w1), (v2, w2), (v3, w3), (v4, w4)], none, h, rfl, rfl, fun j hj => ?_, ?_⟩
  · rw [hi] at hj ⊢
    have : j = 0 ∨ j = 1 ∨ j = 2 ∨ j = 3 := by omega
    rcases this with rfl | rfl | rfl | rfl
    · refine ⟨n1, fun l hl e => ?_⟩
      have : l = 1 ∨ l = 2 ∨ l = 3 := by omega
      rcases this with rfl | rfl | rfl
      · exact d2
      · exact d3
      · exact d5
    · refine ⟨u2, fun l hl e => ?_⟩
      have : l = 0 ∨ l = 2 ∨ l = 3 := by omega
      rcases this with rfl | rfl | rfl
      · exact fun q => d2 q.symm
      · exact d4
      · exact d6
    · refine ⟨u3, fun l hl e => ?_⟩
      have : l = 0 ∨ l = 1 ∨ l = 3 := by omega
      rcases this with rfl | rfl | rfl
      · exact fun q => d3 q.symm
      · exact fun q => d4 q.symm
      · exact d7
    · refine ⟨u4, fun l hl e => ?_⟩
      have : l = 0 ∨ l = 1 ∨ l = 2 := by omega
      rcases this with rfl | rfl | rfl
      · exact fun q => d5 q.symm
      · exact fun q => d6 q.symm
      · exact fun q => d7 q.symm
  · rw [hU]
    funext a
    refine propext ⟨fun q => ?_, fun q => ?_⟩
    · rcases q with (((q | q) | q) | q) | q
      · exact Or.inl q
      · exact Or.inr ⟨0, by omega, q⟩
      · exact Or.inr ⟨1, by omega, q⟩
      · exact Or.inr ⟨2, by omega, q⟩
      · exact Or.inr ⟨3, by omega, q⟩
    · rcases q with q | ⟨j, hj, q⟩
      · exact Or.inl (Or.inl (Or.inl (Or.inl q)))
      · have : j = 0 ∨ j = 1 ∨ j = 2 ∨ j = 3 := by omega
        rcases this with rfl | rfl | rfl | rfl
        · exact Or.inl (Or.inl (Or.inl (Or.inr q)))
        · exact Or.inl (Or.inl (Or.inr q))
        · exact Or.inl (Or.inr q)
        · exact Or.inr q
end ZKF
section RSE
variable {cst : Nat → Option (Nat × (Nat → Int32))} {m b0 b1 : Nat} {op : Bool} {tl : List mj_O} {Q : mj_R → Prop} {s : cS} {r : rM} {H T : Nat → Vl} {ro : Nat → Bool} {S E D R : Vl} {k : Sk} {n : Nat} {b : Bool} {e : En} {J : Nat → mj_L → List Value → mj_H → Prop} {c : Nat}
set_option maxRecDepth 10000
theorem AE_1 (hX : RX r H T S E (vPr c) D R) (hT : TI H T ro (Ur r) S E (vPr c) D R k n b e) (hst : r.state = 1) (hmk : mkOK r) (hsh : shOK r) {d : Nat} {t : Bool} {f : Nat} (eT : T c = vPr d) (hH : t = true → H d = vNil) (hw : wt H T ro f (T d) (t :: k) n false e) (hf : 1 ≤ fz r) (hQ : stE b0 b1 op tl Q s r H T S E (vPr c) D R 1) (F : Nat) : mj_sg (mj_Mt gT cst gnw (m + 4)) cst gnw (mj_hd (mj_off kO_R_step) kH_R_step) kC_R_step J Q (F + 150) false 40 [some (.ref 27), some (.int (nI c)), some (.int 1), none, none] [.int (rsN r c)] (cW s (rW r tl), b0, b1, op) := by
  obtain ⟨hS, ⟨uS, tS_⟩, ⟨uE, tE⟩, ⟨uC, tC⟩, ⟨uD, tD⟩, tb⟩ := hT
  have hT0 : TI H T ro (Ur r) S E (vPr c) D R k n b e := ⟨hS, ⟨uS, tS_⟩, ⟨uE, tE⟩, ⟨uC, tC⟩, ⟨uD, tD⟩, tb⟩
  have hX0 := hX
  obtain ⟨hB, x0, x1, x2, x3, x4⟩ := hX
  have uc := inU_pr uC
  clear tC
  refine And.intro (fun (g : ¬ (1 : Int32) = 1) => absurd rfl g) (fun _ => ?_)
  have ud := SI_tp hS.1 uc eT
  have hd := Ur_lt hB ud
  have ed : rsN r c = nI d := rs_pr hB uc eT
  rw [ed]
  have ek : (nI d).toNatClampNeg = d := nI_clamp (by omega)
  refine And.intro (vp_in_nI hd (by decide)) ?_
  rw [ek]
  refine And.intro (vp_in_nI hd (by decide)) ?_
  rw [ek]
  refine R_push (S := S) (h := H d) hB hf (hB.2.1 d ud).1 x0 (fun kk r3 hm g3 => ?_)
  refine R_rest rfl hd ?_
  refine And.intro i52 ?_
  have hl : isL_ (T d) := isL_wtx ⟨f, hw⟩
  obtain ⟨w1, w2⟩ := A_pushC hX0 hm g3 (A_rest hm ud hl)
  obtain ⟨⟨m1, -⟩, ⟨m2, m3, m4⟩, -⟩ := hm
  have kk2 := kp_tr m2 (kp_sR (r := r3) (f := upd r3.reg 2 (rsN r3 d)))
  refine hQ _ _ _ (upW ro kk false) _ _ _ _ (t :: k) n false e (kp_kc kk2) (kp_mk kk2 hmk) (Or.inl (m3.trans hst)) (kp_sh kk2 hsh) w1 ?_ ?_
  rotate_left
  · exact EX1 (i := 1) (m3.trans hst) rfl m1 w2 (by rw [stp_1]; show some ([(ofV H (T c), S)], none, vPr kk, E, ofV T (T c), D) = _; rw [eT]; rfl)
  rw [w2]
  exact T_push hS m1 (SI_h hS.1 ud) (hS.1 d ud).2.1.1 (fun q => ⟨0, hH q⟩) ⟨uS, tS_⟩ ⟨uE, tE⟩ ⟨SI_t hS.1 ud, f, hw⟩ ⟨uD, tD⟩
theorem AE_2 (hX : RX r H T S E (vPr c) D R) (hT : TI H T ro (Ur r) S E (vPr c) D R k n b e) (hst : r.state = 1) (hmk : mkOK r) (hsh : shOK r) {d x f : Nat} (eT : T c = vPr d) (hx : x < 10000) (hH : H d = vInt (nI x)) (hw : wt H T ro f (T d) (false :: k) n false e) (hf : 1 ≤ fz r) (hQ : stE b0 b1 op tl Q s r H T S E (vPr c) D R 2) (F : Nat) : mj_sg (mj_Mt gT cst gnw (m + 4)) cst gnw (mj_hd (mj_off kO_R_step) kH_R_step) kC_R_step J Q (F + 150) false 40 [some (.ref 27), some (.int (nI c)), some (.int 2), none, none] [.int (rsN r c)] (cW s (rW r tl), b0, b1, op) := by
  obtain ⟨hS, ⟨uS, tS_⟩, ⟨uE, tE⟩, ⟨uC, tC⟩, ⟨uD, tD⟩, tb⟩ := hT
  have hT0 : TI H T ro (Ur r) S E (vPr c) D R k n b e := ⟨hS, ⟨uS, tS_⟩, ⟨uE, tE⟩, ⟨uC, tC⟩, ⟨uD, tD⟩, tb⟩
  have hX0 := hX
  obtain ⟨hB, x0, x1, x2, x3, x4⟩ := hX
  have uc := inU_pr uC
  clear tC
  refine And.intro (fun _ => ?_) (fun (g : (2 : Int32) = 1) => absurd g (by decide))
  refine And.intro (fun (g : ¬ (2 : Int32) = 2) => absurd rfl g) (fun _ => ?_)
  have ud := SI_tp hS.1 uc eT
  have hd := Ur_lt hB ud
  have ed : rsN r c = nI d := rs_pr hB uc eT
  rw [ed]
  have ek : (nI d).toNatClampNeg = d := nI_clamp (by omega)
  refine And.intro (vp_in_nI hd (by decide)) ?_
  rw [ek]
  have eh : r.head d = nI x := by
    have := (hB.2.1 d ud).1
    rw [hH] at this
    exact this.2
  rw [eh]
  refine R_rest rfl hd ?_
  have hl : isL_ (T d) := isL_wtx ⟨f, hw⟩
  refine R_look (C' := T d) (ro := ro) hx hX0 hf (env_0 tE) (fun a ua hra => (hS.1 a ua).2.2 hra) (rs_rg hB ud hl) (fun r' q1 q2 q3 q4 q9 => ?_) (fun kk r' m1 q1 q2 q5 q6 q3 q4 => ?_)
  · exact hQ r' H T ro _ _ _ _ k n b e (kp_kc q1) (kp_mk q1 hmk) (Or.inr (Or.inr (Or.inl q2))) (kp_sh q1 hsh) q3 (by rw [q4]; exact hT0) (EXf q2 q4 (by decide) (fun kk => by
      have ei : (iV (ofV H (ofV T (vPr c)))).toNatClampNeg = x := by
        show (iV (ofV H (T c))).toNatClampNeg = x
        rw [eT]
        show (iV (H d)).toNatClampNeg = x
        rw [hH]
        exact nI_clamp (by omega)
      rw [stp_2, ei]
      rcases q9 with w | w
      · rw [if_neg w]
      · by_cases w0 : kV (behV T (x / 16) E) = 3
        · rw [if_pos w0, if_neg w]
        · rw [if_neg w0]))
  · have ei : (iV (ofV H (ofV T (vPr c)))).toNatClampNeg = x := by
      show (iV (ofV H (T c))).toNatClampNeg = x
      rw [eT]
      show (iV (H d)).toNatClampNeg = x
      rw [hH]
      exact nI_clamp (by omega)
    have eX : EXA r H T S E (vPr c) D 2 r' (upW H kk (ofV H (behV T (x % 16) (ofV H (behV T (x / 16) E))))) (upW T kk S) (vPr kk) E (T d) D := EX1 (i := 2) (q2.trans hst) rfl m1 q4 (by
      rw [stp_2, ei, if_pos q5, if_pos q6]
      show some ([(_, S)], none, vPr kk, E, ofV T (T c), D) = _
      rw [eT]
      rfl)
    obtain ⟨a, ea⟩ := kV_pr q6
    have ue := inU_beh hS.1 (x / 16) E uE
    obtain ⟨a0, ea0⟩ := kV_pr q5
    rw [ea0] at ue
    have ua0 := inU_pr ue
    have uv : inU (Ur r) (behV T (x % 16) (ofV H (behV T (x / 16) E))) := by
      rw [ea0]
      exact inU_beh hS.1 _ _ (SI_h hS.1 ua0)
    rw [ea] at uv
    have ua := inU_pr uv
    have e9 : ofV H (behV T (x % 16) (ofV H (behV T (x / 16) E))) = H a := by rw [ea]; rfl
    rw [e9] at q3 eX
    refine hQ r' _ _ (upW ro kk false) _ _ _ _ (false :: k) n false e (kp_kc q1) (kp_mk q1 hmk) (Or.inl (q2.trans hst)) (kp_sh q1 hsh) q3 ?_ eX
    rw [q4]
    exact T_push hS m1 (SI_h hS.1 ua) (hS.1 a ua).2.1.1 (fun q => by cases q) ⟨uS, tS_⟩ ⟨uE, tE⟩ ⟨SI_t hS.1 ud, f, hw⟩ ⟨uD, tD⟩
theorem AE_3 (hX : RX r H T S E (vPr c) D R) (hT : TI H T ro (Ur r) S E (vPr c) D R k n b e) (hst : r.state = 1) (hmk : mkOK r) (hsh : shOK r) {d f : Nat} (eT : T c = vPr d) (hv : wt H T ro f (H d) [] 1 false eRet) (hw : wt H T ro f (T d) (false :: k) n (decide (0 < n)) e) (hf : 2 ≤ fz r) (hQ : stE b0 b1 op tl Q s r H T S E (vPr c) D R 3) (F : Nat) : mj_sg (mj_Mt gT cst gnw (m + 4)) cst gnw (mj_hd (mj_off kO_R_step) kH_R_step) kC_R_step J Q (F + 150) false 40 [some (.ref 27), some (.int (nI c)), some (.int 3), none, none] [.int (rsN r c)] (cW s (rW r tl), b0, b1, op) := by
  obtain ⟨hS, ⟨uS, tS_⟩, ⟨uE, tE⟩, ⟨uC, tC⟩, ⟨uD, tD⟩, tb⟩ := hT
  have hT0 : TI H T ro (Ur r) S E (vPr c) D R k n b e := ⟨hS, ⟨uS, tS_⟩, ⟨uE, tE⟩, ⟨uC, tC⟩, ⟨uD, tD⟩, tb⟩
  have hX0 := hX
  obtain ⟨hB, x0, x1, x2, x3, x4⟩ := hX
  have uc := inU_pr uC
  clear tC
  refine And.intro (fun _ => ?_) (fun (g : (3 : Int32) = 1) => absurd g (by decide))
  refine And.intro (fun _ => ?_) (fun (g : (3 : Int32) = 2) => absurd g (by decide))
  refine And.intro (fun (g : ¬ (3 : Int32) = 3) => absurd rfl g) (fun _ => ?_)
  have ud := SI_tp hS.1 uc eT
  have hd := Ur_lt hB ud
  have ed : rsN r c = nI d := rs_pr hB uc eT
  rw [ed]
  have hlH : isL_ (H d) := isL_wtx ⟨f, hv⟩
  have hlT : isL_ (T d) := isL_wtx ⟨f, hw⟩
  refine R_headList rfl hd ?_
  refine And.intro i51 ?_
  refine R_makeOf (h := H d) (t := E) hB (by omega) (hl_rg hB ud hlH) x1 (fun k1 r1 hm g1 _ => ?_)
  have hm0 := hm
  obtain ⟨⟨m1, mk1⟩, ⟨m2, m3, m4⟩, m5, m6, m7, m8⟩ := hm
  have ek : (nI k1).toNatClampNeg = k1 := nI_clamp (by omega)
  refine And.intro (vp_in_nI mk1 (by decide)) ?_
  rw [ek]
  change mj_sg _ _ _ _ _ _ _ _ _ 93 _ _ (cW s (rW (fnR r1 k1) tl), b0, b1, op)
  have nk : ∀ {v : Vl}, inU (Ur r) v → ¬ ceV v = some k1 := fun hv q => m1 (hv k1 q)
  have uk1 : Ur r1 k1 := by rw [m6]; exact Or.inr rfl
  obtain ⟨f1, f2, f3, f4, f5⟩ := fn_ok (k := k1) m5 uk1 (fun i hi => by
    rw [m6] at hi
    by_cases ei : i = k1
    · subst ei
      have e1 : upW H i (H d) i = H d := if_pos rfl
      have e2 : upW T i E i = E := if_pos rfl
      rw [e1, e2]
      exact ⟨nk (SI_h hS.1 ud), nk uE⟩
    · have ui := hi.resolve_right ei
      have e1 : upW H k1 (H d) i = H i := if_neg ei
      have e2 : upW T k1 E i = T i := if_neg ei
      rw [e1, e2]
      exact ⟨nk (SI_h hS.1 ui), nk (SI_t hS.1 ui)⟩)
  have ux : ∀ {v : Vl} {x : Int32}, rg r v x → rg (fnR r1 k1) v x := fun h => f5 _ _ (rg_up m4 h) (nk (rg_U h))
  have hX1 : RX (fnR r1 k1) (upW H k1 (H d)) (upW T k1 E) S E (vPr c) D R := by
    refine ⟨f1, ?_, ?_, ?_, ?_, ?_⟩
    · show rg _ _ (r1.reg 0)
      rw [g1]
      exact ux x0
    · show rg _ _ (r1.reg 1)
      rw [g1]
      exact ux x1
    · show rg _ _ (r1.reg 2)
      rw [g1]
      exact ux x2
    · show rg _ _ (r1.reg 3)
      rw [g1]
      exact ux x3
    · show rg _ _ (r1.reg 4)
      rw [g1]
      exact ux x4
  have kp1 : kp r (fnR r1 k1) := kp_tr m2 ⟨⟨rfl, rfl, rfl, rfl, rfl⟩, rfl, rfl, rfl, rfl, rfl⟩
  have st1 : (fnR r1 k1).state = 1 := m3.trans hst
  have U1 : Ur (fnR r1 k1) = addU (Ur r) k1 := f2.trans m6
  have fz1 : 1 ≤ fz (fnR r1 k1) := by rw [f3]; omega
  obtain ⟨r2, hr2⟩ : ∃ r2, r2 = fnR r1 k1 := ⟨_, rfl⟩
  rw [← hr2]
  rw [← hr2] at hX1 kp1 st1 U1 fz1 f4
  clear hr2 f1 f2 f3 f5 ux m5 m8
  refine R_push (S := S) (h := vFn k1) hX1.1 fz1 f4 hX1.2.1 (fun k2 r3 hm g3 => ?_)
  refine R_rest rfl hd ?_
  refine And.intro i52 ?_
  have hne : ¬ d = k1 := fun q => m1 (q ▸ ud)
  have e1 : upW T k1 E d = T d := if_neg hne
  have ud2 : Ur r2 d := by rw [U1]; exact Or.inl ud
  have hrs : rg r3 (T d) (rsN r3 d) := by
    have := A_rest hm ud2 (by rw [e1]; exact hlT)
    rwa [e1] at this
  obtain ⟨w1, w2⟩ := A_pushC hX1 hm g3 hrs
  obtain ⟨⟨n1, -⟩, ⟨n2, n3, n4⟩, -⟩ := hm
  rw [U1] at n1 w2
  have kk2 := kp_tr kp1 (kp_tr n2 (kp_sR (r := r3) (f := upd r3.reg 2 (rsN r3 d))))
  refine hQ _ _ _ (upW (upW ro k1 false) k2 false) _ _ _ _ (false :: k) n (decide (0 < n)) e (kp_kc kk2) (kp_mk kk2 hmk) (Or.inl (n3.trans st1)) (kp_sh kk2 hsh) w1 ?_ ?_
  rotate_left
  · exact EX2 (i := 3) (n3.trans st1) rfl m1 n1 w2 (by rw [stp_3]; show some ([(ofV H (T c), E), (vFn k1, S)], none, vPr k2, E, ofV T (T c), D) = _; rw [eT]; rfl)
  rw [w2]
  exact T_fun hS m1 n1 (SI_h hS.1 ud) ⟨f, hv⟩ ⟨uS, tS_⟩ ⟨uE, tE⟩ ⟨SI_t hS.1 ud, f, hw⟩ ⟨uD, tD⟩
theorem AE_4 (hX : RX r H T S E (vPr c) D R) (hT : TI H T ro (Ur r) S E (vPr c) D R k n b e) (hst : r.state = 1) (hmk : mkOK r) (hsh : shOK r) {x : Bool} {k' : Sk} {f : Nat} (hk : k = x :: true :: k') (hw : wt H T ro f (T c) (false :: k') n false e) (hf : 4 ≤ fz r) (hQ : stE b0 b1 op tl Q s r H T S E (vPr c) D R 4) (F : Nat) : mj_sg (mj_Mt gT cst gnw (m + 4)) cst gnw (mj_hd (mj_off kO_R_step) kH_R_step) kC_R_step J Q (F + 150) false 40 [some (.ref 27), some (.int (nI c)), some (.int 4), none, none] [.int (rsN r c)] (cW s (rW r tl), b0, b1, op) := by
  obtain ⟨hS, ⟨uS, tS_⟩, ⟨uE, tE⟩, ⟨uC, tC⟩, ⟨uD, tD⟩, tb⟩ := hT
  have hT0 : TI H T ro (Ur r) S E (vPr c) D R k n b e := ⟨hS, ⟨uS, tS_⟩, ⟨uE, tE⟩, ⟨uC, tC⟩, ⟨uD, tD⟩, tb⟩
  have hX0 := hX
  obtain ⟨hB, x0, x1, x2, x3, x4⟩ := hX
  have uc := inU_pr uC
  clear tC
  refine And.intro (fun _ => ?_) (fun (g : (4 : Int32) = 1) => absurd g (by decide))
  refine And.intro (fun _ => ?_) (fun (g : (4 : Int32) = 2) => absurd g (by decide))
  refine And.intro (fun _ => ?_) (fun (g : (4 : Int32) = 3) => absurd g (by decide))
  refine And.intro (fun _ => ?_) (fun (g : ¬ (4 : Int32) = 4) => absurd rfl g)
  refine And.intro (fun _ => ?_) (fun (g : (4 : Int32) = 7) => absurd g (by decide))
  subst hk
  obtain ⟨a, rfl, ua, ⟨uTa, tTa⟩, ⟨uHa, gHa⟩, -⟩ := stk_top hS.1 ⟨uS, tS_⟩
  obtain ⟨a2, eTa, ua2, ⟨uTa2, tTa2⟩, ⟨uHa2, gHa2⟩, lHa2⟩ := stk_top hS.1 ⟨uTa, tTa⟩
  have hlT : isL_ (T a2) := isL_stk tTa2
  refine R_call4 (C' := T c) hX0 hf eTa hlT (rs_rg hB uc (isL_wtx ⟨f, hw⟩)) (fun g eg => ?_) (fun r' q1 q2 q3 q4 q9 => ?_) (fun k1 k2 k3 k4 g r' n1 n2 n3 n4 q1 q2 eg ug q3 q4 => ?_)
  · rw [eg] at gHa
    obtain ⟨-, g2, g3⟩ := gHa g rfl
    exact ⟨isL_isE g3, isL_wtx g2⟩
  · exact hQ r' H T ro _ _ _ _ (x :: true :: k') n b e (kp_kc q1) (kp_mk q1 hmk) (Or.inr (Or.inr (Or.inl q2))) (kp_sh q1 hsh) q3 (by rw [q4]; exact hT0) (EXf q2 q4 (by decide) (fun kk => by rw [stp_4]; exact if_neg q9))
  · refine hQ r' _ _ (upW (upW (upW (upW ro k1 false) k2 false) k3 false) k4 true) _ _ _ _ [] 1 false eRet (kp_kc q1) (kp_mk q1 hmk) (Or.inl (q2.trans hst)) (kp_sh q1 hsh) q3 ?_ ?_
    rotate_left
    · refine EX4 (i := 4) (q2.trans hst) rfl n1 n2 n3 n4 q4 ?_
      rw [stp_4]
      show (if kV (H a) = 4 then some ([(T c, D), (E, vPr k1), (ofV T (T a), vPr k2), (ofV H (T a), ofV T (H a))], none, vNil, vPr k4, ofV H (H a), vPr k3) else none) = _
      rw [eg, eTa]
      rfl
    rw [q4]
    exact T_call hS n1 n2 n3 n4 ⟨uTa2, tTa2⟩ ⟨uE, tE⟩ ⟨SI_t hS.1 uc, f, hw⟩ ⟨uD, tD⟩ ⟨uHa2, gHa2⟩ (lHa2 rfl) ug (by rw [← eg]; exact gHa)
theorem AE_7 (hX : RX r H T S E (vPr c) D R) (hT : TI H T ro (Ur r) S E (vPr c) D R k n b e) (hst : r.state = 1) (hmk : mkOK r) (hsh : shOK r) {x : Bool} {k' : Sk} {f : Nat} (hk : k = x :: true :: k') (hn : 1 ≤ n) (hb : b = true) (hw : wt H T ro f (T c) (false :: k') (n - 1) false e) (hf : 3 ≤ fz r) (hQ : stE b0 b1 op tl Q s r H T S E (vPr c) D R 7) (F : Nat) : mj_sg (mj_Mt gT cst gnw (m + 4)) cst gnw (mj_hd (mj_off kO_R_step) kH_R_step) kC_R_step J Q (F + 150) false 40 [some (.ref 27), some (.int (nI c)), some (.int 7), none, none] [.int (rsN r c)] (cW s (rW r tl), b0, b1, op) := by
  obtain ⟨hS, ⟨uS, tS_⟩, ⟨uE, tE⟩, ⟨uC, tC⟩, ⟨uD, tD⟩, tb⟩ := hT
  have hT0 : TI H T ro (Ur r) S E (vPr c) D R k n b e := ⟨hS, ⟨uS, tS_⟩, ⟨uE, tE⟩, ⟨uC, tC⟩, ⟨uD, tD⟩, tb⟩
  have hX0 := hX
  obtain ⟨hB, x0, x1, x2, x3, x4⟩ := hX
  have uc := inU_pr uC
  clear tC
  refine And.intro (fun _ => ?_) (fun (g : (7 : Int32) = 1) => absurd g (by decide))
  refine And.intro (fun _ => ?_) (fun (g : (7 : Int32) = 2) => absurd g (by decide))
  refine And.intro (fun _ => ?_) (fun (g : (7 : Int32) = 3) => absurd g (by decide))
  refine And.intro (fun (g : (7 : Int32) = 4) => absurd g (by decide)) (fun _ => ?_)
  refine And.intro (fun (g : ¬ (7 : Int32) = 7) => absurd rfl g) (fun _ => ?_)
  refine And.intro (fun (g : ¬ (7 : Int32) = 7) => absurd rfl g) (fun _ => ?_)
  subst hk
  subst hb
  obtain ⟨a, rfl, ua, ⟨uTa, tTa⟩, ⟨uHa, gHa⟩, -⟩ := stk_top hS.1 ⟨uS, tS_⟩
  obtain ⟨a2, eTa, ua2, ⟨uTa2, tTa2⟩, ⟨uHa2, gHa2⟩, lHa2⟩ := stk_top hS.1 ⟨uTa, tTa⟩
  have hlT : isL_ (T a2) := isL_stk tTa2
  obtain ⟨n, rfl⟩ : ∃ j, n = j + 1 := ⟨n - 1, by omega⟩
  obtain ⟨g0, rfl, rg0, tE0⟩ := tE
  have ug0 := inU_pr uE
  obtain ⟨a', f', g', ea', ef', eg', rg'⟩ := tb rfl
  cases ea'
  refine R_call7 (C' := T c) hX0 hf eTa hlT (rs_rg hB uc (isL_wtx ⟨f, hw⟩)) (isL_env tE0) (fun g eg => ?_) (fun r' q1 q2 q3 q4 q9 => ?_) (fun k1 k2 k3 g h r' n1 n2 n3 q1 q2 eg ug eh q3 q4 => ?_)
  · rw [ef'] at eg
    cases eg
    rw [ef'] at gHa
    obtain ⟨-, g2, g3⟩ := gHa f' rfl
    exact ⟨⟨g', eg'⟩, isL_wtx g2⟩
  · exact hQ r' H T ro _ _ _ _ (x :: true :: k') (n + 1) true e (kp_kc q1) (kp_mk q1 hmk) (Or.inr (Or.inr (Or.inl q2))) (kp_sh q1 hsh) q3 (by rw [q4]; exact hT0) (EXf q2 q4 (by decide) (fun kk => by rw [stp_7]; exact if_neg q9))
  · rw [ef'] at eg
    cases eg
    rw [eg'] at eh
    cases eh
    refine hQ r' _ _ (upW (upW (upW ro k1 false) k2 false) k3 false) _ _ _ _ [] 1 false eRet (kp_kc q1) (kp_mk q1 hmk) (Or.inl (q2.trans hst)) (kp_sh q1 hsh) q3 ?_ ?_
    rotate_left
    · refine EX3 (i := 7) (q2.trans hst) rfl n1 n2 n3 q4 ?_
      rw [stp_7]
      show (if kV (H a) = 4 then some ([(T c, D), (T g0, vPr k1), (ofV T (T a), vPr k2)], some (ofV T (H a), ofV H (T a)), vNil, ofV T (H a), ofV H (H a), vPr k3) else none) = _
      rw [ef', eTa]
      show some ([(T c, D), (T g0, vPr k1), (T a2, vPr k2)], some (T f', H a2), vNil, T f', H f', vPr k3) = _
      rw [eg']
    rw [q4]
    exact T_call7 hS n1 n2 n3 ⟨uTa2, tTa2⟩ ⟨SI_t hS.1 ug0, tE0⟩ ⟨SI_t hS.1 uc, f, hw⟩ ⟨uD, tD⟩ ⟨uHa2, gHa2⟩ (lHa2 rfl) ug (by rw [← ef']; exact gHa) eg' rg'
theorem AE_5 (hX : RX r H T S E (vPr c) D R) (hT : TI H T ro (Ur r) S E (vPr c) D R k n b e) (hst : r.state = 1) (hmk : mkOK r) (hsh : shOK r) {x : Bool} {k' : Sk} (hk : k = x :: k') (he : e = eRet) (hf : 1 ≤ fz r) (hQ : stE b0 b1 op tl Q s r H T S E (vPr c) D R 5) (F : Nat) : mj_sg (mj_Mt gT cst gnw (m + 4)) cst gnw (mj_hd (mj_off kO_R_step) kH_R_step) kC_R_step J Q (F + 150) false 40 [some (.ref 27), some (.int (nI c)), some (.int 5), none, none] [.int (rsN r c)] (cW s (rW r tl), b0, b1, op) := by
  obtain ⟨hS, ⟨uS, tS_⟩, ⟨uE, tE⟩, ⟨uC, tC⟩, ⟨uD, tD⟩, tb⟩ := hT
  have hT0 : TI H T ro (Ur r) S E (vPr c) D R k n b e := ⟨hS, ⟨uS, tS_⟩, ⟨uE, tE⟩, ⟨uC, tC⟩, ⟨uD, tD⟩, tb⟩
  have hX0 := hX
  obtain ⟨hB, x0, x1, x2, x3, x4⟩ := hX
  have uc := inU_pr uC
  clear tC
  refine And.intro (fun _ => ?_) (fun (g : (5 : Int32) = 1) => absurd g (by decide))
  refine And.intro (fun _ => ?_) (fun (g : (5 : Int32) = 2) => absurd g (by decide))
  refine And.intro (fun _ => ?_) (fun (g : (5 : Int32) = 3) => absurd g (by decide))
  refine And.intro (fun (g : (5 : Int32) = 4) => absurd g (by decide)) (fun _ => ?_)
  refine And.intro (fun _ => ?_) (fun (g : (5 : Int32) = 7) => absurd g (by decide))
  refine And.intro (fun (g : ¬ (5 : Int32) = 5) => absurd rfl g) (fun _ => ?_)
  subst hk
  subst he
  obtain ⟨a, rfl, ua, ⟨uTa, tTa⟩, ⟨uHa, gHa⟩, lHa⟩ := stk_top hS.1 ⟨uS, tS_⟩
  have hlT : isL_ (T a) := isL_stk tTa
  obtain ⟨d1, d2, d3, k2, n2, e2, rfl, eD1, eD2, ud1, ud2, ud3, ⟨u1, t1⟩, ⟨u2, t2⟩, ⟨u3, t3⟩, ⟨u4, t4⟩⟩ := dmx_ret hS.1 ⟨uD, tD⟩
  refine R_comeBack (a := a) (d1 := d1) (d2 := d2) (d3 := d3) hB hf (rg_pr x0).1 ua (rg_pr x3).1 ud1 eD1 ud2 eD2 ud3 (isL_stk t1) (isL_env t2) (isL_wtx t3) (isL_dmx t4) x4 (fun kk r' n1 q1 q2 q3 q4 => ?_)
  refine hQ r' _ _ (upW ro kk false) _ _ _ _ (false :: k2) n2 false e2 (kp_kc q1) (kp_mk q1 hmk) (Or.inl (q2.trans hst)) (kp_sh q1 hsh) q3 ?_ ?_
  rotate_left
  · refine EX1 (i := 5) (q2.trans hst) rfl n1 q4 ?_
    rw [stp_5]
    show some ([(H a, H d1)], none, vPr kk, ofV H (T d1), ofV H (ofV T (T d1)), ofV T (ofV T (T d1))) = _
    rw [eD1]
    show some ([(H a, H d1)], none, vPr kk, H d2, ofV H (T d2), ofV T (T d2)) = _
    rw [eD2]
    rfl
  rw [q4]
  exact T_push hS n1 uHa gHa (fun q => by cases q) ⟨u1, t1⟩ ⟨u2, t2⟩ ⟨u3, t3⟩ ⟨u4, t4⟩
theorem AE_6 (hX : RX r H T S E (vPr c) D R) (hT : TI H T ro (Ur r) S E (vPr c) D R k n b e) (hst : r.state = 1) (hmk : mkOK r) (hsh : shOK r) {f : Nat} (hw : wt H T ro f (T c) k (n + 1) false e) (hf : 1 ≤ fz r) (hQ : stE b0 b1 op tl Q s r H T S E (vPr c) D R 6) (F : Nat) : mj_sg (mj_Mt gT cst gnw (m + 4)) cst gnw (mj_hd (mj_off kO_R_step) kH_R_step) kC_R_step J Q (F + 150) false 40 [some (.ref 27), some (.int (nI c)), some (.int 6), none, none] [.int (rsN r c)] (cW s (rW r tl), b0, b1, op) := by
  obtain ⟨hS, ⟨uS, tS_⟩, ⟨uE, tE⟩, ⟨uC, tC⟩, ⟨uD, tD⟩, tb⟩ := hT
  have hT0 : TI H T ro (Ur r) S E (vPr c) D R k n b e := ⟨hS, ⟨uS, tS_⟩, ⟨uE, tE⟩, ⟨uC, tC⟩, ⟨uD, tD⟩, tb⟩
  have hX0 := hX
  obtain ⟨hB, x0, x1, x2, x3, x4⟩ := hX
  have uc := inU_pr uC
  clear tC
  refine And.intro (fun _ => ?_) (fun (g : (6 : Int32) = 1) => absurd g (by decide))
  refine And.intro (fun _ => ?_) (fun (g : (6 : Int32) = 2) => absurd g (by decide))
  refine And.intro (fun _ => ?_) (fun (g : (6 : Int32) = 3) => absurd g (by decide))
  refine And.intro (fun (g : (6 : Int32) = 4) => absurd g (by decide)) (fun _ => ?_)
  refine And.intro (fun _ => ?_) (fun (g : (6 : Int32) = 7) => absurd g (by decide))
  refine And.intro (fun _ => ?_) (fun (g : (6 : Int32) = 5) => absurd g (by decide))
  refine And.intro (fun (g : ¬ (6 : Int32) = 6) => absurd rfl g) (fun _ => ?_)
  refine And.intro i51 ?_
  refine R_make (h := vNil) (t := E) hB hf ⟨rfl, rfl⟩ x1 (fun kk r1 hm g1 => ?_)
  have hrs := A_rest hm uc (isL_wtx ⟨f, hw⟩)
  obtain ⟨⟨m1, -⟩, ⟨m2, m3, m4⟩, m5, m6, m7, m8⟩ := hm
  refine And.intro i51 ?_
  refine And.intro i52 ?_
  have hrr : rg r1 (T c) (rsN r c) := rg_up m4 (rs_rg hB uc (isL_wtx ⟨f, hw⟩))
  have kk2 := kp_tr m2 (kp_sR (r := r1) (f := upd (upd r1.reg 1 (nI kk)) 2 (rsN r c)))
  refine hQ (sR r1 (upd (upd r1.reg 1 (nI kk)) 2 (rsN r c))) (upW H kk vNil) (upW T kk E) (upW ro kk true) S (vPr kk) (T c) D k (n + 1) false e (kp_kc kk2) (kp_mk kk2 hmk) (Or.inl (m3.trans hst)) (kp_sh kk2 hsh) ⟨sm_RB sm_sR m5, ?_, sm_rg sm_sR m8, sm_rg sm_sR hrr, ?_, ?_⟩ ?_ (EX1 (i := 6) (m3.trans hst) rfl m1 ((sm_Ur sm_sR).trans m6) stp_6)
  · show rg _ _ (r1.reg 0)
    rw [g1]
    exact sm_rg sm_sR (rg_up m4 x0)
  · show rg _ _ (r1.reg 3)
    rw [g1]
    exact sm_rg sm_sR (rg_up m4 x3)
  · show rg _ _ (r1.reg 4)
    rw [g1]
    exact sm_rg sm_sR (rg_up m4 x4)
  · have eU : Ur (sR r1 (upd (upd r1.reg 1 (nI kk)) 2 (rsN r c))) = addU (Ur r) kk := (sm_Ur sm_sR).trans m6
    rw [eU]
    exact T_frame hS m1 ⟨uS, tS_⟩ ⟨uE, tE⟩ ⟨SI_t hS.1 uc, f, hw⟩ ⟨uD, tD⟩
theorem AE_8 (hX : RX r H T S E (vPr c) D R) (hT : TI H T ro (Ur r) S E (vPr c) D R k n b e) (hst : r.state = 1) (hmk : mkOK r) (hsh : shOK r) {x : Bool} {k' : Sk} {d q f : Nat} (hk : k = x :: k') (eT : T c = vPr d) (eQ : T d = vPr q) (w1 : wt H T ro f (H d) k' n false (eJoin (false :: k') n)) (w2 : wt H T ro f (H q) k' n false (eJoin (false :: k') n)) (w3 : wt H T ro f (T q) (false :: k') n false e) (hf : 1 ≤ fz r) (hQ : stE b0 b1 op tl Q s r H T S E (vPr c) D R 8) (F : Nat) : mj_sg (mj_Mt gT cst gnw (m + 4)) cst gnw (mj_hd (mj_off kO_R_step) kH_R_step) kC_R_step J Q (F + 150) false 40 [some (.ref 27), some (.int (nI c)), some (.int 8), none, none] [.int (rsN r c)] (cW s (rW r tl), b0, b1, op) := by
  obtain ⟨hS, ⟨uS, tS_⟩, ⟨uE, tE⟩, ⟨uC, tC⟩, ⟨uD, tD⟩, tb⟩ := hT
  have hT0 : TI H T ro (Ur r) S E (vPr c) D R k n b e := ⟨hS, ⟨uS, tS_⟩, ⟨uE, tE⟩, ⟨uC, tC⟩, ⟨uD, tD⟩, tb⟩
  have hX0 := hX
  obtain ⟨hB, x0, x1, x2, x3, x4⟩ := hX
  have uc := inU_pr uC
  clear tC
  refine And.intro (fun _ => ?_) (fun (g : (8 : Int32) = 1) => absurd g (by decide))
  refine And.intro (fun _ => ?_) (fun (g : (8 : Int32) = 2) => absurd g (by decide))
  refine And.intro (fun _ => ?_) (fun (g : (8 : Int32) = 3) => absurd g (by decide))
  refine And.intro (fun (g : (8 : Int32) = 4) => absurd g (by decide)) (fun _ => ?_)
  refine And.intro (fun _ => ?_) (fun (g : (8 : Int32) = 7) => absurd g (by decide))
  refine And.intro (fun _ => ?_) (fun (g : (8 : Int32) = 5) => absurd g (by decide))
  refine And.intro (fun _ => ?_) (fun (g : (8 : Int32) = 6) => absurd g (by decide))
  refine And.intro (fun (g : ¬ (8 : Int32) = 8) => absurd rfl g) (fun _ => ?_)
  subst hk
  obtain ⟨a, rfl, ua, ⟨uTa, tTa⟩, ⟨uHa, gHa⟩, lHa⟩ := stk_top hS.1 ⟨uS, tS_⟩
  have hlT : isL_ (T a) := isL_stk tTa
  have ud := SI_tp hS.1 uc eT
  have uq := SI_tp hS.1 ud eQ
  refine R_choose (d := d) (q := q) hX0 hf hlT (rs_pr hB uc eT) ud eQ uq (isL_wtx ⟨f, w3⟩) (isL_wtx ⟨f, w1⟩) (isL_wtx ⟨f, w2⟩) (fun r' q1 q2 q3 q4 q9 => ?_) (fun kk r' y n1 q1 q2 q9 q3 q4 => ?_)
  · exact hQ r' H T ro _ _ _ _ (x :: k') n b e (kp_kc q1) (kp_mk q1 hmk) (Or.inr (Or.inr (Or.inl q2))) (kp_sh q1 hsh) q3 (by rw [q4]; exact hT0) (EXf q2 q4 (by decide) (fun kk => by rw [stp_8]; exact if_neg q9))
  · refine hQ r' _ _ (upW ro kk false) _ _ _ _ k' n false (eJoin (false :: k') n) (kp_kc q1) (kp_mk q1 hmk) (Or.inl (q2.trans hst)) (kp_sh q1 hsh) q3 ?_ ?_
    rotate_left
    · refine EX1 (i := 8) (q2.trans hst) rfl n1 q4 ?_
      rw [stp_8]
      show (if kV (H a) = 1 then some ([(ofV T (ofV T (T c)), D)], none, T a, E, if iV (H a) = 0 then ofV H (ofV T (T c)) else ofV H (T c), vPr kk) else none) = _
      rw [q9, eT]
      show some ([(ofV T (T d), D)], none, T a, E, if y = 0 then ofV H (T d) else H d, vPr kk) = _
      rw [eQ]
      rfl
    rw [q4]
    refine T_choose hS n1 ⟨uTa, tTa⟩ ⟨uE, tE⟩ ?_ ⟨uD, tD⟩ ⟨SI_t hS.1 uq, f, w3⟩
    split
    · exact ⟨SI_h hS.1 uq, f, w2⟩
    · exact ⟨SI_h hS.1 ud, f, w1⟩
theorem AE_9 (hX : RX r H T S E (vPr c) D R) (hT : TI H T ro (Ur r) S E (vPr c) D R k n b e) (hst : r.state = 1) (hmk : mkOK r) (hsh : shOK r) (he : e = eJoin k n) (hQ : stE b0 b1 op tl Q s r H T S E (vPr c) D R 9) (F : Nat) : mj_sg (mj_Mt gT cst gnw (m + 4)) cst gnw (mj_hd (mj_off kO_R_step) kH_R_step) kC_R_step J Q (F + 150) false 40 [some (.ref 27), some (.int (nI c)), some (.int 9), none, none] [.int (rsN r c)] (cW s (rW r tl), b0, b1, op) := by
  obtain ⟨hS, ⟨uS, tS_⟩, ⟨uE, tE⟩, ⟨uC, tC⟩, ⟨uD, tD⟩, tb⟩ := hT
  have hT0 : TI H T ro (Ur r) S E (vPr c) D R k n b e := ⟨hS, ⟨uS, tS_⟩, ⟨uE, tE⟩, ⟨uC, tC⟩, ⟨uD, tD⟩, tb⟩
  have hX0 := hX
  obtain ⟨hB, x0, x1, x2, x3, x4⟩ := hX
  have uc := inU_pr uC
  clear tC
  refine And.intro (fun _ => ?_) (fun (g : (9 : Int32) = 1) => absurd g (by decide))
  refine And.intro (fun _ => ?_) (fun (g : (9 : Int32) = 2) => absurd g (by decide))
  refine And.intro (fun _ => ?_) (fun (g : (9 : Int32) = 3) => absurd g (by decide))
  refine And.intro (fun (g : (9 : Int32) = 4) => absurd g (by decide)) (fun _ => ?_)
  refine And.intro (fun _ => ?_) (fun (g : (9 : Int32) = 7) => absurd g (by decide))
  refine And.intro (fun _ => ?_) (fun (g : (9 : Int32) = 5) => absurd g (by decide))
  refine And.intro (fun _ => ?_) (fun (g : (9 : Int32) = 6) => absurd g (by decide))
  refine And.intro (fun _ => ?_) (fun (g : (9 : Int32) = 8) => absurd g (by decide))
  refine And.intro (fun (g : ¬ (9 : Int32) = 9) => absurd rfl g) (fun _ => ?_)
  subst he
  obtain ⟨a, e2, rfl, ua, ⟨u1, t1⟩, ⟨u2, t2⟩⟩ := dmx_join hS.1 ⟨uD, tD⟩
  have h3 := (rg_pr x3).1
  have ha := Ur_lt hB ua
  refine And.intro i53 ?_
  refine R_headList h3 ha ?_
  refine And.intro i52 ?_
  change mj_sg _ _ _ _ _ _ _ _ _ 168 _ _ (cW s (rW (sR r (upd r.reg 2 (hlN r a))) tl), b0, b1, op)
  refine And.intro i53 ?_
  refine R_rest h3 ha ?_
  refine And.intro i53 ?_
  have kk2 := kp_sR (r := r) (f := upd (upd r.reg 2 (hlN r a)) 3 (rsN r a))
  refine hQ (sR r (upd (upd r.reg 2 (hlN r a)) 3 (rsN r a))) H T ro S E (H a) (T a) k n false e2 (kp_kc kk2) (kp_mk kk2 hmk) (Or.inl hst) (kp_sh kk2 hsh) ⟨sm_RB sm_sR hB, sm_rg sm_sR x0, sm_rg sm_sR x1, sm_rg sm_sR (hl_rg hB ua (isL_wtx t1)), sm_rg sm_sR (rs_rg hB ua (isL_dmx t2)), sm_rg sm_sR x4⟩ ?_ (EX0 hst rfl (sm_Ur sm_sR) stp_9)
  exact ⟨hS, ⟨uS, tS_⟩, ⟨uE, tE⟩, ⟨u1, t1⟩, ⟨u2, t2⟩, fun q => by cases q⟩
theorem AE_10 (hX : RX r H T S E (vPr c) D R) (hT : TI H T ro (Ur r) S E (vPr c) D R k n b e) (hst : r.state = 1) (hmk : mkOK r) (hsh : shOK r) {i : Int32} {x : Bool} {k' : Sk} {f : Nat} (hi : i = 10 ∨ i = 11 ∨ i = 12) (hk : k = x :: k') (hw : wt H T ro f (T c) (false :: k') n false e) (hf : 1 ≤ fz r) (hQ : stE b0 b1 op tl Q s r H T S E (vPr c) D R i) (F : Nat) : mj_sg (mj_Mt gT cst gnw (m + 4)) cst gnw (mj_hd (mj_off kO_R_step) kH_R_step) kC_R_step J Q (F + 150) false 40 [some (.ref 27), some (.int (nI c)), some (.int i), none, none] [.int (rsN r c)] (cW s (rW r tl), b0, b1, op) := by
  obtain ⟨hS, ⟨uS, tS_⟩, ⟨uE, tE⟩, ⟨uC, tC⟩, ⟨uD, tD⟩, tb⟩ := hT
  have hT0 : TI H T ro (Ur r) S E (vPr c) D R k n b e := ⟨hS, ⟨uS, tS_⟩, ⟨uE, tE⟩, ⟨uC, tC⟩, ⟨uD, tD⟩, tb⟩
  have hX0 := hX
  obtain ⟨hB, x0, x1, x2, x3, x4⟩ := hX
  have uc := inU_pr uC
  clear tC
  refine And.intro (fun _ => ?_) (fun (g : i = 1) => absurd g (by rcases hi with rfl | rfl | rfl <;> decide))
  refine And.intro (fun _ => ?_) (fun (g : i = 2) => absurd g (by rcases hi with rfl | rfl | rfl <;> decide))
  refine And.intro (fun _ => ?_) (fun (g : i = 3) => absurd g (by rcases hi with rfl | rfl | rfl <;> decide))
  refine And.intro (fun (g : i = 4) => absurd g (by rcases hi with rfl | rfl | rfl <;> decide)) (fun _ => ?_)
  refine And.intro (fun _ => ?_) (fun (g : i = 7) => absurd g (by rcases hi with rfl | rfl | rfl <;> decide))
  refine And.intro (fun _ => ?_) (fun (g : i = 5) => absurd g (by rcases hi with rfl | rfl | rfl <;> decide))
  refine And.intro (fun _ => ?_) (fun (g : i = 6) => absurd g (by rcases hi with rfl | rfl | rfl <;> decide))
  refine And.intro (fun _ => ?_) (fun (g : i = 8) => absurd g (by rcases hi with rfl | rfl | rfl <;> decide))
  refine And.intro (fun _ => ?_) (fun (g : i = 9) => absurd g (by rcases hi with rfl | rfl | rfl <;> decide))
  refine And.intro (fun (g : (13 : Int32) ≤ i) => absurd g (by rcases hi with rfl | rfl | rfl <;> decide)) (fun _ => ?_)
  subst hk
  obtain ⟨a, rfl, ua, ⟨uTa, tTa⟩, ⟨uHa, gHa⟩, lHa⟩ := stk_top hS.1 ⟨uS, tS_⟩
  have hlT : isL_ (T a) := isL_stk tTa
  refine R_ofOne (C' := T c) hi hX0 hf hlT (rs_rg hB uc (isL_wtx ⟨f, hw⟩)) (fun r' q1 q2 q3 q4 q8 q9 => ?_) (fun kk r' w n1 q1 q2 hw2 q3 q4 => ?_)
  · exact hQ r' H T ro _ _ _ _ (x :: k') n b e (kp_kc q1) (kp_mk q1 hmk) (Or.inr (Or.inr (Or.inl q2))) (kp_sh q1 hsh) q3 (by rw [q4]; exact hT0) (EXf q2 q4 (by rcases hi with rfl | rfl | rfl <;> decide) (fun kk => by
      rcases hi with rfl | rfl | rfl
      · rw [stp_10]
        exact if_neg q9
      · rw [stp_11]
        exact if_neg q9
      · exact absurd rfl q8))
  · have hv : inU (Ur r) w ∧ gF H T ro w := by
      rcases hw2 with ⟨-, w1, rfl⟩ | ⟨-, w1, rfl⟩ | ⟨-, rfl⟩
      · obtain ⟨j, ej⟩ := kV_pr w1
        rw [ej] at uHa
        have uj := inU_pr uHa
        have e9 : ofV H (H a) = H j := by rw [ej]; rfl
        rw [e9]
        exact ⟨SI_h hS.1 uj, (hS.1 j uj).2.1.1⟩
      · obtain ⟨j, ej⟩ := kV_pr w1
        rw [ej] at uHa
        have uj := inU_pr uHa
        have e9 : ofV T (H a) = T j := by rw [ej]; rfl
        rw [e9]
        exact ⟨SI_t hS.1 uj, (hS.1 j uj).2.1.2⟩
      · exact ⟨int_inU, gF_int⟩
    refine hQ r' _ _ (upW ro kk false) _ _ _ _ (false :: k') n false e (kp_kc q1) (kp_mk q1 hmk) (Or.inl (q2.trans hst)) (kp_sh q1 hsh) q3 ?_ ?_
    rotate_left
    · rcases hw2 with ⟨rfl, w1, rfl⟩ | ⟨rfl, w1, rfl⟩ | ⟨rfl, rfl⟩
      · exact EX1 (i := 10) (q2.trans hst) rfl n1 q4 (by rw [stp_10]; exact if_pos w1)
      · exact EX1 (i := 11) (q2.trans hst) rfl n1 q4 (by rw [stp_11]; exact if_pos w1)
      · exact EX1 (i := 12) (q2.trans hst) rfl n1 q4 stp_12
    rw [q4]
    exact T_push hS n1 hv.1 hv.2 (fun q => by cases q) ⟨uTa, tTa⟩ ⟨uE, tE⟩ ⟨SI_t hS.1 uc, f, hw⟩ ⟨uD, tD⟩
theorem AE_13 (hX : RX r H T S E (vPr c) D R) (hT : TI H T ro (Ur r) S E (vPr c) D R k n b e) (hst : r.state = 1) (hmk : mkOK r) (hsh : shOK r) {i : Int32} {x y t : Bool} {k' : Sk} {f : Nat} (hi : i = 13 ∨ i = 14 ∨ i = 15 ∨ i = 16 ∨ i = 17 ∨ i = 18) (hk : k = x :: y :: k') (ht : t = true → i = 13 ∧ y = true) (hw : wt H T ro f (T c) (t :: k') n false e) (hf : 1 ≤ fz r) (hf2 : i = 13 → 2 ≤ fz r) (hQ : stE b0 b1 op tl Q s r H T S E (vPr c) D R i) (F : Nat) : mj_sg (mj_Mt gT cst gnw (m + 4)) cst gnw (mj_hd (mj_off kO_R_step) kH_R_step) kC_R_step J Q (F + 150) false 40 [some (.ref 27), some (.int (nI c)), some (.int i), none, none] [.int (rsN r c)] (cW s (rW r tl), b0, b1, op) := by
  obtain ⟨hS, ⟨uS, tS_⟩, ⟨uE, tE⟩, ⟨uC, tC⟩, ⟨uD, tD⟩, tb⟩ := hT
  have hT0 : TI H T ro (Ur r) S E (vPr c) D R k n b e := ⟨hS, ⟨uS, tS_⟩, ⟨uE, tE⟩, ⟨uC, tC⟩, ⟨uD, tD⟩, tb⟩
  have hX0 := hX
  obtain ⟨hB, x0, x1, x2, x3, x4⟩ := hX
  have uc := inU_pr uC
  clear tC
  refine And.intro (fun _ => ?_) (fun (g : i = 1) => absurd g (by rcases hi with rfl | rfl | rfl | rfl | rfl | rfl <;> decide))
  refine And.intro (fun _ => ?_) (fun (g : i = 2) => absurd g (by rcases hi with rfl | rfl | rfl | rfl | rfl | rfl <;> decide))
  refine And.intro (fun _ => ?_) (fun (g : i = 3) => absurd g (by rcases hi with rfl | rfl | rfl | rfl | rfl | rfl <;> decide))
  refine And.intro (fun (g : i = 4) => absurd g (by rcases hi with rfl | rfl | rfl | rfl | rfl | rfl <;> decide)) (fun _ => ?_)
  refine And.intro (fun _ => ?_) (fun (g : i = 7) => absurd g (by rcases hi with rfl | rfl | rfl | rfl | rfl | rfl <;> decide))
  refine And.intro (fun _ => ?_) (fun (g : i = 5) => absurd g (by rcases hi with rfl | rfl | rfl | rfl | rfl | rfl <;> decide))
  refine And.intro (fun _ => ?_) (fun (g : i = 6) => absurd g (by rcases hi with rfl | rfl | rfl | rfl | rfl | rfl <;> decide))
  refine And.intro (fun _ => ?_) (fun (g : i = 8) => absurd g (by rcases hi with rfl | rfl | rfl | rfl | rfl | rfl <;> decide))
  refine And.intro (fun _ => ?_) (fun (g : i = 9) => absurd g (by rcases hi with rfl | rfl | rfl | rfl | rfl | rfl <;> decide))
  refine And.intro (fun _ => ?_) (fun (g : ¬ (13 : Int32) ≤ i) => absurd (by rcases hi with rfl | rfl | rfl | rfl | rfl | rfl <;> decide) g)
  refine And.intro (fun (g : (19 : Int32) ≤ i) => absurd g (by rcases hi with rfl | rfl | rfl | rfl | rfl | rfl <;> decide)) (fun _ => ?_)
  subst hk
  obtain ⟨a, rfl, ua, ⟨uTa, tTa⟩, ⟨uHa, gHa⟩, -⟩ := stk_top hS.1 ⟨uS, tS_⟩
  obtain ⟨a2, eTa, ua2, ⟨uTa2, tTa2⟩, ⟨uHa2, gHa2⟩, lHa2⟩ := stk_top hS.1 ⟨uTa, tTa⟩
  have hlT : isL_ (T a2) := isL_stk tTa2
  refine R_ofTwo (C' := T c) hi hX0 hf hf2 eTa hlT (rs_rg hB uc (isL_wtx ⟨f, hw⟩)) (fun r' q1 q2 q3 q4 q7 q8 q9 => ?_) (fun kk r' v n1 q1 q2 hv q3 q4 => ?_) (fun k1 k2 r' n1 n2 q1 q2 ei q3 q4 => ?_)
  · exact hQ r' H T ro _ _ _ _ (x :: y :: k') n b e (kp_kc q1) (kp_mk q1 hmk) (Or.inr (Or.inr (Or.inl q2))) (kp_sh q1 hsh) q3 (by rw [q4]; exact hT0) (EXf q2 q4 (by rcases hi with rfl | rfl | rfl | rfl | rfl | rfl <;> decide) (fun kk => by
      have hb : ¬ (kV (ofV H (ofV T (vPr a))) = 1 ∧ kV (ofV H (vPr a)) = 1) := by
        show ¬ (kV (ofV H (T a)) = 1 ∧ kV (H a) = 1)
        rw [eTa]
        exact q9
      rcases hi with rfl | rfl | rfl | rfl | rfl | rfl
      · exact absurd rfl q7
      · exact absurd rfl q8
      · rw [stp_15]
        exact if_neg hb
      · rw [stp_16]
        exact if_neg hb
      · rw [stp_17]
        exact if_neg hb
      · rw [stp_18]
        exact if_neg hb))
  · refine hQ r' _ _ (upW ro kk false) _ _ _ _ (t :: k') n false e (kp_kc q1) (kp_mk q1 hmk) (Or.inl (q2.trans hst)) (kp_sh q1 hsh) q3 ?_ ?_
    rotate_left
    · rcases hv with ⟨rfl, hv⟩ | ⟨w13, w14, x1, y1, ex, ey, hv⟩
      · refine EX1 (i := 14) (q2.trans hst) rfl n1 q4 ?_
        rw [stp_14]
        show some ([(vInt (if smV (ofV H (T a)) (H a) = true then 1 else 0), ofV T (T a))], none, vPr kk, E, T c, D) = _
        rw [eTa, hv]
        show some ([(vInt (if smV (H a2) (H a) = true then 1 else 0), T a2)], none, vPr kk, E, T c, D) = _
        rw [smV_eq (H a2) (H a)]
      · subst hv
        have hb : kV (ofV H (ofV T (vPr a))) = 1 ∧ kV (ofV H (vPr a)) = 1 := by
          show kV (ofV H (T a)) = 1 ∧ kV (H a) = 1
          rw [eTa, ey]
          show kV (H a2) = 1 ∧ _
          rw [ex]
          exact ⟨rfl, rfl⟩
        have e1 : iV (ofV H (ofV T (vPr a))) = x1 := by
          show iV (ofV H (T a)) = x1
          rw [eTa]
          show iV (H a2) = x1
          rw [ex]
          rfl
        have e2 : iV (ofV H (vPr a)) = y1 := by
          show iV (H a) = y1
          rw [ey]
          rfl
        have e3 : ofV T (ofV T (vPr a)) = T a2 := by
          show ofV T (T a) = T a2
          rw [eTa]
          rfl
        rcases hi with rfl | rfl | rfl | rfl | rfl | rfl
        · exact absurd rfl w13
        · exact absurd rfl w14
        · exact EX1 (i := 15) (q2.trans hst) rfl n1 q4 (by rw [stp_15, if_pos hb, e1, e2, e3]; rfl)
        · exact EX1 (i := 16) (q2.trans hst) rfl n1 q4 (by rw [stp_16, if_pos hb, e1, e2, e3]; rfl)
        · exact EX1 (i := 17) (q2.trans hst) rfl n1 q4 (by rw [stp_17, if_pos hb, e1, e2, e3]; rfl)
        · exact EX1 (i := 18) (q2.trans hst) rfl n1 q4 (by rw [stp_18, if_pos hb, e1, e2, e3]; rfl)
    rw [q4]
    refine T_push hS n1 int_inU gF_int (fun q => ?_) ⟨uTa2, tTa2⟩ ⟨uE, tE⟩ ⟨SI_t hS.1 uc, f, hw⟩ ⟨uD, tD⟩
    have := (ht q).1
    rcases hv with ⟨w, -⟩ | ⟨w, -⟩
    · rw [this] at w
      exact absurd w (by decide)
    · exact absurd this w
  · refine hQ r' _ _ (upW (upW ro k1 false) k2 false) _ _ _ _ (t :: k') n false e (kp_kc q1) (kp_mk q1 hmk) (Or.inl (q2.trans hst)) (kp_sh q1 hsh) q3 ?_ ?_
    rotate_left
    · subst ei
      refine EX2 (i := 13) (q2.trans hst) rfl n1 n2 q4 ?_
      rw [stp_13]
      show some ([(H a, ofV H (T a)), (vPr k1, ofV T (T a))], none, vPr k2, E, T c, D) = _
      rw [eTa]
      rfl
    rw [q4]
    have hx1 : Ext (Ur r) H T ro (upW H k1 (H a)) (upW T k1 (H a2)) (upW ro k1 false) := Ext_new n1
    have hS1 : TS (upW H k1 (H a)) (upW T k1 (H a2)) (upW ro k1 false) (addU (Ur r) k1) R := TS_new hS n1 uHa uHa2 gHa gHa2 (fun q => by cases q)
    refine T_push hS1 n2 (pr_inU new_in) gF_pr (fun q => ?_) ⟨in_new uTa2, stk_ext hS.1 hx1 _ _ uTa2 tTa2⟩ ⟨in_new uE, env_ext hS.1 hx1 _ _ uE tE⟩ ⟨in_new (SI_t hS.1 uc), wtx_ext hS.1 hx1 (SI_t hS.1 uc) ⟨f, hw⟩⟩ ⟨in_new uD, dmx_ext hS.1 hx1 uD tD⟩
    obtain ⟨mm, hl⟩ := lst_ext hS.1 hx1 uHa2 (lHa2 (ht q).2)
    refine ⟨mm + 1, k1, rfl, ?_⟩
    have e1 : upW T k1 (H a2) k1 = H a2 := if_pos rfl
    rw [e1]
    exact hl
theorem AE_19 (hX : RX r H T S E (vPr c) D R) (hT : TI H T ro (Ur r) S E (vPr c) D R k n b e) (hst : r.state = 1) (hmk : mkOK r) (hsh : shOK r) {x : Bool} {k' : Sk} (hk : k = x :: k') (hQ : stE b0 b1 op tl Q s r H T S E (vPr c) D R 19) (F : Nat) : mj_sg (mj_Mt gT cst gnw (m + 4)) cst gnw (mj_hd (mj_off kO_R_step) kH_R_step) kC_R_step J Q (F + 150) false 40 [some (.ref 27), some (.int (nI c)), some (.int 19), none, none] [.int (rsN r c)] (cW s (rW r tl), b0, b1, op) := by
  obtain ⟨hS, ⟨uS, tS_⟩, ⟨uE, tE⟩, ⟨uC, tC⟩, ⟨uD, tD⟩, tb⟩ := hT
  have hT0 : TI H T ro (Ur r) S E (vPr c) D R k n b e := ⟨hS, ⟨uS, tS_⟩, ⟨uE, tE⟩, ⟨uC, tC⟩, ⟨uD, tD⟩, tb⟩
  have hX0 := hX
  obtain ⟨hB, x0, x1, x2, x3, x4⟩ := hX
  have uc := inU_pr uC
  clear tC
  refine And.intro (fun _ => ?_) (fun (g : (19 : Int32) = 1) => absurd g (by decide))
  refine And.intro (fun _ => ?_) (fun (g : (19 : Int32) = 2) => absurd g (by decide))
  refine And.intro (fun _ => ?_) (fun (g : (19 : Int32) = 3) => absurd g (by decide))
  refine And.intro (fun (g : (19 : Int32) = 4) => absurd g (by decide)) (fun _ => ?_)
  refine And.intro (fun _ => ?_) (fun (g : (19 : Int32) = 7) => absurd g (by decide))
  refine And.intro (fun _ => ?_) (fun (g : (19 : Int32) = 5) => absurd g (by decide))
  refine And.intro (fun _ => ?_) (fun (g : (19 : Int32) = 6) => absurd g (by decide))
  refine And.intro (fun _ => ?_) (fun (g : (19 : Int32) = 8) => absurd g (by decide))
  refine And.intro (fun _ => ?_) (fun (g : (19 : Int32) = 9) => absurd g (by decide))
  refine And.intro (fun _ => ?_) (fun (g : ¬ (13 : Int32) ≤ (19 : Int32)) => absurd (by decide) g)
  refine And.intro (fun _ => ?_) (fun (g : ¬ (19 : Int32) ≤ (19 : Int32)) => absurd (by decide) g)
  subst hk
  obtain ⟨a, rfl, ua, -⟩ := stk_top hS.1 ⟨uS, tS_⟩
  have ha := Ur_lt hB ua
  refine R_stop (fun r' c1 c2 c3 c4 c5 c6 => ?_)
  have hB' := c6 H T hB
  have hz := hB'.1.2
  have raw' := hB'.2.2
  have fin : ∀ (p : sP) (n2 : Nat) (pl : Nat → Int32), p.1 ≤ 120 → RSH (phR (gR r' (r'.headKind a) (r'.head a)) p n2 pl) H T (vPr a) → Q (.inl none, (cW s (rW (phR (gR r' (r'.headKind a) (r'.head a)) p n2 pl) tl), b0, b1, op)) := by
    intro p n2 pl hp hR
    have hX1 : RX r' H T (vPr a) E (vPr c) D R := ⟨hB', by rw [c5]; exact rg_up c3 x0, by rw [c5]; exact rg_up c3 x1, by rw [c5]; exact rg_up c3 x2, by rw [c5]; exact rg_up c3 x3, by rw [c5]; exact rg_up c3 x4⟩
    have hk1 : kc r (phR (gR r' (r'.headKind a) (r'.head a)) p n2 pl) := kc_tr (kp_kc c1) ⟨rfl, rfl, rfl, rfl, rfl⟩
    have hm1 : mkOK (phR (gR r' (r'.headKind a) (r'.head a)) p n2 pl) := by
      obtain ⟨mk, em⟩ := kp_mk c1 hmk
      exact ⟨mk, em⟩
    refine hQ (phR (gR r' (r'.headKind a) (r'.head a)) p n2 pl) H T ro (vPr a) E (vPr c) D (x :: k') n b e hk1 hm1 (Or.inr (Or.inl c2)) ⟨p.1, hp, rfl⟩ hX1 ?_ (EXd c2 c4 hR)
    have eU : Ur (phR (gR r' (r'.headKind a) (r'.head a)) p n2 pl) = Ur r := c4
    rw [eU]
    exact hT0
  by_cases hM : ∃ M, SMc r' H T M ∧ M a
  · obtain ⟨M, hM, ma⟩ := hM
    refine R_showAllE (a := a) ha (by rw [c5]; exact (rg_pr x0).1) hM ma (fun p n2 pl hp => ?_)
    exact fin p n2 pl (PRC_le hp) (fun _ => ⟨p, ⟨rfl, rfl⟩, hp⟩)
  · refine R_showAll (a := a) ha (by rw [c5]; exact (rg_pr x0).1) (fun i hi => ⟨fun q => ?_, fun q => ?_⟩) (fun p n2 pl hp => ?_)
    · obtain ⟨j, j1, j2⟩ := (raw' i hi).1 q
      exact ⟨j, by omega, j2⟩
    · obtain ⟨j, j1, j2⟩ := (raw' i hi).2 q
      exact ⟨j, by omega, j2⟩
    · refine fin p n2 pl hp (fun w => ?_)
      obtain ⟨M, w1, w2⟩ := w
      exact absurd ⟨M, w1, w2 a rfl⟩ hM
end RSE
