section
def EXA (r : rM) (H T : Nat → Vl) (S E C D : Vl) (i : Int32) (r' : rM) (H' T' : Nat → Vl) (S' E' C' D' : Vl) : Prop :=
    ((r'.state = 3 ∨ r'.state = 2) ∧ (H' = H ∧ T' = T) ∧ (S' = S ∧ E' = E ∧ C' = C ∧ D' = D) ∧ Ur r' = Ur r ∧ (r'.state = 3 → ¬ i = 19 ∧ ∀ kk, stp kk H T S E C D i = none) ∧ (r'.state = 2 → i = 19 ∧ RSH r' H T S))
  ∨ (r'.state = 1 ∧ ¬ i = 19 ∧ ∃ kk al sh, stp kk H T S E C D i = some (al, sh, S', E', C', D') ∧ H' = stH sh (alH kk 0 al H) ∧ T' = alT kk 0 al T ∧ (∀ j, j < rqN i → ¬ Ur r (kk j) ∧ ∀ l, l < rqN i → ¬ l = j → ¬ kk l = kk j) ∧ Ur r' = fun a => Ur r a ∨ ∃ j, j < rqN i ∧ a = kk j)
def stE (b0 b1 : Nat) (op : Bool) (tl : List mj_O) (Q : mj_R → Prop) (s : cS) (r : rM) (H T : Nat → Vl) (S E C D R : Vl) (i : Int32) : Prop := ∀ (r' : rM) (H' T' : Nat → Vl) (ro' : Nat → Bool) (S' E' C' D' : Vl) (k' : Sk) (n' : Nat) (b' : Bool) (e' : En), kc r r' → mkOK r' → rnS r' → shOK r' → RX r' H' T' S' E' C' D' R → TI H' T' ro' (Ur r') S' E' C' D' R k' n' b' e' → EXA r H T S E C D i r' H' T' S' E' C' D' → Q (.inl none, (cW s (rW r' tl), b0, b1, op))
theorem smV_eq (v w : Vl) : (if smV v w = true then (1 : Int32) else 0) = if v = w ∧ ceV v = none then 1 else 0 := by
  have key : smV v w = true ↔ v = w ∧ ceV v = none := by
    rcases v with u | x | x | a | a <;> rcases w with u | y | y | b | b <;> simp [smV, ceV]
  by_cases h : smV v w = true
  · rw [if_pos h, if_pos (key.mp h)]
  · rw [if_neg h, if_neg (fun q => h (key.mpr q))]
section ZKF
variable {r r' : rM} {H T : Nat → Vl} {S E C D S' E' C' D' : Vl} {i : Int32} {k1 k2 k3 k4 : Nat} {v1 w1 v2 w2 v3 w3 v4 w4 : Vl}
theorem EXf (hs : r'.state = 3) (hU : Ur r' = Ur r) (hi : ¬ i = 19) (h : ∀ kk, stp kk H T S E C D i = none) : EXA r H T S E C D i r' H T S E C D := Or.inl ⟨Or.inl hs, ⟨rfl, rfl⟩, ⟨rfl, rfl, rfl, rfl⟩, hU, fun _ => ⟨hi, h⟩, fun q => absurd (hs.symm.trans q) (by decide)⟩
theorem EXd (hs : r'.state = 2) {r2 : rM} (hU : Ur r' = Ur r) (hR : RSH r2 H T S) (e1 : r2.state = r'.state := by rfl) (e2 : Ur r2 = Ur r' := by rfl) : EXA r H T S E C D 19 r2 H T S E C D := Or.inl ⟨Or.inr (e1.trans hs), ⟨rfl, rfl⟩, ⟨rfl, rfl, rfl, rfl⟩, e2.trans hU, fun q => absurd ((e1.trans hs).symm.trans q) (by decide), fun _ => ⟨rfl, hR⟩⟩
theorem EX0 (hs : r'.state = 1) (hi : rqN i = 0) (hU : Ur r' = Ur r) (h : stp (fun _ => 0) H T S E C D i = some ([], none, S', E', C', D')) (h19 : ¬ i = 19 := by decide) : EXA r H T S E C D i r' H T S' E' C' D' := by
  refine Or.inr ⟨hs, h19, fun _ => 0, [], none, h, rfl, rfl, fun j hj => absurd hj (by omega), ?_⟩
  rw [hU]
  funext a
  exact propext ⟨Or.inl, fun q => q.elim id (fun ⟨j, hj, _⟩ => absurd hj (by omega))⟩
theorem EX1 (hs : r'.state = 1) (hi : rqN i = 1) (n1 : ¬ Ur r k1) (hU : Ur r' = addU (Ur r) k1) (h : stp (fun _ => k1) H T S E C D i = some ([(v1, w1)], none, S', E', C', D')) (h19 : ¬ i = 19 := by decide) : EXA r H T S E C D i r' (upW H k1 v1) (upW T k1 w1) S' E' C' D' := by
  refine Or.inr ⟨hs, h19, fun _ => k1, [(v1, w1)], none, h, rfl, rfl, fun j hj => ⟨n1, fun l hl e => absurd (by omega) e⟩, ?_⟩
  rw [hU]
  funext a
  exact propext ⟨fun q => q.imp id (fun e => ⟨0, by omega, e⟩), fun q => q.imp id (fun ⟨j, _, e⟩ => e)⟩
def kk2 (k1 k2 : Nat) : Nat → Nat := fun j => if j = 0 then k1 else k2
theorem EX2 (hs : r'.state = 1) (hi : rqN i = 2) (n1 : ¬ Ur r k1) (n2 : ¬ addU (Ur r) k1 k2) (hU : Ur r' = addU (addU (Ur r) k1) k2) (h : stp (kk2 k1 k2) H T S E C D i = some ([(v1, w1), (v2, w2)], none, S', E', C', D')) (h19 : ¬ i = 19 := by decide) : EXA r H T S E C D i r' (upW (upW H k1 v1) k2 v2) (upW (upW T k1 w1) k2 w2) S' E' C' D' := by
  have d2 : ¬ k2 = k1 := fun e => n2 (Or.inr e)
  have u2 : ¬ Ur r k2 := fun u => n2 (Or.inl u)
  refine Or.inr ⟨hs, h19, kk2 k1 k2, [(v1, w1), (v2, w2)], none, h, rfl, rfl, fun j hj => ?_, ?_⟩
  · rw [hi] at hj ⊢
    have : j = 0 ∨ j = 1 := by omega
    rcases this with rfl | rfl
    · exact ⟨n1, fun l hl e => by obtain rfl : l = 1 := by omega
                                  exact d2⟩
    · exact ⟨u2, fun l hl e => by obtain rfl : l = 0 := by omega
                                  exact fun q => d2 q.symm⟩
  · rw [hU]
    funext a
    refine propext ⟨fun q => ?_, fun q => ?_⟩
    · rcases q with (q | q) | q
      · exact Or.inl q
      · exact Or.inr ⟨0, by omega, q⟩
      · exact Or.inr ⟨1, by omega, q⟩
    · rcases q with q | ⟨j, hj, q⟩
      · exact Or.inl (Or.inl q)
      · have : j = 0 ∨ j = 1 := by omega
        rcases this with rfl | rfl
        · exact Or.inl (Or.inr q)
        · exact Or.inr q
def kk4 (k1 k2 k3 k4 : Nat) : Nat → Nat := fun j => if j = 0 then k1 else if j = 1 then k2 else if j = 2 then k3 else k4
theorem EX3 {y : Vl} {g : Nat} (hs : r'.state = 1) (hi : rqN i = 3) (n1 : ¬ Ur r k1) (n2 : ¬ addU (Ur r) k1 k2) (n3 : ¬ addU (addU (Ur r) k1) k2 k3) (hU : Ur r' = addU (addU (addU (Ur r) k1) k2) k3) (h : stp (kk4 k1 k2 k3 0) H T S E C D i = some ([(v1, w1), (v2, w2), (v3, w3)], some (vPr g, y), S', E', C', D')) (h19 : ¬ i = 19 := by decide) : EXA r H T S E C D i r' (upW (upW (upW (upW H k1 v1) k2 v2) k3 v3) g y) (upW (upW (upW T k1 w1) k2 w2) k3 w3) S' E' C' D' := by
  have d2 : ¬ k2 = k1 := fun e => n2 (Or.inr e)
  have u2 : ¬ Ur r k2 := fun u => n2 (Or.inl u)
  have d3 : ¬ k3 = k1 := fun e => n3 (Or.inl (Or.inr e))
  have d4 : ¬ k3 = k2 := fun e => n3 (Or.inr e)
  have u3 : ¬ Ur r k3 := fun u => n3 (Or.inl (Or.inl u))
  refine Or.inr ⟨hs, h19, kk4 k1 k2 k3 0, [(v1, w1), (v2, w2), (v3, w3)], some (vPr g, y), h, rfl, rfl, fun j hj => ?_, ?_⟩
  · rw [hi] at hj ⊢
    have : j = 0 ∨ j = 1 ∨ j = 2 := by omega
    rcases this with rfl | rfl | rfl
    · refine ⟨n1, fun l hl e => ?_⟩
      have : l = 1 ∨ l = 2 := by omega
      rcases this with rfl | rfl
      · exact d2
      · exact d3
    · refine ⟨u2, fun l hl e => ?_⟩
      have : l = 0 ∨ l = 2 := by omega
      rcases this with rfl | rfl
      · exact fun q => d2 q.symm
      · exact d4
    · refine ⟨u3, fun l hl e => ?_⟩
      have : l = 0 ∨ l = 1 := by omega
      rcases this with rfl | rfl
      · exact fun q => d3 q.symm
      · exact fun q => d4 q.symm
  · rw [hU]
    funext a
    refine propext ⟨fun q => ?_, fun q => ?_⟩
    · rcases q with ((q | q) | q) | q
      · exact Or.inl q
      · exact Or.inr ⟨0, by omega, q⟩
      · exact Or.inr ⟨1, by omega, q⟩
      · exact Or.inr ⟨2, by omega, q⟩
    · rcases q with q | ⟨j, hj, q⟩
      · exact Or.inl (Or.inl (Or.inl q))
      · have : j = 0 ∨ j = 1 ∨ j = 2 := by omega
        rcases this with rfl | rfl | rfl
        · exact Or.inl (Or.inl (Or.inr q))
        · exact Or.inl (Or.inr q)
        · exact Or.inr q
theorem EX4 (hs : r'.state = 1) (hi : rqN i = 4) (n1 : ¬ Ur r k1) (n2 : ¬ addU (Ur r) k1 k2) (n3 : ¬ addU (addU (Ur r) k1) k2 k3) (n4 : ¬ addU (addU (addU (Ur r) k1) k2) k3 k4) (hU : Ur r' = addU (addU (addU (addU (Ur r) k1) k2) k3) k4) (h : stp (kk4 k1 k2 k3 k4) H T S E C D i = some ([(v1, w1), (v2, w2), (v3, w3), (v4, w4)], none, S', E', C', D')) (h19 : ¬ i = 19 := by decide) : EXA r H T S E C D i r' (upW (upW (upW (upW H k1 v1) k2 v2) k3 v3) k4 v4) (upW (upW (upW (upW T k1 w1) k2 w2) k3 w3) k4 w4) S' E' C' D' := by
  have d2 : ¬ k2 = k1 := fun e => n2 (Or.inr e)
  have u2 : ¬ Ur r k2 := fun u => n2 (Or.inl u)
  have d3 : ¬ k3 = k1 := fun e => n3 (Or.inl (Or.inr e))
  have d4 : ¬ k3 = k2 := fun e => n3 (Or.inr e)
  have u3 : ¬ Ur r k3 := fun u => n3 (Or.inl (Or.inl u))
  have d5 : ¬ k4 = k1 := fun e => n4 (Or.inl (Or.inl (Or.inr e)))
  have d6 : ¬ k4 = k2 := fun e => n4 (Or.inl (Or.inr e))
  have d7 : ¬ k4 = k3 := fun e => n4 (Or.inr e)
  have u4 : ¬ Ur r k4 := fun u => n4 (Or.inl (Or.inl (Or.inl u)))
  refine Or.inr ⟨hs, h19, kk4 k1 k2 k3 k4, [(v1, w1), (v2, w2), (v3, w3), (v4, w4)], none, h, rfl, rfl, fun j hj => ?_, ?_⟩
  · rw [hi] at hj ⊢
    have : j = 0 ∨ j = 1 ∨ j = 2 ∨ j = 3 := by omega
    rcases this with rfl | rfl | rfl | rfl
    · refine ⟨n1, fun l hl e => ?_⟩
      have : l = 1 ∨ l = 2 ∨ l = 3 := by omega
      rcases this with rfl | rfl | rfl
      · exact d2
      · exact d3
      · exact d5
    · refine ⟨u2, fun l hl e => ?_⟩
      have : l = 0 ∨ l = 2 ∨ l = 3 := by omega
      rcases this with rfl | rfl | rfl
      · exact fun q => d2 q.symm
      · exact d4
      · exact d6
    · refine ⟨u3, fun l hl e => ?_⟩
      have : l = 0 ∨ l = 1 ∨ l = 3 := by omega
      rcases this with rfl | rfl | rfl
      · exact fun q => d3 q.symm
      · exact fun q => d4 q.symm
      · exact d7
    · refine ⟨u4, fun l hl e => ?_⟩
      have : l = 0 ∨ l = 1 ∨ l = 2 := by omega
      rcases this with rfl | rfl | rfl
      · exact fun q => d5 q.symm
      · exact fun q => d6 q.symm
      · exact fun q => d7 q.symm
  · rw [hU]
    funext a
    refine propext ⟨fun q => ?_, fun q => ?_⟩
    · rcases q with (((q | q) | q) | q) | q
      · exact Or.inl q
      · exact Or.inr ⟨0, by omega, q⟩
      · exact Or.inr ⟨1, by omega, q⟩
      · exact Or.inr ⟨2, by omega, q⟩
      · exact Or.inr ⟨3, by omega, q⟩
    · rcases q with q | ⟨j, hj, q⟩
      · exact Or.inl (Or.inl (Or.inl (Or.inl q)))
      · have : j = 0 ∨ j = 1 ∨ j = 2 ∨ j = 3 := by omega
        rcases this with rfl | rfl | rfl | rfl
        · exact Or.inl (Or.inl (Or.inl (Or.inr q)))
        · exact Or.inl (Or.inl (Or.inr q))
        · exact Or.inl (Or.inr q)
        · exact Or.inr q
end ZKF
section RSE
variable {cst : Nat → Option (Nat × (Nat → Int32))} {m b0 b1 : Nat} {op : Bool} {tl : List mj_O} {Q : mj_R → Prop} {s : cS} {r : rM} {H T : Nat → Vl} {ro : Nat → Bool} {S E D R : Vl} {k : Sk} {n : Nat} {b : Bool} {e : En} {J : Nat → mj_L → List Value → mj_H → Prop} {c : Nat}
set_option maxRecDepth 10000
theorem AE_1 (hX : RX r H T S E (vPr c) D R) (hT : TI H T ro (Ur r) S E (vPr c) D R k n b e) (hst : r.state = 1) (hmk : mkOK r) (hsh : shOK r) {d : Nat} {t : Bool} {f : Nat} (eT : T c = vPr d) (hH : t = true → H d = vNil) (hw : wt H T ro f (T d) (t :: k) n false e) (hf : 1 ≤ fz r) (hQ : stE b0 b1 op tl Q s r H T S E (vPr c) D R 1) (F : Nat) : mj_sg (mj_Mt gT cst gnw (m + 4)) cst gnw (mj_hd (mj_off kO_R_step) kH_R_step) kC_R_step J Q (F + 150) false 40 [some (.ref 27), some (.int (nI c)), some (.int 1), none, none] [.int (rsN r c)] (cW s (rW r tl), b0, b1, op) := by
  obtain ⟨hS, ⟨uS, tS_⟩, ⟨uE, tE⟩, ⟨uC, tC⟩, ⟨uD, tD⟩, tb⟩ := hT
  have hT0 : TI H T ro (Ur r) S E (vPr c) D R k n b e := ⟨hS, ⟨uS, tS_⟩, ⟨uE, tE⟩, ⟨uC, tC⟩, ⟨uD, tD⟩, tb⟩
  have hX0 := hX
  obtain ⟨hB, x0, x1, x2, x3, x4⟩ := hX
  have uc := inU_pr uC
  clear tC
  refine And.intro (fun (g : ¬ (1 : Int32) = 1) => absurd rfl g) (fun _ => ?_)
  have ud := SI_tp hS.1 uc eT
  have hd := Ur_lt hB ud
  have ed : rsN r c = nI d := rs_pr hB uc eT
  rw [ed]
  have ek : (nI d).toNatClampNeg = d := nI_clamp (by omega)
  refine And.intro (vp_in_nI hd (by decide)) ?_
  rw [ek]
  refine And.intro (vp_in_nI hd (by decide)) ?_
  rw [ek]
  refine R_push (S := S) (h := H d) hB hf (hB.2.1 d ud).1 x0 (fun kk r3 hm g3 => ?_)
  refine R_rest rfl hd ?_
  refine And.intro i52 ?_
  have hl : isL_ (T d) := isL_wtx ⟨f, hw⟩
  obtain ⟨w1, w2⟩ := A_pushC hX0 hm g3 (A_rest hm ud hl)
  obtain ⟨⟨m1, -⟩, ⟨m2, m3, m4⟩, -⟩ := hm
  have kk2 := kp_tr m2 (kp_sR (r := r3) (f := upd r3.reg 2 (rsN r3 d)))
  refine hQ _ _ _ (upW ro kk false) _ _ _ _ (t :: k) n false e (kp_kc kk2) (kp_mk kk2 hmk) (Or.inl (m3.trans hst)) (kp_sh kk2 hsh) w1 ?_ ?_
  rotate_left
  · exact EX1 (i := 1) (m3.trans hst) rfl m1 w2 (by rw [stp_1]; show some ([(ofV H (T c), S)], none, vPr kk, E, ofV T (T c), D) = _; rw [eT]; rfl)
  rw [w2]
  exact T_push hS m1 (SI_h hS.1 ud) (hS.1 d ud).2.1.1 (fun q => ⟨0, hH q⟩) ⟨uS, tS_⟩ ⟨uE, tE⟩ ⟨SI_t hS.1 ud, f, hw⟩ ⟨uD, tD⟩
theorem AE_2 (hX : RX r H T S E (vPr c) D R) (hT : TI H T ro (Ur r) S E (vPr c) D R k n b e) (hst : r.state = 1) (hmk : mkOK r) (hsh : shOK r) {d x f : Nat} (eT : T c = vPr d) (hx : x < 10000) (hH : H d = vInt (nI x)) (hw : wt H T ro f (T d) (false :: k) n false e) (hf : 1 ≤ fz r) (hQ : stE b0 b1 op tl Q s r H T S E (vPr c) D R 2) (F : Nat) : mj_sg (mj_Mt gT cst gnw (m + 4)) cst gnw (mj_hd (mj_off kO_R_step) kH_R_step) kC_R_step J Q (F + 150) false 40 [some (.ref 27), some (.int (nI c)), some (.int 2), none, none] [.int (rsN r c)] (cW s (rW r tl), b0, b1, op) := by
  obtain ⟨hS, ⟨uS, tS_⟩, ⟨uE, tE⟩, ⟨uC, tC⟩, ⟨uD, tD⟩, tb⟩ := hT
  have hT0 : TI H T ro (Ur r) S E (vPr c) D R k n b e := ⟨hS, ⟨uS, tS_⟩, ⟨uE, tE⟩, ⟨uC, tC⟩, ⟨uD, tD⟩, tb⟩
  have hX0 := hX
  obtain ⟨hB, x0, x1, x2, x3, x4⟩ := hX
  have uc := inU_pr uC
  clear tC
  refine And.intro (fun _ => ?_) (fun (g : (2 : Int32) = 1) => absurd g (by decide))
  refine And.intro (fun (g : ¬ (2 : Int32) = 2) => absurd rfl g) (fun _ => ?_)
  have ud := SI_tp hS.1 uc eT
  have hd := Ur_lt hB ud
  have ed : rsN r c = nI d := rs_pr hB uc eT
  rw [ed]
  have ek : (nI d).toNatClampNeg = d := nI_clamp (by omega)
  refine And.intro (vp_in_nI hd (by decide)) ?_
  rw [ek]
  have eh : r.head d = nI x := by
    have := (hB.2.1 d ud).1
    rw [hH] at this
    exact this.2
  rw [eh]
  refine R_rest rfl hd ?_
  have hl : isL_ (T d) := isL_wtx ⟨f, hw⟩
  refine R_look (C' := T d) (ro := ro) hx hX0 hf (env_0 tE) (fun a ua hra => (hS.1 a ua).2.2 hra) (rs_rg hB ud hl) (fun r' q1 q2 q3 q4 q9 => ?_) (fun kk r' m1 q1 q2 q5 q6 q3 q4 => ?_)
  · exact hQ r' H T ro _ _ _ _ k n b e (kp_kc q1) (kp_mk q1 hmk) (Or.inr (Or.inr (Or.inl q2))) (kp_sh q1 hsh) q3 (by rw [q4]; exact hT0) (EXf q2 q4 (by decide) (fun kk => by
      have ei : (iV (ofV H (ofV T (vPr c)))).toNatClampNeg = x := by
        show (iV (ofV H (T c))).toNatClampNeg = x
        rw [eT]
        show (iV (H d)).toNatClampNeg = x
        rw [hH]
        exact nI_clamp (by omega)
      rw [stp_2, ei]
      rcases q9 with w | w
      · rw [if_neg w]
      · by_cases w0 : kV (behV T (x / 16) E) = 3
        · rw [if_pos w0, if_neg w]
        · rw [if_neg w0]))
  · have ei : (iV (ofV H (ofV T (vPr c)))).toNatClampNeg = x := by
      show (iV (ofV H (T c))).toNatClampNeg = x
      rw [eT]
      show (iV (H d)).toNatClampNeg = x
      rw [hH]
      exact nI_clamp (by omega)
    have eX : EXA r H T S E (vPr c) D 2 r' (upW H kk (ofV H (behV T (x % 16) (ofV H (behV T (x / 16) E))))) (upW T kk S) (vPr kk) E (T d) D := EX1 (i := 2) (q2.trans hst) rfl m1 q4 (by
      rw [stp_2, ei, if_pos q5, if_pos q6]
      show some ([(_, S)], none, vPr kk, E, ofV T (T c), D) = _
      rw [eT]
      rfl)
    obtain ⟨a, ea⟩ := kV_pr q6
    have ue := inU_beh hS.1 (x / 16) E uE
    obtain ⟨a0, ea0⟩ := kV_pr q5
    rw [ea0] at ue
    have ua0 := inU_pr ue
    have uv : inU (Ur r) (behV T (x % 16) (ofV H (behV T (x / 16) E))) := by
      rw [ea0]
      exact inU_beh hS.1 _ _ (SI_h hS.1 ua0)
    rw [ea] at uv
    have ua := inU_pr uv
    have e9 : ofV H (behV T (x % 16) (ofV H (behV T (x / 16) E))) = H a := by rw [ea]; rfl
    rw [e9] at q3 eX
    refine hQ r' _ _ (upW ro kk false) _ _ _ _ (false :: k) n false e (kp_kc q1) (kp_mk q1 hmk) (Or.inl (q2.trans hst)) (kp_sh q1 hsh) q3 ?_ eX
    rw [q4]
    exact T_push hS m1 (SI_h hS.1 ua) (hS.1 a ua).2.1.1 (fun q => by cases q) ⟨uS, tS_⟩ ⟨uE, tE⟩ ⟨SI_t hS.1 ud, f, hw⟩ ⟨uD, tD⟩
theorem AE_3 (hX : RX r H T S E (vPr c) D R) (hT : TI H T ro (Ur r) S E (vPr c) D R k n b e) (hst : r.state = 1) (hmk : mkOK r) (hsh : shOK r) {d f : Nat} (eT : T c = vPr d) (hv : wt H T ro f (H d) [] 1 false eRet) (hw : wt H T ro f (T d) (false :: k) n (decide (0 < n)) e) (hf : 2 ≤ fz r) (hQ : stE b0 b1 op tl Q s r H T S E (vPr c) D R 3) (F : Nat) : mj_sg (mj_Mt gT cst gnw (m + 4)) cst gnw (mj_hd (mj_off kO_R_step) kH_R_step) kC_R_step J Q (F + 150) false 40 [some (.ref 27), some (.int (nI c)), some (.int 3), none, none] [.int (rsN r c)] (cW s (rW r tl), b0, b1, op) := by
  obtain ⟨hS, ⟨uS, tS_⟩, ⟨uE, tE⟩, ⟨uC, tC⟩, ⟨uD, tD⟩, tb⟩ := hT
  have hT0 : TI H T ro (Ur r) S E (vPr c) D R k n b e := ⟨hS, ⟨uS, tS_⟩, ⟨uE, tE⟩, ⟨uC, tC⟩, ⟨uD, tD⟩, tb⟩
  have hX0 := hX
  obtain ⟨hB, x0, x1, x2, x3, x4⟩ := hX
  have uc := inU_pr uC
  clear tC
  refine And.intro (fun _ => ?_) (fun (g : (3 : Int32) = 1) => absurd g (by decide))
  refine And.intro (fun _ => ?_) (fun (g : (3 : Int32) = 2) => absurd g (by decide))
  refine And.intro (fun (g : ¬ (3 : Int32) = 3) => absurd rfl g) (fun _ => ?_)
  have ud := SI_tp hS.1 uc eT
  have hd := Ur_lt hB ud
  have ed : rsN r c = nI d := rs_pr hB uc eT
  rw [ed]
  have hlH : isL_ (H d) := isL_wtx ⟨f, hv⟩
  have hlT : isL_ (T d) := isL_wtx ⟨f, hw⟩
  refine R_headList rfl hd ?_
  refine And.intro i51 ?_
  refine R_makeOf (h := H d) (t := E) hB (by omega) (hl_rg hB ud hlH) x1 (fun k1 r1 hm g1 _ => ?_)
  have hm0 := hm
  obtain ⟨⟨m1, mk1⟩, ⟨m2, m3, m4⟩, m5, m6, m7, m8⟩ := hm
  have ek : (nI k1).toNatClampNeg = k1 := nI_clamp (by omega)
  refine And.intro (vp_in_nI mk1 (by decide)) ?_
  rw [ek]
  change mj_sg _ _ _ _ _ _ _ _ _ 93 _ _ (cW s (rW (fnR r1 k1) tl), b0, b1, op)
  have nk : ∀ {v : Vl}, inU (Ur r) v → ¬ ceV v = some k1 := fun hv q => m1 (hv k1 q)
  have uk1 : Ur r1 k1 := by rw [m6]; exact Or.inr rfl
  obtain ⟨f1, f2, f3, f4, f5⟩ := fn_ok (k := k1) m5 uk1 (fun i hi => by
    rw [m6] at hi
    by_cases ei : i = k1
    · subst ei
      have e1 : upW H i (H d) i = H d := if_pos rfl
      have e2 : upW T i E i = E := if_pos rfl
      rw [e1, e2]
      exact ⟨nk (SI_h hS.1 ud), nk uE⟩
    · have ui := hi.resolve_right ei
      have e1 : upW H k1 (H d) i = H i := if_neg ei
      have e2 : upW T k1 E i = T i := if_neg ei
      rw [e1, e2]
      exact ⟨nk (SI_h hS.1 ui), nk (SI_t hS.1 ui)⟩)
  have ux : ∀ {v : Vl} {x : Int32}, rg r v x → rg (fnR r1 k1) v x := fun h => f5 _ _ (rg_up m4 h) (nk (rg_U h))
  have hX1 : RX (fnR r1 k1) (upW H k1 (H d)) (upW T k1 E) S E (vPr c) D R := by
    refine ⟨f1, ?_, ?_, ?_, ?_, ?_⟩
    · show rg _ _ (r1.reg 0)
      rw [g1]
      exact ux x0
    · show rg _ _ (r1.reg 1)
      rw [g1]
      exact ux x1
    · show rg _ _ (r1.reg 2)
      rw [g1]
      exact ux x2
    · show rg _ _ (r1.reg 3)
      rw [g1]
      exact ux x3
    · show rg _ _ (r1.reg 4)
      rw [g1]
      exact ux x4
  have kp1 : kp r (fnR r1 k1) := kp_tr m2 ⟨⟨rfl, rfl, rfl, rfl, rfl⟩, rfl, rfl, rfl, rfl, rfl⟩
  have st1 : (fnR r1 k1).state = 1 := m3.trans hst
  have U1 : Ur (fnR r1 k1) = addU (Ur r) k1 := f2.trans m6
  have fz1 : 1 ≤ fz (fnR r1 k1) := by rw [f3]; omega
  obtain ⟨r2, hr2⟩ : ∃ r2, r2 = fnR r1 k1 := ⟨_, rfl⟩
  rw [← hr2]
  rw [← hr2] at hX1 kp1 st1 U1 fz1 f4
  clear hr2 f1 f2 f3 f5 ux m5 m8
  refine R_push (S := S) (h := vFn k1) hX1.1 fz1 f4 hX1.2.1 (fun k2 r3 hm g3 => ?_)
  refine R_rest rfl hd ?_
  refine And.intro i52 ?_
  have hne : ¬ d = k1 := fun q => m1 (q ▸ ud)
  have e1 : upW T k1 E d = T d := if_neg hne
  have ud2 : Ur r2 d := by rw [U1]; exact Or.inl ud
  have hrs : rg r3 (T d) (rsN r3 d) := by
    have := A_rest hm ud2 (by rw [e1]; exact hlT)
    rwa [e1] at this
  obtain ⟨w1, w2⟩ := A_pushC hX1 hm g3 hrs
  obtain ⟨⟨n1, -⟩, ⟨n2, n3, n4⟩, -⟩ := hm
  rw [U1] at n1 w2
  have kk2 := kp_tr kp1 (kp_tr n2 (kp_sR (r := r3) (f := upd r3.reg 2 (rsN r3 d))))
  refine hQ _ _ _ (upW (upW ro k1 false) k2 false) _ _ _ _ (false :: k) n (decide (0 < n)) e (kp_kc kk2) (kp_mk kk2 hmk) (Or.inl (n3.trans st1)) (kp_sh kk2 hsh) w1 ?_ ?_
  rotate_left
  · exact EX2 (i := 3) (n3.trans st1) rfl m1 n1 w2 (by rw [stp_3]; show some ([(ofV H (T c), E), (vFn k1, S)], none, vPr k2, E, ofV T (T c), D) = _; rw [eT]; rfl)
  rw [w2]
  exact T_fun hS m1 n1 (SI_h hS.1 ud) ⟨f, hv⟩ ⟨uS, tS_⟩ ⟨uE, tE⟩ ⟨SI_t hS.1 ud, f, hw⟩ ⟨uD, tD⟩
theorem AE_4 (hX : RX r H T S E (vPr c) D R) (hT : TI H T ro (Ur r) S E (vPr c) D R k n b e) (hst : r.state = 1) (hmk : mkOK r) (hsh : shOK r) {x : Bool} {k' : Sk} {f : Nat} (hk : k = x :: true :: k') (hw : wt H T ro f (T c) (false :: k') n false e) (hf : 4 ≤ fz r) (hQ : stE b0 b1 op tl Q s r H T S E (vPr c) D R 4) (F : Nat) : mj_sg (mj_Mt gT cst gnw (m + 4)) cst gnw (mj_hd (mj_off kO_R_step) kH_R_step) kC_R_step J Q (F + 150) false 40 [some (.ref 27), some (.int (nI c)), some (.int 4), none, none] [.int (rsN r c)] (cW s (rW r tl), b0, b1, op) := by
  obtain ⟨hS, ⟨uS, tS_⟩, ⟨uE, tE⟩, ⟨uC, tC⟩, ⟨uD, tD⟩, tb⟩ := hT
  have hT0 : TI H T ro (Ur r) S E (vPr c) D R k n b e := ⟨hS, ⟨uS, tS_⟩, ⟨uE, tE⟩, ⟨uC, tC⟩, ⟨uD, tD⟩, tb⟩
  have hX0 := hX
  obtain ⟨hB, x0, x1, x2, x3, x4⟩ := hX
  have uc := inU_pr uC
  clear tC
  refine And.intro (fun _ => ?_) (fun (g : (4 : Int32) = 1) => absurd g (by decide))
  refine And.intro (fun _ => ?_) (fun (g : (4 : Int32) = 2) => absurd g (by decide))
  refine And.intro (fun _ => ?_) (fun (g : (4 : Int32) = 3) => absurd g (by decide))
  refine And.intro (fun _ => ?_) (fun (g : ¬ (4 : Int32) = 4) => absurd rfl g)
  refine And.intro (fun _ => ?_) (fun (g : (4 : Int32) = 7) => absurd g (by decide))
  subst hk
  obtain ⟨a, rfl, ua, ⟨uTa, tTa⟩, ⟨uHa, gHa⟩, -⟩ := stk_top hS.1 ⟨uS, tS_⟩
  obtain ⟨a2, eTa, ua2, ⟨uTa2, tTa2⟩, ⟨uHa2, gHa2⟩, lHa2⟩ := stk_top hS.1 ⟨uTa, tTa⟩
  have hlT : isL_ (T a2) := isL_stk tTa2
  refine R_call4 (C' := T c) hX0 hf eTa hlT (rs_rg hB uc (isL_wtx ⟨f, hw⟩)) (fun g eg => ?_) (fun r' q1 q2 q3 q4 q9 => ?_) (fun k1 k2 k3 k4 g r' n1 n2 n3 n4 q1 q2 eg ug q3 q4 => ?_)
  · rw [eg] at gHa
    obtain ⟨-, g2, g3⟩ := gHa g rfl
    exact ⟨isL_isE g3, isL_wtx g2⟩
  · exact hQ r' H T ro _ _ _ _ (x :: true :: k') n b e (kp_kc q1) (kp_mk q1 hmk) (Or.inr (Or.inr (Or.inl q2))) (kp_sh q1 hsh) q3 (by rw [q4]; exact hT0) (EXf q2 q4 (by decide) (fun kk => by rw [stp_4]; exact if_neg q9))
  · refine hQ r' _ _ (upW (upW (upW (upW ro k1 false) k2 false) k3 false) k4 true) _ _ _ _ [] 1 false eRet (kp_kc q1) (kp_mk q1 hmk) (Or.inl (q2.trans hst)) (kp_sh q1 hsh) q3 ?_ ?_
    rotate_left
    · refine EX4 (i := 4) (q2.trans hst) rfl n1 n2 n3 n4 q4 ?_
      rw [stp_4]
      show (if kV (H a) = 4 then some ([(T c, D), (E, vPr k1), (ofV T (T a), vPr k2), (ofV H (T a), ofV T (H a))], none, vNil, vPr k4, ofV H (H a), vPr k3) else none) = _
      rw [eg, eTa]
      rfl
    rw [q4]
    exact T_call hS n1 n2 n3 n4 ⟨uTa2, tTa2⟩ ⟨uE, tE⟩ ⟨SI_t hS.1 uc, f, hw⟩ ⟨uD, tD⟩ ⟨uHa2, gHa2⟩ (lHa2 rfl) ug (by rw [← eg]; exact gHa)
theorem AE_7 (hX : RX r H T S E (vPr c) D R) (hT : TI H T ro (Ur r) S E (vPr c) D R k n b e) (hst : r.state = 1) (hmk : mkOK r) (hsh : shOK r) {x : Bool} {k' : Sk} {f : Nat} (hk : k = x :: true :: k') (hn : 1 ≤ n) (hb : b = true) (hw : wt H T ro f (T c) (false :: k') (n - 1) false e) (hf : 3 ≤ fz r) (hQ : stE b0 b1 op tl Q s r H T S E (vPr c) D R 7) (F : Nat) : mj_sg (mj_Mt gT cst gnw (m + 4)) cst gnw (mj_hd (mj_off kO_R_step) kH_R_step) kC_R_step J Q (F + 150) false 40 [some (.ref 27), some (.int (nI c)), some (.int 7), none, none] [.int (rsN r c)] (cW s (rW r tl), b0, b1, op) := by
  obtain ⟨hS, ⟨uS, tS_⟩, ⟨uE, tE⟩, ⟨uC, tC⟩, ⟨uD, tD⟩, tb⟩ := hT
  have hT0 : TI H T ro (Ur r) S E (vPr c) D R k n b e := ⟨hS, ⟨uS, tS_⟩, ⟨uE, tE⟩, ⟨uC, tC⟩, ⟨uD, tD⟩, tb⟩
  have hX0 := hX
  obtain ⟨hB, x0, x1, x2, x3, x4⟩ := hX
  have uc := inU_pr uC
  clear tC
  refine And.intro (fun _ => ?_) (fun (g : (7 : Int32) = 1) => absurd g (by decide))
  refine And.intro (fun _ => ?_) (fun (g : (7 : Int32) = 2) => absurd g (by decide))
  refine And.intro (fun _ => ?_) (fun (g : (7 : Int32) = 3) => absurd g (by decide))
  refine And.intro (fun (g : (7 : Int32) = 4) => absurd g (by decide)) (fun _ => ?_)
  refine And.intro (fun (g : ¬ (7 : Int32) = 7) => absurd rfl g) (fun _ => ?_)
  refine And.intro (fun (g : ¬ (7 : Int32) = 7) => absurd rfl g) (fun _ => ?_)
  subst hk
  subst hb
  obtain ⟨a, rfl, ua, ⟨uTa, tTa⟩, ⟨uHa, gHa⟩, -⟩ := stk_top hS.1 ⟨uS, tS_⟩
  obtain ⟨a2, eTa, ua2, ⟨uTa2, tTa2⟩, ⟨uHa2, gHa2⟩, lHa2⟩ := stk_top hS.1 ⟨uTa, tTa⟩
  have hlT : isL_ (T a2) := isL_stk tTa2
  obtain ⟨n, rfl⟩ : ∃ j, n = j + 1 := ⟨n - 1, by omega⟩
  obtain ⟨g0, rfl, rg0, tE0⟩ := tE
  have ug0 := inU_pr uE
  obtain ⟨a', f', g', ea', ef', eg', rg'⟩ := tb rfl
  cases ea'
  refine R_call7 (C' := T c) hX0 hf eTa hlT (rs_rg hB uc (isL_wtx ⟨f, hw⟩)) (isL_env tE0) (fun g eg => ?_) (fun r' q1 q2 q3 q4 q9 => ?_) (fun k1 k2 k3 g h r' n1 n2 n3 q1 q2 eg ug eh q3 q4 => ?_)
  · rw [ef'] at eg
    cases eg
    rw [ef'] at gHa
    obtain ⟨-, g2, g3⟩ := gHa f' rfl
    exact ⟨⟨g', eg'⟩, isL_wtx g2⟩
  · exact hQ r' H T ro _ _ _ _ (x :: true :: k') (n + 1) true e (kp_kc q1) (kp_mk q1 hmk) (Or.inr (Or.inr (Or.inl q2))) (kp_sh q1 hsh) q3 (by rw [q4]; exact hT0) (EXf q2 q4 (by decide) (fun kk => by rw [stp_7]; exact if_neg q9))
  · rw [ef'] at eg
    cases eg
    rw [eg'] at eh
    cases eh
    refine hQ r' _ _ (upW (upW (upW ro k1 false) k2 false) k3 false) _ _ _ _ [] 1 false eRet (kp_kc q1) (kp_mk q1 hmk) (Or.inl (q2.trans hst)) (kp_sh q1 hsh) q3 ?_ ?_
    rotate_left
    · refine EX3 (i := 7) (q2.trans hst) rfl n1 n2 n3 q4 ?_
      rw [stp_7]
      show (if kV (H a) = 4 then some ([(T c, D), (T g0, vPr k1), (ofV T (T a), vPr k2)], some (ofV T (H a), ofV H (T a)), vNil, ofV T (H a), ofV H (H a), vPr k3) else none) = _
      rw [ef', eTa]
      show some ([(T c, D), (T g0, vPr k1), (T a2, vPr k2)], some (T f', H a2), vNil, T f', H f', vPr k3) = _
      rw [eg']
    rw [q4]
    exact T_call7 hS n1 n2 n3 ⟨uTa2, tTa2⟩ ⟨SI_t hS.1 ug0, tE0⟩ ⟨SI_t hS.1 uc, f, hw⟩ ⟨uD, tD⟩ ⟨uHa2, gHa2⟩ (lHa2 rfl) ug (by rw [← ef']; exact gHa) eg' rg'
theorem AE_5 (hX : RX r H T S E (vPr c) D R) (hT : TI H T ro (Ur r) S E (vPr c) D R k n b e) (hst : r.state = 1) (hmk : mkOK r) (hsh : shOK r) {x : Bool} {k' : Sk} (hk : k = x :: k') (he : e = eRet) (hf : 1 ≤ fz r) (hQ : stE b0 b1 op tl Q s r H T S E (vPr c) D R 5) (F : Nat) : mj_sg (mj_Mt gT cst gnw (m + 4)) cst gnw (mj_hd (mj_off kO_R_step) kH_R_step) kC_R_step J Q (F + 150) false 40 [some (.ref 27), some (.int (nI c)), some (.int 5), none, none] [.int (rsN r c)] (cW s (rW r tl), b0, b1, op) := by
  obtain ⟨hS, ⟨uS, tS_⟩, ⟨uE, tE⟩, ⟨uC, tC⟩, ⟨uD, tD⟩, tb⟩ := hT
  have hT0 : TI H T ro (Ur r) S E (vPr c) D R k n b e := ⟨hS, ⟨uS, tS_⟩, ⟨uE, tE⟩, ⟨uC, tC⟩, ⟨uD, tD⟩, tb⟩
  have hX0 := hX
  obtain ⟨hB, x0, x1, x2, x3, x4⟩ := hX
  have uc := inU_pr uC
  clear tC
  refine And.intro (fun _ => ?_) (fun (g : (5 : Int32) = 1) => absurd g (by decide))
  refine And.intro (fun _ => ?_) (fun (g : (5 : Int32) = 2) => absurd g (by decide))
  refine And.intro (fun _ => ?_) (fun (g : (5 : Int32) = 3) => absurd g (by decide))
  refine And.intro (fun (g : (5 : Int32) = 4) => absurd g (by decide)) (fun _ => ?_)
  refine And.intro (fun _ => ?_) (fun (g : (5 : Int32) = 7) => absurd g (by decide))
  refine And.intro (fun (g : ¬ (5 : Int32) = 5) => absurd rfl g) (fun _ => ?_)
  subst hk
  subst he
  obtain ⟨a, rfl, ua, ⟨uTa, tTa⟩, ⟨uHa, gHa⟩, lHa⟩ := stk_top hS.1 ⟨uS, tS_⟩
  have hlT : isL_ (T a) := isL_stk tTa
  obtain ⟨d1, d2, d3, k2, n2, e2, rfl, eD1, eD2, ud1, ud2, ud3, ⟨u1, t1⟩, ⟨u2, t2⟩, ⟨u3, t3⟩, ⟨u4, t4⟩⟩ := dmx_ret hS.1 ⟨uD, tD⟩
  refine R_comeBack (a := a) (d1 := d1) (d2 := d2) (d3 := d3) hB hf (rg_pr x0).1 ua (rg_pr x3).1 ud1 eD1 ud2 eD2 ud3 (isL_stk t1) (isL_env t2) (isL_wtx t3) (isL_dmx t4) x4 (fun kk r' n1 q1 q2 q3 q4 => ?_)
  refine hQ r' _ _ (upW ro kk false) _ _ _ _ (false :: k2) n2 false e2 (kp_kc q1) (kp_mk q1 hmk) (Or.inl (q2.trans hst)) (kp_sh q1 hsh) q3 ?_ ?_
  rotate_left
  · refine EX1 (i := 5) (q2.trans hst) rfl n1 q4 ?_
    rw [stp_5]
    show some ([(H a, H d1)], none, vPr kk, ofV H (T d1), ofV H (ofV T (T d1)), ofV T (ofV T (T d1))) = _
    rw [eD1]
    show some ([(H a, H d1)], none, vPr kk, H d2, ofV H (T d2), ofV T (T d2)) = _
    rw [eD2]
    rfl
  rw [q4]
  exact T_push hS n1 uHa gHa (fun q => by cases q) ⟨u1, t1⟩ ⟨u2, t2⟩ ⟨u3, t3⟩ ⟨u4, t4⟩
theorem AE_6 (hX : RX r H T S E (vPr c) D R) (hT : TI H T ro (Ur r) S E (vPr c) D R k n b e) (hst : r.state = 1) (hmk : mkOK r) (hsh : shOK r) {f : Nat} (hw : wt H T ro f (T c) k (n + 1) false e) (hf : 1 ≤ fz r) (hQ : stE b0 b1 op tl Q s r H T S E (vPr c) D R 6) (F : Nat) : mj_sg (mj_Mt gT cst gnw (m + 4)) cst gnw (mj_hd (mj_off kO_R_step) kH_R_step) kC_R_step J Q (F + 150) false 40 [some (.ref 27), some (.int (nI c)), some (.int 6), none, none] [.int (rsN r c)] (cW s (rW r tl), b0, b1, op) := by
  obtain ⟨hS, ⟨uS, tS_⟩, ⟨uE, tE⟩, ⟨uC, tC⟩, ⟨uD, tD⟩, tb⟩ := hT
  have hT0 : TI H T ro (Ur r) S E (vPr c) D R k n b e := ⟨hS, ⟨uS, tS_⟩, ⟨uE, tE⟩, ⟨uC, tC⟩, ⟨uD, tD⟩, tb⟩
  have hX0 := hX
  obtain ⟨hB, x0, x1, x2, x3, x4⟩ := hX
  have uc := inU_pr uC
  clear tC
  refine And.intro (fun _ => ?_) (fun (g : (6 : Int32) = 1) => absurd g (by decide))
  refine And.intro (fun _ => ?_) (fun (g : (6 : Int32) = 2) => absurd g (by decide))
  refine And.intro (fun _ => ?_) (fun (g : (6 : Int32) = 3) => absurd g (by decide))
  refine And.intro (fun (g : (6 : Int32) = 4) => absurd g (by decide)) (fun _ => ?_)
  refine And.intro (fun _ => ?_) (fun (g : (6 : Int32) = 7) => absurd g (by decide))
  refine And.intro (fun _ => ?_) (fun (g : (6 : Int32) = 5) => absurd g (by decide))
  refine And.intro (fun (g : ¬ (6 : Int32) = 6) => absurd rfl g) (fun _ => ?_)
  refine And.intro i51 ?_
  refine R_make (h := vNil) (t := E) hB hf ⟨rfl, rfl⟩ x1 (fun kk r1 hm g1 => ?_)
  have hrs := A_rest hm uc (isL_wtx ⟨f, hw⟩)
  obtain ⟨⟨m1, -⟩, ⟨m2, m3, m4⟩, m5, m6, m7, m8⟩ := hm
  refine And.intro i51 ?_
  refine And.intro i52 ?_
  have hrr : rg r1 (T c) (rsN r c) := rg_up m4 (rs_rg hB uc (isL_wtx ⟨f, hw⟩))
  have kk2 := kp_tr m2 (kp_sR (r := r1) (f := upd (upd r1.reg 1 (nI kk)) 2 (rsN r c)))
  refine hQ (sR r1 (upd (upd r1.reg 1 (nI kk)) 2 (rsN r c))) (upW H kk vNil) (upW T kk E) (upW ro kk true) S (vPr kk) (T c) D k (n + 1) false e (kp_kc kk2) (kp_mk kk2 hmk) (Or.inl (m3.trans hst)) (kp_sh kk2 hsh) ⟨sm_RB sm_sR m5, ?_, sm_rg sm_sR m8, sm_rg sm_sR hrr, ?_, ?_⟩ ?_ (EX1 (i := 6) (m3.trans hst) rfl m1 ((sm_Ur sm_sR).trans m6) stp_6)
  · show rg _ _ (r1.reg 0)
    rw [g1]
    exact sm_rg sm_sR (rg_up m4 x0)
  · show rg _ _ (r1.reg 3)
    rw [g1]
    exact sm_rg sm_sR (rg_up m4 x3)
  · show rg _ _ (r1.reg 4)
    rw [g1]
    exact sm_rg sm_sR (rg_up m4 x4)
  · have eU : Ur (sR r1 (upd (upd r1.reg 1 (nI kk)) 2 (rsN r c))) = addU (Ur r) kk := (sm_Ur sm_sR).trans m6
    rw [eU]
    exact T_frame hS m1 ⟨uS, tS_⟩ ⟨uE, tE⟩ ⟨SI_t hS.1 uc, f, hw⟩ ⟨uD, tD⟩
theorem AE_8 (hX : RX r H T S E (vPr c) D R) (hT : TI H T ro (Ur r) S E (vPr c) D R k n b e) (hst : r.state = 1) (hmk : mkOK r) (hsh : shOK r) {x : Bool} {k' : Sk} {d q f : Nat} (hk : k = x :: k') (eT : T c = vPr d) (eQ : T d = vPr q) (w1 : wt H T ro f (H d) k' n false (eJoin (false :: k') n)) (w2 : wt H T ro f (H q) k' n false (eJoin (false :: k') n)) (w3 : wt H T ro f (T q) (false :: k') n false e) (hf : 1 ≤ fz r) (hQ : stE b0 b1 op tl Q s r H T S E (vPr c) D R 8) (F : Nat) : mj_sg (mj_Mt gT cst gnw (m + 4)) cst gnw (mj_hd (mj_off kO_R_step) kH_R_step) kC_R_step J Q (F + 150) false 40 [some (.ref 27), some (.int (nI c)), some (.int 8), none, none] [.int (rsN r c)] (cW s (rW r tl), b0, b1, op) := by
  obtain ⟨hS, ⟨uS, tS_⟩, ⟨uE, tE⟩, ⟨uC, tC⟩, ⟨uD, tD⟩, tb⟩ := hT
  have hT0 : TI H T ro (Ur r) S E (vPr c) D R k n b e := ⟨hS, ⟨uS, tS_⟩, ⟨uE, tE⟩, ⟨uC, tC⟩, ⟨uD, tD⟩, tb⟩
  have hX0 := hX
  obtain ⟨hB, x0, x1, x2, x3, x4⟩ := hX
  have uc := inU_pr uC
  clear tC
  refine And.intro (fun _ => ?_) (fun (g : (8 : Int32) = 1) => absurd g (by decide))
  refine And.intro (fun _ => ?_) (fun (g : (8 : Int32) = 2) => absurd g (by decide))
  refine And.intro (fun _ => ?_) (fun (g : (8 : Int32) = 3) => absurd g (by decide))
  refine And.intro (fun (g : (8 : Int32) = 4) => absurd g (by decide)) (fun _ => ?_)
  refine And.intro (fun _ => ?_) (fun (g : (8 : Int32) = 7) => absurd g (by decide))
  refine And.intro (fun _ => ?_) (fun (g : (8 : Int32) = 5) => absurd g (by decide))
  refine And.intro (fun _ => ?_) (fun (g : (8 : Int32) = 6) => absurd g (by decide))
  refine And.intro (fun (g : ¬ (8 : Int32) = 8) => absurd rfl g) (fun _ => ?_)
  subst hk
  obtain ⟨a, rfl, ua, ⟨uTa, tTa⟩, ⟨uHa, gHa⟩, lHa⟩ := stk_top hS.1 ⟨uS, tS_⟩
  have hlT : isL_ (T a) := isL_stk tTa
  have ud := SI_tp hS.1 uc eT
  have uq := SI_tp hS.1 ud eQ
  refine R_choose (d := d) (q := q) hX0 hf hlT (rs_pr hB uc eT) ud eQ uq (isL_wtx ⟨f, w3⟩) (isL_wtx ⟨f, w1⟩) (isL_wtx ⟨f, w2⟩) (fun r' q1 q2 q3 q4 q9 => ?_) (fun kk r' y n1 q1 q2 q9 q3 q4 => ?_)
  · exact hQ r' H T ro _ _ _ _ (x :: k') n b e (kp_kc q1) (kp_mk q1 hmk) (Or.inr (Or.inr (Or.inl q2))) (kp_sh q1 hsh) q3 (by rw [q4]; exact hT0) (EXf q2 q4 (by decide) (fun kk => by rw [stp_8]; exact if_neg q9))
  · refine hQ r' _ _ (upW ro kk false) _ _ _ _ k' n false (eJoin (false :: k') n) (kp_kc q1) (kp_mk q1 hmk) (Or.inl (q2.trans hst)) (kp_sh q1 hsh) q3 ?_ ?_
    rotate_left
    · refine EX1 (i := 8) (q2.trans hst) rfl n1 q4 ?_
      rw [stp_8]
      show (if kV (H a) = 1 then some ([(ofV T (ofV T (T c)), D)], none, T a, E, if iV (H a) = 0 then ofV H (ofV T (T c)) else ofV H (T c), vPr kk) else none) = _
      rw [q9, eT]
      show some ([(ofV T (T d), D)], none, T a, E, if y = 0 then ofV H (T d) else H d, vPr kk) = _
      rw [eQ]
      rfl
    rw [q4]
    refine T_choose hS n1 ⟨uTa, tTa⟩ ⟨uE, tE⟩ ?_ ⟨uD, tD⟩ ⟨SI_t hS.1 uq, f, w3⟩
    split
    · exact ⟨SI_h hS.1 uq, f, w2⟩
    · exact ⟨SI_h hS.1 ud, f, w1⟩
theorem AE_9 (hX : RX r H T S E (vPr c) D R) (hT : TI H T ro (Ur r) S E (vPr c) D R k n b e) (hst : r.state = 1) (hmk : mkOK r) (hsh : shOK r) (he : e = eJoin k n) (hQ : stE b0 b1 op tl Q s r H T S E (vPr c) D R 9) (F : Nat) : mj_sg (mj_Mt gT cst gnw (m + 4)) cst gnw (mj_hd (mj_off kO_R_step) kH_R_step) kC_R_step J Q (F + 150) false 40 [some (.ref 27), some (.int (nI c)), some (.int 9), none, none] [.int (rsN r c)] (cW s (rW r tl), b0, b1, op) := by
  obtain ⟨hS, ⟨uS, tS_⟩, ⟨uE, tE⟩, ⟨uC, tC⟩, ⟨uD, tD⟩, tb⟩ := hT
  have hT0 : TI H T ro (Ur r) S E (vPr c) D R k n b e := ⟨hS, ⟨uS, tS_⟩, ⟨uE, tE⟩, ⟨uC, tC⟩, ⟨uD, tD⟩, tb⟩
  have hX0 := hX
  obtain ⟨hB, x0, x1, x2, x3, x4⟩ := hX
  have uc := inU_pr uC
  clear tC
  refine And.intro (fun _ => ?_) (fun (g : (9 : Int32) = 1) => absurd g (by decide))
  refine And.intro (fun _ => ?_) (fun (g : (9 : Int32) = 2) => absurd g (by decide))
  refine And.intro (fun _ => ?_) (fun (g : (9 : Int32) = 3) => absurd g (by decide))
  refine And.intro (fun (g : (9 : Int32) = 4) => absurd g (by decide)) (fun _ => ?_)
  refine And.intro (fun _ => ?_) (fun (g : (9 : Int32) = 7) => absurd g (by decide))
  refine And.intro (fun _ => ?_) (fun (g : (9 : Int32) = 5) => absurd g (by decide))
  refine And.intro (fun _ => ?_) (fun (g : (9 : Int32) = 6) => absurd g (by decide))
  refine And.intro (fun _ => ?_) (fun (g : (9 : Int32) = 8) => absurd g (by decide))
  refine And.intro (fun (g : ¬ (9 : Int32) = 9) => absurd rfl g) (fun _ => ?_)
  subst he
  obtain ⟨a, e2, rfl, ua, ⟨u1, t1⟩, ⟨u2, t2⟩⟩ := dmx_join hS.1 ⟨uD, tD⟩
  have h3 := (rg_pr x3).1
  have ha := Ur_lt hB ua
  refine And.intro i53 ?_
  refine R_headList h3 ha ?_
  refine And.intro i52 ?_
  change mj_sg _ _ _ _ _ _ _ _ _ 168 _ _ (cW s (rW (sR r (upd r.reg 2 (hlN r a))) tl), b0, b1, op)
  refine And.intro i53 ?_
  refine R_rest h3 ha ?_
  refine And.intro i53 ?_
  have kk2 := kp_sR (r := r) (f := upd (upd r.reg 2 (hlN r a)) 3 (rsN r a))
  refine hQ (sR r (upd (upd r.reg 2 (hlN r a)) 3 (rsN r a))) H T ro S E (H a) (T a) k n false e2 (kp_kc kk2) (kp_mk kk2 hmk) (Or.inl hst) (kp_sh kk2 hsh) ⟨sm_RB sm_sR hB, sm_rg sm_sR x0, sm_rg sm_sR x1, sm_rg sm_sR (hl_rg hB ua (isL_wtx t1)), sm_rg sm_sR (rs_rg hB ua (isL_dmx t2)), sm_rg sm_sR x4⟩ ?_ (EX0 hst rfl (sm_Ur sm_sR) stp_9)
  exact ⟨hS, ⟨uS, tS_⟩, ⟨uE, tE⟩, ⟨u1, t1⟩, ⟨u2, t2⟩, fun q => by cases q⟩
theorem AE_10 (hX : RX r H T S E (vPr c) D R) (hT : TI H T ro (Ur r) S E (vPr c) D R k n b e) (hst : r.state = 1) (hmk : mkOK r) (hsh : shOK r) {i : Int32} {x : Bool} {k' : Sk} {f : Nat} (hi : i = 10 ∨ i = 11 ∨ i = 12) (hk : k = x :: k') (hw : wt H T ro f (T c) (false :: k') n false e) (hf : 1 ≤ fz r) (hQ : stE b0 b1 op tl Q s r H T S E (vPr c) D R i) (F : Nat) : mj_sg (mj_Mt gT cst gnw (m + 4)) cst gnw (mj_hd (mj_off kO_R_step) kH_R_step) kC_R_step J Q (F + 150) false 40 [some (.ref 27), some (.int (nI c)), some (.int i), none, none] [.int (rsN r c)] (cW s (rW r tl), b0, b1, op) := by
  obtain ⟨hS, ⟨uS, tS_⟩, ⟨uE, tE⟩, ⟨uC, tC⟩, ⟨uD, tD⟩, tb⟩ := hT
  have hT0 : TI H T ro (Ur r) S E (vPr c) D R k n b e := ⟨hS, ⟨uS, tS_⟩, ⟨uE, tE⟩, ⟨uC, tC⟩, ⟨uD, tD⟩, tb⟩
  have hX0 := hX
  obtain ⟨hB, x0, x1, x2, x3, x4⟩ := hX
  have uc := inU_pr uC
  clear tC
  refine And.intro (fun _ => ?_) (fun (g : i = 1) => absurd g (by rcases hi with rfl | rfl | rfl <;> decide))
  refine And.intro (fun _ => ?_) (fun (g : i = 2) => absurd g (by rcases hi with rfl | rfl | rfl <;> decide))
  refine And.intro (fun _ => ?_) (fun (g : i = 3) => absurd g (by rcases hi with rfl | rfl | rfl <;> decide))
  refine And.intro (fun (g : i = 4) => absurd g (by rcases hi with rfl | rfl | rfl <;> decide)) (fun _ => ?_)
  refine And.intro (fun _ => ?_) (fun (g : i = 7) => absurd g (by rcases hi with rfl | rfl | rfl <;> decide))
  refine And.intro (fun _ => ?_) (fun (g : i = 5) => absurd g (by rcases hi with rfl | rfl | rfl <;> decide))
  refine And.intro (fun _ => ?_) (fun (g : i = 6) => absurd g (by rcases hi with rfl | rfl | rfl <;> decide))
  refine And.intro (fun _ => ?_) (fun (g : i = 8) => absurd g (by rcases hi with rfl | rfl | rfl <;> decide))
  refine And.intro (fun _ => ?_) (fun (g : i = 9) => absurd g (by rcases hi with rfl | rfl | rfl <;> decide))
  refine And.intro (fun (g : (13 : Int32) ≤ i) => absurd g (by rcases hi with rfl | rfl | rfl <;> decide)) (fun _ => ?_)
  subst hk
  obtain ⟨a, rfl, ua, ⟨uTa, tTa⟩, ⟨uHa, gHa⟩, lHa⟩ := stk_top hS.1 ⟨uS, tS_⟩
  have hlT : isL_ (T a) := isL_stk tTa
  refine R_ofOne (C' := T c) hi hX0 hf hlT (rs_rg hB uc (isL_wtx ⟨f, hw⟩)) (fun r' q1 q2 q3 q4 q8 q9 => ?_) (fun kk r' w n1 q1 q2 hw2 q3 q4 => ?_)
  · exact hQ r' H T ro _ _ _ _ (x :: k') n b e (kp_kc q1) (kp_mk q1 hmk) (Or.inr (Or.inr (Or.inl q2))) (kp_sh q1 hsh) q3 (by rw [q4]; exact hT0) (EXf q2 q4 (by rcases hi with rfl | rfl | rfl <;> decide) (fun kk => by
      rcases hi with rfl | rfl | rfl
      · rw [stp_10]
        exact if_neg q9
      · rw [stp_11]
        exact if_neg q9
      · exact absurd rfl q8))
  · have hv : inU (Ur r) w ∧ gF H T ro w := by
      rcases hw2 with ⟨-, w1, rfl⟩ | ⟨-, w1, rfl⟩ | ⟨-, rfl⟩
      · obtain ⟨j, ej⟩ := kV_pr w1
        rw [ej] at uHa
        have uj := inU_pr uHa
        have e9 : ofV H (H a) = H j := by rw [ej]; rfl
        rw [e9]
        exact ⟨SI_h hS.1 uj, (hS.1 j uj).2.1.1⟩
      · obtain ⟨j, ej⟩ := kV_pr w1
        rw [ej] at uHa
        have uj := inU_pr uHa
        have e9 : ofV T (H a) = T j := by rw [ej]; rfl
        rw [e9]
        exact ⟨SI_t hS.1 uj, (hS.1 j uj).2.1.2⟩
      · exact ⟨int_inU, gF_int⟩
    refine hQ r' _ _ (upW ro kk false) _ _ _ _ (false :: k') n false e (kp_kc q1) (kp_mk q1 hmk) (Or.inl (q2.trans hst)) (kp_sh q1 hsh) q3 ?_ ?_
    rotate_left
    · rcases hw2 with ⟨rfl, w1, rfl⟩ | ⟨rfl, w1, rfl⟩ | ⟨rfl, rfl⟩
      · exact EX1 (i := 10) (q2.trans hst) rfl n1 q4 (by rw [stp_10]; exact if_pos w1)
      · exact EX1 (i := 11) (q2.trans hst) rfl n1 q4 (by rw [stp_11]; exact if_pos w1)
      · exact EX1 (i := 12) (q2.trans hst) rfl n1 q4 stp_12
    rw [q4]
    exact T_push hS n1 hv.1 hv.2 (fun q => by cases q) ⟨uTa, tTa⟩ ⟨uE, tE⟩ ⟨SI_t hS.1 uc, f, hw⟩ ⟨uD, tD⟩
theorem AE_13 (hX : RX r H T S E (vPr c) D R) (hT : TI H T ro (Ur r) S E (vPr c) D R k n b e) (hst : r.state = 1) (hmk : mkOK r) (hsh : shOK r) {i : Int32} {x y t : Bool} {k' : Sk} {f : Nat} (hi : i = 13 ∨ i = 14 ∨ i = 15 ∨ i = 16 ∨ i = 17 ∨ i = 18) (hk : k = x :: y :: k') (ht : t = true → i = 13 ∧ y = true) (hw : wt H T ro f (T c) (t :: k') n false e) (hf : 1 ≤ fz r) (hf2 : i = 13 → 2 ≤ fz r) (hQ : stE b0 b1 op tl Q s r H T S E (vPr c) D R i) (F : Nat) : mj_sg (mj_Mt gT cst gnw (m + 4)) cst gnw (mj_hd (mj_off kO_R_step) kH_R_step) kC_R_step J Q (F + 150) false 40 [some (.ref 27), some (.int (nI c)), some (.int i), none, none] [.int (rsN r c)] (cW s (rW r tl), b0, b1, op) := by
  obtain ⟨hS, ⟨uS, tS_⟩, ⟨uE, tE⟩, ⟨uC, tC⟩, ⟨uD, tD⟩, tb⟩ := hT
  have hT0 : TI H T ro (Ur r) S E (vPr c) D R k n b e := ⟨hS, ⟨uS, tS_⟩, ⟨uE, tE⟩, ⟨uC, tC⟩, ⟨uD, tD⟩, tb⟩
  have hX0 := hX
  obtain ⟨hB, x0, x1, x2, x3, x4⟩ := hX
  have uc := inU_pr uC
  clear tC
  refine And.intro (fun _ => ?_) (fun (g : i = 1) => absurd g (by rcases hi with rfl | rfl | rfl | rfl | rfl | rfl <;> decide))
  refine And.intro (fun _ => ?_) (fun (g : i = 2) => absurd g (by rcases hi with rfl | rfl | rfl | rfl | rfl | rfl <;> decide))
  refine And.intro (fun _ => ?_) (fun (g : i = 3) => absurd g (by rcases hi with rfl | rfl | rfl | rfl | rfl | rfl <;> decide))
  refine And.intro (fun (g : i = 4) => absurd g (by rcases hi with rfl | rfl | rfl | rfl | rfl | rfl <;> decide)) (fun _ => ?_)
  refine And.intro (fun _ => ?_) (fun (g : i = 7) => absurd g (by rcases hi with rfl | rfl | rfl | rfl | rfl | rfl <;> decide))
  refine And.intro (fun _ => ?_) (fun (g : i = 5) => absurd g (by rcases hi with rfl | rfl | rfl | rfl | rfl | rfl <;> decide))
  refine And.intro (fun _ => ?_) (fun (g : i = 6) => absurd g (by rcases hi with rfl | rfl | rfl | rfl | rfl | rfl <;> decide))
  refine And.intro (fun _ => ?_) (fun (g : i = 8) => absurd g (by rcases hi with rfl | rfl | rfl | rfl | rfl | rfl <;> decide))
  refine And.intro (fun _ => ?_) (fun (g : i = 9) => absurd g (by rcases hi with rfl | rfl | rfl | rfl | rfl | rfl <;> decide))
  refine And.intro (fun _ => ?_) (fun (g : ¬ (13 : Int32) ≤ i) => absurd (by rcases hi with rfl | rfl | rfl | rfl | rfl | rfl <;> decide) g)
  refine And.intro (fun (g : (19 : Int32) ≤ i) => absurd g (by rcases hi with rfl | rfl | rfl | rfl | rfl | rfl <;> decide)) (fun _ => ?_)
  subst hk
  obtain ⟨a, rfl, ua, ⟨uTa, tTa⟩, ⟨uHa, gHa⟩, -⟩ := stk_top hS.1 ⟨uS, tS_⟩
  obtain ⟨a2, eTa, ua2, ⟨uTa2, tTa2⟩, ⟨uHa2, gHa2⟩, lHa2⟩ := stk_top hS.1 ⟨uTa, tTa⟩
  have hlT : isL_ (T a2) := isL_stk tTa2
  refine R_ofTwo (C' := T c) hi hX0 hf hf2 eTa hlT (rs_rg hB uc (isL_wtx ⟨f, hw⟩)) (fun r' q1 q2 q3 q4 q7 q8 q9 => ?_) (fun kk r' v n1 q1 q2 hv q3 q4 => ?_) (fun k1 k2 r' n1 n2 q1 q2 ei q3 q4 => ?_)
  · exact hQ r' H T ro _ _ _ _ (x :: y :: k') n b e (kp_kc q1) (kp_mk q1 hmk) (Or.inr (Or.inr (Or.inl q2))) (kp_sh q1 hsh) q3 (by rw [q4]; exact hT0) (EXf q2 q4 (by rcases hi with rfl | rfl | rfl | rfl | rfl | rfl <;> decide) (fun kk => by
      have hb : ¬ (kV (ofV H (ofV T (vPr a))) = 1 ∧ kV (ofV H (vPr a)) = 1) := by
        show ¬ (kV (ofV H (T a)) = 1 ∧ kV (H a) = 1)
        rw [eTa]
        exact q9
      rcases hi with rfl | rfl | rfl | rfl | rfl | rfl
      · exact absurd rfl q7
      · exact absurd rfl q8
      · rw [stp_15]
        exact if_neg hb
      · rw [stp_16]
        exact if_neg hb
      · rw [stp_17]
        exact if_neg hb
      · rw [stp_18]
        exact if_neg hb))
  · refine hQ r' _ _ (upW ro kk false) _ _ _ _ (t :: k') n false e (kp_kc q1) (kp_mk q1 hmk) (Or.inl (q2.trans hst)) (kp_sh q1 hsh) q3 ?_ ?_
    rotate_left
    · rcases hv with ⟨rfl, hv⟩ | ⟨w13, w14, x1, y1, ex, ey, hv⟩
      · refine EX1 (i := 14) (q2.trans hst) rfl n1 q4 ?_
        rw [stp_14]
        show some ([(vInt (if smV (ofV H (T a)) (H a) = true then 1 else 0), ofV T (T a))], none, vPr kk, E, T c, D) = _
        rw [eTa, hv]
        show some ([(vInt (if smV (H a2) (H a) = true then 1 else 0), T a2)], none, vPr kk, E, T c, D) = _
        rw [smV_eq (H a2) (H a)]
      · subst hv
        have hb : kV (ofV H (ofV T (vPr a))) = 1 ∧ kV (ofV H (vPr a)) = 1 := by
          show kV (ofV H (T a)) = 1 ∧ kV (H a) = 1
          rw [eTa, ey]
          show kV (H a2) = 1 ∧ _
          rw [ex]
          exact ⟨rfl, rfl⟩
        have e1 : iV (ofV H (ofV T (vPr a))) = x1 := by
          show iV (ofV H (T a)) = x1
          rw [eTa]
          show iV (H a2) = x1
          rw [ex]
          rfl
        have e2 : iV (ofV H (vPr a)) = y1 := by
          show iV (H a) = y1
          rw [ey]
          rfl
        have e3 : ofV T (ofV T (vPr a)) = T a2 := by
          show ofV T (T a) = T a2
          rw [eTa]
          rfl
        rcases hi with rfl | rfl | rfl | rfl | rfl | rfl
        · exact absurd rfl w13
        · exact absurd rfl w14
        · exact EX1 (i := 15) (q2.trans hst) rfl n1 q4 (by rw [stp_15, if_pos hb, e1, e2, e3]; rfl)
        · exact EX1 (i := 16) (q2.trans hst) rfl n1 q4 (by rw [stp_16, if_pos hb, e1, e2, e3]; rfl)
        · exact EX1 (i := 17) (q2.trans hst) rfl n1 q4 (by rw [stp_17, if_pos hb, e1, e2, e3]; rfl)
        · exact EX1 (i := 18) (q2.trans hst) rfl n1 q4 (by rw [stp_18, if_pos hb, e1, e2, e3]; rfl)
    rw [q4]
    refine T_push hS n1 int_inU gF_int (fun q => ?_) ⟨uTa2, tTa2⟩ ⟨uE, tE⟩ ⟨SI_t hS.1 uc, f, hw⟩ ⟨uD, tD⟩
    have := (ht q).1
    rcases hv with ⟨w, -⟩ | ⟨w, -⟩
    · rw [this] at w
      exact absurd w (by decide)
    · exact absurd this w
  · refine hQ r' _ _ (upW (upW ro k1 false) k2 false) _ _ _ _ (t :: k') n false e (kp_kc q1) (kp_mk q1 hmk) (Or.inl (q2.trans hst)) (kp_sh q1 hsh) q3 ?_ ?_
    rotate_left
    · subst ei
      refine EX2 (i := 13) (q2.trans hst) rfl n1 n2 q4 ?_
      rw [stp_13]
      show some ([(H a, ofV H (T a)), (vPr k1, ofV T (T a))], none, vPr k2, E, T c, D) = _
      rw [eTa]
      rfl
    rw [q4]
    have hx1 : Ext (Ur r) H T ro (upW H k1 (H a)) (upW T k1 (H a2)) (upW ro k1 false) := Ext_new n1
    have hS1 : TS (upW H k1 (H a)) (upW T k1 (H a2)) (upW ro k1 false) (addU (Ur r) k1) R := TS_new hS n1 uHa uHa2 gHa gHa2 (fun q => by cases q)
    refine T_push hS1 n2 (pr_inU new_in) gF_pr (fun q => ?_) ⟨in_new uTa2, stk_ext hS.1 hx1 _ _ uTa2 tTa2⟩ ⟨in_new uE, env_ext hS.1 hx1 _ _ uE tE⟩ ⟨in_new (SI_t hS.1 uc), wtx_ext hS.1 hx1 (SI_t hS.1 uc) ⟨f, hw⟩⟩ ⟨in_new uD, dmx_ext hS.1 hx1 uD tD⟩
    obtain ⟨mm, hl⟩ := lst_ext hS.1 hx1 uHa2 (lHa2 (ht q).2)
    refine ⟨mm + 1, k1, rfl, ?_⟩
    have e1 : upW T k1 (H a2) k1 = H a2 := if_pos rfl
    rw [e1]
    exact hl
theorem AE_19 (hX : RX r H T S E (vPr c) D R) (hT : TI H T ro (Ur r) S E (vPr c) D R k n b e) (hst : r.state = 1) (hmk : mkOK r) (hsh : shOK r) {x : Bool} {k' : Sk} (hk : k = x :: k') (hQ : stE b0 b1 op tl Q s r H T S E (vPr c) D R 19) (F : Nat) : mj_sg (mj_Mt gT cst gnw (m + 4)) cst gnw (mj_hd (mj_off kO_R_step) kH_R_step) kC_R_step J Q (F + 150) false 40 [some (.ref 27), some (.int (nI c)), some (.int 19), none, none] [.int (rsN r c)] (cW s (rW r tl), b0, b1, op) := by
  obtain ⟨hS, ⟨uS, tS_⟩, ⟨uE, tE⟩, ⟨uC, tC⟩, ⟨uD, tD⟩, tb⟩ := hT
  have hT0 : TI H T ro (Ur r) S E (vPr c) D R k n b e := ⟨hS, ⟨uS, tS_⟩, ⟨uE, tE⟩, ⟨uC, tC⟩, ⟨uD, tD⟩, tb⟩
  have hX0 := hX
  obtain ⟨hB, x0, x1, x2, x3, x4⟩ := hX
  have uc := inU_pr uC
  clear tC
  refine And.intro (fun _ => ?_) (fun (g : (19 : Int32) = 1) => absurd g (by decide))
  refine And.intro (fun _ => ?_) (fun (g : (19 : Int32) = 2) => absurd g (by decide))
  refine And.intro (fun _ => ?_) (fun (g : (19 : Int32) = 3) => absurd g (by decide))
  refine And.intro (fun (g : (19 : Int32) = 4) => absurd g (by decide)) (fun _ => ?_)
  refine And.intro (fun _ => ?_) (fun (g : (19 : Int32) = 7) => absurd g (by decide))
  refine And.intro (fun _ => ?_) (fun (g : (19 : Int32) = 5) => absurd g (by decide))
  refine And.intro (fun _ => ?_) (fun (g : (19 : Int32) = 6) => absurd g (by decide))
  refine And.intro (fun _ => ?_) (fun (g : (19 : Int32) = 8) => absurd g (by decide))
  refine And.intro (fun _ => ?_) (fun (g : (19 : Int32) = 9) => absurd g (by decide))
  refine And.intro (fun _ => ?_) (fun (g : ¬ (13 : Int32) ≤ (19 : Int32)) => absurd (by decide) g)
  refine And.intro (fun _ => ?_) (fun (g : ¬ (19 : Int32) ≤ (19 : Int32)) => absurd (by decide) g)
  subst hk
  obtain ⟨a, rfl, ua, -⟩ := stk_top hS.1 ⟨uS, tS_⟩
  have ha := Ur_lt hB ua
  refine R_stop (fun r' c1 c2 c3 c4 c5 c6 => ?_)
  have hB' := c6 H T hB
  have hz := hB'.1.2
  have raw' := hB'.2.2
  have fin : ∀ (p : sP) (n2 : Nat) (pl : Nat → Int32), p.1 ≤ 120 → RSH (phR (gR r' (r'.headKind a) (r'.head a)) p n2 pl) H T (vPr a) → Q (.inl none, (cW s (rW (phR (gR r' (r'.headKind a) (r'.head a)) p n2 pl) tl), b0, b1, op)) := by
    intro p n2 pl hp hR
    have hX1 : RX r' H T (vPr a) E (vPr c) D R := ⟨hB', by rw [c5]; exact rg_up c3 x0, by rw [c5]; exact rg_up c3 x1, by rw [c5]; exact rg_up c3 x2, by rw [c5]; exact rg_up c3 x3, by rw [c5]; exact rg_up c3 x4⟩
    have hk1 : kc r (phR (gR r' (r'.headKind a) (r'.head a)) p n2 pl) := kc_tr (kp_kc c1) ⟨rfl, rfl, rfl, rfl, rfl⟩
    have hm1 : mkOK (phR (gR r' (r'.headKind a) (r'.head a)) p n2 pl) := by
      obtain ⟨mk, em⟩ := kp_mk c1 hmk
      exact ⟨mk, em⟩
    refine hQ (phR (gR r' (r'.headKind a) (r'.head a)) p n2 pl) H T ro (vPr a) E (vPr c) D (x :: k') n b e hk1 hm1 (Or.inr (Or.inl c2)) ⟨p.1, hp, rfl⟩ hX1 ?_ (EXd c2 c4 hR)
    have eU : Ur (phR (gR r' (r'.headKind a) (r'.head a)) p n2 pl) = Ur r := c4
    rw [eU]
    exact hT0
  by_cases hM : ∃ M, SMc r' H T M ∧ M a
  · obtain ⟨M, hM, ma⟩ := hM
    refine R_showAllE (a := a) ha (by rw [c5]; exact (rg_pr x0).1) hM ma (fun p n2 pl hp => ?_)
    exact fin p n2 pl (PRC_le hp) (fun _ => ⟨p, ⟨rfl, rfl⟩, hp⟩)
  · refine R_showAll (a := a) ha (by rw [c5]; exact (rg_pr x0).1) (fun i hi => ⟨fun q => ?_, fun q => ?_⟩) (fun p n2 pl hp => ?_)
    · obtain ⟨j, j1, j2⟩ := (raw' i hi).1 q
      exact ⟨j, by omega, j2⟩
    · obtain ⟨j, j1, j2⟩ := (raw' i hi).2 q
      exact ⟨j, by omega, j2⟩
    · refine fin p n2 pl hp (fun w => ?_)
      obtain ⟨M, w1, w2⟩ := w
      exact absurd ⟨M, w1, w2 a rfl⟩ hM
end RSE
end
section
def nwU (U : Nat → Prop) (kk : Nat → Nat) (n : Nat) : Nat → Prop := fun a => U a ∨ ∃ j, j < n ∧ a = kk j
def frN (U : Nat → Prop) (kk : Nat → Nat) (n : Nat) : Prop := ∀ j, j < n → ¬ U (kk j) ∧ ∀ l, l < n → ¬ l = j → ¬ kk l = kk j
section ZKG
variable {H T : Nat → Vl} {ro : Nat → Bool} {U : Nat → Prop} {S E C D R S' E' C' D' : Vl} {k : Sk} {n : Nat} {b : Bool} {e : En} {i : Int32} {kk : Nat → Nat} {al : List (Vl × Vl)} {sh : Option (Vl × Vl)}
theorem nw_0 : nwU U kk 0 = U := by
  funext a
  exact propext ⟨fun q => q.elim id (fun ⟨j, hj, _⟩ => absurd hj (Nat.not_lt_zero j)), Or.inl⟩
theorem nw_s (m : Nat) : nwU U kk (m + 1) = addU (nwU U kk m) (kk m) := by
  funext a
  refine propext ⟨fun q => ?_, fun q => ?_⟩
  · rcases q with q | ⟨j, hj, q⟩
    · exact Or.inl (Or.inl q)
    · rcases Nat.lt_or_ge j m with w | w
      · exact Or.inl (Or.inr ⟨j, w, q⟩)
      · obtain rfl : j = m := by omega
        exact Or.inr q
  · rcases q with (q | ⟨j, hj, q⟩) | q
    · exact Or.inl q
    · exact Or.inr ⟨j, by omega, q⟩
    · exact Or.inr ⟨m, by omega, q⟩
theorem fr_n {m : Nat} (h : frN U kk m) {j : Nat} (hj : j < m) : ¬ nwU U kk j (kk j) := by
  rintro (q | ⟨l, hl, q⟩)
  · exact (h j hj).1 q
  · exact (h j hj).2 l (by omega) (by omega) q.symm
theorem Ext_cmp {U1 : Nat → Prop} {H1 T1 H2 T2 : Nat → Vl} {ro1 ro2 : Nat → Bool} (h1 : Ext U H T ro H1 T1 ro1) (h2 : Ext U1 H1 T1 ro1 H2 T2 ro2) (hU : ∀ a, U a → U1 a) : Ext U H T ro H2 T2 ro2 := fun a ha => by
  obtain ⟨p1, p2, p3⟩ := h1 a ha
  obtain ⟨q1, q2, q3⟩ := h2 a (hU a ha)
  exact ⟨q1.trans p1, q2.trans p2, fun w => (q3 (p2.trans w)).trans (p3 w)⟩
theorem stp_TI (hT : TI H T ro U S E C D R k n b e) (hi : ofV H C = vInt i) (hk : frN U kk (rqN i)) (h19 : ¬ i = 19) (h : stp kk H T S E C D i = some (al, sh, S', E', C', D')) : ∃ ro' k' n' b' e', TI (stH sh (alH kk 0 al H)) (alT kk 0 al T) ro' (nwU U kk (rqN i)) S' E' C' D' R k' n' b' e' ∧ Ext U H T ro (stH sh (alH kk 0 al H)) (alT kk 0 al T) ro' := by
  obtain ⟨hS, ⟨uS, tS_⟩, ⟨uE, tE⟩, ⟨uC, f, hw⟩, ⟨uD, tD⟩, tb⟩ := hT
  cases f with
  | zero => exact absurd hw id
  | succ f =>
  obtain ⟨c, i', rfl, -, hH, hw⟩ := hw
  have uc := inU_pr uC
  have hi : H c = vInt i := hi
  rw [hi] at hH
  cases hH
  rcases hw with ⟨e1, d, t, a1, a2, a0, a3⟩ | ⟨e1, d, x, a1, a2, a3, a4⟩ | ⟨e1, d, a1, a2, a3, a4⟩ | ⟨e1, x, k', a1, a2⟩ | ⟨e1, x, k', a1, a2⟩ | ⟨e1, a1⟩ | ⟨e1, x, k', a1, a2, a3, a4⟩ | ⟨e1, x, k', d, q, a1, a2, a3, a4, a5, a6, a7, a8⟩ | ⟨e1, a1⟩ | ⟨e1, x, k', a1, a2⟩ | ⟨e1, x, y, t, k', a1, a0, a2⟩ | ⟨e1, x, k', a1, a2⟩
  · subst e1
    have n0 := fr_n hk (show 0 < rqN 1 by decide)
    rw [nw_0] at n0
    rw [stp_1] at h
    cases h
    have ud := SI_tp hS.1 uc a1
    have e1 : ofV H (ofV T (vPr c)) = H d := by show ofV H (T c) = H d; rw [a1]; rfl
    have e2 : ofV T (ofV T (vPr c)) = T d := by show ofV T (T c) = T d; rw [a1]; rfl
    rw [e1, e2, show rqN 1 = 0 + 1 from rfl, nw_s, nw_0]
    exact ⟨_, _, _, _, _, T_push hS n0 (SI_h hS.1 ud) (hS.1 d ud).2.1.1 (fun q => ⟨0, a0 q⟩) ⟨uS, tS_⟩ ⟨uE, tE⟩ ⟨SI_t hS.1 ud, f, a3⟩ ⟨uD, tD⟩, Ext_new n0⟩
  · subst e1
    have n0 := fr_n hk (show 0 < rqN 2 by decide)
    rw [nw_0] at n0
    have ud := SI_tp hS.1 uc a1
    have ei : (iV (ofV H (ofV T (vPr c)))).toNatClampNeg = x := by
      show (iV (ofV H (T c))).toNatClampNeg = x
      rw [a1]
      show (iV (H d)).toNatClampNeg = x
      rw [a3.2]
      exact nI_clamp (by have := a3.1; omega)
    have e2 : ofV T (ofV T (vPr c)) = T d := by show ofV T (T c) = T d; rw [a1]; rfl
    rw [stp_2, ei] at h
    split at h
    rotate_left
    · cases h
    next q5 =>
    split at h
    rotate_left
    · cases h
    next q6 =>
    cases h
    obtain ⟨a, ea⟩ := kV_pr q6
    have ue := inU_beh hS.1 (x / 16) E uE
    obtain ⟨g0, eg0⟩ := kV_pr q5
    rw [eg0] at ue
    have ug0 := inU_pr ue
    have uv : inU U (behV T (x % 16) (ofV H (behV T (x / 16) E))) := by
      rw [eg0]
      exact inU_beh hS.1 _ _ (SI_h hS.1 ug0)
    rw [ea] at uv
    have ua := inU_pr uv
    have e9 : ofV H (behV T (x % 16) (ofV H (behV T (x / 16) E))) = H a := by rw [ea]; rfl
    rw [e9, e2, show rqN 2 = 0 + 1 from rfl, nw_s, nw_0]
    exact ⟨_, _, _, _, _, T_push hS n0 (SI_h hS.1 ua) (hS.1 a ua).2.1.1 (fun q => by cases q) ⟨uS, tS_⟩ ⟨uE, tE⟩ ⟨SI_t hS.1 ud, f, a4⟩ ⟨uD, tD⟩, Ext_new n0⟩
  · subst e1
    have n0 := fr_n hk (show 0 < rqN 3 by decide)
    have n1 := fr_n hk (show 1 < rqN 3 by decide)
    rw [nw_s, nw_0] at n1
    rw [nw_0] at n0
    rw [stp_3] at h
    cases h
    have ud := SI_tp hS.1 uc a1
    have e1 : ofV H (ofV T (vPr c)) = H d := by show ofV H (T c) = H d; rw [a1]; rfl
    have e2 : ofV T (ofV T (vPr c)) = T d := by show ofV T (T c) = T d; rw [a1]; rfl
    rw [e1, e2, show rqN 3 = 0 + 1 + 1 from rfl, nw_s, nw_s, nw_0]
    exact ⟨_, _, _, _, _, T_fun hS n0 n1 (SI_h hS.1 ud) ⟨f, a3⟩ ⟨uS, tS_⟩ ⟨uE, tE⟩ ⟨SI_t hS.1 ud, f, a4⟩ ⟨uD, tD⟩, Ext_cmp (Ext_new n0) (Ext_new n1) (fun a ha => Or.inl ha)⟩
  · subst e1
    subst a1
    have n0 := fr_n hk (show 0 < rqN 4 by decide)
    have n1 := fr_n hk (show 1 < rqN 4 by decide)
    have n2 := fr_n hk (show 2 < rqN 4 by decide)
    have n3 := fr_n hk (show 3 < rqN 4 by decide)
    rw [nw_s, nw_s, nw_s, nw_0] at n3
    rw [nw_s, nw_s, nw_0] at n2
    rw [nw_s, nw_0] at n1
    rw [nw_0] at n0
    obtain ⟨a, rfl, ua, ⟨uTa, tTa⟩, ⟨uHa, gHa⟩, -⟩ := stk_top hS.1 ⟨uS, tS_⟩
    obtain ⟨b2, eTa, ub, ⟨uTb, tTb⟩, ⟨uHb, gHb⟩, lHb⟩ := stk_top hS.1 ⟨uTa, tTa⟩
    rw [stp_4] at h
    split at h
    rotate_left
    · cases h
    next q4 =>
    cases h
    have q4 : kV (H a) = 4 := q4
    obtain ⟨g, eg⟩ : ∃ g, H a = vFn g := by
      generalize H a = v at q4
      rcases v with u | y | y | j | j <;> first | exact ⟨j, rfl⟩ | (simp [kV] at q4)
    have ug : U g := by rw [eg] at uHa; exact inU_fn uHa
    have e1 : ofV T (ofV T (vPr a)) = T b2 := by show ofV T (T a) = T b2; rw [eTa]; rfl
    have e2 : ofV H (ofV T (vPr a)) = H b2 := by show ofV H (T a) = H b2; rw [eTa]; rfl
    have e3 : ofV T (ofV H (vPr a)) = T g := by show ofV T (H a) = T g; rw [eg]; rfl
    have e4 : ofV H (ofV H (vPr a)) = H g := by show ofV H (H a) = H g; rw [eg]; rfl
    rw [e1, e2, e3, e4, show rqN 4 = 0 + 1 + 1 + 1 + 1 from rfl, nw_s, nw_s, nw_s, nw_s, nw_0]
    exact ⟨_, _, _, _, _, T_call (X := T c) hS n0 n1 n2 n3 ⟨uTb, tTb⟩ ⟨uE, tE⟩ ⟨SI_t hS.1 uc, f, a2⟩ ⟨uD, tD⟩ ⟨uHb, gHb⟩ (lHb rfl) ug (by rw [← eg]; exact gHa), Ext_cmp (Ext_new n0) (Ext_cmp (Ext_new n1) (Ext_cmp (Ext_new n2) (Ext_new n3) (fun a ha => Or.inl ha)) (fun a ha => Or.inl ha)) (fun a ha => Or.inl ha)⟩
  · subst e1
    subst a1
    subst a2
    have n0 := fr_n hk (show 0 < rqN 5 by decide)
    rw [nw_0] at n0
    obtain ⟨a, rfl, ua, ⟨uTa, tTa⟩, ⟨uHa, gHa⟩, lHa⟩ := stk_top hS.1 ⟨uS, tS_⟩
    obtain ⟨d1, d2, d3, k2, n2, e2, rfl, eD1, eD2, ud1, ud2, ud3, ⟨u1, t1⟩, ⟨u2, t2⟩, ⟨u3, t3⟩, ⟨u4, t4⟩⟩ := dmx_ret hS.1 ⟨uD, tD⟩
    rw [stp_5] at h
    cases h
    have g1 : ofV H (ofV T (vPr d1)) = H d2 := by show ofV H (T d1) = H d2; rw [eD1]; rfl
    have g2 : ofV T (ofV T (vPr d1)) = vPr d3 := by show ofV T (T d1) = vPr d3; rw [eD1]; exact eD2
    rw [g1, g2, show rqN 5 = 0 + 1 from rfl, nw_s, nw_0]
    exact ⟨_, _, _, _, _, T_push hS n0 uHa gHa (fun q => by cases q) ⟨u1, t1⟩ ⟨u2, t2⟩ ⟨u3, t3⟩ ⟨u4, t4⟩, Ext_new n0⟩
  · subst e1
    have n0 := fr_n hk (show 0 < rqN 6 by decide)
    rw [nw_0] at n0
    rw [stp_6] at h
    cases h
    rw [show rqN 6 = 0 + 1 from rfl, nw_s, nw_0]
    exact ⟨_, _, _, _, _, T_frame hS n0 ⟨uS, tS_⟩ ⟨uE, tE⟩ ⟨SI_t hS.1 uc, f, a1⟩ ⟨uD, tD⟩, Ext_new n0⟩
  · subst e1
    subst a1
    subst a3
    have n0 := fr_n hk (show 0 < rqN 7 by decide)
    have n1 := fr_n hk (show 1 < rqN 7 by decide)
    have n2 := fr_n hk (show 2 < rqN 7 by decide)
    rw [nw_s, nw_s, nw_0] at n2
    rw [nw_s, nw_0] at n1
    rw [nw_0] at n0
    obtain ⟨a, rfl, ua, ⟨uTa, tTa⟩, ⟨uHa, gHa⟩, -⟩ := stk_top hS.1 ⟨uS, tS_⟩
    obtain ⟨b2, eTa, ub, ⟨uTb, tTb⟩, ⟨uHb, gHb⟩, lHb⟩ := stk_top hS.1 ⟨uTa, tTa⟩
    obtain ⟨n, rfl⟩ : ∃ j, n = j + 1 := ⟨n - 1, by omega⟩
    obtain ⟨g0, rfl, rg0, tE0⟩ := tE
    have ug0 := inU_pr uE
    obtain ⟨a', f', g', ea', ef', eg', rg'⟩ := tb rfl
    cases ea'
    rw [stp_7] at h
    split at h
    rotate_left
    · cases h
    cases h
    have ug : U f' := by rw [ef'] at uHa; exact inU_fn uHa
    have e1 : ofV T (ofV T (vPr a)) = T b2 := by show ofV T (T a) = T b2; rw [eTa]; rfl
    have e2 : ofV H (ofV T (vPr a)) = H b2 := by show ofV H (T a) = H b2; rw [eTa]; rfl
    have e3 : ofV T (ofV H (vPr a)) = vPr g' := by show ofV T (H a) = vPr g'; rw [ef']; exact eg'
    have e4 : ofV H (ofV H (vPr a)) = H f' := by show ofV H (H a) = H f'; rw [ef']; rfl
    rw [e1, e2, e3, e4, show rqN 7 = 0 + 1 + 1 + 1 from rfl, nw_s, nw_s, nw_s, nw_0]
    refine ⟨_, _, _, _, _, T_call7 (X := T c) (V := T g0) hS n0 n1 n2 ⟨uTb, tTb⟩ ⟨SI_t hS.1 ug0, tE0⟩ ⟨SI_t hS.1 uc, f, a4⟩ ⟨uD, tD⟩ ⟨uHb, gHb⟩ (lHb rfl) ug (by rw [← ef']; exact gHa) eg' rg', ?_⟩
    have x1 : Ext U H T ro (upW (upW (upW H (kk 0) (T c)) (kk 1) (T g0)) (kk 2) (T b2)) (upW (upW (upW T (kk 0) D) (kk 1) (vPr (kk 0))) (kk 2) (vPr (kk 1))) (upW (upW (upW ro (kk 0) false) (kk 1) false) (kk 2) false) := Ext_cmp (Ext_new n0) (Ext_cmp (Ext_new n1) (Ext_new n2) (fun a ha => Or.inl ha)) (fun a ha => Or.inl ha)
    have ug2 : U g' := SI_tp hS.1 ug eg'
    exact Ext_cmp x1 (U1 := U) (Ext_set ((x1 g' ug2).2.1.trans rg')) (fun a ha => ha)
  · subst e1
    subst a1
    have n0 := fr_n hk (show 0 < rqN 8 by decide)
    rw [nw_0] at n0
    obtain ⟨a, rfl, ua, ⟨uTa, tTa⟩, ⟨uHa, gHa⟩, lHa⟩ := stk_top hS.1 ⟨uS, tS_⟩
    have ud := SI_tp hS.1 uc a2
    have uq := SI_tp hS.1 ud a4
    rw [stp_8] at h
    split at h
    rotate_left
    · cases h
    cases h
    have e1 : ofV T (ofV T (ofV T (vPr c))) = T q := by show ofV T (ofV T (T c)) = T q; rw [a2]; show ofV T (T d) = T q; rw [a4]; rfl
    have e2 : ofV H (ofV T (ofV T (vPr c))) = H q := by show ofV H (ofV T (T c)) = H q; rw [a2]; show ofV H (T d) = H q; rw [a4]; rfl
    have e3 : ofV H (ofV T (vPr c)) = H d := by show ofV H (T c) = H d; rw [a2]; rfl
    rw [e1, e2, e3, show rqN 8 = 0 + 1 from rfl, nw_s, nw_0]
    refine ⟨_, _, _, _, _, T_choose (k' := false :: k') (n' := n) hS n0 ⟨uTa, tTa⟩ ⟨uE, tE⟩ ?_ ⟨uD, tD⟩ ⟨SI_t hS.1 uq, f, a8⟩, Ext_new n0⟩
    split
    · exact ⟨SI_h hS.1 uq, f, a7⟩
    · exact ⟨SI_h hS.1 ud, f, a6⟩
  · subst e1
    subst a1
    obtain ⟨a, e2, rfl, ua, ⟨u1, t1⟩, ⟨u2, t2⟩⟩ := dmx_join hS.1 ⟨uD, tD⟩
    rw [stp_9] at h
    cases h
    rw [show rqN 9 = 0 from rfl, nw_0]
    exact ⟨ro, _, _, false, _, ⟨hS, ⟨uS, tS_⟩, ⟨uE, tE⟩, ⟨u1, t1⟩, ⟨u2, t2⟩, fun q => (by cases q)⟩, fun a _ => ⟨rfl, rfl, fun _ => rfl⟩⟩
  · subst a1
    obtain ⟨a, rfl, ua, ⟨uTa, tTa⟩, ⟨uHa, gHa⟩, lHa⟩ := stk_top hS.1 ⟨uS, tS_⟩
    have pushed : ∀ (kq : Nat) (w : Vl), ¬ U kq → inU U w → gF H T ro w → ∃ ro' k2 n' b' e', TI (upW H kq w) (upW T kq (T a)) ro' (addU U kq) (vPr kq) E (T c) D R k2 n' b' e' ∧ Ext U H T ro (upW H kq w) (upW T kq (T a)) ro' := fun kq w n0 q1 q2 => ⟨_, _, _, _, _, T_push hS n0 q1 q2 (fun q => by cases q) ⟨uTa, tTa⟩ ⟨uE, tE⟩ ⟨SI_t hS.1 uc, f, a2⟩ ⟨uD, tD⟩, Ext_new n0⟩
    rcases e1 with rfl | rfl | rfl
    · have n0 := fr_n hk (show 0 < rqN 10 by decide)
      rw [nw_0] at n0
      rw [stp_10] at h
      split at h
      rotate_left
      · cases h
      next q3 =>
      cases h
      have q3 : kV (H a) = 3 := q3
      obtain ⟨j, ej⟩ := kV_pr q3
      rw [ej] at uHa
      have uj := inU_pr uHa
      have e9 : ofV H (ofV H (vPr a)) = H j := by show ofV H (H a) = H j; rw [ej]; rfl
      rw [e9, show rqN 10 = 0 + 1 from rfl, nw_s, nw_0]
      exact pushed _ _ n0 (SI_h hS.1 uj) (hS.1 j uj).2.1.1
    · have n0 := fr_n hk (show 0 < rqN 11 by decide)
      rw [nw_0] at n0
      rw [stp_11] at h
      split at h
      rotate_left
      · cases h
      next q3 =>
      cases h
      have q3 : kV (H a) = 3 := q3
      obtain ⟨j, ej⟩ := kV_pr q3
      rw [ej] at uHa
      have uj := inU_pr uHa
      have e9 : ofV T (ofV H (vPr a)) = T j := by show ofV T (H a) = T j; rw [ej]; rfl
      rw [e9, show rqN 11 = 0 + 1 from rfl, nw_s, nw_0]
      exact pushed _ _ n0 (SI_t hS.1 uj) (hS.1 j uj).2.1.2
    · have n0 := fr_n hk (show 0 < rqN 12 by decide)
      rw [nw_0] at n0
      rw [stp_12] at h
      cases h
      rw [show rqN 12 = 0 + 1 from rfl, nw_s, nw_0]
      exact pushed _ _ n0 int_inU gF_int
  · subst a1
    obtain ⟨a, rfl, ua, ⟨uTa, tTa⟩, ⟨uHa, gHa⟩, -⟩ := stk_top hS.1 ⟨uS, tS_⟩
    obtain ⟨b2, eTa, ub, ⟨uTb, tTb⟩, ⟨uHb, gHb⟩, lHb⟩ := stk_top hS.1 ⟨uTa, tTa⟩
    have g1 : ofV T (ofV T (vPr a)) = T b2 := by show ofV T (T a) = T b2; rw [eTa]; rfl
    have g2 : ofV H (ofV T (vPr a)) = H b2 := by show ofV H (T a) = H b2; rw [eTa]; rfl
    have pushed : ∀ (kq : Nat) (v : Int32), t = false → ¬ U kq → ∃ ro' k2 n' b' e', TI (upW H kq (vInt v)) (upW T kq (T b2)) ro' (addU U kq) (vPr kq) E (T c) D R k2 n' b' e' ∧ Ext U H T ro (upW H kq (vInt v)) (upW T kq (T b2)) ro' := fun kq v ht n0 => ⟨_, _, _, _, _, T_push (t := t) hS n0 int_inU gF_int (fun q => by rw [ht] at q; cases q) ⟨uTb, tTb⟩ ⟨uE, tE⟩ ⟨SI_t hS.1 uc, f, a2⟩ ⟨uD, tD⟩, Ext_new n0⟩
    have tf : ¬ i = 13 → t = false := fun q => by
      cases t with
      | false => rfl
      | true => exact absurd (a0 rfl).1 q
    rcases e1 with rfl | rfl | rfl | rfl | rfl | rfl
    · have n0 := fr_n hk (show 0 < rqN 13 by decide)
      have n1 := fr_n hk (show 1 < rqN 13 by decide)
      rw [nw_s, nw_0] at n1
      rw [nw_0] at n0
      rw [stp_13] at h
      cases h
      rw [g1, g2, show rqN 13 = 0 + 1 + 1 from rfl, nw_s, nw_s, nw_0]
      have hx1 : Ext U H T ro (upW H (kk 0) (H a)) (upW T (kk 0) (H b2)) (upW ro (kk 0) false) := Ext_new n0
      have hS1 : TS (upW H (kk 0) (H a)) (upW T (kk 0) (H b2)) (upW ro (kk 0) false) (addU U (kk 0)) R := TS_new hS n0 uHa uHb gHa gHb (fun q => by cases q)
      refine ⟨_, _, _, _, _, T_push (t := t) hS1 n1 (pr_inU new_in) gF_pr (fun q => ?_) ⟨in_new uTb, stk_ext hS.1 hx1 _ _ uTb tTb⟩ ⟨in_new uE, env_ext hS.1 hx1 _ _ uE tE⟩ ⟨in_new (SI_t hS.1 uc), wtx_ext hS.1 hx1 (SI_t hS.1 uc) ⟨f, a2⟩⟩ ⟨in_new uD, dmx_ext hS.1 hx1 uD tD⟩, Ext_cmp hx1 (Ext_new n1) (fun a ha => Or.inl ha)⟩
      obtain ⟨mm, hl⟩ := lst_ext hS.1 hx1 uHb (lHb (a0 q).2)
      refine ⟨mm + 1, kk 0, rfl, ?_⟩
      have e1 : upW T (kk 0) (H b2) (kk 0) = H b2 := if_pos rfl
      rw [e1]
      exact hl
    · have n0 := fr_n hk (show 0 < rqN 14 by decide)
      rw [nw_0] at n0
      rw [stp_14] at h
      cases h
      rw [g1, show rqN 14 = 0 + 1 from rfl, nw_s, nw_0]
      exact pushed _ _ (tf (by decide)) n0
    · have n0 := fr_n hk (show 0 < rqN 15 by decide)
      rw [nw_0] at n0
      rw [stp_15] at h
      split at h
      rotate_left
      · cases h
      cases h
      rw [g1, show rqN 15 = 0 + 1 from rfl, nw_s, nw_0]
      exact pushed _ _ (tf (by decide)) n0
    · have n0 := fr_n hk (show 0 < rqN 16 by decide)
      rw [nw_0] at n0
      rw [stp_16] at h
      split at h
      rotate_left
      · cases h
      cases h
      rw [g1, show rqN 16 = 0 + 1 from rfl, nw_s, nw_0]
      exact pushed _ _ (tf (by decide)) n0
    · have n0 := fr_n hk (show 0 < rqN 17 by decide)
      rw [nw_0] at n0
      rw [stp_17] at h
      split at h
      rotate_left
      · cases h
      cases h
      rw [g1, show rqN 17 = 0 + 1 from rfl, nw_s, nw_0]
      exact pushed _ _ (tf (by decide)) n0
    · have n0 := fr_n hk (show 0 < rqN 18 by decide)
      rw [nw_0] at n0
      rw [stp_18] at h
      split at h
      rotate_left
      · cases h
      cases h
      rw [g1, show rqN 18 = 0 + 1 from rfl, nw_s, nw_0]
      exact pushed _ _ (tf (by decide)) n0
  · exact absurd e1 h19
theorem TI_AX (hT : TI H T ro U S E C D R k n b e) : ∃ c i, C = vPr c ∧ U c ∧ H c = vInt i ∧ (1 ≤ i ∧ i ≤ 19) ∧ AX U H T S E C D i := by
  obtain ⟨hS, ⟨uS, tS_⟩, ⟨uE, tE⟩, ⟨uC, f, hw⟩, ⟨uD, tD⟩, tb⟩ := hT
  cases f with
  | zero => exact absurd hw id
  | succ f =>
  obtain ⟨c, i, rfl, -, hH, hw⟩ := hw
  have uc := inU_pr uC
  have hcl : clo U H T := fun a ua => ⟨SI_h hS.1 ua, SI_t hS.1 ua⟩
  have lS : isL_ S ∧ isL_ (ofV T S) := by
    cases k with
    | nil =>
      cases tS_
      exact ⟨Or.inl rfl, Or.inl rfl⟩
    | cons x k =>
      obtain ⟨a, rfl, -, -, t2⟩ := tS_
      exact ⟨Or.inr ⟨a, rfl⟩, isL_stk t2⟩
  refine ⟨c, i, rfl, uc, hH, ?_, hcl, ⟨uS, uE, uC, uD⟩, lS, fun e2 => ?_, fun e7 => ?_⟩
  · rcases hw with ⟨e1, -⟩ | ⟨e1, -⟩ | ⟨e1, -⟩ | ⟨e1, -⟩ | ⟨e1, -⟩ | ⟨e1, -⟩ | ⟨e1, -⟩ | ⟨e1, -⟩ | ⟨e1, -⟩ | ⟨e1, -⟩ | ⟨e1, -⟩ | ⟨e1, -⟩
    · rw [e1]; decide
    · rw [e1]; decide
    · rw [e1]; decide
    · rw [e1]; decide
    · rw [e1]; decide
    · rw [e1]; decide
    · rw [e1]; decide
    · rw [e1]; decide
    · rw [e1]; decide
    · rcases e1 with e1 | e1 | e1 <;> rw [e1] <;> decide
    · rcases e1 with e1 | e1 | e1 | e1 | e1 | e1 <;> rw [e1] <;> decide
    · rw [e1]; decide
  · subst e2
    rcases hw with ⟨e1, -⟩ | ⟨e1, d, x, a1, a2, a3, a4⟩ | ⟨e1, -⟩ | ⟨e1, -⟩ | ⟨e1, -⟩ | ⟨e1, -⟩ | ⟨e1, -⟩ | ⟨e1, -⟩ | ⟨e1, -⟩ | ⟨e1, -⟩ | ⟨e1, -⟩ | ⟨e1, -⟩
    · exact absurd e1 (by decide)
    · refine ⟨x, a3.1, ?_⟩
      show ofV H (T c) = _
      rw [a1]
      exact a3.2
    · exact absurd e1 (by decide)
    · exact absurd e1 (by decide)
    · exact absurd e1 (by decide)
    · exact absurd e1 (by decide)
    · exact absurd e1 (by decide)
    · exact absurd e1 (by decide)
    · exact absurd e1 (by decide)
    · rcases e1 with e1 | e1 | e1 <;> exact absurd e1 (by decide)
    · rcases e1 with e1 | e1 | e1 | e1 | e1 | e1 <;> exact absurd e1 (by decide)
    · exact absurd e1 (by decide)
  · subst e7
    have h7 : b = true := by
      rcases hw with ⟨e1, -⟩ | ⟨e1, -⟩ | ⟨e1, -⟩ | ⟨e1, -⟩ | ⟨e1, -⟩ | ⟨e1, -⟩ | ⟨e1, x, k', a1, a2, a3, a4⟩ | ⟨e1, -⟩ | ⟨e1, -⟩ | ⟨e1, -⟩ | ⟨e1, -⟩ | ⟨e1, -⟩
      · exact absurd e1 (by decide)
      · exact absurd e1 (by decide)
      · exact absurd e1 (by decide)
      · exact absurd e1 (by decide)
      · exact absurd e1 (by decide)
      · exact absurd e1 (by decide)
      · exact a3
      · exact absurd e1 (by decide)
      · exact absurd e1 (by decide)
      · rcases e1 with e1 | e1 | e1 <;> exact absurd e1 (by decide)
      · rcases e1 with e1 | e1 | e1 | e1 | e1 | e1 <;> exact absurd e1 (by decide)
      · exact absurd e1 (by decide)
    obtain ⟨a, f2, g2, rfl, ef, eg, rg2⟩ := tb h7
    have ua := inU_pr uS
    have gHa := (hS.1 a ua).2.1.1
    obtain ⟨r1, -, -⟩ := gHa f2 ef
    have e3 : ofV T (ofV H (vPr a)) = vPr g2 := by show ofV T (H a) = _; rw [ef]; exact eg
    rw [e3]
    refine ⟨Or.inr ⟨g2, rfl⟩, fun j hj hj2 => ?_⟩
    have hj : ceV (H a) = some j := hj
    rw [ef] at hj
    cases hj
    cases hj2
    rw [r1] at rg2
    exact absurd rg2 (by decide)
end ZKG
end
section
def GI (z : Nat) (M : Nat → Prop) (g : gS) : Prop := g.2.2 + cu g.1 z = z ∧ (∀ i, i < g.2.2 → g.2.1 i < z ∧ g.1 (g.2.1 i) = true) ∧ (∀ a, a < z → g.1 a = true → M a ∧ ∃ i, i < g.2.2 ∧ g.2.1 i = a)
def GG (g g2 : gS) : Prop := (∀ a, g.1 a = true → g2.1 a = true) ∧ g.2.2 ≤ g2.2.2 ∧ ∀ i, i < g.2.2 → g2.2.1 i = g.2.1 i
section ZKH
variable {z : Nat} {M : Nat → Prop} {H T : Nat → Vl} {v : Vl} {g g2 g3 : gS}
theorem GG.rf : GG g g := ⟨fun _ h => h, Nat.le_refl _, fun _ _ => rfl⟩
theorem GG.tr (h1 : GG g g2) (h2 : GG g2 g3) : GG g g3 := ⟨fun a h => h2.1 a (h1.1 a h), Nat.le_trans h1.2.1 h2.2.1, fun i hi => (h2.2.2 i (by have := h1.2.1; omega)).trans (h1.2.2 i hi)⟩
theorem rtM_mono {mk mk2 : Nat → Bool} (h : ∀ a, mk a = true → mk2 a = true) (q : rtM mk v) : rtM mk2 v := fun b e => h b (q b e)
theorem rch_GI (hv : okV z v) (hM : inU M v) (h : GI z M g) : GI z M (rch z v g) ∧ GG g (rch z v g) ∧ rtM (rch z v g).1 v := by
  obtain ⟨h1, h2, h3⟩ := h
  rcases ceV_cases z v hv with ⟨-, e⟩ | ⟨i, hi, -, e⟩
  · have e0 : rch z v g = g := by
      unfold rch
      rw [e]
    rw [e0]
    exact ⟨⟨h1, h2, h3⟩, GG.rf, fun b q => by rw [e] at q; cases q⟩
  · have mi := hM i e
    have key : rch z v g = (if g.1 i = false ∧ g.2.2 < z then ((upW g.1 i true, upW g.2.1 g.2.2 i, g.2.2 + 1) : gS) else g) := by
      unfold rch
      rw [e]
    rw [key]
    by_cases hf : g.1 i = false
    · have hcu := cu_upd g.1 i hf z hi
      have hc : g.1 i = false ∧ g.2.2 < z := ⟨hf, by omega⟩
      rw [if_pos hc]
      refine ⟨⟨by show g.2.2 + 1 + cu (upW g.1 i true) z = z; omega, fun j hj => ?_, fun a ha hm => ?_⟩, ⟨fun a ha => ?_, Nat.le_succ _, fun j hj => if_neg (by omega)⟩, fun b q => ?_⟩
      · have hj : j < g.2.2 + 1 := hj
        show upW g.2.1 g.2.2 i j < z ∧ upW g.1 i true (upW g.2.1 g.2.2 i j) = true
        by_cases ej : j = g.2.2
        · have e1 : upW g.2.1 g.2.2 i j = i := if_pos ej
          rw [e1]
          exact ⟨hi, if_pos rfl⟩
        · have e1 : upW g.2.1 g.2.2 i j = g.2.1 j := if_neg ej
          rw [e1]
          refine ⟨(h2 j (by omega)).1, ?_⟩
          show (if g.2.1 j = i then true else g.1 (g.2.1 j)) = true
          split
          · rfl
          · exact (h2 j (by omega)).2
      · have hm : (if a = i then true else g.1 a) = true := hm
        by_cases ea : a = i
        · subst ea
          exact ⟨mi, g.2.2, Nat.lt_succ_self _, if_pos rfl⟩
        · rw [if_neg ea] at hm
          obtain ⟨q1, j, q2, q3⟩ := h3 a ha hm
          exact ⟨q1, j, by show j < g.2.2 + 1; omega, (if_neg (by omega)).trans q3⟩
      · show (if a = i then true else g.1 a) = true
        split
        · rfl
        · exact ha
      · rw [e] at q
        cases q
        exact if_pos rfl
    · have hc : ¬ (g.1 i = false ∧ g.2.2 < z) := fun q => hf q.1
      rw [if_neg hc]
      refine ⟨⟨h1, h2, h3⟩, GG.rf, fun b q => ?_⟩
      rw [e] at q
      cases q
      cases hg : g.1 i with
      | true => rfl
      | false => exact absurd hg hf
theorem bfs_GI (hA : okA z H) (hB : okA z T) (hM : clo M H T) : ∀ (n k : Nat) (g : gS), k + n = z → GI z M g → (∀ i, i < k → i < g.2.2 → rtM g.1 (H (g.2.1 i)) ∧ rtM g.1 (T (g.2.1 i))) → GI z M (bfs z H T n k g) ∧ GG g (bfs z H T n k g) ∧ ∀ i, i < (bfs z H T n k g).2.2 → rtM (bfs z H T n k g).1 (H ((bfs z H T n k g).2.1 i)) ∧ rtM (bfs z H T n k g).1 (T ((bfs z H T n k g).2.1 i))
  | 0, k, g, hk, h, hp => ⟨h, GG.rf, fun i hi => hp i (by have := h.1; show i < k; have hi : i < g.2.2 := hi; omega) hi⟩
  | n + 1, k, g, hk, h, hp => by
    have e : bfs z H T (n + 1) k g = if k < g.2.2 then bfs z H T n (k + 1) (rch z (T ((rch z (H (g.2.1 k)) g).2.1 k)) (rch z (H (g.2.1 k)) g)) else g := rfl
    rw [e]
    by_cases hc : k < g.2.2
    · rw [if_pos hc]
      obtain ⟨a1, a2⟩ := h.2.1 k hc
      have mA := (h.2.2 _ a1 a2).1
      obtain ⟨i1, i2, i3⟩ := rch_GI (hA _ a1) (hM _ mA).1 h
      have ek := i2.2.2 k hc
      rw [ek]
      obtain ⟨j1, j2, j3⟩ := rch_GI (v := T (g.2.1 k)) (hB _ a1) (hM _ mA).2 i1
      have hgg := i2.tr j2
      obtain ⟨r1, r2, r3⟩ := bfs_GI hA hB hM n (k + 1) _ (by omega) j1 (fun i hi1 hi2 => by
        by_cases ei : i = k
        · subst ei
          rw [hgg.2.2 i hc]
          exact ⟨rtM_mono j2.1 i3, j3⟩
        · have hik : i < g.2.2 := by omega
          rw [hgg.2.2 i hik]
          obtain ⟨p1, p2⟩ := hp i (by omega) hik
          exact ⟨rtM_mono hgg.1 p1, rtM_mono hgg.1 p2⟩)
      exact ⟨r1, hgg.tr r2, r3⟩
    · rw [if_neg hc]
      exact ⟨h, GG.rf, fun i hi => hp i (by omega) hi⟩
theorem cu_clr (f : Nat → Bool) : ∀ n, n ≤ z → cu (clr z f) n = n
  | 0, _ => rfl
  | n + 1, h => by
    have e : cu (clr z f) (n + 1) = cu (clr z f) n + (if clr z f n = false then 1 else 0) := rfl
    have e2 : clr z f n = false := if_pos (by omega)
    rw [e, cu_clr f n (by omega), if_pos e2]
theorem mrk_ok {S E C D K : Vl} (hA : okA z H) (hB : okA z T) (hS : okV z S) (hE : okV z E) (hC : okV z C) (hD : okV z D) (hK : okV z K) (hM : clo M H T) (mS : inU M S) (mE : inU M E) (mC : inU M C) (mD : inU M D) (mK : inU M K) : (∀ a, a < z → (mrk z H T S E C D K g).1 a = true → M a ∧ rtM (mrk z H T S E C D K g).1 (H a) ∧ rtM (mrk z H T S E C D K g).1 (T a)) ∧ (rtM (mrk z H T S E C D K g).1 S ∧ rtM (mrk z H T S E C D K g).1 E ∧ rtM (mrk z H T S E C D K g).1 C ∧ rtM (mrk z H T S E C D K g).1 D ∧ rtM (mrk z H T S E C D K g).1 K) := by
  have h0 : GI z M (clr z g.1, g.2.1, 0) := ⟨by show 0 + cu (clr z g.1) z = z; rw [cu_clr g.1 z (Nat.le_refl _)]; omega, fun i hi => absurd hi (Nat.not_lt_zero i), fun a ha hm => by
    have hm : clr z g.1 a = true := hm
    rw [show clr z g.1 a = false from if_pos ha] at hm
    cases hm⟩
  obtain ⟨a1, a2, a3⟩ := rch_GI hS mS h0
  obtain ⟨b1, b2, b3⟩ := rch_GI hE mE a1
  obtain ⟨c1, c2, c3⟩ := rch_GI hC mC b1
  obtain ⟨d1, d2, d3⟩ := rch_GI hD mD c1
  obtain ⟨e1, e2, e3⟩ := rch_GI hK mK d1
  obtain ⟨r1, r2, r3⟩ := bfs_GI hA hB hM z 0 _ (by omega) e1 (fun i hi => absurd hi (Nat.not_lt_zero i))
  have eq : mrk z H T S E C D K g = bfs z H T z 0 (rch z K (rch z D (rch z C (rch z E (rch z S (clr z g.1, g.2.1, 0)))))) := rfl
  rw [← eq] at r1 r2 r3
  refine ⟨fun a ha hm => ?_, rtM_mono (b2.tr (c2.tr (d2.tr (e2.tr r2)))).1 a3, rtM_mono (c2.tr (d2.tr (e2.tr r2))).1 b3, rtM_mono (d2.tr (e2.tr r2)).1 c3, rtM_mono (e2.tr r2).1 d3, rtM_mono r2.1 e3⟩
  obtain ⟨q1, i, q2, q3⟩ := r1.2.2 a ha hm
  have := r3 i q2
  rw [q3] at this
  exact ⟨q1, this⟩
end ZKH
theorem cu_s (mk : Nat → Bool) (n : Nat) : cu mk (n + 1) = if mk n = true then cu mk n else cu mk n + 1 := by
  have e : cu mk (n + 1) = cu mk n + (if mk n = false then 1 else 0) := rfl
  rw [e]
  cases mk n with
  | true => rfl
  | false => rfl
theorem fuN_ok (mk : Nat → Bool) : ∀ (n c : Nat) (p : (Nat → Nat) × Nat), (∀ j, j < p.2 → p.1 j < c ∧ mk (p.1 j) = false) → (∀ i j, i < j → j < p.2 → p.1 i < p.1 j) → (fuN mk n c p).2 + cu mk c = p.2 + cu mk (c + n) ∧ (∀ j, j < (fuN mk n c p).2 → (fuN mk n c p).1 j < c + n ∧ mk ((fuN mk n c p).1 j) = false) ∧ (∀ i j, i < j → j < (fuN mk n c p).2 → (fuN mk n c p).1 i < (fuN mk n c p).1 j)
  | 0, c, p, h1, h2 => ⟨rfl, h1, h2⟩
  | n + 1, c, p, h1, h2 => by
    have e : fuN mk (n + 1) c p = if mk c then fuN mk n (c + 1) p else fuN mk n (c + 1) (upW p.1 p.2 c, p.2 + 1) := rfl
    rw [e]
    have hcu := cu_s mk c
    by_cases hc : mk c = true
    · rw [if_pos hc] at hcu ⊢
      obtain ⟨g1, g2, g3⟩ := fuN_ok mk n (c + 1) p (fun j hj => ⟨by have := (h1 j hj).1; omega, (h1 j hj).2⟩) h2
      rw [show c + 1 + n = c + (n + 1) by omega] at g1 g2
      exact ⟨by omega, g2, g3⟩
    · rw [if_neg hc] at hcu ⊢
      have hcf : mk c = false := by
        cases hm : mk c with
        | true => exact absurd hm hc
        | false => rfl
      obtain ⟨g1, g2, g3⟩ := fuN_ok mk n (c + 1) (upW p.1 p.2 c, p.2 + 1) (fun j hj => by
        have hj : j < p.2 + 1 := hj
        show upW p.1 p.2 c j < c + 1 ∧ mk (upW p.1 p.2 c j) = false
        by_cases ej : j = p.2
        · rw [show upW p.1 p.2 c j = c from if_pos ej]
          exact ⟨by omega, hcf⟩
        · rw [show upW p.1 p.2 c j = p.1 j from if_neg ej]
          have := h1 j (by omega)
          exact ⟨by omega, this.2⟩) (fun i j hij hj => by
        have hj : j < p.2 + 1 := hj
        show upW p.1 p.2 c i < upW p.1 p.2 c j
        rw [show upW p.1 p.2 c i = p.1 i from if_neg (by omega)]
        by_cases ej : j = p.2
        · rw [show upW p.1 p.2 c j = c from if_pos ej]
          exact (h1 i (by omega)).1
        · rw [show upW p.1 p.2 c j = p.1 j from if_neg ej]
          exact h2 i j hij (by omega))
      rw [show c + 1 + n = c + (n + 1) by omega] at g1 g2
      have g1 : (fuN mk n (c + 1) (upW p.1 p.2 c, p.2 + 1)).2 + cu mk (c + 1) = p.2 + 1 + cu mk (c + (n + 1)) := g1
      exact ⟨by omega, g2, g3⟩
theorem faN_ok : ∀ (n c : Nat) (p : (Nat → Nat) × Nat), (faN n c p).2 = p.2 + n ∧ (∀ j, j < p.2 → (faN n c p).1 j = p.1 j) ∧ (∀ j, j < n → (faN n c p).1 (p.2 + j) = c + j)
  | 0, c, p => ⟨rfl, fun _ _ => rfl, fun j hj => absurd hj (Nat.not_lt_zero j)⟩
  | n + 1, c, p => by
    have e : faN (n + 1) c p = faN n (c + 1) (upW p.1 p.2 c, p.2 + 1) := rfl
    rw [e]
    obtain ⟨g1, g2, g3⟩ := faN_ok n (c + 1) (upW p.1 p.2 c, p.2 + 1)
    have g1 : (faN n (c + 1) (upW p.1 p.2 c, p.2 + 1)).2 = p.2 + 1 + n := g1
    refine ⟨by omega, fun j hj => ?_, fun j hj => ?_⟩
    · rw [g2 j (show j < p.2 + 1 by omega)]
      exact if_neg (by omega)
    · cases j with
      | zero =>
        show (faN n (c + 1) (upW p.1 p.2 c, p.2 + 1)).1 p.2 = c
        rw [g2 p.2 (Nat.lt_succ_self _)]
        exact if_pos rfl
      | succ j =>
        have := g3 j (by omega)
        have this : (faN n (c + 1) (upW p.1 p.2 c, p.2 + 1)).1 (p.2 + 1 + j) = c + 1 + j := this
        rw [show p.2 + (j + 1) = p.2 + 1 + j by omega, this]
        omega
theorem cu_inj {ρ : Nat → Nat → Prop} {z z' : Nat} : ∀ (n : Nat) (gk gk_ : Nat → Bool), (∀ a, a < n → gk a = false → ∃ b, b < z' ∧ gk_ b = false ∧ ρ a b) → (∀ a a' b, ρ a b → ρ a' b → a = a') → cu gk n ≤ cu gk_ z'
  | 0, gk, gk_, _, _ => Nat.zero_le _
  | n + 1, gk, gk_, h, hi => by
    rw [cu_s]
    by_cases hc : gk n = true
    · rw [if_pos hc]
      exact cu_inj (z := z) n gk gk_ (fun a ha hm => h a (by omega) hm) hi
    · rw [if_neg hc]
      have hcf : gk n = false := by
        cases hm : gk n with
        | true => exact absurd hm hc
        | false => rfl
      obtain ⟨b, b1, b2, b3⟩ := h n (Nat.lt_succ_self n) hcf
      have hcu := cu_upd gk_ b b2 z' b1
      have := cu_inj (ρ := ρ) (z := z) (z' := z') n gk (upW gk_ b true) (fun a ha hm => by
        obtain ⟨b', c1, c2, c3⟩ := h a (by omega) hm
        refine ⟨b', c1, ?_, c3⟩
        show (if b' = b then true else gk_ b') = false
        rw [if_neg (fun e => by subst e; have := hi a n b' c3 b3; omega)]
        exact c2) hi
      omega
end
section
section RSM
variable {cst : Nat → Option (Nat × (Nat → Int32))} {m b0 b1 : Nat} {op : Bool} {tl : List mj_O} {Q : mj_R → Prop} {s : cS} {r : rM} {H T : Nat → Vl} {S E C D R : Vl}
set_option maxRecDepth 10000
theorem rg_ofM {M : Nat → Prop} {v : Vl} {x : Int32} (h : rg r v x) (hM : inU M v) (hz : r.z ≤ 250) (hn : ¬ x < 0) : ∃ j, j < r.z ∧ x = nI j ∧ (Ur r j ∧ M j) := by
  rcases rg_neg h hz with ⟨-, h2, -⟩ | ⟨a, rfl, h2, -, h3, -⟩
  · exact absurd h2 hn
  · exact ⟨a, h3.1, h2, h3, hM a rfl⟩
theorem swU_mk {mk : Nat → Bool} {pl : Nat → Nat} {n a : Nat} (u : Ur (swR r mk pl n) a) : mk a = true := by
  have h1 : a < r.z := u.1
  have h2 : ¬ swU r.z r.used mk a = 0 := u.2
  have e : swU r.z r.used mk a = bI (mk a) := if_pos h1
  rw [e] at h2
  cases hm : mk a with
  | true => rfl
  | false =>
    rw [hm] at h2
    exact absurd rfl h2
theorem R_reachM {M : Nat → Prop} (hMc : ∀ a, Ur r a → M a → inU M (H a) ∧ inU M (T a)) (mS : inU M S) (mE : inU M E) (mC : inU M C) (mD : inU M D) (mR : inU M R) (hX : RX r H T S E C D R) (hm : mkOK r) (hQ : ∀ c mk pl n, c ≤ 600 → (∀ a, a < r.z → mk a = true → M a) → clM r H T mk → rtM mk S → rtM mk E → rtM mk C → rtM mk D → rtM mk R → Q (.inl (some (.int (nI c))), (cW s (rW (mpR r mk pl n) tl), b0, b1, op))) : mj_Mt gT cst gnw (m + 2) y_R_reach [.ref 27] (cW s (rW r tl), b0, b1, op) Q := by
  obtain ⟨hB, x0, x1, x2, x3, x4⟩ := hX
  have hz := hB.1.2
  obtain ⟨mk, em⟩ := hm
  obtain ⟨pl, ep⟩ := eN_sur r.pile
  obtain ⟨n, en⟩ := nI_sur r.piled
  have raw2 := hB.2.2
  have hreg : ∀ i, i < 5 → ¬ r.reg i < 0 → ∃ j, j < r.z ∧ r.reg i = nI j ∧ (Ur r j ∧ M j) := by
    intro i hi hn
    match i, hi with
    | 0, _ => exact rg_ofM x0 mS hz hn
    | 1, _ => exact rg_ofM x1 mE hz hn
    | 2, _ => exact rg_ofM x2 mC hz hn
    | 3, _ => exact rg_ofM x3 mD hz hn
    | 4, _ => exact rg_ofM x4 mR hz hn
  obtain ⟨c, g', e1, e2, e3, e4⟩ := dfs_all (hk := r.headKind) (hd := r.head) (tk := r.tailKind) (tv := r.tail) (reg := r.reg) (mk := mk) (pl := pl) (M := fun a => Ur r a ∧ M a) hz (fun a ha => raw2 a (by omega)) (fun a ha ua => by
    constructor
    · intro j h3 ej hj
      obtain ⟨i, i1, i2, i4⟩ := rv_3 (hB.2.1 a ua.1).1 h3
      have : j = i := nIj (by omega) (by have := i2.1; omega) (ej.symm.trans i1)
      rw [this]
      exact ⟨i2, (hMc a ua.1 ua.2).1 i i4⟩
    · intro j h3 ej hj
      obtain ⟨i, i1, i2, i4⟩ := rv_3 (hB.2.1 a ua.1).2 h3
      have : j = i := nIj (by omega) (by have := i2.1; omega) (ej.symm.trans i1)
      rw [this]
      exact ⟨i2, (hMc a ua.1 ua.2).2 i i4⟩) hreg
  have root : ∀ (v : Vl) (i : Nat), i < 5 → rg r v (r.reg i) → rtM g'.1 v := by
    intro v i hi hv b eb
    rcases hv with ⟨rfl, -⟩ | ⟨a, rfl, h2, h3, -⟩
    · cases eb
    · cases eb
      exact e4 i b hi h2 h3.1
  have h9 := hQ c g'.1 g'.2.1 g'.2.2 e2 (fun a ha hb => (e3 a ha hb).1.2) (fun a ha hb => by
    obtain ⟨⟨ua, -⟩, d1, d2⟩ := e3 a ha hb
    refine ⟨ua, fun b eb => ?_, fun b eb => ?_⟩
    · obtain ⟨q1, q2, q3⟩ := rv_ce (hB.2.1 a ua).1 eb
      have := d1 q1
      rw [q2, nI_clamp (by have := q3.1; omega)] at this
      exact this
    · obtain ⟨q1, q2, q3⟩ := rv_ce (hB.2.1 a ua).2 eb
      have := d2 q1
      rw [q2, nI_clamp (by have := q3.1; omega)] at this
      exact this) (root S 0 (by decide) x0) (root E 1 (by decide) x1) (root C 2 (by decide) x2) (root D 3 (by decide) x3) (root R 4 (by decide) x4)
  have er : r = mpR r mk pl n := by
    have e : r = (((r.s_marked r.marked).s_pile r.pile).s_piled r.piled) := rfl
    rw [em, ep, en] at e
    exact e
  have main : mj_Mt gT cst gnw (m + 2) y_R_reach [.ref 27] (cW s (rW (mpR r mk pl n) tl), b0, b1, op) Q := by
    refine r_reach (g := (mk, pl, n)) (c := c) (g' := g') hz (fun k hk hn => ?_) (fun k hk h3 => ?_) (fun k hk h3 => ?_) e1 h9
    · obtain ⟨j, j1, j2, -⟩ := hreg k hk hn
      exact ⟨j, by omega, j2⟩
    · obtain ⟨j, j1, j2⟩ := (raw2 k hk).1 h3
      exact ⟨j, by omega, j2⟩
    · obtain ⟨j, j1, j2⟩ := (raw2 k hk).2 h3
      exact ⟨j, by omega, j2⟩
  rw [← er] at main
  exact main
theorem R_sweepM {M : Nat → Prop} (hMc : ∀ a, Ur r a → M a → inU M (H a) ∧ inU M (T a)) (mS : inU M S) (mE : inU M E) (mC : inU M C) (mD : inU M D) (mR : inU M R) (hX : RX r H T S E C D R) (hm : mkOK r) (hQ : ∀ n r', n ≤ 250 → kc r r' → mkOK r' → r'.state = r.state → r'.reg = r.reg → (r'.collections = r.collections ∧ r'.takenBack = r.takenBack ∧ r'.steps = r.steps ∧ r'.shown = r.shown ∧ r'.show_ = r.show_) → (r'.head = r.head ∧ r'.headKind = r.headKind) → RX r' H T S E C D R → (∀ a, Ur r' a → Ur r a ∧ M a) → (∀ a, Ur r' a → inU (Ur r') (H a) ∧ inU (Ur r') (T a)) → (inU (Ur r') S ∧ inU (Ur r') E ∧ inU (Ur r') C ∧ inU (Ur r') D ∧ inU (Ur r') R) → Q (.inl (some (.int (nI n))), (cW s (rW r' tl), b0, b1, op))) : mj_Mt gT cst gnw (m + 3) y_R_sweep [.ref 27] (cW s (rW r tl), b0, b1, op) Q := by
  intro J hJ
  refine hJ _ _ _ _ ?_
  refine R_reachM hMc mS mE mC mD mR hX hm (fun c mk pl n hc cM c1 t1 t2 t3 t4 t5 => ?_)
  have hz := hX.1.1.2
  obtain ⟨w1, w2, w3, w4⟩ := sw_ok (pl := pl) (n := n) hX c1 t1 t2 t3 t4 t5
  have h9 := hQ (swN r.used mk r.z 0 0) (swR r mk pl n) (by have := swN_le r.used mk r.z 0 0; omega) ⟨rfl, rfl, rfl, rfl, rfl⟩ ⟨mk, rfl⟩ rfl rfl ⟨rfl, rfl, rfl, rfl, rfl⟩ ⟨rfl, rfl⟩ w1 (fun a ua => ⟨w2 a ua, cM a ua.1 (swU_mk ua)⟩) w3 w4
  have loop := r_sweepLoop (cst := cst) (m := m + 2) (b0 := b0) (b1 := b1) (op := op) (tl := tl) (s := s) (c := c) (mk := mk) (J := J) (Q := Q) (r := mpR r mk pl n) (by omega) hz hJ h9 r.z 0 0 (by show r.z + 0 = r.z; omega) rfl
  have e0 : swU 0 (mpR r mk pl n).used mk = r.used := swU_0 _ _
  rw [e0] at loop
  exact loop
end RSM
end
