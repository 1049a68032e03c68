section ZKB
variable {k k' : Nat → Nat} {H T H' T' : Nat → Vl} {S E C D S' E' C' D' : Vl} {ρ : Nat → Nat → Prop}
theorem stp_1 : stp k H T S E C D 1 = some ([(ofV H (ofV T C), S)], none, vPr (k 0), E, ofV T (ofV T C), D) := rfl
theorem stp_2 : stp k H T S E C D 2 = (if kV (behV T ((iV (ofV H (ofV T C))).toNatClampNeg / 16) E) = 3 then (if kV (behV T ((iV (ofV H (ofV T C))).toNatClampNeg % 16) (ofV H (behV T ((iV (ofV H (ofV T C))).toNatClampNeg / 16) E))) = 3 then some ([(ofV H (behV T ((iV (ofV H (ofV T C))).toNatClampNeg % 16) (ofV H (behV T ((iV (ofV H (ofV T C))).toNatClampNeg / 16) E))), S)], none, vPr (k 0), E, ofV T (ofV T C), D) else none) else none) := rfl
theorem stp_3 : stp k H T S E C D 3 = some ([(ofV H (ofV T C), E), (vFn (k 0), S)], none, vPr (k 1), E, ofV T (ofV T C), D) := rfl
theorem stp_4 : stp k H T S E C D 4 = (if kV (ofV H S) = 4 then some ([(ofV T C, D), (E, vPr (k 0)), (ofV T (ofV T S), vPr (k 1)), (ofV H (ofV T S), ofV T (ofV H S))], none, vNil, vPr (k 3), ofV H (ofV H S), vPr (k 2)) else none) := rfl
theorem stp_5 : stp k H T S E C D 5 = some ([(ofV H S, ofV H D)], none, vPr (k 0), ofV H (ofV T D), ofV H (ofV T (ofV T D)), ofV T (ofV T (ofV T D))) := rfl
theorem stp_6 : stp k H T S E C D 6 = some ([(vNil, E)], none, S, vPr (k 0), ofV T C, D) := rfl
theorem stp_7 : stp k H T S E C D 7 = (if kV (ofV H S) = 4 then some ([(ofV T C, D), (ofV T E, vPr (k 0)), (ofV T (ofV T S), vPr (k 1))], some (ofV T (ofV H S), ofV H (ofV T S)), vNil, ofV T (ofV H S), ofV H (ofV H S), vPr (k 2)) else none) := rfl
theorem stp_8 : stp k H T S E C D 8 = (if kV (ofV H S) = 1 then some ([(ofV T (ofV T (ofV T C)), D)], none, ofV T S, E, if iV (ofV H S) = 0 then ofV H (ofV T (ofV T C)) else ofV H (ofV T C), vPr (k 0)) else none) := rfl
theorem stp_9 : stp k H T S E C D 9 = some ([], none, S, E, ofV H D, ofV T D) := rfl
theorem stp_10 : stp k H T S E C D 10 = (if kV (ofV H S) = 3 then some ([(ofV H (ofV H S), ofV T S)], none, vPr (k 0), E, ofV T C, D) else none) := rfl
theorem stp_11 : stp k H T S E C D 11 = (if kV (ofV H S) = 3 then some ([(ofV T (ofV H S), ofV T S)], none, vPr (k 0), E, ofV T C, D) else none) := rfl
theorem stp_12 : stp k H T S E C D 12 = some ([(vInt (if kV (ofV H S) = 3 then 0 else 1), ofV T S)], none, vPr (k 0), E, ofV T C, D) := rfl
theorem stp_13 : stp k H T S E C D 13 = some ([(ofV H S, ofV H (ofV T S)), (vPr (k 0), ofV T (ofV T S))], none, vPr (k 1), E, ofV T C, D) := rfl
theorem stp_14 : stp k H T S E C D 14 = some ([(vInt (if smV (ofV H (ofV T S)) (ofV H S) = true then 1 else 0), ofV T (ofV T S))], none, vPr (k 0), E, ofV T C, D) := rfl
theorem stp_15 : stp k H T S E C D 15 = (if kV (ofV H (ofV T S)) = 1 ∧ kV (ofV H S) = 1 then some ([(vInt (calV 15 (iV (ofV H (ofV T S))) (iV (ofV H S))), ofV T (ofV T S))], none, vPr (k 0), E, ofV T C, D) else none) := rfl
theorem stp_16 : stp k H T S E C D 16 = (if kV (ofV H (ofV T S)) = 1 ∧ kV (ofV H S) = 1 then some ([(vInt (calV 16 (iV (ofV H (ofV T S))) (iV (ofV H S))), ofV T (ofV T S))], none, vPr (k 0), E, ofV T C, D) else none) := rfl
theorem stp_17 : stp k H T S E C D 17 = (if kV (ofV H (ofV T S)) = 1 ∧ kV (ofV H S) = 1 then some ([(vInt (calV 17 (iV (ofV H (ofV T S))) (iV (ofV H S))), ofV T (ofV T S))], none, vPr (k 0), E, ofV T C, D) else none) := rfl
theorem stp_18 : stp k H T S E C D 18 = (if kV (ofV H (ofV T S)) = 1 ∧ kV (ofV H S) = 1 then some ([(vInt (calV 18 (iV (ofV H (ofV T S))) (iV (ofV H S))), ofV T (ofV T S))], none, vPr (k 0), E, ofV T C, D) else none) := rfl
def F2V (ρ : Nat → Nat → Prop) : List (Vl × Vl) → List (Vl × Vl) → Prop
  | [], [] => True
  | x :: l, y :: l' => (VR ρ x.1 y.1 ∧ VR ρ x.2 y.2) ∧ F2V ρ l l'
  | [], _ :: _ => False
  | _ :: _, [] => False
theorem F2V_len {ρ : Nat → Nat → Prop} : ∀ {l l' : List (Vl × Vl)}, F2V ρ l l' → l.length = l'.length
  | [], [], _ => rfl
  | _ :: _, _ :: _, h => congrArg (· + 1) (F2V_len h.2)
  | [], _ :: _, h => absurd h id
  | _ :: _, [], h => absurd h id
theorem F2V_at {ρ : Nat → Nat → Prop} : ∀ {l l' : List (Vl × Vl)} (i : Nat) (x x' : Vl × Vl), F2V ρ l l' → l[i]? = some x → l'[i]? = some x' → VR ρ x.1 x'.1 ∧ VR ρ x.2 x'.2
  | [], [], i, x, x', _, h, _ => by cases h
  | _ :: _, _ :: _, 0, x, x', h, h1, h2 => by
    cases h1
    cases h2
    exact h.1
  | _ :: _, _ :: _, i + 1, x, x', h, h1, h2 => F2V_at i x x' h.2 h1 h2
  | [], _ :: _, _, _, _, h, _, _ => absurd h id
  | _ :: _, [], _, _, _, h, _, _ => absurd h id
def SB (ρ : Nat → Nat → Prop) (k k' : Nat → Nat) (n : Nat) (H T H' T' : Nat → Vl) : Option StpT → Option StpT → Prop
  | none, none => True
  | some (al, sh, s1, e1, c1, d1), some (al', sh', s2, e2, c2, d2) => (al.length = n ∧ al'.length = n) ∧ BH (exR ρ k k' n) (stH sh (alH k 0 al H)) (alT k 0 al T) (stH sh' (alH k' 0 al' H')) (alT k' 0 al' T') ∧ VR (exR ρ k k' n) s1 s2 ∧ VR (exR ρ k k' n) e1 e2 ∧ VR (exR ρ k k' n) c1 c2 ∧ VR (exR ρ k k' n) d1 d2
  | none, some _ => False
  | some _, none => False
theorem SB_some {n : Nat} {al al' : List (Vl × Vl)} {s1 e1 c1 d1 s2 e2 c2 d2 : Vl} (hB : BH ρ H T H' T') (hF : FRS ρ k k' n) (hn : al.length = n) (hv : F2V (exR ρ k k' n) al al') (q1 : VR (exR ρ k k' n) s1 s2) (q2 : VR (exR ρ k k' n) e1 e2) (q3 : VR (exR ρ k k' n) c1 c2) (q4 : VR (exR ρ k k' n) d1 d2) : SB ρ k k' n H T H' T' (some (al, none, s1, e1, c1, d1)) (some (al', none, s2, e2, c2, d2)) := by
  subst hn
  have hl := F2V_len hv
  exact ⟨⟨rfl, hl.symm⟩, BH_al hB hF hl (fun i x x' h h' => F2V_at i x x' hv h h'), q1, q2, q3, q4⟩
theorem SB_set {n : Nat} {al al' : List (Vl × Vl)} {x y x' y' s1 e1 c1 d1 s2 e2 c2 d2 : Vl} (hI : FI ρ) (hB : BH ρ H T H' T') (hF : FRS ρ k k' n) (hn : al.length = n) (hv : F2V (exR ρ k k' n) al al') (p1 : VR (exR ρ k k' n) x x') (p2 : VR (exR ρ k k' n) y y') (q1 : VR (exR ρ k k' n) s1 s2) (q2 : VR (exR ρ k k' n) e1 e2) (q3 : VR (exR ρ k k' n) c1 c2) (q4 : VR (exR ρ k k' n) d1 d2) : SB ρ k k' n H T H' T' (some (al, some (x, y), s1, e1, c1, d1)) (some (al', some (x', y'), s2, e2, c2, d2)) := by
  have hFI := FI_ex hI hF
  subst hn
  have hl := F2V_len hv
  exact ⟨⟨rfl, hl.symm⟩, BH_st hFI (BH_al hB hF hl (fun i x x' h h' => F2V_at i x x' hv h h')) p1 p2, q1, q2, q3, q4⟩
theorem SB_if {n : Nat} {P P' : Prop} {iP : Decidable P} {iP' : Decidable P'} {x y : Option StpT} (h : P ↔ P') (hs : P → P' → SB ρ k k' n H T H' T' x y) : SB ρ k k' n H T H' T' (if P then x else none) (if P' then y else none) := by
  by_cases hp : P
  · rw [if_pos hp, if_pos (h.mp hp)]
    exact hs hp (h.mp hp)
  · rw [if_neg hp, if_neg (fun q => hp (h.mpr q))]
    exact trivial
theorem VR_new {n j : Nat} (h : j < n) : VR (exR ρ k k' n) (vPr (k j)) (vPr (k' j)) := Or.inr ⟨j, h, rfl, rfl⟩
theorem VR_newF {n j : Nat} (h : j < n) : VR (exR ρ k k' n) (vFn (k j)) (vFn (k' j)) := Or.inr ⟨j, h, rfl, rfl⟩
theorem VR_up {n : Nat} {v w : Vl} (h : VR ρ v w) : VR (exR ρ k k' n) v w := VR_mono (fun _ _ => Or.inl) v w h

theorem SB_1 (hI : FI ρ) (hB : BH ρ H T H' T') (qS : VR ρ S S') (qE : VR ρ E E') (qC : VR ρ C C') (qD : VR ρ D D') (hF : FRS ρ k k' (ndI 1)) : SB ρ k k' (ndI 1) H T H' T' (stp k H T S E C D 1) (stp k' H' T' S' E' C' D' 1) := by
  rw [stp_1, stp_1]
  exact SB_some hB hF rfl ⟨⟨VR_up (VR_H hB (VR_T hB qC)), VR_up qS⟩, trivial⟩ (VR_new (by decide)) (VR_up qE) (VR_up (VR_T hB (VR_T hB qC))) (VR_up qD)
theorem SB_2 (hI : FI ρ) (hB : BH ρ H T H' T') (qS : VR ρ S S') (qE : VR ρ E E') (qC : VR ρ C C') (qD : VR ρ D D') (hF : FRS ρ k k' (ndI 2)) : SB ρ k k' (ndI 2) H T H' T' (stp k H T S E C D 2) (stp k' H' T' S' E' C' D' 2) := by
  rw [stp_2, stp_2]
  have en : iV (ofV H (ofV T C)) = iV (ofV H' (ofV T' C')) := VR_i (VR_H hB (VR_T hB qC))
  rw [← en]
  have wf := VR_beh hB ((iV (ofV H (ofV T C))).toNatClampNeg / 16) _ _ qE
  have wv := VR_beh hB ((iV (ofV H (ofV T C))).toNatClampNeg % 16) _ _ (VR_H hB wf)
  refine SB_if (by rw [VR_k wf]) (fun _ _ => ?_)
  refine SB_if (by rw [VR_k wv]) (fun _ _ => ?_)
  exact SB_some hB hF rfl ⟨⟨VR_up (VR_H hB wv), VR_up qS⟩, trivial⟩ (VR_new (by decide)) (VR_up qE) (VR_up (VR_T hB (VR_T hB qC))) (VR_up qD)
theorem SB_3 (hI : FI ρ) (hB : BH ρ H T H' T') (qS : VR ρ S S') (qE : VR ρ E E') (qC : VR ρ C C') (qD : VR ρ D D') (hF : FRS ρ k k' (ndI 3)) : SB ρ k k' (ndI 3) H T H' T' (stp k H T S E C D 3) (stp k' H' T' S' E' C' D' 3) := by
  rw [stp_3, stp_3]
  exact SB_some hB hF rfl ⟨⟨VR_up (VR_H hB (VR_T hB qC)), VR_up qE⟩, ⟨VR_newF (by decide), VR_up qS⟩, trivial⟩ (VR_new (by decide)) (VR_up qE) (VR_up (VR_T hB (VR_T hB qC))) (VR_up qD)
theorem SB_4 (hI : FI ρ) (hB : BH ρ H T H' T') (qS : VR ρ S S') (qE : VR ρ E E') (qC : VR ρ C C') (qD : VR ρ D D') (hF : FRS ρ k k' (ndI 4)) : SB ρ k k' (ndI 4) H T H' T' (stp k H T S E C D 4) (stp k' H' T' S' E' C' D' 4) := by
  rw [stp_4, stp_4]
  refine SB_if (by rw [VR_k (VR_H hB qS)]) (fun _ _ => ?_)
  exact SB_some hB hF rfl ⟨⟨VR_up (VR_T hB qC), VR_up qD⟩, ⟨VR_up qE, VR_new (by decide)⟩, ⟨VR_up (VR_T hB (VR_T hB qS)), VR_new (by decide)⟩, ⟨VR_up (VR_H hB (VR_T hB qS)), VR_up (VR_T hB (VR_H hB qS))⟩, trivial⟩ (VR_up (show VR ρ vNil vNil from trivial)) (VR_new (by decide)) (VR_up (VR_H hB (VR_H hB qS))) (VR_new (by decide))
theorem SB_5 (hI : FI ρ) (hB : BH ρ H T H' T') (qS : VR ρ S S') (qE : VR ρ E E') (qC : VR ρ C C') (qD : VR ρ D D') (hF : FRS ρ k k' (ndI 5)) : SB ρ k k' (ndI 5) H T H' T' (stp k H T S E C D 5) (stp k' H' T' S' E' C' D' 5) := by
  rw [stp_5, stp_5]
  exact SB_some hB hF rfl ⟨⟨VR_up (VR_H hB qS), VR_up (VR_H hB qD)⟩, trivial⟩ (VR_new (by decide)) (VR_up (VR_H hB (VR_T hB qD))) (VR_up (VR_H hB (VR_T hB (VR_T hB qD)))) (VR_up (VR_T hB (VR_T hB (VR_T hB qD))))
theorem SB_6 (hI : FI ρ) (hB : BH ρ H T H' T') (qS : VR ρ S S') (qE : VR ρ E E') (qC : VR ρ C C') (qD : VR ρ D D') (hF : FRS ρ k k' (ndI 6)) : SB ρ k k' (ndI 6) H T H' T' (stp k H T S E C D 6) (stp k' H' T' S' E' C' D' 6) := by
  rw [stp_6, stp_6]
  exact SB_some hB hF rfl ⟨⟨VR_up (show VR ρ vNil vNil from trivial), VR_up qE⟩, trivial⟩ (VR_up qS) (VR_new (by decide)) (VR_up (VR_T hB qC)) (VR_up qD)
theorem SB_7 (hI : FI ρ) (hB : BH ρ H T H' T') (qS : VR ρ S S') (qE : VR ρ E E') (qC : VR ρ C C') (qD : VR ρ D D') (hF : FRS ρ k k' (ndI 7)) : SB ρ k k' (ndI 7) H T H' T' (stp k H T S E C D 7) (stp k' H' T' S' E' C' D' 7) := by
  rw [stp_7, stp_7]
  refine SB_if (by rw [VR_k (VR_H hB qS)]) (fun _ _ => ?_)
  exact SB_set hI hB hF rfl ⟨⟨VR_up (VR_T hB qC), VR_up qD⟩, ⟨VR_up (VR_T hB qE), VR_new (by decide)⟩, ⟨VR_up (VR_T hB (VR_T hB qS)), VR_new (by decide)⟩, trivial⟩ (VR_up (VR_T hB (VR_H hB qS))) (VR_up (VR_H hB (VR_T hB qS))) (VR_up (show VR ρ vNil vNil from trivial)) (VR_up (VR_T hB (VR_H hB qS))) (VR_up (VR_H hB (VR_H hB qS))) (VR_new (by decide))
theorem SB_8 (hI : FI ρ) (hB : BH ρ H T H' T') (qS : VR ρ S S') (qE : VR ρ E E') (qC : VR ρ C C') (qD : VR ρ D D') (hF : FRS ρ k k' (ndI 8)) : SB ρ k k' (ndI 8) H T H' T' (stp k H T S E C D 8) (stp k' H' T' S' E' C' D' 8) := by
  rw [stp_8, stp_8]
  refine SB_if (by rw [VR_k (VR_H hB qS)]) (fun _ _ => ?_)
  exact SB_some hB hF rfl ⟨⟨VR_up (VR_T hB (VR_T hB (VR_T hB qC))), VR_up qD⟩, trivial⟩ (VR_up (VR_T hB qS)) (VR_up qE) (VR_up (show VR ρ (if iV (ofV H S) = 0 then ofV H (ofV T (ofV T C)) else ofV H (ofV T C)) (if iV (ofV H' S') = 0 then ofV H' (ofV T' (ofV T' C')) else ofV H' (ofV T' C')) by rw [← VR_i (VR_H hB qS)]; split; exact VR_H hB (VR_T hB (VR_T hB qC)); exact VR_H hB (VR_T hB qC))) (VR_new (by decide))
theorem SB_9 (hI : FI ρ) (hB : BH ρ H T H' T') (qS : VR ρ S S') (qE : VR ρ E E') (qC : VR ρ C C') (qD : VR ρ D D') (hF : FRS ρ k k' (ndI 9)) : SB ρ k k' (ndI 9) H T H' T' (stp k H T S E C D 9) (stp k' H' T' S' E' C' D' 9) := by
  rw [stp_9, stp_9]
  exact SB_some hB hF rfl trivial (VR_up qS) (VR_up qE) (VR_up (VR_H hB qD)) (VR_up (VR_T hB qD))
theorem SB_10 (hI : FI ρ) (hB : BH ρ H T H' T') (qS : VR ρ S S') (qE : VR ρ E E') (qC : VR ρ C C') (qD : VR ρ D D') (hF : FRS ρ k k' (ndI 10)) : SB ρ k k' (ndI 10) H T H' T' (stp k H T S E C D 10) (stp k' H' T' S' E' C' D' 10) := by
  rw [stp_10, stp_10]
  refine SB_if (by rw [VR_k (VR_H hB qS)]) (fun _ _ => ?_)
  exact SB_some hB hF rfl ⟨⟨VR_up (VR_H hB (VR_H hB qS)), VR_up (VR_T hB qS)⟩, trivial⟩ (VR_new (by decide)) (VR_up qE) (VR_up (VR_T hB qC)) (VR_up qD)
theorem SB_11 (hI : FI ρ) (hB : BH ρ H T H' T') (qS : VR ρ S S') (qE : VR ρ E E') (qC : VR ρ C C') (qD : VR ρ D D') (hF : FRS ρ k k' (ndI 11)) : SB ρ k k' (ndI 11) H T H' T' (stp k H T S E C D 11) (stp k' H' T' S' E' C' D' 11) := by
  rw [stp_11, stp_11]
  refine SB_if (by rw [VR_k (VR_H hB qS)]) (fun _ _ => ?_)
  exact SB_some hB hF rfl ⟨⟨VR_up (VR_T hB (VR_H hB qS)), VR_up (VR_T hB qS)⟩, trivial⟩ (VR_new (by decide)) (VR_up qE) (VR_up (VR_T hB qC)) (VR_up qD)
theorem SB_12 (hI : FI ρ) (hB : BH ρ H T H' T') (qS : VR ρ S S') (qE : VR ρ E E') (qC : VR ρ C C') (qD : VR ρ D D') (hF : FRS ρ k k' (ndI 12)) : SB ρ k k' (ndI 12) H T H' T' (stp k H T S E C D 12) (stp k' H' T' S' E' C' D' 12) := by
  rw [stp_12, stp_12]
  exact SB_some hB hF rfl ⟨⟨VR_up (show (if kV (ofV H S) = 3 then (0 : Int32) else 1) = (if kV (ofV H' S') = 3 then 0 else 1) by rw [VR_k (VR_H hB qS)]), VR_up (VR_T hB qS)⟩, trivial⟩ (VR_new (by decide)) (VR_up qE) (VR_up (VR_T hB qC)) (VR_up qD)
theorem SB_13 (hI : FI ρ) (hB : BH ρ H T H' T') (qS : VR ρ S S') (qE : VR ρ E E') (qC : VR ρ C C') (qD : VR ρ D D') (hF : FRS ρ k k' (ndI 13)) : SB ρ k k' (ndI 13) H T H' T' (stp k H T S E C D 13) (stp k' H' T' S' E' C' D' 13) := by
  rw [stp_13, stp_13]
  exact SB_some hB hF rfl ⟨⟨VR_up (VR_H hB qS), VR_up (VR_H hB (VR_T hB qS))⟩, ⟨VR_new (by decide), VR_up (VR_T hB (VR_T hB qS))⟩, trivial⟩ (VR_new (by decide)) (VR_up qE) (VR_up (VR_T hB qC)) (VR_up qD)
theorem SB_14 (hI : FI ρ) (hB : BH ρ H T H' T') (qS : VR ρ S S') (qE : VR ρ E E') (qC : VR ρ C C') (qD : VR ρ D D') (hF : FRS ρ k k' (ndI 14)) : SB ρ k k' (ndI 14) H T H' T' (stp k H T S E C D 14) (stp k' H' T' S' E' C' D' 14) := by
  rw [stp_14, stp_14]
  exact SB_some hB hF rfl ⟨⟨VR_up (show (if smV (ofV H (ofV T S)) (ofV H S) = true then (1 : Int32) else 0) = (if smV (ofV H' (ofV T' S')) (ofV H' S') = true then 1 else 0) by rw [VR_sm hI (VR_H hB (VR_T hB qS)) (VR_H hB qS)]), VR_up (VR_T hB (VR_T hB qS))⟩, trivial⟩ (VR_new (by decide)) (VR_up qE) (VR_up (VR_T hB qC)) (VR_up qD)
theorem SB_15 (hI : FI ρ) (hB : BH ρ H T H' T') (qS : VR ρ S S') (qE : VR ρ E E') (qC : VR ρ C C') (qD : VR ρ D D') (hF : FRS ρ k k' (ndI 15)) : SB ρ k k' (ndI 15) H T H' T' (stp k H T S E C D 15) (stp k' H' T' S' E' C' D' 15) := by
  rw [stp_15, stp_15]
  refine SB_if (by rw [VR_k (VR_H hB (VR_T hB qS)), VR_k (VR_H hB qS)]) (fun _ _ => ?_)
  exact SB_some hB hF rfl ⟨⟨VR_up (show calV 15 (iV (ofV H (ofV T S))) (iV (ofV H S)) = calV 15 (iV (ofV H' (ofV T' S'))) (iV (ofV H' S')) by rw [VR_i (VR_H hB (VR_T hB qS)), VR_i (VR_H hB qS)]), VR_up (VR_T hB (VR_T hB qS))⟩, trivial⟩ (VR_new (by decide)) (VR_up qE) (VR_up (VR_T hB qC)) (VR_up qD)
theorem SB_16 (hI : FI ρ) (hB : BH ρ H T H' T') (qS : VR ρ S S') (qE : VR ρ E E') (qC : VR ρ C C') (qD : VR ρ D D') (hF : FRS ρ k k' (ndI 16)) : SB ρ k k' (ndI 16) H T H' T' (stp k H T S E C D 16) (stp k' H' T' S' E' C' D' 16) := by
  rw [stp_16, stp_16]
  refine SB_if (by rw [VR_k (VR_H hB (VR_T hB qS)), VR_k (VR_H hB qS)]) (fun _ _ => ?_)
  exact SB_some hB hF rfl ⟨⟨VR_up (show calV 16 (iV (ofV H (ofV T S))) (iV (ofV H S)) = calV 16 (iV (ofV H' (ofV T' S'))) (iV (ofV H' S')) by rw [VR_i (VR_H hB (VR_T hB qS)), VR_i (VR_H hB qS)]), VR_up (VR_T hB (VR_T hB qS))⟩, trivial⟩ (VR_new (by decide)) (VR_up qE) (VR_up (VR_T hB qC)) (VR_up qD)
theorem SB_17 (hI : FI ρ) (hB : BH ρ H T H' T') (qS : VR ρ S S') (qE : VR ρ E E') (qC : VR ρ C C') (qD : VR ρ D D') (hF : FRS ρ k k' (ndI 17)) : SB ρ k k' (ndI 17) H T H' T' (stp k H T S E C D 17) (stp k' H' T' S' E' C' D' 17) := by
  rw [stp_17, stp_17]
  refine SB_if (by rw [VR_k (VR_H hB (VR_T hB qS)), VR_k (VR_H hB qS)]) (fun _ _ => ?_)
  exact SB_some hB hF rfl ⟨⟨VR_up (show calV 17 (iV (ofV H (ofV T S))) (iV (ofV H S)) = calV 17 (iV (ofV H' (ofV T' S'))) (iV (ofV H' S')) by rw [VR_i (VR_H hB (VR_T hB qS)), VR_i (VR_H hB qS)]), VR_up (VR_T hB (VR_T hB qS))⟩, trivial⟩ (VR_new (by decide)) (VR_up qE) (VR_up (VR_T hB qC)) (VR_up qD)
theorem SB_18 (hI : FI ρ) (hB : BH ρ H T H' T') (qS : VR ρ S S') (qE : VR ρ E E') (qC : VR ρ C C') (qD : VR ρ D D') (hF : FRS ρ k k' (ndI 18)) : SB ρ k k' (ndI 18) H T H' T' (stp k H T S E C D 18) (stp k' H' T' S' E' C' D' 18) := by
  rw [stp_18, stp_18]
  refine SB_if (by rw [VR_k (VR_H hB (VR_T hB qS)), VR_k (VR_H hB qS)]) (fun _ _ => ?_)
  exact SB_some hB hF rfl ⟨⟨VR_up (show calV 18 (iV (ofV H (ofV T S))) (iV (ofV H S)) = calV 18 (iV (ofV H' (ofV T' S'))) (iV (ofV H' S')) by rw [VR_i (VR_H hB (VR_T hB qS)), VR_i (VR_H hB qS)]), VR_up (VR_T hB (VR_T hB qS))⟩, trivial⟩ (VR_new (by decide)) (VR_up qE) (VR_up (VR_T hB qC)) (VR_up qD)
theorem SN_if {α : Type} {P P' : Prop} {iP : Decidable P} {iP' : Decidable P'} {x y : α} (h : P ↔ P') : ((if P then some x else none) = none ↔ (if P' then some y else none) = none) := by
  by_cases hp : P
  · rw [if_pos hp, if_pos (h.mp hp)]
    exact ⟨fun q => (by cases q), fun q => (by cases q)⟩
  · rw [if_neg hp, if_neg (fun q => hp (h.mpr q))]

theorem SN_1 (hI : FI ρ) (hB : BH ρ H T H' T') (qS : VR ρ S S') (qE : VR ρ E E') (qC : VR ρ C C') (qD : VR ρ D D') : (stp k H T S E C D 1 = none ↔ stp k' H' T' S' E' C' D' 1 = none) := by
  rw [stp_1, stp_1]
  exact ⟨fun q => (by cases q), fun q => (by cases q)⟩
theorem SN_2 (hI : FI ρ) (hB : BH ρ H T H' T') (qS : VR ρ S S') (qE : VR ρ E E') (qC : VR ρ C C') (qD : VR ρ D D') : (stp k H T S E C D 2 = none ↔ stp k' H' T' S' E' C' D' 2 = none) := by
  rw [stp_2, stp_2]
  have en : iV (ofV H (ofV T C)) = iV (ofV H' (ofV T' C')) := VR_i (VR_H hB (VR_T hB qC))
  rw [← en]
  have wf := VR_beh hB ((iV (ofV H (ofV T C))).toNatClampNeg / 16) _ _ qE
  have wv := VR_beh hB ((iV (ofV H (ofV T C))).toNatClampNeg % 16) _ _ (VR_H hB wf)
  by_cases h1 : kV (behV T ((iV (ofV H (ofV T C))).toNatClampNeg / 16) E) = 3
  · rw [if_pos h1, if_pos ((VR_k wf).symm.trans h1)]
    have ek := VR_k wv
    exact SN_if ⟨fun q => ek.symm.trans q, fun q => ek.trans q⟩
  · rw [if_neg h1, if_neg (fun q => h1 ((VR_k wf).trans q))]
theorem SN_3 (hI : FI ρ) (hB : BH ρ H T H' T') (qS : VR ρ S S') (qE : VR ρ E E') (qC : VR ρ C C') (qD : VR ρ D D') : (stp k H T S E C D 3 = none ↔ stp k' H' T' S' E' C' D' 3 = none) := by
  rw [stp_3, stp_3]
  exact ⟨fun q => (by cases q), fun q => (by cases q)⟩
theorem SN_4 (hI : FI ρ) (hB : BH ρ H T H' T') (qS : VR ρ S S') (qE : VR ρ E E') (qC : VR ρ C C') (qD : VR ρ D D') : (stp k H T S E C D 4 = none ↔ stp k' H' T' S' E' C' D' 4 = none) := by
  rw [stp_4, stp_4]
  exact SN_if (by rw [VR_k (VR_H hB qS)])
theorem SN_5 (hI : FI ρ) (hB : BH ρ H T H' T') (qS : VR ρ S S') (qE : VR ρ E E') (qC : VR ρ C C') (qD : VR ρ D D') : (stp k H T S E C D 5 = none ↔ stp k' H' T' S' E' C' D' 5 = none) := by
  rw [stp_5, stp_5]
  exact ⟨fun q => (by cases q), fun q => (by cases q)⟩
theorem SN_6 (hI : FI ρ) (hB : BH ρ H T H' T') (qS : VR ρ S S') (qE : VR ρ E E') (qC : VR ρ C C') (qD : VR ρ D D') : (stp k H T S E C D 6 = none ↔ stp k' H' T' S' E' C' D' 6 = none) := by
  rw [stp_6, stp_6]
  exact ⟨fun q => (by cases q), fun q => (by cases q)⟩
theorem SN_7 (hI : FI ρ) (hB : BH ρ H T H' T') (qS : VR ρ S S') (qE : VR ρ E E') (qC : VR ρ C C') (qD : VR ρ D D') : (stp k H T S E C D 7 = none ↔ stp k' H' T' S' E' C' D' 7 = none) := by
  rw [stp_7, stp_7]
  exact SN_if (by rw [VR_k (VR_H hB qS)])
theorem SN_8 (hI : FI ρ) (hB : BH ρ H T H' T') (qS : VR ρ S S') (qE : VR ρ E E') (qC : VR ρ C C') (qD : VR ρ D D') : (stp k H T S E C D 8 = none ↔ stp k' H' T' S' E' C' D' 8 = none) := by
  rw [stp_8, stp_8]
  exact SN_if (by rw [VR_k (VR_H hB qS)])
theorem SN_9 (hI : FI ρ) (hB : BH ρ H T H' T') (qS : VR ρ S S') (qE : VR ρ E E') (qC : VR ρ C C') (qD : VR ρ D D') : (stp k H T S E C D 9 = none ↔ stp k' H' T' S' E' C' D' 9 = none) := by
  rw [stp_9, stp_9]
  exact ⟨fun q => (by cases q), fun q => (by cases q)⟩
theorem SN_10 (hI : FI ρ) (hB : BH ρ H T H' T') (qS : VR ρ S S') (qE : VR ρ E E') (qC : VR ρ C C') (qD : VR ρ D D') : (stp k H T S E C D 10 = none ↔ stp k' H' T' S' E' C' D' 10 = none) := by
  rw [stp_10, stp_10]
  exact SN_if (by rw [VR_k (VR_H hB qS)])
theorem SN_11 (hI : FI ρ) (hB : BH ρ H T H' T') (qS : VR ρ S S') (qE : VR ρ E E') (qC : VR ρ C C') (qD : VR ρ D D') : (stp k H T S E C D 11 = none ↔ stp k' H' T' S' E' C' D' 11 = none) := by
  rw [stp_11, stp_11]
  exact SN_if (by rw [VR_k (VR_H hB qS)])
theorem SN_12 (hI : FI ρ) (hB : BH ρ H T H' T') (qS : VR ρ S S') (qE : VR ρ E E') (qC : VR ρ C C') (qD : VR ρ D D') : (stp k H T S E C D 12 = none ↔ stp k' H' T' S' E' C' D' 12 = none) := by
  rw [stp_12, stp_12]
  exact ⟨fun q => (by cases q), fun q => (by cases q)⟩
theorem SN_13 (hI : FI ρ) (hB : BH ρ H T H' T') (qS : VR ρ S S') (qE : VR ρ E E') (qC : VR ρ C C') (qD : VR ρ D D') : (stp k H T S E C D 13 = none ↔ stp k' H' T' S' E' C' D' 13 = none) := by
  rw [stp_13, stp_13]
  exact ⟨fun q => (by cases q), fun q => (by cases q)⟩
theorem SN_14 (hI : FI ρ) (hB : BH ρ H T H' T') (qS : VR ρ S S') (qE : VR ρ E E') (qC : VR ρ C C') (qD : VR ρ D D') : (stp k H T S E C D 14 = none ↔ stp k' H' T' S' E' C' D' 14 = none) := by
  rw [stp_14, stp_14]
  exact ⟨fun q => (by cases q), fun q => (by cases q)⟩
theorem SN_15 (hI : FI ρ) (hB : BH ρ H T H' T') (qS : VR ρ S S') (qE : VR ρ E E') (qC : VR ρ C C') (qD : VR ρ D D') : (stp k H T S E C D 15 = none ↔ stp k' H' T' S' E' C' D' 15 = none) := by
  rw [stp_15, stp_15]
  exact SN_if (by rw [VR_k (VR_H hB (VR_T hB qS)), VR_k (VR_H hB qS)])
theorem SN_16 (hI : FI ρ) (hB : BH ρ H T H' T') (qS : VR ρ S S') (qE : VR ρ E E') (qC : VR ρ C C') (qD : VR ρ D D') : (stp k H T S E C D 16 = none ↔ stp k' H' T' S' E' C' D' 16 = none) := by
  rw [stp_16, stp_16]
  exact SN_if (by rw [VR_k (VR_H hB (VR_T hB qS)), VR_k (VR_H hB qS)])
theorem SN_17 (hI : FI ρ) (hB : BH ρ H T H' T') (qS : VR ρ S S') (qE : VR ρ E E') (qC : VR ρ C C') (qD : VR ρ D D') : (stp k H T S E C D 17 = none ↔ stp k' H' T' S' E' C' D' 17 = none) := by
  rw [stp_17, stp_17]
  exact SN_if (by rw [VR_k (VR_H hB (VR_T hB qS)), VR_k (VR_H hB qS)])
theorem SN_18 (hI : FI ρ) (hB : BH ρ H T H' T') (qS : VR ρ S S') (qE : VR ρ E E') (qC : VR ρ C C') (qD : VR ρ D D') : (stp k H T S E C D 18 = none ↔ stp k' H' T' S' E' C' D' 18 = none) := by
  rw [stp_18, stp_18]
  exact SN_if (by rw [VR_k (VR_H hB (VR_T hB qS)), VR_k (VR_H hB qS)])
theorem SN_all {x : Int32} (hx : 1 ≤ x ∧ x ≤ 18) (hI : FI ρ) (hB : BH ρ H T H' T') (qS : VR ρ S S') (qE : VR ρ E E') (qC : VR ρ C C') (qD : VR ρ D D') : (stp k H T S E C D x = none ↔ stp k' H' T' S' E' C' D' x = none) := by
  obtain ⟨h1, h2⟩ := hx
  obtain ⟨j, hj, rfl⟩ := nI_of (Int32.not_lt.mpr (Int32.le_trans (by decide : (0 : Int32) ≤ 1) h1))
  have g1 : 1 ≤ j := (nI_leI (a := 1) (by decide) hj).mp h1
  have g2 : j ≤ 18 := (nI_leI (b := 18) hj (by decide)).mp h2
  have : j = 1 ∨ j = 2 ∨ j = 3 ∨ j = 4 ∨ j = 5 ∨ j = 6 ∨ j = 7 ∨ j = 8 ∨ j = 9 ∨ j = 10 ∨ j = 11 ∨ j = 12 ∨ j = 13 ∨ j = 14 ∨ j = 15 ∨ j = 16 ∨ j = 17 ∨ j = 18 := by omega
  rcases this with rfl | rfl | rfl | rfl | rfl | rfl | rfl | rfl | rfl | rfl | rfl | rfl | rfl | rfl | rfl | rfl | rfl | rfl
  · exact SN_1 hI hB qS qE qC qD
  · exact SN_2 hI hB qS qE qC qD
  · exact SN_3 hI hB qS qE qC qD
  · exact SN_4 hI hB qS qE qC qD
  · exact SN_5 hI hB qS qE qC qD
  · exact SN_6 hI hB qS qE qC qD
  · exact SN_7 hI hB qS qE qC qD
  · exact SN_8 hI hB qS qE qC qD
  · exact SN_9 hI hB qS qE qC qD
  · exact SN_10 hI hB qS qE qC qD
  · exact SN_11 hI hB qS qE qC qD
  · exact SN_12 hI hB qS qE qC qD
  · exact SN_13 hI hB qS qE qC qD
  · exact SN_14 hI hB qS qE qC qD
  · exact SN_15 hI hB qS qE qC qD
  · exact SN_16 hI hB qS qE qC qD
  · exact SN_17 hI hB qS qE qC qD
  · exact SN_18 hI hB qS qE qC qD
theorem SB_all {x : Int32} (hx : 1 ≤ x ∧ x ≤ 18) (hI : FI ρ) (hB : BH ρ H T H' T') (qS : VR ρ S S') (qE : VR ρ E E') (qC : VR ρ C C') (qD : VR ρ D D') (hF : FRS ρ k k' (ndI x)) : SB ρ k k' (ndI x) H T H' T' (stp k H T S E C D x) (stp k' H' T' S' E' C' D' x) := by
  obtain ⟨h1, h2⟩ := hx
  obtain ⟨j, hj, rfl⟩ := nI_of (Int32.not_lt.mpr (Int32.le_trans (by decide : (0 : Int32) ≤ 1) h1))
  have g1 : 1 ≤ j := (nI_leI (a := 1) (by decide) hj).mp h1
  have g2 : j ≤ 18 := (nI_leI (b := 18) hj (by decide)).mp h2
  have : j = 1 ∨ j = 2 ∨ j = 3 ∨ j = 4 ∨ j = 5 ∨ j = 6 ∨ j = 7 ∨ j = 8 ∨ j = 9 ∨ j = 10 ∨ j = 11 ∨ j = 12 ∨ j = 13 ∨ j = 14 ∨ j = 15 ∨ j = 16 ∨ j = 17 ∨ j = 18 := by omega
  rcases this with rfl | rfl | rfl | rfl | rfl | rfl | rfl | rfl | rfl | rfl | rfl | rfl | rfl | rfl | rfl | rfl | rfl | rfl
  · exact SB_1 hI hB qS qE qC qD hF
  · exact SB_2 hI hB qS qE qC qD hF
  · exact SB_3 hI hB qS qE qC qD hF
  · exact SB_4 hI hB qS qE qC qD hF
  · exact SB_5 hI hB qS qE qC qD hF
  · exact SB_6 hI hB qS qE qC qD hF
  · exact SB_7 hI hB qS qE qC qD hF
  · exact SB_8 hI hB qS qE qC qD hF
  · exact SB_9 hI hB qS qE qC qD hF
  · exact SB_10 hI hB qS qE qC qD hF
  · exact SB_11 hI hB qS qE qC qD hF
  · exact SB_12 hI hB qS qE qC qD hF
  · exact SB_13 hI hB qS qE qC qD hF
  · exact SB_14 hI hB qS qE qC qD hF
  · exact SB_15 hI hB qS qE qC qD hF
  · exact SB_16 hI hB qS qE qC qD hF
  · exact SB_17 hI hB qS qE qC qD hF
  · exact SB_18 hI hB qS qE qC qD hF
end ZKB
