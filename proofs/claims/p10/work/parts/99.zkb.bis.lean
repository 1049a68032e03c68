section
section ZKB
variable {k k' : Nat → Nat} {H T H' T' : Nat → Vl} {S E C D S' E' C' D' : Vl} {ρ : Nat → Nat → Prop}
theorem stp_1 : stp k H T S E C D 1 = some ([(ofV H (ofV T C), S)], none, vPr (k 0), E, ofV T (ofV T C), D) := rfl
theorem stp_2 : stp k H T S E C D 2 = (if kV (behV T ((iV (ofV H (ofV T C))).toNatClampNeg / 16) E) = 3 then (if kV (behV T ((iV (ofV H (ofV T C))).toNatClampNeg % 16) (ofV H (behV T ((iV (ofV H (ofV T C))).toNatClampNeg / 16) E))) = 3 then some ([(ofV H (behV T ((iV (ofV H (ofV T C))).toNatClampNeg % 16) (ofV H (behV T ((iV (ofV H (ofV T C))).toNatClampNeg / 16) E))), S)], none, vPr (k 0), E, ofV T (ofV T C), D) else none) else none) := rfl
theorem stp_3 : stp k H T S E C D 3 = some ([(ofV H (ofV T C), E), (vFn (k 0), S)], none, vPr (k 1), E, ofV T (ofV T C), D) := rfl
theorem stp_4 : stp k H T S E C D 4 = (if kV (ofV H S) = 4 then some ([(ofV T C, D), (E, vPr (k 0)), (ofV T (ofV T S), vPr (k 1)), (ofV H (ofV T S), ofV T (ofV H S))], none, vNil, vPr (k 3), ofV H (ofV H S), vPr (k 2)) else none) := rfl
theorem stp_5 : stp k H T S E C D 5 = some ([(ofV H S, ofV H D)], none, vPr (k 0), ofV H (ofV T D), ofV H (ofV T (ofV T D)), ofV T (ofV T (ofV T D))) := rfl
theorem stp_6 : stp k H T S E C D 6 = some ([(vNil, E)], none, S, vPr (k 0), ofV T C, D) := rfl
theorem stp_7 : stp k H T S E C D 7 = (if kV (ofV H S) = 4 then some ([(ofV T C, D), (ofV T E, vPr (k 0)), (ofV T (ofV T S), vPr (k 1))], some (ofV T (ofV H S), ofV H (ofV T S)), vNil, ofV T (ofV H S), ofV H (ofV H S), vPr (k 2)) else none) := rfl
theorem stp_8 : stp k H T S E C D 8 = (if kV (ofV H S) = 1 then some ([(ofV T (ofV T (ofV T C)), D)], none, ofV T S, E, if iV (ofV H S) = 0 then ofV H (ofV T (ofV T C)) else ofV H (ofV T C), vPr (k 0)) else none) := rfl
theorem stp_9 : stp k H T S E C D 9 = some ([], none, S, E, ofV H D, ofV T D) := rfl
theorem stp_10 : stp k H T S E C D 10 = (if kV (ofV H S) = 3 then some ([(ofV H (ofV H S), ofV T S)], none, vPr (k 0), E, ofV T C, D) else none) := rfl
theorem stp_11 : stp k H T S E C D 11 = (if kV (ofV H S) = 3 then some ([(ofV T (ofV H S), ofV T S)], none, vPr (k 0), E, ofV T C, D) else none) := rfl
theorem stp_12 : stp k H T S E C D 12 = some ([(vInt (if kV (ofV H S) = 3 then 0 else 1), ofV T S)], none, vPr (k 0), E, ofV T C, D) := rfl
theorem stp_13 : stp k H T S E C D 13 = some ([(ofV H S, ofV H (ofV T S)), (vPr (k 0), ofV T (ofV T S))], none, vPr (k 1), E, ofV T C, D) := rfl
theorem stp_14 : stp k H T S E C D 14 = some ([(vInt (if smV (ofV H (ofV T S)) (ofV H S) = true then 1 else 0), ofV T (ofV T S))], none, vPr (k 0), E, ofV T C, D) := rfl
theorem stp_15 : stp k H T S E C D 15 = (if kV (ofV H (ofV T S)) = 1 ∧ kV (ofV H S) = 1 then some ([(vInt (calV 15 (iV (ofV H (ofV T S))) (iV (ofV H S))), ofV T (ofV T S))], none, vPr (k 0), E, ofV T C, D) else none) := rfl
theorem stp_16 : stp k H T S E C D 16 = (if kV (ofV H (ofV T S)) = 1 ∧ kV (ofV H S) = 1 then some ([(vInt (calV 16 (iV (ofV H (ofV T S))) (iV (ofV H S))), ofV T (ofV T S))], none, vPr (k 0), E, ofV T C, D) else none) := rfl
theorem stp_17 : stp k H T S E C D 17 = (if kV (ofV H (ofV T S)) = 1 ∧ kV (ofV H S) = 1 then some ([(vInt (calV 17 (iV (ofV H (ofV T S))) (iV (ofV H S))), ofV T (ofV T S))], none, vPr (k 0), E, ofV T C, D) else none) := rfl
theorem stp_18 : stp k H T S E C D 18 = (if kV (ofV H (ofV T S)) = 1 ∧ kV (ofV H S) = 1 then some ([(vInt (calV 18 (iV (ofV H (ofV T S))) (iV (ofV H S))), ofV T (ofV T S))], none, vPr (k 0), E, ofV T C, D) else none) := rfl
def F2V (ρ : Nat → Nat → Prop) : List (Vl × Vl) → List (Vl × Vl) → Prop
  | [], [] => True
  | x :: l, y :: l' => (VR ρ x.1 y.1 ∧ VR ρ x.2 y.2) ∧ F2V ρ l l'
  | [], _ :: _ => False
  | _ :: _, [] => False
theorem F2V_len {ρ : Nat → Nat → Prop} : ∀ {l l' : List (Vl × Vl)}, F2V ρ l l' → l.length = l'.length
  | [], [], _ => rfl
  | _ :: _, _ :: _, h => congrArg (· + 1) (F2V_len h.2)
  | [], _ :: _, h => absurd h id
  | _ :: _, [], h => absurd h id
theorem F2V_at {ρ : Nat → Nat → Prop} : ∀ {l l' : List (Vl × Vl)} (i : Nat) (x x' : Vl × Vl), F2V ρ l l' → l[i]? = some x → l'[i]? = some x' → VR ρ x.1 x'.1 ∧ VR ρ x.2 x'.2
  | [], [], i, x, x', _, h, _ => by cases h
  | _ :: _, _ :: _, 0, x, x', h, h1, h2 => by
    cases h1
    cases h2
    exact h.1
  | _ :: _, _ :: _, i + 1, x, x', h, h1, h2 => F2V_at i x x' h.2 h1 h2
  | [], _ :: _, _, _, _, h, _, _ => absurd h id
  | _ :: _, [], _, _, _, h, _, _ => absurd h id
def SB (ρ : Nat → Nat → Prop) (k k' : Nat → Nat) (n : Nat) (H T H' T' : Nat → Vl) : Option StpT → Option StpT → Prop
  | none, none => True
  | some (al, sh, s1, e1, c1, d1), some (al', sh', s2, e2, c2, d2) => (al.length = n ∧ al'.length = n) ∧ BH (exR ρ k k' n) (stH sh (alH k 0 al H)) (alT k 0 al T) (stH sh' (alH k' 0 al' H')) (alT k' 0 al' T') ∧ VR (exR ρ k k' n) s1 s2 ∧ VR (exR ρ k k' n) e1 e2 ∧ VR (exR ρ k k' n) c1 c2 ∧ VR (exR ρ k k' n) d1 d2
  | none, some _ => False
  | some _, none => False
theorem SB_some {n : Nat} {al al' : List (Vl × Vl)} {s1 e1 c1 d1 s2 e2 c2 d2 : Vl} (hB : BH ρ H T H' T') (hF : FRS ρ k k' n) (hn : al.length = n) (hv : F2V (exR ρ k k' n) al al') (q1 : VR (exR ρ k k' n) s1 s2) (q2 : VR (exR ρ k k' n) e1 e2) (q3 : VR (exR ρ k k' n) c1 c2) (q4 : VR (exR ρ k k' n) d1 d2) : SB ρ k k' n H T H' T' (some (al, none, s1, e1, c1, d1)) (some (al', none, s2, e2, c2, d2)) := by
  subst hn
  have hl := F2V_len hv
  exact ⟨⟨rfl, hl.symm⟩, BH_al hB hF hl (fun i x x' h h' => F2V_at i x x' hv h h'), q1, q2, q3, q4⟩
theorem SB_set {n : Nat} {al al' : List (Vl × Vl)} {x y x' y' s1 e1 c1 d1 s2 e2 c2 d2 : Vl} (hI : FI ρ) (hB : BH ρ H T H' T') (hF : FRS ρ k k' n) (hn : al.length = n) (hv : F2V (exR ρ k k' n) al al') (p1 : VR (exR ρ k k' n) x x') (p2 : VR (exR ρ k k' n) y y') (q1 : VR (exR ρ k k' n) s1 s2) (q2 : VR (exR ρ k k' n) e1 e2) (q3 : VR (exR ρ k k' n) c1 c2) (q4 : VR (exR ρ k k' n) d1 d2) : SB ρ k k' n H T H' T' (some (al, some (x, y), s1, e1, c1, d1)) (some (al', some (x', y'), s2, e2, c2, d2)) := by
  have hFI := FI_ex hI hF
  subst hn
  have hl := F2V_len hv
  exact ⟨⟨rfl, hl.symm⟩, BH_st hFI (BH_al hB hF hl (fun i x x' h h' => F2V_at i x x' hv h h')) p1 p2, q1, q2, q3, q4⟩
theorem SB_if {n : Nat} {P P' : Prop} {iP : Decidable P} {iP' : Decidable P'} {x y : Option StpT} (h : P ↔ P') (hs : P → P' → SB ρ k k' n H T H' T' x y) : SB ρ k k' n H T H' T' (if P then x else none) (if P' then y else none) := by
  by_cases hp : P
  · rw [if_pos hp, if_pos (h.mp hp)]
    exact hs hp (h.mp hp)
  · rw [if_neg hp, if_neg (fun q => hp (h.mpr q))]
    exact trivial
theorem VR_new {n j : Nat} (h : j < n) : VR (exR ρ k k' n) (vPr (k j)) (vPr (k' j)) := Or.inr ⟨j, h, rfl, rfl⟩
theorem VR_newF {n j : Nat} (h : j < n) : VR (exR ρ k k' n) (vFn (k j)) (vFn (k' j)) := Or.inr ⟨j, h, rfl, rfl⟩
theorem VR_up {n : Nat} {v w : Vl} (h : VR ρ v w) : VR (exR ρ k k' n) v w := VR_mono (fun _ _ => Or.inl) v w h

theorem SB_1 (hI : FI ρ) (hB : BH ρ H T H' T') (qS : VR ρ S S') (qE : VR ρ E E') (qC : VR ρ C C') (qD : VR ρ D D') (hF : FRS ρ k k' (ndI 1)) : SB ρ k k' (ndI 1) H T H' T' (stp k H T S E C D 1) (stp k' H' T' S' E' C' D' 1) := by
  rw [stp_1, stp_1]
  exact SB_some hB hF rfl ⟨⟨VR_up (VR_H hB (VR_T hB qC)), VR_up qS⟩, trivial⟩ (VR_new (by decide)) (VR_up qE) (VR_up (VR_T hB (VR_T hB qC))) (VR_up qD)
theorem SB_2 (hI : FI ρ) (hB : BH ρ H T H' T') (qS : VR ρ S S') (qE : VR ρ E E') (qC : VR ρ C C') (qD : VR ρ D D') (hF : FRS ρ k k' (ndI 2)) : SB ρ k k' (ndI 2) H T H' T' (stp k H T S E C D 2) (stp k' H' T' S' E' C' D' 2) := by
  rw [stp_2, stp_2]
  have en : iV (ofV H (ofV T C)) = iV (ofV H' (ofV T' C')) := VR_i (VR_H hB (VR_T hB qC))
  rw [← en]
  have wf := VR_beh hB ((iV (ofV H (ofV T C))).toNatClampNeg / 16) _ _ qE
  have wv := VR_beh hB ((iV (ofV H (ofV T C))).toNatClampNeg % 16) _ _ (VR_H hB wf)
  refine SB_if (by rw [VR_k wf]) (fun _ _ => ?_)
  refine SB_if (by rw [VR_k wv]) (fun _ _ => ?_)
  exact SB_some hB hF rfl ⟨⟨VR_up (VR_H hB wv), VR_up qS⟩, trivial⟩ (VR_new (by decide)) (VR_up qE) (VR_up (VR_T hB (VR_T hB qC))) (VR_up qD)
theorem SB_3 (hI : FI ρ) (hB : BH ρ H T H' T') (qS : VR ρ S S') (qE : VR ρ E E') (qC : VR ρ C C') (qD : VR ρ D D') (hF : FRS ρ k k' (ndI 3)) : SB ρ k k' (ndI 3) H T H' T' (stp k H T S E C D 3) (stp k' H' T' S' E' C' D' 3) := by
  rw [stp_3, stp_3]
  exact SB_some hB hF rfl ⟨⟨VR_up (VR_H hB (VR_T hB qC)), VR_up qE⟩, ⟨VR_newF (by decide), VR_up qS⟩, trivial⟩ (VR_new (by decide)) (VR_up qE) (VR_up (VR_T hB (VR_T hB qC))) (VR_up qD)
theorem SB_4 (hI : FI ρ) (hB : BH ρ H T H' T') (qS : VR ρ S S') (qE : VR ρ E E') (qC : VR ρ C C') (qD : VR ρ D D') (hF : FRS ρ k k' (ndI 4)) : SB ρ k k' (ndI 4) H T H' T' (stp k H T S E C D 4) (stp k' H' T' S' E' C' D' 4) := by
  rw [stp_4, stp_4]
  refine SB_if (by rw [VR_k (VR_H hB qS)]) (fun _ _ => ?_)
  exact SB_some hB hF rfl ⟨⟨VR_up (VR_T hB qC), VR_up qD⟩, ⟨VR_up qE, VR_new (by decide)⟩, ⟨VR_up (VR_T hB (VR_T hB qS)), VR_new (by decide)⟩, ⟨VR_up (VR_H hB (VR_T hB qS)), VR_up (VR_T hB (VR_H hB qS))⟩, trivial⟩ (VR_up (show VR ρ vNil vNil from trivial)) (VR_new (by decide)) (VR_up (VR_H hB (VR_H hB qS))) (VR_new (by decide))
theorem SB_5 (hI : FI ρ) (hB : BH ρ H T H' T') (qS : VR ρ S S') (qE : VR ρ E E') (qC : VR ρ C C') (qD : VR ρ D D') (hF : FRS ρ k k' (ndI 5)) : SB ρ k k' (ndI 5) H T H' T' (stp k H T S E C D 5) (stp k' H' T' S' E' C' D' 5) := by
  rw [stp_5, stp_5]
  exact SB_some hB hF rfl ⟨⟨VR_up (VR_H hB qS), VR_up (VR_H hB qD)⟩, trivial⟩ (VR_new (by decide)) (VR_up (VR_H hB (VR_T hB qD))) (VR_up (VR_H hB (VR_T hB (VR_T hB qD)))) (VR_up (VR_T hB (VR_T hB (VR_T hB qD))))
theorem SB_6 (hI : FI ρ) (hB : BH ρ H T H' T') (qS : VR ρ S S') (qE : VR ρ E E') (qC : VR ρ C C') (qD : VR ρ D D') (hF : FRS ρ k k' (ndI 6)) : SB ρ k k' (ndI 6) H T H' T' (stp k H T S E C D 6) (stp k' H' T' S' E' C' D' 6) := by
  rw [stp_6, stp_6]
  exact SB_some hB hF rfl ⟨⟨VR_up (show VR ρ vNil vNil from trivial), VR_up qE⟩, trivial⟩ (VR_up qS) (VR_new (by decide)) (VR_up (VR_T hB qC)) (VR_up qD)
theorem SB_7 (hI : FI ρ) (hB : BH ρ H T H' T') (qS : VR ρ S S') (qE : VR ρ E E') (qC : VR ρ C C') (qD : VR ρ D D') (hF : FRS ρ k k' (ndI 7)) : SB ρ k k' (ndI 7) H T H' T' (stp k H T S E C D 7) (stp k' H' T' S' E' C' D' 7) := by
  rw [stp_7, stp_7]
  refine SB_if (by rw [VR_k (VR_H hB qS)]) (fun _ _ => ?_)
  exact SB_set hI hB hF rfl ⟨⟨VR_up (VR_T hB qC), VR_up qD⟩, ⟨VR_up (VR_T hB qE), VR_new (by decide)⟩, ⟨VR_up (VR_T hB (VR_T hB qS)), VR_new (by decide)⟩, trivial⟩ (VR_up (VR_T hB (VR_H hB qS))) (VR_up (VR_H hB (VR_T hB qS))) (VR_up (show VR ρ vNil vNil from trivial)) (VR_up (VR_T hB (VR_H hB qS))) (VR_up (VR_H hB (VR_H hB qS))) (VR_new (by decide))
theorem SB_8 (hI : FI ρ) (hB : BH ρ H T H' T') (qS : VR ρ S S') (qE : VR ρ E E') (qC : VR ρ C C') (qD : VR ρ D D') (hF : FRS ρ k k' (ndI 8)) : SB ρ k k' (ndI 8) H T H' T' (stp k H T S E C D 8) (stp k' H' T' S' E' C' D' 8) := by
  rw [stp_8, stp_8]
  refine SB_if (by rw [VR_k (VR_H hB qS)]) (fun _ _ => ?_)
  exact SB_some hB hF rfl ⟨⟨VR_up (VR_T hB (VR_T hB (VR_T hB qC))), VR_up qD⟩, trivial⟩ (VR_up (VR_T hB qS)) (VR_up qE) (VR_up (show VR ρ (if iV (ofV H S) = 0 then ofV H (ofV T (ofV T C)) else ofV H (ofV T C)) (if iV (ofV H' S') = 0 then ofV H' (ofV T' (ofV T' C')) else ofV H' (ofV T' C')) by rw [← VR_i (VR_H hB qS)]; split; exact VR_H hB (VR_T hB (VR_T hB qC)); exact VR_H hB (VR_T hB qC))) (VR_new (by decide))
theorem SB_9 (hI : FI ρ) (hB : BH ρ H T H' T') (qS : VR ρ S S') (qE : VR ρ E E') (qC : VR ρ C C') (qD : VR ρ D D') (hF : FRS ρ k k' (ndI 9)) : SB ρ k k' (ndI 9) H T H' T' (stp k H T S E C D 9) (stp k' H' T' S' E' C' D' 9) := by
  rw [stp_9, stp_9]
  exact SB_some hB hF rfl trivial (VR_up qS) (VR_up qE) (VR_up (VR_H hB qD)) (VR_up (VR_T hB qD))
theorem SB_10 (hI : FI ρ) (hB : BH ρ H T H' T') (qS : VR ρ S S') (qE : VR ρ E E') (qC : VR ρ C C') (qD : VR ρ D D') (hF : FRS ρ k k' (ndI 10)) : SB ρ k k' (ndI 10) H T H' T' (stp k H T S E C D 10) (stp k' H' T' S' E' C' D' 10) := by
  rw [stp_10, stp_10]
  refine SB_if (by rw [VR_k (VR_H hB qS)]) (fun _ _ => ?_)
  exact SB_some hB hF rfl ⟨⟨VR_up (VR_H hB (VR_H hB qS)), VR_up (VR_T hB qS)⟩, trivial⟩ (VR_new (by decide)) (VR_up qE) (VR_up (VR_T hB qC)) (VR_up qD)
theorem SB_11 (hI : FI ρ) (hB : BH ρ H T H' T') (qS : VR ρ S S') (qE : VR ρ E E') (qC : VR ρ C C') (qD : VR ρ D D') (hF : FRS ρ k k' (ndI 11)) : SB ρ k k' (ndI 11) H T H' T' (stp k H T S E C D 11) (stp k' H' T' S' E' C' D' 11) := by
  rw [stp_11, stp_11]
  refine SB_if (by rw [VR_k (VR_H hB qS)]) (fun _ _ => ?_)
  exact SB_some hB hF rfl ⟨⟨VR_up (VR_T hB (VR_H hB qS)), VR_up (VR_T hB qS)⟩, trivial⟩ (VR_new (by decide)) (VR_up qE) (VR_up (VR_T hB qC)) (VR_up qD)
theorem SB_12 (hI : FI ρ) (hB : BH ρ H T H' T') (qS : VR ρ S S') (qE : VR ρ E E') (qC : VR ρ C C') (qD : VR ρ D D') (hF : FRS ρ k k' (ndI 12)) : SB ρ k k' (ndI 12) H T H' T' (stp k H T S E C D 12) (stp k' H' T' S' E' C' D' 12) := by
  rw [stp_12, stp_12]
  exact SB_some hB hF rfl ⟨⟨VR_up (show (if kV (ofV H S) = 3 then (0 : Int32) else 1) = (if kV (ofV H' S') = 3 then 0 else 1) by rw [VR_k (VR_H hB qS)]), VR_up (VR_T hB qS)⟩, trivial⟩ (VR_new (by decide)) (VR_up qE) (VR_up (VR_T hB qC)) (VR_up qD)
theorem SB_13 (hI : FI ρ) (hB : BH ρ H T H' T') (qS : VR ρ S S') (qE : VR ρ E E') (qC : VR ρ C C') (qD : VR ρ D D') (hF : FRS ρ k k' (ndI 13)) : SB ρ k k' (ndI 13) H T H' T' (stp k H T S E C D 13) (stp k' H' T' S' E' C' D' 13) := by
  rw [stp_13, stp_13]
  exact SB_some hB hF rfl ⟨⟨VR_up (VR_H hB qS), VR_up (VR_H hB (VR_T hB qS))⟩, ⟨VR_new (by decide), VR_up (VR_T hB (VR_T hB qS))⟩, trivial⟩ (VR_new (by decide)) (VR_up qE) (VR_up (VR_T hB qC)) (VR_up qD)
theorem SB_14 (hI : FI ρ) (hB : BH ρ H T H' T') (qS : VR ρ S S') (qE : VR ρ E E') (qC : VR ρ C C') (qD : VR ρ D D') (hF : FRS ρ k k' (ndI 14)) : SB ρ k k' (ndI 14) H T H' T' (stp k H T S E C D 14) (stp k' H' T' S' E' C' D' 14) := by
  rw [stp_14, stp_14]
  exact SB_some hB hF rfl ⟨⟨VR_up (show (if smV (ofV H (ofV T S)) (ofV H S) = true then (1 : Int32) else 0) = (if smV (ofV H' (ofV T' S')) (ofV H' S') = true then 1 else 0) by rw [VR_sm hI (VR_H hB (VR_T hB qS)) (VR_H hB qS)]), VR_up (VR_T hB (VR_T hB qS))⟩, trivial⟩ (VR_new (by decide)) (VR_up qE) (VR_up (VR_T hB qC)) (VR_up qD)
theorem SB_15 (hI : FI ρ) (hB : BH ρ H T H' T') (qS : VR ρ S S') (qE : VR ρ E E') (qC : VR ρ C C') (qD : VR ρ D D') (hF : FRS ρ k k' (ndI 15)) : SB ρ k k' (ndI 15) H T H' T' (stp k H T S E C D 15) (stp k' H' T' S' E' C' D' 15) := by
  rw [stp_15, stp_15]
  refine SB_if (by rw [VR_k (VR_H hB (VR_T hB qS)), VR_k (VR_H hB qS)]) (fun _ _ => ?_)
  exact SB_some hB hF rfl ⟨⟨VR_up (show calV 15 (iV (ofV H (ofV T S))) (iV (ofV H S)) = calV 15 (iV (ofV H' (ofV T' S'))) (iV (ofV H' S')) by rw [VR_i (VR_H hB (VR_T hB qS)), VR_i (VR_H hB qS)]), VR_up (VR_T hB (VR_T hB qS))⟩, trivial⟩ (VR_new (by decide)) (VR_up qE) (VR_up (VR_T hB qC)) (VR_up qD)
theorem SB_16 (hI : FI ρ) (hB : BH ρ H T H' T') (qS : VR ρ S S') (qE : VR ρ E E') (qC : VR ρ C C') (qD : VR ρ D D') (hF : FRS ρ k k' (ndI 16)) : SB ρ k k' (ndI 16) H T H' T' (stp k H T S E C D 16) (stp k' H' T' S' E' C' D' 16) := by
  rw [stp_16, stp_16]
  refine SB_if (by rw [VR_k (VR_H hB (VR_T hB qS)), VR_k (VR_H hB qS)]) (fun _ _ => ?_)
  exact SB_some hB hF rfl ⟨⟨VR_up (show calV 16 (iV (ofV H (ofV T S))) (iV (ofV H S)) = calV 16 (iV (ofV H' (ofV T' S'))) (iV (ofV H' S')) by rw [VR_i (VR_H hB (VR_T hB qS)), VR_i (VR_H hB qS)]), VR_up (VR_T hB (VR_T hB qS))⟩, trivial⟩ (VR_new (by decide)) (VR_up qE) (VR_up (VR_T hB qC)) (VR_up qD)
theorem SB_17 (hI : FI ρ) (hB : BH ρ H T H' T') (qS : VR ρ S S') (qE : VR ρ E E') (qC : VR ρ C C') (qD : VR ρ D D') (hF : FRS ρ k k' (ndI 17)) : SB ρ k k' (ndI 17) H T H' T' (stp k H T S E C D 17) (stp k' H' T' S' E' C' D' 17) := by
  rw [stp_17, stp_17]
  refine SB_if (by rw [VR_k (VR_H hB (VR_T hB qS)), VR_k (VR_H hB qS)]) (fun _ _ => ?_)
  exact SB_some hB hF rfl ⟨⟨VR_up (show calV 17 (iV (ofV H (ofV T S))) (iV (ofV H S)) = calV 17 (iV (ofV H' (ofV T' S'))) (iV (ofV H' S')) by rw [VR_i (VR_H hB (VR_T hB qS)), VR_i (VR_H hB qS)]), VR_up (VR_T hB (VR_T hB qS))⟩, trivial⟩ (VR_new (by decide)) (VR_up qE) (VR_up (VR_T hB qC)) (VR_up qD)
theorem SB_18 (hI : FI ρ) (hB : BH ρ H T H' T') (qS : VR ρ S S') (qE : VR ρ E E') (qC : VR ρ C C') (qD : VR ρ D D') (hF : FRS ρ k k' (ndI 18)) : SB ρ k k' (ndI 18) H T H' T' (stp k H T S E C D 18) (stp k' H' T' S' E' C' D' 18) := by
  rw [stp_18, stp_18]
  refine SB_if (by rw [VR_k (VR_H hB (VR_T hB qS)), VR_k (VR_H hB qS)]) (fun _ _ => ?_)
  exact SB_some hB hF rfl ⟨⟨VR_up (show calV 18 (iV (ofV H (ofV T S))) (iV (ofV H S)) = calV 18 (iV (ofV H' (ofV T' S'))) (iV (ofV H' S')) by rw [VR_i (VR_H hB (VR_T hB qS)), VR_i (VR_H hB qS)]), VR_up (VR_T hB (VR_T hB qS))⟩, trivial⟩ (VR_new (by decide)) (VR_up qE) (VR_up (VR_T hB qC)) (VR_up qD)
theorem SN_if {α : Type} {P P' : Prop} {iP : Decidable P} {iP' : Decidable P'} {x y : α} (h : P ↔ P') : ((if P then some x else none) = none ↔ (if P' then some y else none) = none) := by
  by_cases hp : P
  · rw [if_pos hp, if_pos (h.mp hp)]
    exact ⟨fun q => (by cases q), fun q => (by cases q)⟩
  · rw [if_neg hp, if_neg (fun q => hp (h.mpr q))]

theorem SN_1 (hI : FI ρ) (hB : BH ρ H T H' T') (qS : VR ρ S S') (qE : VR ρ E E') (qC : VR ρ C C') (qD : VR ρ D D') : (stp k H T S E C D 1 = none ↔ stp k' H' T' S' E' C' D' 1 = none) := by
  rw [stp_1, stp_1]
  exact ⟨fun q => (by cases q), fun q => (by cases q)⟩
theorem SN_2 (hI : FI ρ) (hB : BH ρ H T H' T') (qS : VR ρ S S') (qE : VR ρ E E') (qC : VR ρ C C') (qD : VR ρ D D') : (stp k H T S E C D 2 = none ↔ stp k' H' T' S' E' C' D' 2 = none) := by
  rw [stp_2, stp_2]
  have en : iV (ofV H (ofV T C)) = iV (ofV H' (ofV T' C')) := VR_i (VR_H hB (VR_T hB qC))
  rw [← en]
  have wf := VR_beh hB ((iV (ofV H (ofV T C))).toNatClampNeg / 16) _ _ qE
  have wv := VR_beh hB ((iV (ofV H (ofV T C))).toNatClampNeg % 16) _ _ (VR_H hB wf)
  by_cases h1 : kV (behV T ((iV (ofV H (ofV T C))).toNatClampNeg / 16) E) = 3
  · rw [if_pos h1, if_pos ((VR_k wf).symm.trans h1)]
    have ek := VR_k wv
    exact SN_if ⟨fun q => ek.symm.trans q, fun q => ek.trans q⟩
  · rw [if_neg h1, if_neg (fun q => h1 ((VR_k wf).trans q))]
theorem SN_3 (hI : FI ρ) (hB : BH ρ H T H' T') (qS : VR ρ S S') (qE : VR ρ E E') (qC : VR ρ C C') (qD : VR ρ D D') : (stp k H T S E C D 3 = none ↔ stp k' H' T' S' E' C' D' 3 = none) := by
  rw [stp_3, stp_3]
  exact ⟨fun q => (by cases q), fun q => (by cases q)⟩
theorem SN_4 (hI : FI ρ) (hB : BH ρ H T H' T') (qS : VR ρ S S') (qE : VR ρ E E') (qC : VR ρ C C') (qD : VR ρ D D') : (stp k H T S E C D 4 = none ↔ stp k' H' T' S' E' C' D' 4 = none) := by
  rw [stp_4, stp_4]
  exact SN_if (by rw [VR_k (VR_H hB qS)])
theorem SN_5 (hI : FI ρ) (hB : BH ρ H T H' T') (qS : VR ρ S S') (qE : VR ρ E E') (qC : VR ρ C C') (qD : VR ρ D D') : (stp k H T S E C D 5 = none ↔ stp k' H' T' S' E' C' D' 5 = none) := by
  rw [stp_5, stp_5]
  exact ⟨fun q => (by cases q), fun q => (by cases q)⟩
theorem SN_6 (hI : FI ρ) (hB : BH ρ H T H' T') (qS : VR ρ S S') (qE : VR ρ E E') (qC : VR ρ C C') (qD : VR ρ D D') : (stp k H T S E C D 6 = none ↔ stp k' H' T' S' E' C' D' 6 = none) := by
  rw [stp_6, stp_6]
  exact ⟨fun q => (by cases q), fun q => (by cases q)⟩
theorem SN_7 (hI : FI ρ) (hB : BH ρ H T H' T') (qS : VR ρ S S') (qE : VR ρ E E') (qC : VR ρ C C') (qD : VR ρ D D') : (stp k H T S E C D 7 = none ↔ stp k' H' T' S' E' C' D' 7 = none) := by
  rw [stp_7, stp_7]
  exact SN_if (by rw [VR_k (VR_H hB qS)])
theorem SN_8 (hI : FI ρ) (hB : BH ρ H T H' T') (qS : VR ρ S S') (qE : VR ρ E E') (qC : VR ρ C C') (qD : VR ρ D D') : (stp k H T S E C D 8 = none ↔ stp k' H' T' S' E' C' D' 8 = none) := by
  rw [stp_8, stp_8]
  exact SN_if (by rw [VR_k (VR_H hB qS)])
theorem SN_9 (hI : FI ρ) (hB : BH ρ H T H' T') (qS : VR ρ S S') (qE : VR ρ E E') (qC : VR ρ C C') (qD : VR ρ D D') : (stp k H T S E C D 9 = none ↔ stp k' H' T' S' E' C' D' 9 = none) := by
  rw [stp_9, stp_9]
  exact ⟨fun q => (by cases q), fun q => (by cases q)⟩
theorem SN_10 (hI : FI ρ) (hB : BH ρ H T H' T') (qS : VR ρ S S') (qE : VR ρ E E') (qC : VR ρ C C') (qD : VR ρ D D') : (stp k H T S E C D 10 = none ↔ stp k' H' T' S' E' C' D' 10 = none) := by
  rw [stp_10, stp_10]
  exact SN_if (by rw [VR_k (VR_H hB qS)])
theorem SN_11 (hI : FI ρ) (hB : BH ρ H T H' T') (qS : VR ρ S S') (qE : VR ρ E E') (qC : VR ρ C C') (qD : VR ρ D D') : (stp k H T S E C D 11 = none ↔ stp k' H' T' S' E' C' D' 11 = none) := by
  rw [stp_11, stp_11]
  exact SN_if (by rw [VR_k (VR_H hB qS)])
theorem SN_12 (hI : FI ρ) (hB : BH ρ H T H' T') (qS : VR ρ S S') (qE : VR ρ E E') (qC : VR ρ C C') (qD : VR ρ D D') : (stp k H T S E C D 12 = none ↔ stp k' H' T' S' E' C' D' 12 = none) := by
  rw [stp_12, stp_12]
  exact ⟨fun q => (by cases q), fun q => (by cases q)⟩
theorem SN_13 (hI : FI ρ) (hB : BH ρ H T H' T') (qS : VR ρ S S') (qE : VR ρ E E') (qC : VR ρ C C') (qD : VR ρ D D') : (stp k H T S E C D 13 = none ↔ stp k' H' T' S' E' C' D' 13 = none) := by
  rw [stp_13, stp_13]
  exact ⟨fun q => (by cases q), fun q => (by cases q)⟩
theorem SN_14 (hI : FI ρ) (hB : BH ρ H T H' T') (qS : VR ρ S S') (qE : VR ρ E E') (qC : VR ρ C C') (qD : VR ρ D D') : (stp k H T S E C D 14 = none ↔ stp k' H' T' S' E' C' D' 14 = none) := by
  rw [stp_14, stp_14]
  exact ⟨fun q => (by cases q), fun q => (by cases q)⟩
theorem SN_15 (hI : FI ρ) (hB : BH ρ H T H' T') (qS : VR ρ S S') (qE : VR ρ E E') (qC : VR ρ C C') (qD : VR ρ D D') : (stp k H T S E C D 15 = none ↔ stp k' H' T' S' E' C' D' 15 = none) := by
  rw [stp_15, stp_15]
  exact SN_if (by rw [VR_k (VR_H hB (VR_T hB qS)), VR_k (VR_H hB qS)])
theorem SN_16 (hI : FI ρ) (hB : BH ρ H T H' T') (qS : VR ρ S S') (qE : VR ρ E E') (qC : VR ρ C C') (qD : VR ρ D D') : (stp k H T S E C D 16 = none ↔ stp k' H' T' S' E' C' D' 16 = none) := by
  rw [stp_16, stp_16]
  exact SN_if (by rw [VR_k (VR_H hB (VR_T hB qS)), VR_k (VR_H hB qS)])
theorem SN_17 (hI : FI ρ) (hB : BH ρ H T H' T') (qS : VR ρ S S') (qE : VR ρ E E') (qC : VR ρ C C') (qD : VR ρ D D') : (stp k H T S E C D 17 = none ↔ stp k' H' T' S' E' C' D' 17 = none) := by
  rw [stp_17, stp_17]
  exact SN_if (by rw [VR_k (VR_H hB (VR_T hB qS)), VR_k (VR_H hB qS)])
theorem SN_18 (hI : FI ρ) (hB : BH ρ H T H' T') (qS : VR ρ S S') (qE : VR ρ E E') (qC : VR ρ C C') (qD : VR ρ D D') : (stp k H T S E C D 18 = none ↔ stp k' H' T' S' E' C' D' 18 = none) := by
  rw [stp_18, stp_18]
  exact SN_if (by rw [VR_k (VR_H hB (VR_T hB qS)), VR_k (VR_H hB qS)])
theorem SN_all {x : Int32} (hx : 1 ≤ x ∧ x ≤ 18) (hI : FI ρ) (hB : BH ρ H T H' T') (qS : VR ρ S S') (qE : VR ρ E E') (qC : VR ρ C C') (qD : VR ρ D D') : (stp k H T S E C D x = none ↔ stp k' H' T' S' E' C' D' x = none) := by
  obtain ⟨h1, h2⟩ := hx
  obtain ⟨j, hj, rfl⟩ := nI_of (Int32.not_lt.mpr (Int32.le_trans (by decide : (0 : Int32) ≤ 1) h1))
  have g1 : 1 ≤ j := (nI_leI (a := 1) (by decide) hj).mp h1
  have g2 : j ≤ 18 := (nI_leI (b := 18) hj (by decide)).mp h2
  have : j = 1 ∨ j = 2 ∨ j = 3 ∨ j = 4 ∨ j = 5 ∨ j = 6 ∨ j = 7 ∨ j = 8 ∨ j = 9 ∨ j = 10 ∨ j = 11 ∨ j = 12 ∨ j = 13 ∨ j = 14 ∨ j = 15 ∨ j = 16 ∨ j = 17 ∨ j = 18 := by omega
  rcases this with rfl | rfl | rfl | rfl | rfl | rfl | rfl | rfl | rfl | rfl | rfl | rfl | rfl | rfl | rfl | rfl | rfl | rfl
  · exact SN_1 hI hB qS qE qC qD
  · exact SN_2 hI hB qS qE qC qD
  · exact SN_3 hI hB qS qE qC qD
  · exact SN_4 hI hB qS qE qC qD
  · exact SN_5 hI hB qS qE qC qD
  · exact SN_6 hI hB qS qE qC qD
  · exact SN_7 hI hB qS qE qC qD
  · exact SN_8 hI hB qS qE qC qD
  · exact SN_9 hI hB qS qE qC qD
  · exact SN_10 hI hB qS qE qC qD
  · exact SN_11 hI hB qS qE qC qD
  · exact SN_12 hI hB qS qE qC qD
  · exact SN_13 hI hB qS qE qC qD
  · exact SN_14 hI hB qS qE qC qD
  · exact SN_15 hI hB qS qE qC qD
  · exact SN_16 hI hB qS qE qC qD
  · exact SN_17 hI hB qS qE qC qD
  · exact SN_18 hI hB qS qE qC qD
theorem SB_all {x : Int32} (hx : 1 ≤ x ∧ x ≤ 18) (hI : FI ρ) (hB : BH ρ H T H' T') (qS : VR ρ S S') (qE : VR ρ E E') (qC : VR ρ C C') (qD : VR ρ D D') (hF : FRS ρ k k' (ndI x)) : SB ρ k k' (ndI x) H T H' T' (stp k H T S E C D x) (stp k' H' T' S' E' C' D' x) := by
  obtain ⟨h1, h2⟩ := hx
  obtain ⟨j, hj, rfl⟩ := nI_of (Int32.not_lt.mpr (Int32.le_trans (by decide : (0 : Int32) ≤ 1) h1))
  have g1 : 1 ≤ j := (nI_leI (a := 1) (by decide) hj).mp h1
  have g2 : j ≤ 18 := (nI_leI (b := 18) hj (by decide)).mp h2
  have : j = 1 ∨ j = 2 ∨ j = 3 ∨ j = 4 ∨ j = 5 ∨ j = 6 ∨ j = 7 ∨ j = 8 ∨ j = 9 ∨ j = 10 ∨ j = 11 ∨ j = 12 ∨ j = 13 ∨ j = 14 ∨ j = 15 ∨ j = 16 ∨ j = 17 ∨ j = 18 := by omega
  rcases this with rfl | rfl | rfl | rfl | rfl | rfl | rfl | rfl | rfl | rfl | rfl | rfl | rfl | rfl | rfl | rfl | rfl | rfl
  · exact SB_1 hI hB qS qE qC qD hF
  · exact SB_2 hI hB qS qE qC qD hF
  · exact SB_3 hI hB qS qE qC qD hF
  · exact SB_4 hI hB qS qE qC qD hF
  · exact SB_5 hI hB qS qE qC qD hF
  · exact SB_6 hI hB qS qE qC qD hF
  · exact SB_7 hI hB qS qE qC qD hF
  · exact SB_8 hI hB qS qE qC qD hF
  · exact SB_9 hI hB qS qE qC qD hF
  · exact SB_10 hI hB qS qE qC qD hF
  · exact SB_11 hI hB qS qE qC qD hF
  · exact SB_12 hI hB qS qE qC qD hF
  · exact SB_13 hI hB qS qE qC qD hF
  · exact SB_14 hI hB qS qE qC qD hF
  · exact SB_15 hI hB qS qE qC qD hF
  · exact SB_16 hI hB qS qE qC qD hF
  · exact SB_17 hI hB qS qE qC qD hF
  · exact SB_18 hI hB qS qE qC qD hF
end ZKB
end
section
def clo (A : Nat → Prop) (H T : Nat → Vl) : Prop := ∀ a, A a → inU A (H a) ∧ inU A (T a)
section ZKC
variable {A : Nat → Prop} {H T g : Nat → Vl} {v x : Vl} {k : Nat}
theorem ofV_ne (h : ¬ ceV v = some k) : ofV (upW g k x) v = ofV g v := by
  rcases v with u | y | y | i | i
  · rfl
  · rfl
  · rfl
  · exact if_neg (fun e => h (by rw [← e]; rfl))
  · exact if_neg (fun e => h (by rw [← e]; rfl))
theorem ofV_nf (hv : inU A v) (hk : ¬ A k) : ofV (upW g k x) v = ofV g v := ofV_ne (fun e => hk (hv k e))
theorem clo_H (hc : clo A H T) (hv : inU A v) : inU A (ofV H v) := by
  rcases v with u | y | y | i | i
  · exact nil_inU
  · exact nil_inU
  · exact nil_inU
  · exact (hc i (hv i rfl)).1
  · exact (hc i (hv i rfl)).1
theorem clo_T (hc : clo A H T) (hv : inU A v) : inU A (ofV T v) := by
  rcases v with u | y | y | i | i
  · exact nil_inU
  · exact nil_inU
  · exact nil_inU
  · exact (hc i (hv i rfl)).2
  · exact (hc i (hv i rfl)).2
theorem beh_1 (h : isL_ v) : behV T 1 v = ofV T v := by
  rcases h with rfl | ⟨a, rfl⟩ <;> rfl
theorem beh_2 (h : isL_ v) (h2 : isL_ (ofV T v)) : behV T 2 v = ofV T (ofV T v) := by
  rcases h with rfl | ⟨a, rfl⟩
  · rfl
  · show behV T 1 (T a) = _
    exact beh_1 h2
theorem beh_nf (hc : clo A H T) (hk : ¬ A k) : ∀ (n : Nat) (v : Vl), inU A v → behV (upW T k x) n v = behV T n v
  | 0, v, _ => rfl
  | n + 1, v, hv => by
    rcases v with u | y | y | i | i
    · rfl
    · rfl
    · rfl
    · show behV (upW T k x) n (upW T k x i) = behV T n (T i)
      have e : upW T k x i = T i := if_neg (fun (e : i = k) => hk (by rw [← e]; exact hv i rfl))
      rw [e]
      exact beh_nf hc hk n (T i) (hc i (hv i rfl)).2
    · rfl
theorem iV_enc {y : Int32} (h : v = vInt y) : (encV v).toInt32 = y := by
  rw [h]
  exact eK_int 1 (by decide) y
theorem kV_int (h : kV v = 1) : v = vInt (iV v) ∧ (encV v).toInt32 = iV v := by
  rcases v with u | y | y | i | i
  · cases h
  · exact ⟨rfl, eK_int 1 (by decide) y⟩
  · cases h
  · cases h
  · cases h
theorem sm_same (a b : Vl) (ha : ∀ i, ceV a = some i → i < 250) : sameV a b = smV a b := by
  have enc : ∀ v : Vl, ∃ j x, j ≤ 4 ∧ kV v = j ∧ (1 ≤ j → encV v = eK j x) := fun v => by
    rcases v with u | y | y | i | i
    · exact ⟨0, 0, by decide, rfl, fun h => absurd h (by decide)⟩
    · exact ⟨1, y, by decide, rfl, fun _ => rfl⟩
    · exact ⟨2, y, by decide, rfl, fun _ => rfl⟩
    · exact ⟨3, nI i, by decide, rfl, fun _ => rfl⟩
    · exact ⟨4, nI i, by decide, rfl, fun _ => rfl⟩
  have shr : ∀ v w : Vl, encV v = encV w → kV v = kV w := fun v w e => by
    have h1 := encV_shr v
    have h2 := encV_shr w
    rw [e, h2] at h1
    have l1 := kV_le v
    have l2 := kV_le w
    have := congrArg (fun q : Int64 => q.toBitVec.toNat) h1
    have e1 : (Int64.ofNat (kV w)).toBitVec.toNat = kV w := by
      show (BitVec.ofNat 64 (kV w)).toNat = kV w
      rw [BitVec.toNat_ofNat]
      omega
    have e2 : (Int64.ofNat (kV v)).toBitVec.toNat = kV v := by
      show (BitVec.ofNat 64 (kV v)).toNat = kV v
      rw [BitVec.toNat_ofNat]
      omega
    have this : (Int64.ofNat (kV w)).toBitVec.toNat = (Int64.ofNat (kV v)).toBitVec.toNat := this
    omega
  have ff : ∀ {p q : Prop} {ip : Decidable p} {iq : Decidable q}, ¬ p → (decide p && decide q) = false := fun {p q} {_} {_} hp => by simp [hp]
  have fg : ∀ {p q : Prop} {ip : Decidable p} {iq : Decidable q}, ¬ q → (decide p && decide q) = false := fun {p q} {_} {_} hq => by simp [hq]
  unfold sameV
  rcases a with u | y | y | i | i <;> rcases b with u' | w | w | j | j
  case inl.inl => rfl
  case inr.inl.inr.inl =>
    show (decide (eK 1 y = eK 1 w) && decide (cV (vInt y) = -1)) = decide (y = w)
    by_cases e : y = w
    · subst e
      simp [cV]
    · rw [ff (fun q => e (eK_ne (by decide) (by decide) q).2), decide_eq_false e]
  case inr.inr.inl.inr.inr.inl =>
    show (decide (eK 2 y = eK 2 w) && decide (cV (vSym y) = -1)) = decide (y = w)
    by_cases e : y = w
    · subst e
      simp [cV]
    · rw [ff (fun q => e (eK_ne (by decide) (by decide) q).2), decide_eq_false e]
  case inr.inr.inr.inl.inr.inr.inr.inl => exact fg (fun q => nI_nn (by have := ha i rfl; omega) q)
  case inr.inr.inr.inr.inr.inr.inr.inr => exact fg (fun q => nI_nn (by have := ha i rfl; omega) q)
  all_goals exact ff (fun q => by have h := shr _ _ q; simp [kV] at h)
end ZKC
section ZKD
variable {k : Nat → Nat} {H T : Nat → Vl} {S E C D S' E' C' D' : Vl} {z : Nat} {al : List (Vl × Vl)} {sh : Option (Vl × Vl)}

theorem okA_st {x y : Vl} (h : okA z H) (hy : okV z y) : okA z (stH (some (x, y)) H) := by
  rcases x with u | w | w | i | i
  · exact h
  · exact h
  · exact h
  · exact okA_upd h hy
  · exact h
theorem OK_1 (hM : mOK z S E C D H T) (hk : ∀ j, j < ndI 1 → k j < z) (h : stp k H T S E C D 1 = some (al, sh, S', E', C', D')) : al.length = ndI 1 ∧ mOK z S' E' C' D' (stH sh (alH k 0 al H)) (alT k 0 al T) := by
  obtain ⟨oH, oT, oS, oE, oC, oD⟩ := hM
  rw [stp_1] at h
  cases h
  exact ⟨rfl, (okA_upd oH (okV_of oH (okV_of oT oC))), (okA_upd oT oS), (hk 0 (by decide)), oE, (okV_of oT (okV_of oT oC)), oD⟩
theorem OK_2 (hM : mOK z S E C D H T) (hk : ∀ j, j < ndI 2 → k j < z) (h : stp k H T S E C D 2 = some (al, sh, S', E', C', D')) : al.length = ndI 2 ∧ mOK z S' E' C' D' (stH sh (alH k 0 al H)) (alT k 0 al T) := by
  obtain ⟨oH, oT, oS, oE, oC, oD⟩ := hM
  rw [stp_2] at h
  split at h
  rotate_left
  · cases h
  split at h
  rotate_left
  · cases h
  cases h
  exact ⟨rfl, (okA_upd oH (okV_of oH (okV_beh oT _ _ (okV_of oH (okV_beh oT _ _ oE))))), (okA_upd oT oS), (hk 0 (by decide)), oE, (okV_of oT (okV_of oT oC)), oD⟩
theorem OK_3 (hM : mOK z S E C D H T) (hk : ∀ j, j < ndI 3 → k j < z) (h : stp k H T S E C D 3 = some (al, sh, S', E', C', D')) : al.length = ndI 3 ∧ mOK z S' E' C' D' (stH sh (alH k 0 al H)) (alT k 0 al T) := by
  obtain ⟨oH, oT, oS, oE, oC, oD⟩ := hM
  rw [stp_3] at h
  cases h
  exact ⟨rfl, (okA_upd (okA_upd oH (okV_of oH (okV_of oT oC))) (hk 0 (by decide))), (okA_upd (okA_upd oT oE) oS), (hk 1 (by decide)), oE, (okV_of oT (okV_of oT oC)), oD⟩
theorem OK_4 (hM : mOK z S E C D H T) (hk : ∀ j, j < ndI 4 → k j < z) (h : stp k H T S E C D 4 = some (al, sh, S', E', C', D')) : al.length = ndI 4 ∧ mOK z S' E' C' D' (stH sh (alH k 0 al H)) (alT k 0 al T) := by
  obtain ⟨oH, oT, oS, oE, oC, oD⟩ := hM
  rw [stp_4] at h
  split at h
  rotate_left
  · cases h
  cases h
  exact ⟨rfl, (okA_upd (okA_upd (okA_upd (okA_upd oH (okV_of oT oC)) oE) (okV_of oT (okV_of oT oS))) (okV_of oH (okV_of oT oS))), (okA_upd (okA_upd (okA_upd (okA_upd oT oD) (hk 0 (by decide))) (hk 1 (by decide))) (okV_of oT (okV_of oH oS))), trivial, (hk 3 (by decide)), (okV_of oH (okV_of oH oS)), (hk 2 (by decide))⟩
theorem OK_5 (hM : mOK z S E C D H T) (hk : ∀ j, j < ndI 5 → k j < z) (h : stp k H T S E C D 5 = some (al, sh, S', E', C', D')) : al.length = ndI 5 ∧ mOK z S' E' C' D' (stH sh (alH k 0 al H)) (alT k 0 al T) := by
  obtain ⟨oH, oT, oS, oE, oC, oD⟩ := hM
  rw [stp_5] at h
  cases h
  exact ⟨rfl, (okA_upd oH (okV_of oH oS)), (okA_upd oT (okV_of oH oD)), (hk 0 (by decide)), (okV_of oH (okV_of oT oD)), (okV_of oH (okV_of oT (okV_of oT oD))), (okV_of oT (okV_of oT (okV_of oT oD)))⟩
theorem OK_6 (hM : mOK z S E C D H T) (hk : ∀ j, j < ndI 6 → k j < z) (h : stp k H T S E C D 6 = some (al, sh, S', E', C', D')) : al.length = ndI 6 ∧ mOK z S' E' C' D' (stH sh (alH k 0 al H)) (alT k 0 al T) := by
  obtain ⟨oH, oT, oS, oE, oC, oD⟩ := hM
  rw [stp_6] at h
  cases h
  exact ⟨rfl, (okA_upd oH trivial), (okA_upd oT oE), oS, (hk 0 (by decide)), (okV_of oT oC), oD⟩
theorem OK_7 (hM : mOK z S E C D H T) (hk : ∀ j, j < ndI 7 → k j < z) (h : stp k H T S E C D 7 = some (al, sh, S', E', C', D')) : al.length = ndI 7 ∧ mOK z S' E' C' D' (stH sh (alH k 0 al H)) (alT k 0 al T) := by
  obtain ⟨oH, oT, oS, oE, oC, oD⟩ := hM
  rw [stp_7] at h
  split at h
  rotate_left
  · cases h
  cases h
  exact ⟨rfl, (okA_st (okA_upd (okA_upd (okA_upd oH (okV_of oT oC)) (okV_of oT oE)) (okV_of oT (okV_of oT oS))) (okV_of oH (okV_of oT oS))), (okA_upd (okA_upd (okA_upd oT oD) (hk 0 (by decide))) (hk 1 (by decide))), trivial, (okV_of oT (okV_of oH oS)), (okV_of oH (okV_of oH oS)), (hk 2 (by decide))⟩
theorem OK_8 (hM : mOK z S E C D H T) (hk : ∀ j, j < ndI 8 → k j < z) (h : stp k H T S E C D 8 = some (al, sh, S', E', C', D')) : al.length = ndI 8 ∧ mOK z S' E' C' D' (stH sh (alH k 0 al H)) (alT k 0 al T) := by
  obtain ⟨oH, oT, oS, oE, oC, oD⟩ := hM
  rw [stp_8] at h
  split at h
  rotate_left
  · cases h
  cases h
  exact ⟨rfl, (okA_upd oH (okV_of oT (okV_of oT (okV_of oT oC)))), (okA_upd oT oD), (okV_of oT oS), oE, (by split; exact okV_of oH (okV_of oT (okV_of oT oC)); exact okV_of oH (okV_of oT oC)), (hk 0 (by decide))⟩
theorem OK_9 (hM : mOK z S E C D H T) (hk : ∀ j, j < ndI 9 → k j < z) (h : stp k H T S E C D 9 = some (al, sh, S', E', C', D')) : al.length = ndI 9 ∧ mOK z S' E' C' D' (stH sh (alH k 0 al H)) (alT k 0 al T) := by
  obtain ⟨oH, oT, oS, oE, oC, oD⟩ := hM
  rw [stp_9] at h
  cases h
  exact ⟨rfl, oH, oT, oS, oE, (okV_of oH oD), (okV_of oT oD)⟩
theorem OK_10 (hM : mOK z S E C D H T) (hk : ∀ j, j < ndI 10 → k j < z) (h : stp k H T S E C D 10 = some (al, sh, S', E', C', D')) : al.length = ndI 10 ∧ mOK z S' E' C' D' (stH sh (alH k 0 al H)) (alT k 0 al T) := by
  obtain ⟨oH, oT, oS, oE, oC, oD⟩ := hM
  rw [stp_10] at h
  split at h
  rotate_left
  · cases h
  cases h
  exact ⟨rfl, (okA_upd oH (okV_of oH (okV_of oH oS))), (okA_upd oT (okV_of oT oS)), (hk 0 (by decide)), oE, (okV_of oT oC), oD⟩
theorem OK_11 (hM : mOK z S E C D H T) (hk : ∀ j, j < ndI 11 → k j < z) (h : stp k H T S E C D 11 = some (al, sh, S', E', C', D')) : al.length = ndI 11 ∧ mOK z S' E' C' D' (stH sh (alH k 0 al H)) (alT k 0 al T) := by
  obtain ⟨oH, oT, oS, oE, oC, oD⟩ := hM
  rw [stp_11] at h
  split at h
  rotate_left
  · cases h
  cases h
  exact ⟨rfl, (okA_upd oH (okV_of oT (okV_of oH oS))), (okA_upd oT (okV_of oT oS)), (hk 0 (by decide)), oE, (okV_of oT oC), oD⟩
theorem OK_12 (hM : mOK z S E C D H T) (hk : ∀ j, j < ndI 12 → k j < z) (h : stp k H T S E C D 12 = some (al, sh, S', E', C', D')) : al.length = ndI 12 ∧ mOK z S' E' C' D' (stH sh (alH k 0 al H)) (alT k 0 al T) := by
  obtain ⟨oH, oT, oS, oE, oC, oD⟩ := hM
  rw [stp_12] at h
  cases h
  exact ⟨rfl, (okA_upd oH trivial), (okA_upd oT (okV_of oT oS)), (hk 0 (by decide)), oE, (okV_of oT oC), oD⟩
theorem OK_13 (hM : mOK z S E C D H T) (hk : ∀ j, j < ndI 13 → k j < z) (h : stp k H T S E C D 13 = some (al, sh, S', E', C', D')) : al.length = ndI 13 ∧ mOK z S' E' C' D' (stH sh (alH k 0 al H)) (alT k 0 al T) := by
  obtain ⟨oH, oT, oS, oE, oC, oD⟩ := hM
  rw [stp_13] at h
  cases h
  exact ⟨rfl, (okA_upd (okA_upd oH (okV_of oH oS)) (hk 0 (by decide))), (okA_upd (okA_upd oT (okV_of oH (okV_of oT oS))) (okV_of oT (okV_of oT oS))), (hk 1 (by decide)), oE, (okV_of oT oC), oD⟩
theorem OK_14 (hM : mOK z S E C D H T) (hk : ∀ j, j < ndI 14 → k j < z) (h : stp k H T S E C D 14 = some (al, sh, S', E', C', D')) : al.length = ndI 14 ∧ mOK z S' E' C' D' (stH sh (alH k 0 al H)) (alT k 0 al T) := by
  obtain ⟨oH, oT, oS, oE, oC, oD⟩ := hM
  rw [stp_14] at h
  cases h
  exact ⟨rfl, (okA_upd oH trivial), (okA_upd oT (okV_of oT (okV_of oT oS))), (hk 0 (by decide)), oE, (okV_of oT oC), oD⟩
theorem OK_15 (hM : mOK z S E C D H T) (hk : ∀ j, j < ndI 15 → k j < z) (h : stp k H T S E C D 15 = some (al, sh, S', E', C', D')) : al.length = ndI 15 ∧ mOK z S' E' C' D' (stH sh (alH k 0 al H)) (alT k 0 al T) := by
  obtain ⟨oH, oT, oS, oE, oC, oD⟩ := hM
  rw [stp_15] at h
  split at h
  rotate_left
  · cases h
  cases h
  exact ⟨rfl, (okA_upd oH trivial), (okA_upd oT (okV_of oT (okV_of oT oS))), (hk 0 (by decide)), oE, (okV_of oT oC), oD⟩
theorem OK_16 (hM : mOK z S E C D H T) (hk : ∀ j, j < ndI 16 → k j < z) (h : stp k H T S E C D 16 = some (al, sh, S', E', C', D')) : al.length = ndI 16 ∧ mOK z S' E' C' D' (stH sh (alH k 0 al H)) (alT k 0 al T) := by
  obtain ⟨oH, oT, oS, oE, oC, oD⟩ := hM
  rw [stp_16] at h
  split at h
  rotate_left
  · cases h
  cases h
  exact ⟨rfl, (okA_upd oH trivial), (okA_upd oT (okV_of oT (okV_of oT oS))), (hk 0 (by decide)), oE, (okV_of oT oC), oD⟩
theorem OK_17 (hM : mOK z S E C D H T) (hk : ∀ j, j < ndI 17 → k j < z) (h : stp k H T S E C D 17 = some (al, sh, S', E', C', D')) : al.length = ndI 17 ∧ mOK z S' E' C' D' (stH sh (alH k 0 al H)) (alT k 0 al T) := by
  obtain ⟨oH, oT, oS, oE, oC, oD⟩ := hM
  rw [stp_17] at h
  split at h
  rotate_left
  · cases h
  cases h
  exact ⟨rfl, (okA_upd oH trivial), (okA_upd oT (okV_of oT (okV_of oT oS))), (hk 0 (by decide)), oE, (okV_of oT oC), oD⟩
theorem OK_18 (hM : mOK z S E C D H T) (hk : ∀ j, j < ndI 18 → k j < z) (h : stp k H T S E C D 18 = some (al, sh, S', E', C', D')) : al.length = ndI 18 ∧ mOK z S' E' C' D' (stH sh (alH k 0 al H)) (alT k 0 al T) := by
  obtain ⟨oH, oT, oS, oE, oC, oD⟩ := hM
  rw [stp_18] at h
  split at h
  rotate_left
  · cases h
  cases h
  exact ⟨rfl, (okA_upd oH trivial), (okA_upd oT (okV_of oT (okV_of oT oS))), (hk 0 (by decide)), oE, (okV_of oT oC), oD⟩
theorem OK_all {x : Int32} (hx : 1 ≤ x ∧ x ≤ 18) (hM : mOK z S E C D H T) (hk : ∀ j, j < ndI x → k j < z) (h : stp k H T S E C D x = some (al, sh, S', E', C', D')) : al.length = ndI x ∧ mOK z S' E' C' D' (stH sh (alH k 0 al H)) (alT k 0 al T) := by
  obtain ⟨h1, h2⟩ := hx
  obtain ⟨j, hj, rfl⟩ := nI_of (Int32.not_lt.mpr (Int32.le_trans (by decide : (0 : Int32) ≤ 1) h1))
  have g1 : 1 ≤ j := (nI_leI (a := 1) (by decide) hj).mp h1
  have g2 : j ≤ 18 := (nI_leI (b := 18) hj (by decide)).mp h2
  have : j = 1 ∨ j = 2 ∨ j = 3 ∨ j = 4 ∨ j = 5 ∨ j = 6 ∨ j = 7 ∨ j = 8 ∨ j = 9 ∨ j = 10 ∨ j = 11 ∨ j = 12 ∨ j = 13 ∨ j = 14 ∨ j = 15 ∨ j = 16 ∨ j = 17 ∨ j = 18 := by omega
  rcases this with rfl | rfl | rfl | rfl | rfl | rfl | rfl | rfl | rfl | rfl | rfl | rfl | rfl | rfl | rfl | rfl | rfl | rfl
  · exact OK_1 hM hk h
  · exact OK_2 hM hk h
  · exact OK_3 hM hk h
  · exact OK_4 hM hk h
  · exact OK_5 hM hk h
  · exact OK_6 hM hk h
  · exact OK_7 hM hk h
  · exact OK_8 hM hk h
  · exact OK_9 hM hk h
  · exact OK_10 hM hk h
  · exact OK_11 hM hk h
  · exact OK_12 hM hk h
  · exact OK_13 hM hk h
  · exact OK_14 hM hk h
  · exact OK_15 hM hk h
  · exact OK_16 hM hk h
  · exact OK_17 hM hk h
  · exact OK_18 hM hk h
end ZKD
def AX (A : Nat → Prop) (H T : Nat → Vl) (S E C D : Vl) (x : Int32) : Prop := clo A H T ∧ (inU A S ∧ inU A E ∧ inU A C ∧ inU A D) ∧ (isL_ S ∧ isL_ (ofV T S)) ∧ (x = 2 → ∃ n, n < 10000 ∧ ofV H (ofV T C) = vInt (nI n)) ∧ (x = 7 → isL_ (ofV T (ofV H S)) ∧ ∀ a, ceV (ofV H S) = some a → ¬ ceV (ofV T (ofV H S)) = some a)
section ZKE
variable {m b0 b1 : Nat} {op : Bool} {tl : List mj_O} {Q : mj_R → Prop} {xs : List Int32} {o0 o1 o2 o3 o4 o5 o6 o7 o8 o9 o10 o11 o12 o13 o14 o15 : mj_O} {S E C D : Vl} {mode colls taken steps : Int32} {z : Nat} {H T : Nat → Vl} {fr : Nat → Nat} {g : gS} {f c : Nat} {k : Int32} {n : Nat} {fb : Nat → Nat} {R : Nat → Vl} {A : Nat → Prop} {kk : Nat → Nat}
set_option maxRecDepth 10000
theorem X_constant (hX : AX A H T S E C D 1) (hk : ∀ j, j < 1 → kk j = fr (f + 1 - 1 - j) ∧ ¬ A (kk j)) (hz : z ≤ 250) (hM : mOK z S E C D H T) (hfr : ∀ j, j < z → fr j < z) (hf : f + 1 ≤ z) (h0 : stp kk H T S E C D 1 = none → Q (.inl (some (.int 0)), (fW o0 o1 o2 o3 o4 o5 o6 o7 o8 o9 o10 o11 o12 o13 o14 o15 S E C D mode colls taken steps z H T fr g (f + 1) c k n fb R tl, b0, b1, op))) (h1 : ∀ al sh S' E' C' D', stp kk H T S E C D 1 = some (al, sh, S', E', C', D') → Q (.inl (some (.int 1)), (fW o0 o1 o2 o3 o4 o5 o6 o7 o8 o9 o10 o11 o12 o13 o14 o15 S' E' C' D' mode colls taken steps z (stH sh (alH kk 0 al H)) (alT kk 0 al T) fr g f c k n fb R tl, b0, b1, op))) : mj_Mt gT (law_cst xs) gnw (m + 3) y_Machine_constant [.ref 16] (fW o0 o1 o2 o3 o4 o5 o6 o7 o8 o9 o10 o11 o12 o13 o14 o15 S E C D mode colls taken steps z H T fr g (f + 1) c k n fb R tl, b0, b1, op) Q := by
  obtain ⟨hc, ⟨uS, uE, uC, uD⟩, ⟨l1, l2⟩, a2, a7⟩ := hX
  obtain ⟨hA, hB, hS, hE, hC, hD⟩ := hM
  have uTC := clo_T hc uC
  have k0 : kk 0 = fr f := by rw [(hk 0 (by decide)).1, show f + 1 - 1 - 0 = f by omega]
  have n0 : ¬ A (fr f) := by rw [← k0]; exact (hk 0 (by decide)).2
  refine k_constant hz hA hB hfr hS hE hC hD (by omega) ?_
  have hq := h1 _ _ _ _ _ _ stp_1
  rw [ofV_nf uTC n0]
  rw [← k0]
  exact hq
theorem X_variable (hX : AX A H T S E C D 2) (hk : ∀ j, j < 1 → kk j = fr (f + 1 - 1 - j) ∧ ¬ A (kk j)) (hz : z ≤ 250) (hM : mOK z S E C D H T) (hfr : ∀ j, j < z → fr j < z) (hf : f + 1 ≤ z) (h0 : stp kk H T S E C D 2 = none → Q (.inl (some (.int 0)), (fW o0 o1 o2 o3 o4 o5 o6 o7 o8 o9 o10 o11 o12 o13 o14 o15 S E C D mode colls taken steps z H T fr g (f + 1) c k n fb R tl, b0, b1, op))) (h1 : ∀ al sh S' E' C' D', stp kk H T S E C D 2 = some (al, sh, S', E', C', D') → Q (.inl (some (.int 1)), (fW o0 o1 o2 o3 o4 o5 o6 o7 o8 o9 o10 o11 o12 o13 o14 o15 S' E' C' D' mode colls taken steps z (stH sh (alH kk 0 al H)) (alT kk 0 al T) fr g f c k n fb R tl, b0, b1, op))) : mj_Mt gT (law_cst xs) gnw (m + 4) y_Machine_variable [.ref 16] (fW o0 o1 o2 o3 o4 o5 o6 o7 o8 o9 o10 o11 o12 o13 o14 o15 S E C D mode colls taken steps z H T fr g (f + 1) c k n fb R tl, b0, b1, op) Q := by
  obtain ⟨hc, ⟨uS, uE, uC, uD⟩, ⟨l1, l2⟩, a2, a7⟩ := hX
  obtain ⟨hA, hB, hS, hE, hC, hD⟩ := hM
  have uTC := clo_T hc uC
  have k0 : kk 0 = fr f := by rw [(hk 0 (by decide)).1, show f + 1 - 1 - 0 = f by omega]
  have n0 : ¬ A (fr f) := by rw [← k0]; exact (hk 0 (by decide)).2
  obtain ⟨nn, hn, en⟩ := a2 rfl
  have ei : (iV (ofV H (ofV T C))).toNatClampNeg = nn := by rw [en]; exact nI_clamp (by omega)
  have sp := stp_2 (k := kk) (H := H) (T := T) (S := S) (E := E) (C := C) (D := D)
  rw [ei] at sp
  refine k_variable (n := nn) hn (iV_enc en) hz hA hB hfr hS hE hC hD (by omega) (fun q => ?_) (fun q1 q2 => ?_) (fun q1 q2 => ?_)
  · exact h0 (by rw [sp, if_neg q])
  · exact h0 (by rw [sp, if_pos q1, if_neg q2])
  · have hq := h1 _ _ _ _ _ _ (by rw [sp, if_pos q1, if_pos q2])
    rw [ofV_nf uTC n0]
    rw [← k0]
    exact hq
theorem X_function (hX : AX A H T S E C D 3) (hk : ∀ j, j < 2 → kk j = fr (f + 2 - 1 - j) ∧ ¬ A (kk j)) (hz : z ≤ 250) (hM : mOK z S E C D H T) (hfr : ∀ j, j < z → fr j < z) (hf : f + 2 ≤ z) (h0 : stp kk H T S E C D 3 = none → Q (.inl (some (.int 0)), (fW o0 o1 o2 o3 o4 o5 o6 o7 o8 o9 o10 o11 o12 o13 o14 o15 S E C D mode colls taken steps z H T fr g (f + 2) c k n fb R tl, b0, b1, op))) (h1 : ∀ al sh S' E' C' D', stp kk H T S E C D 3 = some (al, sh, S', E', C', D') → Q (.inl (some (.int 1)), (fW o0 o1 o2 o3 o4 o5 o6 o7 o8 o9 o10 o11 o12 o13 o14 o15 S' E' C' D' mode colls taken steps z (stH sh (alH kk 0 al H)) (alT kk 0 al T) fr g f c k n fb R tl, b0, b1, op))) : mj_Mt gT (law_cst xs) gnw (m + 3) y_Machine_function [.ref 16] (fW o0 o1 o2 o3 o4 o5 o6 o7 o8 o9 o10 o11 o12 o13 o14 o15 S E C D mode colls taken steps z H T fr g (f + 2) c k n fb R tl, b0, b1, op) Q := by
  obtain ⟨hc, ⟨uS, uE, uC, uD⟩, ⟨l1, l2⟩, a2, a7⟩ := hX
  obtain ⟨hA, hB, hS, hE, hC, hD⟩ := hM
  have uTC := clo_T hc uC
  have k0 : kk 0 = fr (f + 1) := by rw [(hk 0 (by decide)).1, show f + 2 - 1 - 0 = f + 1 by omega]
  have n0 : ¬ A (fr (f + 1)) := by rw [← k0]; exact (hk 0 (by decide)).2
  have k1 : kk 1 = fr f := by rw [(hk 1 (by decide)).1, show f + 2 - 1 - 1 = f by omega]
  have n1 : ¬ A (fr f) := by rw [← k1]; exact (hk 1 (by decide)).2
  refine k_function hz hA hB hfr hS hE hC hD (by omega) ?_
  have hq := h1 _ _ _ _ _ _ stp_3
  rw [ofV_nf uTC n1, ofV_nf uTC n0]
  rw [← k1, ← k0]
  exact hq
theorem X_apply (hX : AX A H T S E C D 4) (hk : ∀ j, j < 4 → kk j = fr (f + 4 - 1 - j) ∧ ¬ A (kk j)) (hz : z ≤ 250) (hM : mOK z S E C D H T) (hfr : ∀ j, j < z → fr j < z) (hf : f + 4 ≤ z) (h0 : stp kk H T S E C D 4 = none → Q (.inl (some (.int 0)), (fW o0 o1 o2 o3 o4 o5 o6 o7 o8 o9 o10 o11 o12 o13 o14 o15 S E C D mode colls taken steps z H T fr g (f + 4) c k n fb R tl, b0, b1, op))) (h1 : ∀ al sh S' E' C' D', stp kk H T S E C D 4 = some (al, sh, S', E', C', D') → Q (.inl (some (.int 1)), (fW o0 o1 o2 o3 o4 o5 o6 o7 o8 o9 o10 o11 o12 o13 o14 o15 S' E' C' D' mode colls taken steps z (stH sh (alH kk 0 al H)) (alT kk 0 al T) fr g f c k n fb R tl, b0, b1, op))) : mj_Mt gT (law_cst xs) gnw (m + 4) y_Machine_apply [.ref 16] (fW o0 o1 o2 o3 o4 o5 o6 o7 o8 o9 o10 o11 o12 o13 o14 o15 S E C D mode colls taken steps z H T fr g (f + 4) c k n fb R tl, b0, b1, op) Q := by
  obtain ⟨hc, ⟨uS, uE, uC, uD⟩, ⟨l1, l2⟩, a2, a7⟩ := hX
  obtain ⟨hA, hB, hS, hE, hC, hD⟩ := hM
  have uHS := clo_H hc uS
  have k0 : kk 0 = fr (f + 3) := by rw [(hk 0 (by decide)).1, show f + 4 - 1 - 0 = f + 3 by omega]
  have n0 : ¬ A (fr (f + 3)) := by rw [← k0]; exact (hk 0 (by decide)).2
  have k1 : kk 1 = fr (f + 2) := by rw [(hk 1 (by decide)).1, show f + 4 - 1 - 1 = f + 2 by omega]
  have n1 : ¬ A (fr (f + 2)) := by rw [← k1]; exact (hk 1 (by decide)).2
  have k2 : kk 2 = fr (f + 1) := by rw [(hk 2 (by decide)).1, show f + 4 - 1 - 2 = f + 1 by omega]
  have n2 : ¬ A (fr (f + 1)) := by rw [← k2]; exact (hk 2 (by decide)).2
  have k3 : kk 3 = fr f := by rw [(hk 3 (by decide)).1, show f + 4 - 1 - 3 = f by omega]
  have n3 : ¬ A (fr f) := by rw [← k3]; exact (hk 3 (by decide)).2
  refine k_apply hz hA hB hfr hS hE hC hD (by omega) (fun q => ?_) (fun q => ?_)
  · exact h0 (by rw [stp_4, if_neg q])
  · have hq := h1 _ _ _ _ _ _ (by rw [stp_4, if_pos q])
    rw [ofV_nf uHS n3, ofV_nf uHS n2, ofV_nf uHS n1, ofV_nf uHS n0, ofV_nf uHS n2, ofV_nf uHS n1, ofV_nf uHS n0]
    rw [← k3, ← k2, ← k1, ← k0]
    exact hq
theorem X_giveBack (hX : AX A H T S E C D 5) (hk : ∀ j, j < 1 → kk j = fr (f + 1 - 1 - j) ∧ ¬ A (kk j)) (hz : z ≤ 250) (hM : mOK z S E C D H T) (hfr : ∀ j, j < z → fr j < z) (hf : f + 1 ≤ z) (h0 : stp kk H T S E C D 5 = none → Q (.inl (some (.int 0)), (fW o0 o1 o2 o3 o4 o5 o6 o7 o8 o9 o10 o11 o12 o13 o14 o15 S E C D mode colls taken steps z H T fr g (f + 1) c k n fb R tl, b0, b1, op))) (h1 : ∀ al sh S' E' C' D', stp kk H T S E C D 5 = some (al, sh, S', E', C', D') → Q (.inl (some (.int 1)), (fW o0 o1 o2 o3 o4 o5 o6 o7 o8 o9 o10 o11 o12 o13 o14 o15 S' E' C' D' mode colls taken steps z (stH sh (alH kk 0 al H)) (alT kk 0 al T) fr g f c k n fb R tl, b0, b1, op))) : mj_Mt gT (law_cst xs) gnw (m + 3) y_Machine_giveBack [.ref 16] (fW o0 o1 o2 o3 o4 o5 o6 o7 o8 o9 o10 o11 o12 o13 o14 o15 S E C D mode colls taken steps z H T fr g (f + 1) c k n fb R tl, b0, b1, op) Q := by
  obtain ⟨hc, ⟨uS, uE, uC, uD⟩, ⟨l1, l2⟩, a2, a7⟩ := hX
  obtain ⟨hA, hB, hS, hE, hC, hD⟩ := hM
  have uTD := clo_T hc uD
  have uTTD := clo_T hc uTD
  have k0 : kk 0 = fr f := by rw [(hk 0 (by decide)).1, show f + 1 - 1 - 0 = f by omega]
  have n0 : ¬ A (fr f) := by rw [← k0]; exact (hk 0 (by decide)).2
  refine k_giveBack hz hA hB hfr hS hE hC hD (by omega) ?_
  have hq := h1 _ _ _ _ _ _ stp_5
  rw [ofV_nf uTD n0, ofV_nf uTTD n0, ofV_nf uTTD n0]
  rw [← k0]
  exact hq
theorem X_frame (hX : AX A H T S E C D 6) (hk : ∀ j, j < 1 → kk j = fr (f + 1 - 1 - j) ∧ ¬ A (kk j)) (hz : z ≤ 250) (hM : mOK z S E C D H T) (hfr : ∀ j, j < z → fr j < z) (hf : f + 1 ≤ z) (h0 : stp kk H T S E C D 6 = none → Q (.inl (some (.int 0)), (fW o0 o1 o2 o3 o4 o5 o6 o7 o8 o9 o10 o11 o12 o13 o14 o15 S E C D mode colls taken steps z H T fr g (f + 1) c k n fb R tl, b0, b1, op))) (h1 : ∀ al sh S' E' C' D', stp kk H T S E C D 6 = some (al, sh, S', E', C', D') → Q (.inl (some (.int 1)), (fW o0 o1 o2 o3 o4 o5 o6 o7 o8 o9 o10 o11 o12 o13 o14 o15 S' E' C' D' mode colls taken steps z (stH sh (alH kk 0 al H)) (alT kk 0 al T) fr g f c k n fb R tl, b0, b1, op))) : mj_Mt gT (law_cst xs) gnw (m + 3) y_Machine_frame [.ref 16] (fW o0 o1 o2 o3 o4 o5 o6 o7 o8 o9 o10 o11 o12 o13 o14 o15 S E C D mode colls taken steps z H T fr g (f + 1) c k n fb R tl, b0, b1, op) Q := by
  obtain ⟨hc, ⟨uS, uE, uC, uD⟩, ⟨l1, l2⟩, a2, a7⟩ := hX
  obtain ⟨hA, hB, hS, hE, hC, hD⟩ := hM
  have k0 : kk 0 = fr f := by rw [(hk 0 (by decide)).1, show f + 1 - 1 - 0 = f by omega]
  have n0 : ¬ A (fr f) := by rw [← k0]; exact (hk 0 (by decide)).2
  refine k_frame hz hA hB hfr hS hE hC hD (by omega) ?_
  have hq := h1 _ _ _ _ _ _ stp_6
  rw [ofV_nf uC n0]
  rw [← k0]
  exact hq
theorem X_applyInFrame (hX : AX A H T S E C D 7) (hk : ∀ j, j < 3 → kk j = fr (f + 3 - 1 - j) ∧ ¬ A (kk j)) (hz : z ≤ 250) (hM : mOK z S E C D H T) (hfr : ∀ j, j < z → fr j < z) (hf : f + 3 ≤ z) (h0 : stp kk H T S E C D 7 = none → Q (.inl (some (.int 0)), (fW o0 o1 o2 o3 o4 o5 o6 o7 o8 o9 o10 o11 o12 o13 o14 o15 S E C D mode colls taken steps z H T fr g (f + 3) c k n fb R tl, b0, b1, op))) (h1 : ∀ al sh S' E' C' D', stp kk H T S E C D 7 = some (al, sh, S', E', C', D') → Q (.inl (some (.int 1)), (fW o0 o1 o2 o3 o4 o5 o6 o7 o8 o9 o10 o11 o12 o13 o14 o15 S' E' C' D' mode colls taken steps z (stH sh (alH kk 0 al H)) (alT kk 0 al T) fr g f c k n fb R tl, b0, b1, op))) : mj_Mt gT (law_cst xs) gnw (m + 4) y_Machine_applyInFrame [.ref 16] (fW o0 o1 o2 o3 o4 o5 o6 o7 o8 o9 o10 o11 o12 o13 o14 o15 S E C D mode colls taken steps z H T fr g (f + 3) c k n fb R tl, b0, b1, op) Q := by
  obtain ⟨hc, ⟨uS, uE, uC, uD⟩, ⟨l1, l2⟩, a2, a7⟩ := hX
  obtain ⟨hA, hB, hS, hE, hC, hD⟩ := hM
  have uHS := clo_H hc uS
  have k0 : kk 0 = fr (f + 2) := by rw [(hk 0 (by decide)).1, show f + 3 - 1 - 0 = f + 2 by omega]
  have n0 : ¬ A (fr (f + 2)) := by rw [← k0]; exact (hk 0 (by decide)).2
  have k1 : kk 1 = fr (f + 1) := by rw [(hk 1 (by decide)).1, show f + 3 - 1 - 1 = f + 1 by omega]
  have n1 : ¬ A (fr (f + 1)) := by rw [← k1]; exact (hk 1 (by decide)).2
  have k2 : kk 2 = fr f := by rw [(hk 2 (by decide)).1, show f + 3 - 1 - 2 = f by omega]
  have n2 : ¬ A (fr f) := by rw [← k2]; exact (hk 2 (by decide)).2
  obtain ⟨l7, d7⟩ := a7 rfl
  have eT : ofV (upW (upW (upW T (fr (f + 2)) D) (fr (f + 1)) (vPr (fr (f + 2)))) (fr f) (vPr (fr (f + 1)))) (ofV H S) = ofV T (ofV H S) := by rw [ofV_nf uHS n2, ofV_nf uHS n1, ofV_nf uHS n0]
  have eC : ofV (upW (upW (upW H (fr (f + 2)) (ofV T C)) (fr (f + 1)) (ofV T E)) (fr f) (ofV T (ofV T S))) (ofV H S) = ofV H (ofV H S) := by rw [ofV_nf uHS n2, ofV_nf uHS n1, ofV_nf uHS n0]
  refine k_applyInFrame hz hA hB hfr hS hE hC hD (by omega) (fun q => ?_) (fun q i hi hiz => ?_) (fun q hi => ?_)
  · exact h0 (by rw [stp_7, if_neg q])
  · have hq := h1 _ _ _ _ _ _ (by rw [stp_7, if_pos q])
    rw [eT] at hi
    have ei : ofV T (ofV H S) = vPr i := by
      rcases l7 with e | ⟨j, e⟩
      · rw [e] at hi
        exact absurd hi.symm (nI_nn (by omega))
      · rw [e] at hi ⊢
        have hj : j < z := by
          have := okV_of hB (okV_of hA hS)
          rw [e] at this
          exact this
        rw [nIj (i := j) (j := i) (by omega) (by omega) hi]
    have ne : ¬ ceV (ofV H S) = some i := fun w => d7 i w (by rw [ei]; rfl)
    rw [eT, ofV_ne ne, eC]
    rw [← k2, ← k1, ← k0]
    rw [ei] at hq ⊢
    exact hq
  · have hq := h1 _ _ _ _ _ _ (by rw [stp_7, if_pos q])
    rw [eT] at hi
    have ei : ofV T (ofV H S) = vNil := by
      rcases l7 with e | ⟨j, e⟩
      · exact e
      · rw [e] at hi
        have hj : j < z := by
          have := okV_of hB (okV_of hA hS)
          rw [e] at this
          exact this
        exact absurd hi (nI_nn (by omega))
    rw [eT, eC]
    rw [← k2, ← k1, ← k0]
    rw [ei] at hq ⊢
    exact hq
theorem X_choose (hX : AX A H T S E C D 8) (hk : ∀ j, j < 1 → kk j = fr (f + 1 - 1 - j) ∧ ¬ A (kk j)) (hz : z ≤ 250) (hM : mOK z S E C D H T) (hfr : ∀ j, j < z → fr j < z) (hf : f + 1 ≤ z) (h0 : stp kk H T S E C D 8 = none → Q (.inl (some (.int 0)), (fW o0 o1 o2 o3 o4 o5 o6 o7 o8 o9 o10 o11 o12 o13 o14 o15 S E C D mode colls taken steps z H T fr g (f + 1) c k n fb R tl, b0, b1, op))) (h1 : ∀ al sh S' E' C' D', stp kk H T S E C D 8 = some (al, sh, S', E', C', D') → Q (.inl (some (.int 1)), (fW o0 o1 o2 o3 o4 o5 o6 o7 o8 o9 o10 o11 o12 o13 o14 o15 S' E' C' D' mode colls taken steps z (stH sh (alH kk 0 al H)) (alT kk 0 al T) fr g f c k n fb R tl, b0, b1, op))) : mj_Mt gT (law_cst xs) gnw (m + 3) y_Machine_choose [.ref 16] (fW o0 o1 o2 o3 o4 o5 o6 o7 o8 o9 o10 o11 o12 o13 o14 o15 S E C D mode colls taken steps z H T fr g (f + 1) c k n fb R tl, b0, b1, op) Q := by
  obtain ⟨hc, ⟨uS, uE, uC, uD⟩, ⟨l1, l2⟩, a2, a7⟩ := hX
  obtain ⟨hA, hB, hS, hE, hC, hD⟩ := hM
  have uTC := clo_T hc uC
  have uTTC := clo_T hc uTC
  have k0 : kk 0 = fr f := by rw [(hk 0 (by decide)).1, show f + 1 - 1 - 0 = f by omega]
  have n0 : ¬ A (fr f) := by rw [← k0]; exact (hk 0 (by decide)).2
  refine k_choose hz hA hB hfr hS hE hC hD (by omega) (fun q => ?_) (fun q w => ?_) (fun q w => ?_)
  · exact h0 (by rw [stp_8, if_neg q])
  · have hq := h1 _ _ _ _ _ _ (by rw [stp_8, if_pos q])
    rw [(kV_int q).2] at w
    rw [if_neg w] at hq
    rw [ofV_nf uTC n0]
    rw [← k0]
    exact hq
  · have hq := h1 _ _ _ _ _ _ (by rw [stp_8, if_pos q])
    rw [(kV_int q).2] at w
    rw [if_pos w] at hq
    rw [ofV_nf uTTC n0]
    rw [← k0]
    exact hq
theorem X_rejoin (hX : AX A H T S E C D 9) (hk : ∀ j, j < 0 → kk j = fr (f + 0 - 1 - j) ∧ ¬ A (kk j)) (hz : z ≤ 250) (hM : mOK z S E C D H T) (hfr : ∀ j, j < z → fr j < z) (hf : f ≤ z) (h0 : stp kk H T S E C D 9 = none → Q (.inl (some (.int 0)), (fW o0 o1 o2 o3 o4 o5 o6 o7 o8 o9 o10 o11 o12 o13 o14 o15 S E C D mode colls taken steps z H T fr g f c k n fb R tl, b0, b1, op))) (h1 : ∀ al sh S' E' C' D', stp kk H T S E C D 9 = some (al, sh, S', E', C', D') → Q (.inl (some (.int 1)), (fW o0 o1 o2 o3 o4 o5 o6 o7 o8 o9 o10 o11 o12 o13 o14 o15 S' E' C' D' mode colls taken steps z (stH sh (alH kk 0 al H)) (alT kk 0 al T) fr g f c k n fb R tl, b0, b1, op))) : mj_Mt gT (law_cst xs) gnw (m + 3) y_Machine_rejoin [.ref 16] (fW o0 o1 o2 o3 o4 o5 o6 o7 o8 o9 o10 o11 o12 o13 o14 o15 S E C D mode colls taken steps z H T fr g f c k n fb R tl, b0, b1, op) Q := by
  obtain ⟨hc, ⟨uS, uE, uC, uD⟩, ⟨l1, l2⟩, a2, a7⟩ := hX
  obtain ⟨hA, hB, hS, hE, hC, hD⟩ := hM
  refine k_rejoin hz hA hB hfr hS hE hC hD ?_
  have hq := h1 _ _ _ _ _ _ stp_9
  exact hq
theorem X_partOfPair10 (hX : AX A H T S E C D 10) (hk : ∀ j, j < 1 → kk j = fr (f + 1 - 1 - j) ∧ ¬ A (kk j)) (hz : z ≤ 250) (hM : mOK z S E C D H T) (hfr : ∀ j, j < z → fr j < z) (hf : f + 1 ≤ z) (h0 : stp kk H T S E C D 10 = none → Q (.inl (some (.int 0)), (fW o0 o1 o2 o3 o4 o5 o6 o7 o8 o9 o10 o11 o12 o13 o14 o15 S E C D mode colls taken steps z H T fr g (f + 1) c k n fb R tl, b0, b1, op))) (h1 : ∀ al sh S' E' C' D', stp kk H T S E C D 10 = some (al, sh, S', E', C', D') → Q (.inl (some (.int 1)), (fW o0 o1 o2 o3 o4 o5 o6 o7 o8 o9 o10 o11 o12 o13 o14 o15 S' E' C' D' mode colls taken steps z (stH sh (alH kk 0 al H)) (alT kk 0 al T) fr g f c k n fb R tl, b0, b1, op))) : mj_Mt gT (law_cst xs) gnw (m + 5) y_Machine_partOfPair [.ref 16, .int 10] (fW o0 o1 o2 o3 o4 o5 o6 o7 o8 o9 o10 o11 o12 o13 o14 o15 S E C D mode colls taken steps z H T fr g (f + 1) c k n fb R tl, b0, b1, op) Q := by
  obtain ⟨hc, ⟨uS, uE, uC, uD⟩, ⟨l1, l2⟩, a2, a7⟩ := hX
  obtain ⟨hA, hB, hS, hE, hC, hD⟩ := hM
  have k0 : kk 0 = fr f := by rw [(hk 0 (by decide)).1, show f + 1 - 1 - 0 = f by omega]
  have n0 : ¬ A (fr f) := by rw [← k0]; exact (hk 0 (by decide)).2
  refine k_partOfPair hz hA hB hfr hS hE hC hD (by omega) (fun q => ?_) (fun q w => ?_) (fun q w => ?_)
  · exact h0 (by rw [stp_10, if_neg q])
  · have hq := h1 _ _ _ _ _ _ (by rw [stp_10, if_pos q])
    rw [beh_1 l1, ofV_nf uC n0]
    rw [← k0]
    exact hq
  · exact absurd rfl w
theorem X_partOfPair11 (hX : AX A H T S E C D 11) (hk : ∀ j, j < 1 → kk j = fr (f + 1 - 1 - j) ∧ ¬ A (kk j)) (hz : z ≤ 250) (hM : mOK z S E C D H T) (hfr : ∀ j, j < z → fr j < z) (hf : f + 1 ≤ z) (h0 : stp kk H T S E C D 11 = none → Q (.inl (some (.int 0)), (fW o0 o1 o2 o3 o4 o5 o6 o7 o8 o9 o10 o11 o12 o13 o14 o15 S E C D mode colls taken steps z H T fr g (f + 1) c k n fb R tl, b0, b1, op))) (h1 : ∀ al sh S' E' C' D', stp kk H T S E C D 11 = some (al, sh, S', E', C', D') → Q (.inl (some (.int 1)), (fW o0 o1 o2 o3 o4 o5 o6 o7 o8 o9 o10 o11 o12 o13 o14 o15 S' E' C' D' mode colls taken steps z (stH sh (alH kk 0 al H)) (alT kk 0 al T) fr g f c k n fb R tl, b0, b1, op))) : mj_Mt gT (law_cst xs) gnw (m + 5) y_Machine_partOfPair [.ref 16, .int 11] (fW o0 o1 o2 o3 o4 o5 o6 o7 o8 o9 o10 o11 o12 o13 o14 o15 S E C D mode colls taken steps z H T fr g (f + 1) c k n fb R tl, b0, b1, op) Q := by
  obtain ⟨hc, ⟨uS, uE, uC, uD⟩, ⟨l1, l2⟩, a2, a7⟩ := hX
  obtain ⟨hA, hB, hS, hE, hC, hD⟩ := hM
  have k0 : kk 0 = fr f := by rw [(hk 0 (by decide)).1, show f + 1 - 1 - 0 = f by omega]
  have n0 : ¬ A (fr f) := by rw [← k0]; exact (hk 0 (by decide)).2
  refine k_partOfPair hz hA hB hfr hS hE hC hD (by omega) (fun q => ?_) (fun q w => ?_) (fun q w => ?_)
  · exact h0 (by rw [stp_11, if_neg q])
  · exact absurd w (by decide)
  · have hq := h1 _ _ _ _ _ _ (by rw [stp_11, if_pos q])
    rw [beh_1 l1, ofV_nf uC n0]
    rw [← k0]
    exact hq
theorem X_isNoPair (hX : AX A H T S E C D 12) (hk : ∀ j, j < 1 → kk j = fr (f + 1 - 1 - j) ∧ ¬ A (kk j)) (hz : z ≤ 250) (hM : mOK z S E C D H T) (hfr : ∀ j, j < z → fr j < z) (hf : f + 1 ≤ z) (h0 : stp kk H T S E C D 12 = none → Q (.inl (some (.int 0)), (fW o0 o1 o2 o3 o4 o5 o6 o7 o8 o9 o10 o11 o12 o13 o14 o15 S E C D mode colls taken steps z H T fr g (f + 1) c k n fb R tl, b0, b1, op))) (h1 : ∀ al sh S' E' C' D', stp kk H T S E C D 12 = some (al, sh, S', E', C', D') → Q (.inl (some (.int 1)), (fW o0 o1 o2 o3 o4 o5 o6 o7 o8 o9 o10 o11 o12 o13 o14 o15 S' E' C' D' mode colls taken steps z (stH sh (alH kk 0 al H)) (alT kk 0 al T) fr g f c k n fb R tl, b0, b1, op))) : mj_Mt gT (law_cst xs) gnw (m + 5) y_Machine_isNoPair [.ref 16] (fW o0 o1 o2 o3 o4 o5 o6 o7 o8 o9 o10 o11 o12 o13 o14 o15 S E C D mode colls taken steps z H T fr g (f + 1) c k n fb R tl, b0, b1, op) Q := by
  obtain ⟨hc, ⟨uS, uE, uC, uD⟩, ⟨l1, l2⟩, a2, a7⟩ := hX
  obtain ⟨hA, hB, hS, hE, hC, hD⟩ := hM
  have k0 : kk 0 = fr f := by rw [(hk 0 (by decide)).1, show f + 1 - 1 - 0 = f by omega]
  have n0 : ¬ A (fr f) := by rw [← k0]; exact (hk 0 (by decide)).2
  refine k_isNoPair hz hA hB hfr hS hE hC hD (by omega) (fun q => ?_) (fun q => ?_)
  · have hq := h1 _ _ _ _ _ _ (by rw [stp_12, if_pos q])
    rw [beh_1 l1, ofV_nf uC n0]
    rw [← k0]
    exact hq
  · have hq := h1 _ _ _ _ _ _ (by rw [stp_12, if_neg q])
    rw [beh_1 l1, ofV_nf uC n0]
    rw [← k0]
    exact hq
theorem X_pair (hX : AX A H T S E C D 13) (hk : ∀ j, j < 2 → kk j = fr (f + 2 - 1 - j) ∧ ¬ A (kk j)) (hz : z ≤ 250) (hM : mOK z S E C D H T) (hfr : ∀ j, j < z → fr j < z) (hf : f + 2 ≤ z) (h0 : stp kk H T S E C D 13 = none → Q (.inl (some (.int 0)), (fW o0 o1 o2 o3 o4 o5 o6 o7 o8 o9 o10 o11 o12 o13 o14 o15 S E C D mode colls taken steps z H T fr g (f + 2) c k n fb R tl, b0, b1, op))) (h1 : ∀ al sh S' E' C' D', stp kk H T S E C D 13 = some (al, sh, S', E', C', D') → Q (.inl (some (.int 1)), (fW o0 o1 o2 o3 o4 o5 o6 o7 o8 o9 o10 o11 o12 o13 o14 o15 S' E' C' D' mode colls taken steps z (stH sh (alH kk 0 al H)) (alT kk 0 al T) fr g f c k n fb R tl, b0, b1, op))) : mj_Mt gT (law_cst xs) gnw (m + 5) y_Machine_pair [.ref 16] (fW o0 o1 o2 o3 o4 o5 o6 o7 o8 o9 o10 o11 o12 o13 o14 o15 S E C D mode colls taken steps z H T fr g (f + 2) c k n fb R tl, b0, b1, op) Q := by
  obtain ⟨hc, ⟨uS, uE, uC, uD⟩, ⟨l1, l2⟩, a2, a7⟩ := hX
  obtain ⟨hA, hB, hS, hE, hC, hD⟩ := hM
  have k0 : kk 0 = fr (f + 1) := by rw [(hk 0 (by decide)).1, show f + 2 - 1 - 0 = f + 1 by omega]
  have n0 : ¬ A (fr (f + 1)) := by rw [← k0]; exact (hk 0 (by decide)).2
  have k1 : kk 1 = fr f := by rw [(hk 1 (by decide)).1, show f + 2 - 1 - 1 = f by omega]
  have n1 : ¬ A (fr f) := by rw [← k1]; exact (hk 1 (by decide)).2
  refine k_pair hz hA hB hfr hS hE hC hD (by omega) ?_
  have hq := h1 _ _ _ _ _ _ stp_13
  rw [beh_nf hc n0 2 S uS, beh_2 l1 l2, ofV_nf uC n1, ofV_nf uC n0]
  rw [← k1, ← k0]
  exact hq
theorem X_same (hX : AX A H T S E C D 14) (hk : ∀ j, j < 1 → kk j = fr (f + 1 - 1 - j) ∧ ¬ A (kk j)) (hz : z ≤ 250) (hM : mOK z S E C D H T) (hfr : ∀ j, j < z → fr j < z) (hf : f + 1 ≤ z) (h0 : stp kk H T S E C D 14 = none → Q (.inl (some (.int 0)), (fW o0 o1 o2 o3 o4 o5 o6 o7 o8 o9 o10 o11 o12 o13 o14 o15 S E C D mode colls taken steps z H T fr g (f + 1) c k n fb R tl, b0, b1, op))) (h1 : ∀ al sh S' E' C' D', stp kk H T S E C D 14 = some (al, sh, S', E', C', D') → Q (.inl (some (.int 1)), (fW o0 o1 o2 o3 o4 o5 o6 o7 o8 o9 o10 o11 o12 o13 o14 o15 S' E' C' D' mode colls taken steps z (stH sh (alH kk 0 al H)) (alT kk 0 al T) fr g f c k n fb R tl, b0, b1, op))) : mj_Mt gT (law_cst xs) gnw (m + 5) y_Machine_same [.ref 16] (fW o0 o1 o2 o3 o4 o5 o6 o7 o8 o9 o10 o11 o12 o13 o14 o15 S E C D mode colls taken steps z H T fr g (f + 1) c k n fb R tl, b0, b1, op) Q := by
  obtain ⟨hc, ⟨uS, uE, uC, uD⟩, ⟨l1, l2⟩, a2, a7⟩ := hX
  obtain ⟨hA, hB, hS, hE, hC, hD⟩ := hM
  have k0 : kk 0 = fr f := by rw [(hk 0 (by decide)).1, show f + 1 - 1 - 0 = f by omega]
  have n0 : ¬ A (fr f) := by rw [← k0]; exact (hk 0 (by decide)).2
  have cb : ∀ i, ceV (ofV H (ofV T S)) = some i → i < 250 := fun i hi => by
    have := okV_of hA (okV_of hB hS)
    have h9 : ∀ v : Vl, okV z v → ceV v = some i → i < 250 := fun v q1 q2 => by
      rcases v with u | y | y | j | j
      · cases q2
      · cases q2
      · cases q2
      · cases q2
        exact Nat.lt_of_lt_of_le q1 hz
      · cases q2
        exact Nat.lt_of_lt_of_le q1 hz
    exact h9 _ this hi
  refine k_same hz hA hB hfr hS hE hC hD (by omega) (fun q => ?_) (fun q => ?_)
  · rw [sm_same _ _ cb] at q
    have hq := h1 _ _ _ _ _ _ (by rw [stp_14, if_pos q])
    rw [beh_2 l1 l2, ofV_nf uC n0]
    rw [← k0]
    exact hq
  · rw [sm_same _ _ cb] at q
    have hq := h1 _ _ _ _ _ _ (by rw [stp_14, if_neg (by rw [q]; decide)])
    rw [beh_2 l1 l2, ofV_nf uC n0]
    rw [← k0]
    exact hq
theorem X_calculate15 (hX : AX A H T S E C D 15) (hk : ∀ j, j < 1 → kk j = fr (f + 1 - 1 - j) ∧ ¬ A (kk j)) (hz : z ≤ 250) (hM : mOK z S E C D H T) (hfr : ∀ j, j < z → fr j < z) (hf : f + 1 ≤ z) (h0 : stp kk H T S E C D 15 = none → Q (.inl (some (.int 0)), (fW o0 o1 o2 o3 o4 o5 o6 o7 o8 o9 o10 o11 o12 o13 o14 o15 S E C D mode colls taken steps z H T fr g (f + 1) c k n fb R tl, b0, b1, op))) (h1 : ∀ al sh S' E' C' D', stp kk H T S E C D 15 = some (al, sh, S', E', C', D') → Q (.inl (some (.int 1)), (fW o0 o1 o2 o3 o4 o5 o6 o7 o8 o9 o10 o11 o12 o13 o14 o15 S' E' C' D' mode colls taken steps z (stH sh (alH kk 0 al H)) (alT kk 0 al T) fr g f c k n fb R tl, b0, b1, op))) : mj_Mt gT (law_cst xs) gnw (m + 5) y_Machine_calculate [.ref 16, .int 15] (fW o0 o1 o2 o3 o4 o5 o6 o7 o8 o9 o10 o11 o12 o13 o14 o15 S E C D mode colls taken steps z H T fr g (f + 1) c k n fb R tl, b0, b1, op) Q := by
  obtain ⟨hc, ⟨uS, uE, uC, uD⟩, ⟨l1, l2⟩, a2, a7⟩ := hX
  obtain ⟨hA, hB, hS, hE, hC, hD⟩ := hM
  have k0 : kk 0 = fr f := by rw [(hk 0 (by decide)).1, show f + 1 - 1 - 0 = f by omega]
  have n0 : ¬ A (fr f) := by rw [← k0]; exact (hk 0 (by decide)).2
  refine k_calculate hz hA hB hfr hS hE hC hD (by omega) (fun q => ?_) (fun q1 q2 => ?_)
  · exact h0 (by rw [stp_15, if_neg q])
  · have hq := h1 _ _ _ _ _ _ (by rw [stp_15, if_pos ⟨q1, q2⟩])
    rw [(kV_int q1).2, (kV_int q2).2, beh_2 l1 l2, ofV_nf uC n0]
    rw [← k0]
    exact hq
theorem X_calculate16 (hX : AX A H T S E C D 16) (hk : ∀ j, j < 1 → kk j = fr (f + 1 - 1 - j) ∧ ¬ A (kk j)) (hz : z ≤ 250) (hM : mOK z S E C D H T) (hfr : ∀ j, j < z → fr j < z) (hf : f + 1 ≤ z) (h0 : stp kk H T S E C D 16 = none → Q (.inl (some (.int 0)), (fW o0 o1 o2 o3 o4 o5 o6 o7 o8 o9 o10 o11 o12 o13 o14 o15 S E C D mode colls taken steps z H T fr g (f + 1) c k n fb R tl, b0, b1, op))) (h1 : ∀ al sh S' E' C' D', stp kk H T S E C D 16 = some (al, sh, S', E', C', D') → Q (.inl (some (.int 1)), (fW o0 o1 o2 o3 o4 o5 o6 o7 o8 o9 o10 o11 o12 o13 o14 o15 S' E' C' D' mode colls taken steps z (stH sh (alH kk 0 al H)) (alT kk 0 al T) fr g f c k n fb R tl, b0, b1, op))) : mj_Mt gT (law_cst xs) gnw (m + 5) y_Machine_calculate [.ref 16, .int 16] (fW o0 o1 o2 o3 o4 o5 o6 o7 o8 o9 o10 o11 o12 o13 o14 o15 S E C D mode colls taken steps z H T fr g (f + 1) c k n fb R tl, b0, b1, op) Q := by
  obtain ⟨hc, ⟨uS, uE, uC, uD⟩, ⟨l1, l2⟩, a2, a7⟩ := hX
  obtain ⟨hA, hB, hS, hE, hC, hD⟩ := hM
  have k0 : kk 0 = fr f := by rw [(hk 0 (by decide)).1, show f + 1 - 1 - 0 = f by omega]
  have n0 : ¬ A (fr f) := by rw [← k0]; exact (hk 0 (by decide)).2
  refine k_calculate hz hA hB hfr hS hE hC hD (by omega) (fun q => ?_) (fun q1 q2 => ?_)
  · exact h0 (by rw [stp_16, if_neg q])
  · have hq := h1 _ _ _ _ _ _ (by rw [stp_16, if_pos ⟨q1, q2⟩])
    rw [(kV_int q1).2, (kV_int q2).2, beh_2 l1 l2, ofV_nf uC n0]
    rw [← k0]
    exact hq
theorem X_calculate17 (hX : AX A H T S E C D 17) (hk : ∀ j, j < 1 → kk j = fr (f + 1 - 1 - j) ∧ ¬ A (kk j)) (hz : z ≤ 250) (hM : mOK z S E C D H T) (hfr : ∀ j, j < z → fr j < z) (hf : f + 1 ≤ z) (h0 : stp kk H T S E C D 17 = none → Q (.inl (some (.int 0)), (fW o0 o1 o2 o3 o4 o5 o6 o7 o8 o9 o10 o11 o12 o13 o14 o15 S E C D mode colls taken steps z H T fr g (f + 1) c k n fb R tl, b0, b1, op))) (h1 : ∀ al sh S' E' C' D', stp kk H T S E C D 17 = some (al, sh, S', E', C', D') → Q (.inl (some (.int 1)), (fW o0 o1 o2 o3 o4 o5 o6 o7 o8 o9 o10 o11 o12 o13 o14 o15 S' E' C' D' mode colls taken steps z (stH sh (alH kk 0 al H)) (alT kk 0 al T) fr g f c k n fb R tl, b0, b1, op))) : mj_Mt gT (law_cst xs) gnw (m + 5) y_Machine_calculate [.ref 16, .int 17] (fW o0 o1 o2 o3 o4 o5 o6 o7 o8 o9 o10 o11 o12 o13 o14 o15 S E C D mode colls taken steps z H T fr g (f + 1) c k n fb R tl, b0, b1, op) Q := by
  obtain ⟨hc, ⟨uS, uE, uC, uD⟩, ⟨l1, l2⟩, a2, a7⟩ := hX
  obtain ⟨hA, hB, hS, hE, hC, hD⟩ := hM
  have k0 : kk 0 = fr f := by rw [(hk 0 (by decide)).1, show f + 1 - 1 - 0 = f by omega]
  have n0 : ¬ A (fr f) := by rw [← k0]; exact (hk 0 (by decide)).2
  refine k_calculate hz hA hB hfr hS hE hC hD (by omega) (fun q => ?_) (fun q1 q2 => ?_)
  · exact h0 (by rw [stp_17, if_neg q])
  · have hq := h1 _ _ _ _ _ _ (by rw [stp_17, if_pos ⟨q1, q2⟩])
    rw [(kV_int q1).2, (kV_int q2).2, beh_2 l1 l2, ofV_nf uC n0]
    rw [← k0]
    exact hq
theorem X_calculate18 (hX : AX A H T S E C D 18) (hk : ∀ j, j < 1 → kk j = fr (f + 1 - 1 - j) ∧ ¬ A (kk j)) (hz : z ≤ 250) (hM : mOK z S E C D H T) (hfr : ∀ j, j < z → fr j < z) (hf : f + 1 ≤ z) (h0 : stp kk H T S E C D 18 = none → Q (.inl (some (.int 0)), (fW o0 o1 o2 o3 o4 o5 o6 o7 o8 o9 o10 o11 o12 o13 o14 o15 S E C D mode colls taken steps z H T fr g (f + 1) c k n fb R tl, b0, b1, op))) (h1 : ∀ al sh S' E' C' D', stp kk H T S E C D 18 = some (al, sh, S', E', C', D') → Q (.inl (some (.int 1)), (fW o0 o1 o2 o3 o4 o5 o6 o7 o8 o9 o10 o11 o12 o13 o14 o15 S' E' C' D' mode colls taken steps z (stH sh (alH kk 0 al H)) (alT kk 0 al T) fr g f c k n fb R tl, b0, b1, op))) : mj_Mt gT (law_cst xs) gnw (m + 5) y_Machine_calculate [.ref 16, .int 18] (fW o0 o1 o2 o3 o4 o5 o6 o7 o8 o9 o10 o11 o12 o13 o14 o15 S E C D mode colls taken steps z H T fr g (f + 1) c k n fb R tl, b0, b1, op) Q := by
  obtain ⟨hc, ⟨uS, uE, uC, uD⟩, ⟨l1, l2⟩, a2, a7⟩ := hX
  obtain ⟨hA, hB, hS, hE, hC, hD⟩ := hM
  have k0 : kk 0 = fr f := by rw [(hk 0 (by decide)).1, show f + 1 - 1 - 0 = f by omega]
  have n0 : ¬ A (fr f) := by rw [← k0]; exact (hk 0 (by decide)).2
  refine k_calculate hz hA hB hfr hS hE hC hD (by omega) (fun q => ?_) (fun q1 q2 => ?_)
  · exact h0 (by rw [stp_18, if_neg q])
  · have hq := h1 _ _ _ _ _ _ (by rw [stp_18, if_pos ⟨q1, q2⟩])
    rw [(kV_int q1).2, (kV_int q2).2, beh_2 l1 l2, ofV_nf uC n0]
    rw [← k0]
    exact hq
theorem k_actX {x : Int32} (hx : 1 ≤ x ∧ x ≤ 18) (hX : AX A H T S E C D x) (hk : ∀ j, j < ndI x → kk j = fr (f - 1 - j) ∧ ¬ A (kk j)) (hn : ndI x ≤ f) (hz : z ≤ 250) (hM : mOK z S E C D H T) (hfr : ∀ j, j < z → fr j < z) (hf : f ≤ z) (h0 : stp kk H T S E C D x = none → Q (.inl (some (.int 0)), (fW o0 o1 o2 o3 o4 o5 o6 o7 o8 o9 o10 o11 o12 o13 o14 o15 S E C D mode colls taken steps z H T fr g f c k n fb R tl, b0, b1, op))) (h1 : ∀ al sh S' E' C' D' f', stp kk H T S E C D x = some (al, sh, S', E', C', D') → f' + ndI x = f → Q (.inl (some (.int 1)), (fW o0 o1 o2 o3 o4 o5 o6 o7 o8 o9 o10 o11 o12 o13 o14 o15 S' E' C' D' mode colls taken steps z (stH sh (alH kk 0 al H)) (alT kk 0 al T) fr g f' c k n fb R tl, b0, b1, op))) : mj_Mt gT (law_cst xs) gnw (m + 10) y_Machine_act [.ref 16, .int x] (fW o0 o1 o2 o3 o4 o5 o6 o7 o8 o9 o10 o11 o12 o13 o14 o15 S E C D mode colls taken steps z H T fr g f c k n fb R tl, b0, b1, op) Q := by
  intro J hJ
  refine hJ _ _ _ _ ?_
  refine And.intro (fun hx => ?_) (fun hx1 => ?_)
  · have hx : x = 1 := hx
    subst hx
    have hn9 : ndI 1 = 1 := by decide
    rw [hn9] at hk hn h1
    obtain ⟨f, rfl⟩ : ∃ f0, f = f0 + 1 := ⟨f - 1, by omega⟩
    exact X_constant hX hk hz hM hfr hf (fun q => And.intro (Or.inl rfl) (h0 q)) (fun al sh S' E' C' D' q => And.intro (Or.inr rfl) (h1 al sh S' E' C' D' f q rfl))
  refine And.intro (fun hx => ?_) (fun hx2 => ?_)
  · have hx : x = 2 := hx
    subst hx
    have hn9 : ndI 2 = 1 := by decide
    rw [hn9] at hk hn h1
    obtain ⟨f, rfl⟩ : ∃ f0, f = f0 + 1 := ⟨f - 1, by omega⟩
    exact X_variable hX hk hz hM hfr hf (fun q => And.intro (Or.inl rfl) (h0 q)) (fun al sh S' E' C' D' q => And.intro (Or.inr rfl) (h1 al sh S' E' C' D' f q rfl))
  refine And.intro (fun hx => ?_) (fun hx3 => ?_)
  · have hx : x = 3 := hx
    subst hx
    have hn9 : ndI 3 = 2 := by decide
    rw [hn9] at hk hn h1
    obtain ⟨f, rfl⟩ : ∃ f0, f = f0 + 2 := ⟨f - 2, by omega⟩
    exact X_function hX hk hz hM hfr hf (fun q => And.intro (Or.inl rfl) (h0 q)) (fun al sh S' E' C' D' q => And.intro (Or.inr rfl) (h1 al sh S' E' C' D' f q rfl))
  refine And.intro (fun hx => ?_) (fun hx4 => ?_)
  · have hx : x = 4 := hx
    subst hx
    have hn9 : ndI 4 = 4 := by decide
    rw [hn9] at hk hn h1
    obtain ⟨f, rfl⟩ : ∃ f0, f = f0 + 4 := ⟨f - 4, by omega⟩
    exact X_apply hX hk hz hM hfr hf (fun q => And.intro (Or.inl rfl) (h0 q)) (fun al sh S' E' C' D' q => And.intro (Or.inr rfl) (h1 al sh S' E' C' D' f q rfl))
  refine And.intro (fun hx => ?_) (fun hx5 => ?_)
  · have hx : x = 5 := hx
    subst hx
    have hn9 : ndI 5 = 1 := by decide
    rw [hn9] at hk hn h1
    obtain ⟨f, rfl⟩ : ∃ f0, f = f0 + 1 := ⟨f - 1, by omega⟩
    exact X_giveBack hX hk hz hM hfr hf (fun q => And.intro (Or.inl rfl) (h0 q)) (fun al sh S' E' C' D' q => And.intro (Or.inr rfl) (h1 al sh S' E' C' D' f q rfl))
  refine And.intro (fun hx => ?_) (fun hx6 => ?_)
  · have hx : x = 6 := hx
    subst hx
    have hn9 : ndI 6 = 1 := by decide
    rw [hn9] at hk hn h1
    obtain ⟨f, rfl⟩ : ∃ f0, f = f0 + 1 := ⟨f - 1, by omega⟩
    exact X_frame hX hk hz hM hfr hf (fun q => And.intro (Or.inl rfl) (h0 q)) (fun al sh S' E' C' D' q => And.intro (Or.inr rfl) (h1 al sh S' E' C' D' f q rfl))
  refine And.intro (fun hx => ?_) (fun hx7 => ?_)
  · have hx : x = 7 := hx
    subst hx
    have hn9 : ndI 7 = 3 := by decide
    rw [hn9] at hk hn h1
    obtain ⟨f, rfl⟩ : ∃ f0, f = f0 + 3 := ⟨f - 3, by omega⟩
    exact X_applyInFrame hX hk hz hM hfr hf (fun q => And.intro (Or.inl rfl) (h0 q)) (fun al sh S' E' C' D' q => And.intro (Or.inr rfl) (h1 al sh S' E' C' D' f q rfl))
  refine And.intro (fun hx => ?_) (fun hx8 => ?_)
  · have hx : x = 8 := hx
    subst hx
    have hn9 : ndI 8 = 1 := by decide
    rw [hn9] at hk hn h1
    obtain ⟨f, rfl⟩ : ∃ f0, f = f0 + 1 := ⟨f - 1, by omega⟩
    exact X_choose hX hk hz hM hfr hf (fun q => And.intro (Or.inl rfl) (h0 q)) (fun al sh S' E' C' D' q => And.intro (Or.inr rfl) (h1 al sh S' E' C' D' f q rfl))
  refine And.intro (fun hx => ?_) (fun hx9 => ?_)
  · have hx : x = 9 := hx
    subst hx
    have hn9 : ndI 9 = 0 := by decide
    rw [hn9] at hk hn h1
    exact X_rejoin hX hk hz hM hfr hf (fun q => And.intro (Or.inl rfl) (h0 q)) (fun al sh S' E' C' D' q => And.intro (Or.inr rfl) (h1 al sh S' E' C' D' f q rfl))
  refine And.intro (fun hx => ?_) (fun hx10 => ?_)
  · have hx : x = 10 := hx
    subst hx
    have hn9 : ndI 10 = 1 := by decide
    rw [hn9] at hk hn h1
    obtain ⟨f, rfl⟩ : ∃ f0, f = f0 + 1 := ⟨f - 1, by omega⟩
    exact X_partOfPair10 hX hk hz hM hfr hf (fun q => And.intro (Or.inl rfl) (h0 q)) (fun al sh S' E' C' D' q => And.intro (Or.inr rfl) (h1 al sh S' E' C' D' f q rfl))
  refine And.intro (fun hx => ?_) (fun hx11 => ?_)
  · have hx : x = 11 := hx
    subst hx
    have hn9 : ndI 11 = 1 := by decide
    rw [hn9] at hk hn h1
    obtain ⟨f, rfl⟩ : ∃ f0, f = f0 + 1 := ⟨f - 1, by omega⟩
    exact X_partOfPair11 hX hk hz hM hfr hf (fun q => And.intro (Or.inl rfl) (h0 q)) (fun al sh S' E' C' D' q => And.intro (Or.inr rfl) (h1 al sh S' E' C' D' f q rfl))
  refine And.intro (fun hx => ?_) (fun hx12 => ?_)
  · have hx : x = 12 := hx
    subst hx
    have hn9 : ndI 12 = 1 := by decide
    rw [hn9] at hk hn h1
    obtain ⟨f, rfl⟩ : ∃ f0, f = f0 + 1 := ⟨f - 1, by omega⟩
    exact X_isNoPair hX hk hz hM hfr hf (fun q => And.intro (Or.inl rfl) (h0 q)) (fun al sh S' E' C' D' q => And.intro (Or.inr rfl) (h1 al sh S' E' C' D' f q rfl))
  refine And.intro (fun hx => ?_) (fun hx13 => ?_)
  · have hx : x = 13 := hx
    subst hx
    have hn9 : ndI 13 = 2 := by decide
    rw [hn9] at hk hn h1
    obtain ⟨f, rfl⟩ : ∃ f0, f = f0 + 2 := ⟨f - 2, by omega⟩
    exact X_pair hX hk hz hM hfr hf (fun q => And.intro (Or.inl rfl) (h0 q)) (fun al sh S' E' C' D' q => And.intro (Or.inr rfl) (h1 al sh S' E' C' D' f q rfl))
  refine And.intro (fun hx => ?_) (fun hx14 => ?_)
  · have hx : x = 14 := hx
    subst hx
    have hn9 : ndI 14 = 1 := by decide
    rw [hn9] at hk hn h1
    obtain ⟨f, rfl⟩ : ∃ f0, f = f0 + 1 := ⟨f - 1, by omega⟩
    exact X_same hX hk hz hM hfr hf (fun q => And.intro (Or.inl rfl) (h0 q)) (fun al sh S' E' C' D' q => And.intro (Or.inr rfl) (h1 al sh S' E' C' D' f q rfl))
  refine And.intro (fun hx => ?_) (fun hx15 => ?_)
  · have hx : x = 15 := hx
    subst hx
    have hn9 : ndI 15 = 1 := by decide
    rw [hn9] at hk hn h1
    obtain ⟨f, rfl⟩ : ∃ f0, f = f0 + 1 := ⟨f - 1, by omega⟩
    exact X_calculate15 hX hk hz hM hfr hf (fun q => And.intro (Or.inl rfl) (h0 q)) (fun al sh S' E' C' D' q => And.intro (Or.inr rfl) (h1 al sh S' E' C' D' f q rfl))
  refine And.intro (fun hx => ?_) (fun hx16 => ?_)
  · have hx : x = 16 := hx
    subst hx
    have hn9 : ndI 16 = 1 := by decide
    rw [hn9] at hk hn h1
    obtain ⟨f, rfl⟩ : ∃ f0, f = f0 + 1 := ⟨f - 1, by omega⟩
    exact X_calculate16 hX hk hz hM hfr hf (fun q => And.intro (Or.inl rfl) (h0 q)) (fun al sh S' E' C' D' q => And.intro (Or.inr rfl) (h1 al sh S' E' C' D' f q rfl))
  refine And.intro (fun hx => ?_) (fun hx17 => ?_)
  · have hx : x = 17 := hx
    subst hx
    have hn9 : ndI 17 = 1 := by decide
    rw [hn9] at hk hn h1
    obtain ⟨f, rfl⟩ : ∃ f0, f = f0 + 1 := ⟨f - 1, by omega⟩
    exact X_calculate17 hX hk hz hM hfr hf (fun q => And.intro (Or.inl rfl) (h0 q)) (fun al sh S' E' C' D' q => And.intro (Or.inr rfl) (h1 al sh S' E' C' D' f q rfl))
  refine And.intro (fun hx => ?_) (fun hx18 => ?_)
  · have hx : x = 18 := hx
    subst hx
    have hn9 : ndI 18 = 1 := by decide
    rw [hn9] at hk hn h1
    obtain ⟨f, rfl⟩ : ∃ f0, f = f0 + 1 := ⟨f - 1, by omega⟩
    exact X_calculate18 hX hk hz hM hfr hf (fun q => And.intro (Or.inl rfl) (h0 q)) (fun al sh S' E' C' D' q => And.intro (Or.inr rfl) (h1 al sh S' E' C' D' f q rfl))
  exfalso
  obtain ⟨h1, h2⟩ := hx
  obtain ⟨j, hj, rfl⟩ := nI_of (Int32.not_lt.mpr (Int32.le_trans (by decide : (0 : Int32) ≤ 1) h1))
  have g1 : 1 ≤ j := (nI_leI (a := 1) (by decide) hj).mp h1
  have g2 : j ≤ 18 := (nI_leI (b := 18) hj (by decide)).mp h2
  have : j = 1 ∨ j = 2 ∨ j = 3 ∨ j = 4 ∨ j = 5 ∨ j = 6 ∨ j = 7 ∨ j = 8 ∨ j = 9 ∨ j = 10 ∨ j = 11 ∨ j = 12 ∨ j = 13 ∨ j = 14 ∨ j = 15 ∨ j = 16 ∨ j = 17 ∨ j = 18 := by omega
  rcases this with rfl | rfl | rfl | rfl | rfl | rfl | rfl | rfl | rfl | rfl | rfl | rfl | rfl | rfl | rfl | rfl | rfl | rfl
  · exact hx1 rfl
  · exact hx2 rfl
  · exact hx3 rfl
  · exact hx4 rfl
  · exact hx5 rfl
  · exact hx6 rfl
  · exact hx7 rfl
  · exact hx8 rfl
  · exact hx9 rfl
  · exact hx10 rfl
  · exact hx11 rfl
  · exact hx12 rfl
  · exact hx13 rfl
  · exact hx14 rfl
  · exact hx15 rfl
  · exact hx16 rfl
  · exact hx17 rfl
  · exact hx18 rfl
end ZKE
end
