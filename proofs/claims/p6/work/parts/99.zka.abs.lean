def iV : Vl → Int32
  | .inr (.inl x) => x
  | _ => 0
def smV : Vl → Vl → Bool
  | .inl _, .inl _ => true
  | .inr (.inl x), .inr (.inl y) => decide (x = y)
  | .inr (.inr (.inl x)), .inr (.inr (.inl y)) => decide (x = y)
  | _, _ => false
abbrev ndI (i : Int32) : Nat := rqN i
abbrev StpT : Type := List (Vl × Vl) × Option (Vl × Vl) × Vl × Vl × Vl × Vl
def stp (k : Nat → Nat) (H T : Nat → Vl) (S E C D : Vl) : Int32 → Option StpT := fun i =>
  if i = 1 then some ([(ofV H (ofV T C), S)], none, vPr (k 0), E, ofV T (ofV T C), D)
  else if i = 2 then
    (if kV (behV T ((iV (ofV H (ofV T C))).toNatClampNeg / 16) E) = 3 then
      (if kV (behV T ((iV (ofV H (ofV T C))).toNatClampNeg % 16) (ofV H (behV T ((iV (ofV H (ofV T C))).toNatClampNeg / 16) E))) = 3 then
        some ([(ofV H (behV T ((iV (ofV H (ofV T C))).toNatClampNeg % 16) (ofV H (behV T ((iV (ofV H (ofV T C))).toNatClampNeg / 16) E))), S)], none, vPr (k 0), E, ofV T (ofV T C), D)
      else none)
    else none)
  else if i = 3 then some ([(ofV H (ofV T C), E), (vFn (k 0), S)], none, vPr (k 1), E, ofV T (ofV T C), D)
  else if i = 4 then
    (if kV (ofV H S) = 4 then some ([(ofV T C, D), (E, vPr (k 0)), (ofV T (ofV T S), vPr (k 1)), (ofV H (ofV T S), ofV T (ofV H S))], none, vNil, vPr (k 3), ofV H (ofV H S), vPr (k 2)) else none)
  else if i = 5 then some ([(ofV H S, ofV H D)], none, vPr (k 0), ofV H (ofV T D), ofV H (ofV T (ofV T D)), ofV T (ofV T (ofV T D)))
  else if i = 6 then some ([(vNil, E)], none, S, vPr (k 0), ofV T C, D)
  else if i = 7 then
    (if kV (ofV H S) = 4 then some ([(ofV T C, D), (ofV T E, vPr (k 0)), (ofV T (ofV T S), vPr (k 1))], some (ofV T (ofV H S), ofV H (ofV T S)), vNil, ofV T (ofV H S), ofV H (ofV H S), vPr (k 2)) else none)
  else if i = 8 then
    (if kV (ofV H S) = 1 then some ([(ofV T (ofV T (ofV T C)), D)], none, ofV T S, E, if iV (ofV H S) = 0 then ofV H (ofV T (ofV T C)) else ofV H (ofV T C), vPr (k 0)) else none)
  else if i = 9 then some ([], none, S, E, ofV H D, ofV T D)
  else if i = 10 then (if kV (ofV H S) = 3 then some ([(ofV H (ofV H S), ofV T S)], none, vPr (k 0), E, ofV T C, D) else none)
  else if i = 11 then (if kV (ofV H S) = 3 then some ([(ofV T (ofV H S), ofV T S)], none, vPr (k 0), E, ofV T C, D) else none)
  else if i = 12 then some ([(vInt (if kV (ofV H S) = 3 then 0 else 1), ofV T S)], none, vPr (k 0), E, ofV T C, D)
  else if i = 13 then some ([(ofV H S, ofV H (ofV T S)), (vPr (k 0), ofV T (ofV T S))], none, vPr (k 1), E, ofV T C, D)
  else if i = 14 then some ([(vInt (if smV (ofV H (ofV T S)) (ofV H S) = true then 1 else 0), ofV T (ofV T S))], none, vPr (k 0), E, ofV T C, D)
  else (if kV (ofV H (ofV T S)) = 1 ∧ kV (ofV H S) = 1 then some ([(vInt (calV i (iV (ofV H (ofV T S))) (iV (ofV H S))), ofV T (ofV T S))], none, vPr (k 0), E, ofV T C, D) else none)
def alH (k : Nat → Nat) : Nat → List (Vl × Vl) → (Nat → Vl) → Nat → Vl
  | _, [], H => H
  | j, x :: l, H => alH k (j + 1) l (upW H (k j) x.1)
def alT (k : Nat → Nat) : Nat → List (Vl × Vl) → (Nat → Vl) → Nat → Vl
  | _, [], T => T
  | j, x :: l, T => alT k (j + 1) l (upW T (k j) x.2)
def stH : Option (Vl × Vl) → (Nat → Vl) → Nat → Vl
  | some (.inr (.inr (.inr (.inl i))), v), H => upW H i v
  | _, H => H
def VR (ρ : Nat → Nat → Prop) : Vl → Vl → Prop
  | .inl _, .inl _ => True
  | .inr (.inl x), .inr (.inl y) => x = y
  | .inr (.inr (.inl x)), .inr (.inr (.inl y)) => x = y
  | .inr (.inr (.inr (.inl a))), .inr (.inr (.inr (.inl b))) => ρ a b
  | .inr (.inr (.inr (.inr a))), .inr (.inr (.inr (.inr b))) => ρ a b
  | _, _ => False
def BH (ρ : Nat → Nat → Prop) (H T H' T' : Nat → Vl) : Prop := ∀ a b, ρ a b → VR ρ (H a) (H' b) ∧ VR ρ (T a) (T' b)
def FI (ρ : Nat → Nat → Prop) : Prop := (∀ a b b', ρ a b → ρ a b' → b = b') ∧ ∀ a a' b, ρ a b → ρ a' b → a = a'
def exR (ρ : Nat → Nat → Prop) (k k' : Nat → Nat) (n : Nat) : Nat → Nat → Prop := fun a b => ρ a b ∨ ∃ j, j < n ∧ a = k j ∧ b = k' j
def FRS (ρ : Nat → Nat → Prop) (k k' : Nat → Nat) (n : Nat) : Prop := ∀ j, j < n → ((∀ b, ¬ ρ (k j) b) ∧ ∀ a, ¬ ρ a (k' j)) ∧ ∀ i, i < n → ¬ i = j → ¬ k i = k j ∧ ¬ k' i = k' j
section ZKA
variable {ρ ρ' : Nat → Nat → Prop} {H T H' T' : Nat → Vl} {v w : Vl}
theorem VR_mono (h : ∀ a b, ρ a b → ρ' a b) : ∀ (v w : Vl), VR ρ v w → VR ρ' v w := by
  intro v w q
  rcases v with u | x | x | a | a <;> rcases w with u | y | y | b | b <;> first | exact q | exact h _ _ q | exact absurd q id
theorem VR_k (q : VR ρ v w) : kV v = kV w := by
  rcases v with u | x | x | a | a <;> rcases w with u | y | y | b | b <;> first | rfl | exact absurd q id
theorem VR_i (q : VR ρ v w) : iV v = iV w := by
  rcases v with u | x | x | a | a <;> rcases w with u | y | y | b | b <;> first | rfl | exact q | exact absurd q id
theorem VR_H (hB : BH ρ H T H' T') (q : VR ρ v w) : VR ρ (ofV H v) (ofV H' w) := by
  rcases v with u | x | x | a | a <;> rcases w with u | y | y | b | b <;> first | exact trivial | exact (hB _ _ q).1 | exact absurd q id
theorem VR_T (hB : BH ρ H T H' T') (q : VR ρ v w) : VR ρ (ofV T v) (ofV T' w) := by
  rcases v with u | x | x | a | a <;> rcases w with u | y | y | b | b <;> first | exact trivial | exact (hB _ _ q).2 | exact absurd q id
theorem VR_beh (hB : BH ρ H T H' T') : ∀ (n : Nat) (v w : Vl), VR ρ v w → VR ρ (behV T n v) (behV T' n w)
  | 0, v, w, q => q
  | n + 1, v, w, q => by
    rcases v with u | x | x | a | a <;> rcases w with u | y | y | b | b <;> first | exact VR_beh hB n _ _ (hB _ _ q).2 | exact q | exact absurd q id
theorem VR_sm {x y x' y' : Vl} (hF : FI ρ) (q : VR ρ x x') (p : VR ρ y y') : smV x y = smV x' y' := by
  rcases x with u | a | a | a | a <;> rcases x' with u | b | b | b | b <;> first | exact absurd q id | skip
  all_goals rcases y with u | c | c | c | c <;> rcases y' with u | d | d | d | d <;> first | exact absurd p id | rfl | skip
  · have q : a = b := q
    have p : c = d := p
    rw [q, p]
  · have q : a = b := q
    have p : c = d := p
    rw [q, p]
theorem VR_pr {a : Nat} (q : VR ρ (vPr a) w) : ∃ b, w = vPr b ∧ ρ a b := by
  rcases w with u | y | y | b | b <;> first | exact absurd q id | exact ⟨b, rfl, q⟩
theorem alH_out {k : Nat → Nat} {a : Nat} : ∀ (l : List (Vl × Vl)) (j : Nat) (H : Nat → Vl), (∀ i, i < l.length → ¬ a = k (j + i)) → alH k j l H a = H a
  | [], j, H, _ => rfl
  | x :: l, j, H, h => by
    show alH k (j + 1) l (upW H (k j) x.1) a = H a
    rw [alH_out l (j + 1) _ (fun i hi => by
      have := h (i + 1) (Nat.succ_lt_succ hi)
      rw [show j + 1 + i = j + (i + 1) by omega]
      exact this)]
    exact if_neg (h 0 (Nat.succ_pos _))
theorem alT_out {k : Nat → Nat} {a : Nat} : ∀ (l : List (Vl × Vl)) (j : Nat) (H : Nat → Vl), (∀ i, i < l.length → ¬ a = k (j + i)) → alT k j l H a = H a
  | [], j, H, _ => rfl
  | x :: l, j, H, h => by
    show alT k (j + 1) l (upW H (k j) x.2) a = H a
    rw [alT_out l (j + 1) _ (fun i hi => by
      have := h (i + 1) (Nat.succ_lt_succ hi)
      rw [show j + 1 + i = j + (i + 1) by omega]
      exact this)]
    exact if_neg (h 0 (Nat.succ_pos _))
theorem alH_in {k : Nat → Nat} : ∀ (l : List (Vl × Vl)) (j : Nat) (H : Nat → Vl) (i : Nat) (x : Vl × Vl), l[i]? = some x → (∀ i i', i < l.length → i' < l.length → ¬ i = i' → ¬ k (j + i) = k (j + i')) → alH k j l H (k (j + i)) = x.1 ∧ alT k j l H (k (j + i)) = x.2
  | [], j, H, i, x, h, _ => by cases h
  | y :: l, j, H, 0, x, h, hd => by
    cases h
    have hne : ∀ i, i < l.length → ¬ k (j + 0) = k (j + 1 + i) := fun i hi => by
      have := hd 0 (i + 1) (Nat.succ_pos _) (Nat.succ_lt_succ hi) (by omega)
      rw [show j + 1 + i = j + (i + 1) by omega]
      exact this
    constructor
    · show alH k (j + 1) l (upW H (k j) y.1) (k (j + 0)) = y.1
      rw [alH_out l (j + 1) _ hne]
      exact if_pos rfl
    · show alT k (j + 1) l (upW H (k j) y.2) (k (j + 0)) = y.2
      rw [alT_out l (j + 1) _ hne]
      exact if_pos rfl
  | y :: l, j, H, i + 1, x, h, hd => by
    have hd2 : ∀ i i', i < l.length → i' < l.length → ¬ i = i' → ¬ k (j + 1 + i) = k (j + 1 + i') := fun a b ha hb hab => by
      have := hd (a + 1) (b + 1) (Nat.succ_lt_succ ha) (Nat.succ_lt_succ hb) (by omega)
      rw [show j + 1 + a = j + (a + 1) by omega, show j + 1 + b = j + (b + 1) by omega]
      exact this
    have e : j + (i + 1) = j + 1 + i := by omega
    rw [e]
    exact ⟨(alH_in l (j + 1) (upW H (k j) y.1) i x h hd2).1, (alH_in l (j + 1) (upW H (k j) y.2) i x h hd2).2⟩
theorem BH_al {k k' : Nat → Nat} {al al' : List (Vl × Vl)} (hB : BH ρ H T H' T') (hF : FRS ρ k k' al.length) (hl : al.length = al'.length) (hv : ∀ (i : Nat) (x x' : Vl × Vl), al[i]? = some x → al'[i]? = some x' → VR (exR ρ k k' al.length) x.1 x'.1 ∧ VR (exR ρ k k' al.length) x.2 x'.2) : BH (exR ρ k k' al.length) (alH k 0 al H) (alT k 0 al T) (alH k' 0 al' H') (alT k' 0 al' T') := by
  intro a b hab
  rcases hab with h | ⟨j, hj, rfl, rfl⟩
  · have n1 : ∀ i, i < al.length → ¬ a = k (0 + i) := fun i hi e => by
      rw [Nat.zero_add] at e
      exact (hF i hi).1.1 b (e ▸ h)
    have n2 : ∀ i, i < al'.length → ¬ b = k' (0 + i) := fun i hi e => by
      rw [Nat.zero_add] at e
      exact (hF i (by omega)).1.2 a (e ▸ h)
    rw [alH_out al 0 H n1, alT_out al 0 T n1, alH_out al' 0 H' n2, alT_out al' 0 T' n2]
    exact ⟨VR_mono (fun _ _ => Or.inl) _ _ (hB a b h).1, VR_mono (fun _ _ => Or.inl) _ _ (hB a b h).2⟩
  · have g1 : al[j]? = some al[j] := List.getElem?_eq_getElem hj
    have g2 : al'[j]? = some al'[j] := List.getElem?_eq_getElem (by omega)
    have d1 : ∀ i i', i < al.length → i' < al.length → ¬ i = i' → ¬ k (0 + i) = k (0 + i') := fun i i' p1 p2 p3 => by
      rw [Nat.zero_add, Nat.zero_add]
      exact ((hF i' p2).2 i p1 p3).1
    have d2 : ∀ i i', i < al'.length → i' < al'.length → ¬ i = i' → ¬ k' (0 + i) = k' (0 + i') := fun i i' p1 p2 p3 => by
      rw [Nat.zero_add, Nat.zero_add]
      exact ((hF i' (by omega)).2 i (by omega) p3).2
    have q1 := (alH_in al 0 H j _ g1 d1).1
    have q2 := (alH_in al 0 T j _ g1 d1).2
    have q3 := (alH_in al' 0 H' j _ g2 d2).1
    have q4 := (alH_in al' 0 T' j _ g2 d2).2
    rw [Nat.zero_add] at q1 q2 q3 q4
    rw [q1, q2, q3, q4]
    exact hv j _ _ g1 g2
theorem FI_ex {k k' : Nat → Nat} {n : Nat} (hI : FI ρ) (hF : FRS ρ k k' n) : FI (exR ρ k k' n) := by
  constructor
  · rintro a b b' (h | ⟨j, hj, rfl, rfl⟩) (h' | ⟨j', hj', e, rfl⟩)
    · exact hI.1 a b b' h h'
    · rw [e] at h
      exact absurd h ((hF j' hj').1.1 b)
    · exact absurd h' ((hF j hj).1.1 b')
    · by_cases q : j = j'
      · rw [q]
      · exact absurd e ((hF j' hj').2 j hj q).1
  · rintro a a' b (h | ⟨j, hj, rfl, rfl⟩) (h' | ⟨j', hj', rfl, e⟩)
    · exact hI.2 a a' b h h'
    · rw [e] at h
      exact absurd h ((hF j' hj').1.2 a)
    · exact absurd h' ((hF j hj).1.2 a')
    · by_cases q : j = j'
      · rw [q]
      · exact absurd e ((hF j' hj').2 j hj q).2
theorem BH_st {x x' y y' : Vl} (hI : FI ρ) (hB : BH ρ H T H' T') (q : VR ρ x x') (p : VR ρ y y') : BH ρ (stH (some (x, y)) H) T (stH (some (x', y')) H') T' := by
  rcases x with u | c | c | c | c <;> rcases x' with u | d | d | d | d <;> first | exact absurd q id | exact hB | skip
  intro a b hab
  refine ⟨?_, (hB a b hab).2⟩
  show VR ρ (upW H c y a) (upW H' d y' b)
  unfold upW
  by_cases e : a = c
  · subst e
    rw [if_pos rfl, if_pos (hI.1 a b d hab q)]
    exact p
  · rw [if_neg e, if_neg (fun e2 => e (by subst e2; exact hI.2 a c b hab q))]
    exact (hB a b hab).1
end ZKA
