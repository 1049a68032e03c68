section LCL
variable {err : Int32} {m b0 b1 z len c : Nat} {tx : Nat → Nat} {mode : Int32} {op : Bool} {Q : mj_R → Prop} {s : cS} {r : rM} {xs : List Int32} {f : Nat → Int64}
set_option maxRecDepth 10000
theorem L_run {x : Int32} (h : CX err z len tx mode c s) (hb0 : 1 ≤ b0) (hb1 : 6 ≤ b1) (hb2 : mode = 1 → 200 ≤ b0 ∧ 20000 ≤ b1)
    (hQ : ∀ y mode' s' f' b0' b1' op', CX err z len tx mode' c s' → (b0 ≤ b0' + 1 ∧ b1 ≤ b1' + 6 ∧ (mode = 1 ∨ mode' = mode)) ∨ (¬ mode' = 1 ∧ mode = 1 ∧ b0 ≤ b0' + 140 ∧ b1 ≤ b1' + 19740) → Q (.inl (some (.int y)), (cW s' (rW r [oJ 1 f']), b0', b1', op'))) :
    mj_Mt gT (law_cst xs) gnw (m + 14) y_Law_run [.ref 0, .int x, .ref 54] (cW s (rW r [oJ 1 f]), b0, b1, op) Q := by
  intro J hJ
  refine hJ _ _ _ _ ?_
  refine C_run (h _) hb0 hb1 hb2 (fun b0' b1' q0 q1 => ?_) (fun y mode' W' b0' b1' op' hc hq => ?_)
  · exact hQ _ _ s _ _ _ _ h (Or.inl ⟨q0, q1, Or.inr rfl⟩)
  · obtain ⟨s', rfl, hs⟩ := CI_CX hc
    refine And.intro (in0 (by decide)) ?_
    refine hQ _ _ s' _ _ _ _ hs ?_
    rcases hq with ⟨e0, e1, e2⟩ | q
    · exact Or.inl ⟨by omega, by omega, e2⟩
    · exact Or.inr q
end LCL
def RY (len : Nat) (tx : Nat → Nat) (r : rM) : Prop := RMI r ∧ txOK r.text len tx ∧ r.typed = nI len
theorem RY_r0 (z : Nat) (h1 : 1 ≤ z) (h2 : z ≤ 250) : RY 0 (fun _ => 0) (r0 z) := ⟨RMI_r0 z h1 h2, txOK_0, rfl⟩
theorem RY_ke {len : Nat} {tx : Nat → Nat} {r r' : rM} (h : RY len tx r) (hk : ke r r') (hI : RMI r') : RY len tx r' := by
  obtain ⟨-, q1, q2, -⟩ := hk
  refine ⟨hI, ?_, q1.trans h.2.2⟩
  rw [q2]
  exact h.2.1
theorem RY_th {len : Nat} {tx : Nat → Nat} {r : rM} {x : Int32} (h : RY len tx r) : RY len tx (thR r x) := h
theorem RY_typed {r : rM} (h : RMI r) (e : r.typed = nI 0) : RY 0 (fun _ => 0) r := ⟨h, txOK_0, e⟩
section LCM
variable {err : Int32} {m b0 b1 z len c : Nat} {tx : Nat → Nat} {mode : Int32} {op : Bool} {Q : mj_R → Prop} {s : cS} {r : rM} {xs : List Int32} {tl : List mj_O} {cst : Nat → Option (Nat × (Nat → Int32))}
set_option maxRecDepth 10000
theorem Y_write {w : Int64} (h : RY len tx r) (h1 : wR w len = none → ∀ r', RY len tx r' → Q (.inl (some (.int 0)), (cW s (rW r' tl), b0, b1, op))) (h2 : ∀ k r', wR w len = some k → RY k (txW w len k tx) r' → Q (.inl (some (.int 1)), (cW s (rW r' tl), b0, b1, op))) : mj_Mt gT cst gnw (m + 1) y_R_write [.ref 27, .long w] (cW s (rW r tl), b0, b1, op) Q := by
  refine r_write h.2.1.1 h.2.2 (fun e => h1 e _ ?_) (fun k e => h2 k _ e ?_)
  · exact h
  · exact ⟨h.1, txW_ok h.2.1 e, rfl⟩
theorem X_write {w : Int64} (h : CX err z len tx mode c s) (h1 : wR w len = none → Q (.inl (some (.int 0)), (cW s tl, b0, b1, op))) (h2 : ∀ k s', wR w len = some k → CX err z k (txW w len k tx) mode c s' → Q (.inl (some (.int 1)), (cW s' tl, b0, b1, op))) : mj_Mt gT (law_cst xs) gnw (m + 4) y_P_write [.ref 0, .long w] (cW s tl, b0, b1, op) Q := by
  refine C_write (h _) h1 (fun k W' e hc => ?_)
  obtain ⟨s', rfl, hs⟩ := CI_CX hc
  exact h2 k s' e hs
theorem X_start (h : CX err z len tx mode c s) (h0 : Q (.inl (some (.int 0)), (cW s tl, b0, b1, op))) (h1 : ∀ s', CX err z len tx 1 c s' → Q (.inl (some (.int 1)), (cW s' tl, b0, b1, op))) : mj_Mt gT (law_cst xs) gnw (m + 4) y_P_start [.ref 0] (cW s tl, b0, b1, op) Q := by
  refine C_start (h _) (fun _ => h0) (fun W' _ hc => ?_)
  obtain ⟨s', rfl, hs⟩ := CI_CX hc
  exact h1 s' hs
end LCM
