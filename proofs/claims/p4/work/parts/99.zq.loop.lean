theorem nI_sub3 {L i : Nat} (hL : L ≤ 2000) (hi : i ≤ 2000) (g : ¬ Int32.ofNat L - Int32.ofInt 3 < nI i) : i + 3 ≤ L := by
  rcases Nat.lt_or_ge L (i + 3) with h | h
  · refine absurd ?_ g
    rw [Int32.lt_iff_toInt_lt, Int32.toInt_sub]
    have e1 : (Int32.ofNat L).toInt = (L : Int) := Int32.toInt_ofNat_of_lt (by omega)
    have e2 : (nI i).toInt = (i : Int) := Int32.toInt_ofNat_of_lt (by omega)
    have e3 : (Int32.ofInt 3).toInt = 3 := by decide
    rw [e1, e2, e3, Int.bmod_eq_of_le (by omega) (by omega)]
    omega
  · exact h
def bgt (n : Nat) (mode : Int32) (b0 b1 : Nat) : Prop := (200 * n ≤ b0 ∧ 14000 * n ≤ b1) ∧ (mode = 1 → 200 * (n + 1) ≤ b0 ∧ 14000 * (n + 1) ≤ b1)
theorem bgt_to {n b0 b1 b0' b1' : Nat} {mode mode' : Int32} (h : bgt (n + 1) mode b0 b1) (h0 : b0 ≤ b0' + 2) (h1 : b1 ≤ b1' + 12) (hm : mode' = 1 → mode' = mode) : bgt n mode' b0' b1' := by
  obtain ⟨⟨a1, a2⟩, a3⟩ := h
  refine ⟨⟨by omega, by omega⟩, fun e => ?_⟩
  have := a3 ((hm e).symm.trans e)
  omega
def INV (z len : Nat) (tx : Nat → Nat) (c : Nat) (r : rM) : Prop := RY len tx r ∧ r.z = z ∧ (c = 0 ↔ r.program = 0)
theorem INV_ke {z len c : Nat} {tx : Nat → Nat} {r r' : rM} (h : INV z len tx c r) (hk : ke r r') (hI : RMI r') : INV z len tx c r' := by
  have hk0 := hk
  obtain ⟨q0, -, -, -, q4⟩ := hk
  exact ⟨RY_ke h.1 hk0 hI, q0.trans h.2.1, by rw [q4]; exact h.2.2⟩
theorem INV_th {z len c : Nat} {tx : Nat → Nat} {r : rM} {x : Int32} (h : INV z len tx c r) : INV z len tx c (thR r x) := h
section LIV
variable {er : Int32} {m b0 b1 z len c : Nat} {tx : Nat → Nat} {mode : Int32} {op : Bool} {Q : mj_R → Prop} {s : cS} {r : rM} {xs : List Int32} {tl : List mj_O} {cst : Nat → Option (Nat × (Nat → Int32))}
set_option maxRecDepth 10000
theorem ZY_write {w : Int64} (h : INV z len tx c r) (h1 : wR w len = none → ∀ r', INV z len tx c r' → r'.error = r.error → Q (.inl (some (.int 0)), (cW s (rW r' tl), b0, b1, op))) (h2 : ∀ k r', wR w len = some k → INV z k (txW w len k tx) c r' → r'.error = r.error → Q (.inl (some (.int 1)), (cW s (rW r' tl), b0, b1, op))) : mj_Mt gT cst gnw (m + 1) y_R_write [.ref 27, .long w] (cW s (rW r tl), b0, b1, op) Q := by
  refine r_write h.1.2.1.1 h.1.2.2 (fun e => h1 e _ ?_ rfl) (fun k e => h2 k _ e ?_ rfl)
  · exact h
  · exact ⟨⟨h.1.1, txW_ok h.1.2.1 e, rfl⟩, h.2⟩
theorem ZX_start (h : CX er z len tx mode c s) (h0 : c = 0 → Q (.inl (some (.int 0)), (cW s tl, b0, b1, op))) (h1 : ∀ s', 0 < c → CX er z len tx 1 c s' → Q (.inl (some (.int 1)), (cW s' tl, b0, b1, op))) : mj_Mt gT (law_cst xs) gnw (m + 4) y_P_start [.ref 0] (cW s tl, b0, b1, op) Q := by
  refine C_start (h _) (fun e => h0 e) (fun W' e hc => ?_)
  obtain ⟨s', rfl, hs⟩ := CI_CX hc
  exact h1 s' e hs
end LIV
theorem GOut_le {tx : Nat → Nat} {len z i N : Nat} (h : GOut tx len z i N) : i ≤ 2 := by
  rcases h with ⟨rfl, -⟩ | ⟨-, -, -, ⟨rfl, -⟩ | ⟨rfl, -⟩⟩ <;> decide
theorem lgc (x : Int64) : lg_cmp x x = 0 := by
  unfold lg_cmp
  simp
section LLP
variable {m : Nat} {xs : List Int32}
set_option maxRecDepth 10000
set_option maxHeartbeats 4000000 in
theorem L_loop (hx : xs.length ≤ 1537) {J : Nat → mj_L → List Value → mj_H → Prop} (hJ : ∀ pc ls st h, mj_sg (mj_Mt gT (law_cst xs) gnw (m + 130)) (law_cst xs) gnw (mj_hd (mj_off oM_0) hM_0) cM_0 J (fun r => r.1 = .inl (some (.int 1))) 400 true pc ls st h → J pc ls st h) :
    ∀ (n i : Nat) (x5 x6 : Option Value) (s : cS) (r : rM) (f : Nat → Int64) (b0 b1 : Nat) (op : Bool) (z len : Nat) (tx : Nat → Nat) (mode : Int32) (c : Nat) (er : Int32), xs.length ≤ i + 3 * n → i ≤ 1600 → CX er z len tx mode c s → INV z len tx c r → r.error = er → bgt n mode b0 b1 →
      J 19 [some (.ref 1001), some (.ref 0), some (.ref 27), some (.ref 54), some (.int (nI i)), x5, x6] [] (cW s (rW r [oJ 1 f]), b0, b1, op) := by
  intro n
  induction n with
  | zero =>
    intro i x5 x6 s r f b0 b1 op z len tx mode c er hi hi2 hc hr he hb
    refine hJ _ _ _ _ ?_
    refine And.intro (fun _ => And.intro (Or.inr rfl) rfl) (fun g => ?_)
    have := nI_sub3 (by omega) (by omega) g
    omega
  | succ n ih =>
    intro i x5 x6 s r f b0 b1 op z len tx mode c er hi hi2 hc hr he hb
    refine hJ _ _ _ _ ?_
    refine And.intro (fun _ => And.intro (Or.inr rfl) rfl) (fun g => ?_)
    have hL := nI_sub3 (by omega) (by omega) g
    have e1 : nI i + Int32.ofInt 1 = nI (i + 1) := (Int32.ofNat_add i 1).symm
    have e2 : nI i + Int32.ofInt 2 = nI (i + 2) := (Int32.ofNat_add i 2).symm
    have e3 : nI i + Int32.ofInt 3 = nI (i + 3) := (Int32.ofNat_add i 3).symm
    have i1 : vp_in (nI i) xs.length := vp_in_nI (by omega) (by omega)
    have i2 : vp_in (nI i + Int32.ofInt 1) xs.length := by rw [e1]; exact vp_in_nI (by omega) (by omega)
    have i3 : vp_in (nI i + Int32.ofInt 2) xs.length := by rw [e2]; exact vp_in_nI (by omega) (by omega)
    have fin : ∀ (x5 x6 : Option Value) (s : cS) (r : rM) (f : Nat → Int64) (b0' b1' : Nat) (op : Bool) (z len : Nat) (tx : Nat → Nat) (mode' : Int32) (c : Nat) (er : Int32), CX er z len tx mode' c s → INV z len tx c r → r.error = er → bgt n mode' b0' b1' → J 19 [some (.ref 1001), some (.ref 0), some (.ref 27), some (.ref 54), some (.int (nI i + Int32.ofInt 3)), x5, x6] [] (cW s (rW r [oJ 1 f]), b0', b1', op) := by
      intro x5 x6 s r f b0' b1' op z len tx mode' c er q1 q2 q4 q3
      rw [e3]
      exact ih (i + 3) x5 x6 s r f b0' b1' op z len tx mode' c er (by omega) (by omega) q1 q2 q4 q3
    have same : bgt n mode b0 b1 := bgt_to hb (by omega) (by omega) (fun _ => rfl)
    obtain ⟨c0, rfl⟩ : ∃ k, b0 = k + 2 := ⟨b0 - 2, by have := hb.1.1; omega⟩
    have hb1 : 14000 ≤ b1 := by have := hb.1.2; omega
    refine And.intro i1 ?_
    refine And.intro (fun _ => ?_) (fun _ => And.intro (fun _ => ?_) (fun _ => And.intro (fun _ => ?_) (fun _ => And.intro (fun _ => ?_) (fun _ => And.intro (fun _ => ?_) (fun _ => And.intro (fun _ => ?_) (fun _ => And.intro (fun _ => ?_) (fun _ => And.intro (fun _ => ?_) (fun _ => And.intro (fun _ => ?_) (fun _ => ?_)))))))))
    · refine And.intro i2 (And.intro i3 ?_)
      refine X_write hc (fun e => ?_) (fun k s' e q => ?_)
      · refine And.intro i2 (And.intro i3 ?_)
        refine ZY_write hr (fun e2 r' q2 q3 => ?_) (fun k2 r' e2 _ _ => absurd (e.symm.trans e2) (by simp))
        exact fin x5 x6 s r' f _ _ op _ _ _ mode c er hc q2 (q3.trans he) same
      · refine And.intro i2 (And.intro i3 ?_)
        refine ZY_write hr (fun e2 _ _ _ => absurd (e.symm.trans e2) (by simp)) (fun k2 r' e2 q2 q3 => ?_)
        have ek : k = k2 := Option.some.inj (e.symm.trans e2)
        subst ek
        exact fin x5 x6 s' r' f _ _ op _ _ _ mode c er q q2 (q3.trans he) same
    · refine LL_compile (l := m + 128) (by omega) hc (by omega) (fun ic N mode' c' s' f' b0' b1' op' er' hG hE q hm g0 g1 => ?_)
      refine RR_compile hr.1.2.1 hr.1.2.2 hr.1.1 (fun ir N2 y r' hG2 dE d1 d2 d3 hI hz ht => ?_)
      have bb : bgt n mode' b0' b1' := bgt_to hb (by omega) (by omega) (fun e => by
        rcases hm with ⟨-, hm, -⟩ | ⟨-, hm, -⟩
        · exact hm
        · rw [e] at hm; exact absurd hm (by decide))
      have hz2 := hr.2.1
      subst hz2
      obtain ⟨rfl, eN⟩ := GOut_u hG hG2
      have hiv : INV r.z 0 (fun _ => 0) c' r' := by
        refine ⟨RY_typed hI ht, hz, ?_⟩
        rcases hm with ⟨n0, -, rfl⟩ | ⟨rfl, -, rfl, n1, -⟩
        · rw [d3 n0]
          exact hr.2.2
        · exact ⟨fun w => by omega, fun w => absurd w (d2 rfl).2⟩
      exact fin _ _ s' r' f' b0' b1' op' _ _ _ mode' c' er' q hiv (dE.trans hE.symm) bb
    · refine C_position (hc _) ?_
      refine R_position ?_
      rw [he]
      exact And.intro (fun _ => fin x5 x6 s _ f _ _ op _ _ _ mode c er hc (INV_th hr) he same) (fun g => absurd rfl g)
    · refine ZX_start hc (fun ec => ?_) (fun s' ec q => ?_)
      · refine R_start hr.1.1 (fun _ => ?_) (fun r' np hk hI _ => absurd (hr.2.2.mp ec) np)
        exact fin x5 x6 s _ f _ _ op _ _ _ mode c er hc (INV_th hr) he same
      · have b : bgt n 1 (c0 + 2) b1 := ⟨same.1, fun _ => hb.1⟩
        refine R_start hr.1.1 (fun ep => absurd (hr.2.2.mpr ep) (by omega)) (fun r' _ hk hI _ => ?_)
        exact fin x5 x6 s' _ f _ _ op _ _ _ 1 c er q (INV_ke hr hk hI) (hk.2.2.2.1.trans he) b
    · refine And.intro i2 ?_
      refine L_run (m := m + 116) hc (by omega) (by omega) (fun e => by have := hb.2 e; omega) (fun y mode' s' f' b0' b1' op' q hq => ?_)
      refine And.intro i2 ?_
      refine R_run hr.1.1 (fun y2 r' hk hI => ?_)
      refine fin _ _ s' r' f' b0' b1' op' _ _ _ mode' c er q (INV_ke hr hk hI) (hk.2.2.2.1.trans he) ?_
      rcases hq with ⟨q0, q1, q2⟩ | ⟨q0, q1, q2, q3⟩
      · refine bgt_to hb (by omega) (by omega) (fun e => ?_)
        rcases q2 with q2 | q2
        · exact e.trans q2.symm
        · exact q2
      · have := hb.2 q1
        exact ⟨⟨by omega, by omega⟩, fun e => absurd e q0⟩
    · refine C_state (hc _) ?_
      refine R_state hr.1.1 ?_
      exact fin x5 x6 s _ f _ _ op _ _ _ mode c er hc (INV_th hr) he same
    · refine And.intro i2 ?_
      refine C_count (hc _) (fun y W' h => ?_)
      obtain ⟨s', rfl, hs⟩ := CI_CX h
      refine And.intro i2 ?_
      refine R_count hr.1.1 (fun y2 r' hk hI => ?_)
      exact fin x5 x6 s' _ f _ _ op _ _ _ mode c er hs (INV_ke hr hk hI) (hk.2.2.2.1.trans he) same
    · refine C_next (hc _) (fun y => ?_)
      refine R_next hr.1.1 (fun y2 => ?_)
      exact fin x5 x6 s _ f _ _ op _ _ _ mode c er hc (INV_th hr) he same
    · refine And.intro i2 ?_
      refine C_shown (b0 := c0 + 1) (hc _) (fun y op' => ?_)
      refine And.intro i2 ?_
      refine R_shown hr.1.1 (fun y2 => ?_)
      exact fin x5 x6 s _ f _ _ op' _ _ _ mode c er hc (INV_th hr) he same
    · exact fin x5 x6 s _ f _ _ op _ _ _ mode c er hc hr he same
end LLP
