section P1h
variable {m b0 b1 : Nat} {op : Bool} {tl : List mj_O} {Q : mj_R → Prop} {s : cS} {r : rM} {xs : List Int32}
set_option maxRecDepth 10000
theorem l_cell1 {o : mj_O} (hx : xs.length ≤ 2000) (hQ : Q (.inl (some (.int (xs.getD 0 0))), ([o], b0, b1, op))) : mj_Mt gT (law_cst xs) gnw (m + 1) y_Law_cell [.ref 1001, .int 0] ([o], b0, b1, op) Q := by
  intro J hJ
  refine hJ _ _ _ _ ?_
  cases xs with
  | nil => exact And.intro (fun _ => hQ) (fun g => absurd (by decide) g)
  | cons a l =>
    have hl : l.length + 1 ≤ 2000 := hx
    refine And.intro (fun (g : nI (l.length + 1) ≤ 0) => absurd g (nI_nle (by omega) (by omega))) (fun _ => ?_)
    exact And.intro (in0 (show 0 < l.length + 1 by omega)) hQ
theorem l_cell2 {o : mj_O} (hx : xs.length ≤ 2000) (hQ : Q (.inl (some (.int (xs.getD 0 0))), (cW s [o], b0, b1, op))) : mj_Mt gT (law_cst xs) gnw (m + 1) y_Law_cell [.ref 1001, .int 0] (cW s [o], b0, b1, op) Q := by
  intro J hJ
  refine hJ _ _ _ _ ?_
  cases xs with
  | nil => exact And.intro (fun _ => hQ) (fun g => absurd (by decide) g)
  | cons a l =>
    have hl : l.length + 1 ≤ 2000 := hx
    refine And.intro (fun (g : nI (l.length + 1) ≤ 0) => absurd g (nI_nle (by omega) (by omega))) (fun _ => ?_)
    exact And.intro (in0 (show 0 < l.length + 1 by omega)) hQ
variable {cst : Nat → Option (Nat × (Nat → Int32))} {f : Nat → Int64}
theorem l_compile0 (hs : s.len = 0) (hb : 12 ≤ b1) (hQ : ∀ (s' : cS) b, Q (.inl (some (.int 1)), (cW s' (rW r [oJ 1 f]), b0, b, false))) : mj_Mt gT cst gnw (m + 7) y_Law_compile [.ref 0, .ref 54] (cW s (rW r [oJ 1 f]), b0 + 2, b1, op) Q := by
  intro J hJ
  refine hJ _ _ _ _ ?_
  refine c_compile0 hs hb ?_
  exact hQ _ _
theorem l_run0 {n : Int32} (hs : s.mode = 0) (hb : 6 ≤ b1) (h1 : n < 0 ∨ 200 < n → ∀ b op, Q (.inl (some (.int 1)), (cW s (rW r [oJ 1 f]), b0, b, op))) (h2 : ¬ (n < 0 ∨ 200 < n) → Q (.inl (some (.int 0)), (cW s (rW r [oJ 1 (vp_updL f 0 0)]), b0 + 1, b1, op))) : mj_Mt gT cst gnw (m + 3) y_Law_run [.ref 0, .int n, .ref 54] (cW s (rW r [oJ 1 f]), b0 + 1, b1, op) Q := by
  intro J hJ
  refine hJ _ _ _ _ ?_
  refine c_run0 hs hb (fun g => ?_) (fun g => ?_)
  · exact h1 g _ _
  · refine And.intro (in0 (by decide)) ?_
    exact h2 g
theorem l_fin {a b c d : Int32} {m : Nat} {J : Nat → mj_L → List Value → mj_H → Prop} (hJ : ∀ pc ls st h, mj_sg (mj_Mt gT (law_cst [a, b, c, d]) gnw m) (law_cst [a, b, c, d]) gnw (mj_hd (mj_off oM_0) hM_0) cM_0 J (fun r => r.1 = .inl (some (.int 1))) 400 true pc ls st h → J pc ls st h) (x5 x6 : Option Value) (s : cS) (r : rM) (f : Nat → Int64) (b0 b1 : Nat) (op : Bool) : J 19 [some (.ref 1001), some (.ref 0), some (.ref 27), some (.ref 54), some (.int 4), x5, x6] [] (cW s (rW r [oJ 1 f]), b0, b1, op) := by
  refine hJ _ _ _ _ ?_
  refine And.intro (fun _ => ?_) (fun (g : ¬ Int32.ofNat 4 - Int32.ofInt 3 < 4) => absurd (by decide) g)
  exact And.intro (Or.inr rfl) rfl
set_option maxHeartbeats 2000000 in
theorem l_one {a b c d : Int32} {m z : Nat} (hz : z ≤ 250) {J : Nat → mj_L → List Value → mj_H → Prop} (hJ : ∀ pc ls st h, mj_sg (mj_Mt gT (law_cst [a, b, c, d]) gnw (m + 8)) (law_cst [a, b, c, d]) gnw (mj_hd (mj_off oM_0) hM_0) cM_0 J (fun r => r.1 = .inl (some (.int 1))) 400 true pc ls st h → J pc ls st h) (hb : 12 ≤ b1) : J 19 [some (.ref 1001), some (.ref 0), some (.ref 27), some (.ref 54), some (.int 1), none, none] [] (cW (c0 z) (rW (r0 z) [oJ 1 l0]), b0 + 2, b1, true) := by
  have fin := l_fin hJ
  refine hJ _ _ _ _ ?_
  refine And.intro (fun (g : Int32.ofNat 4 - Int32.ofInt 3 < 1) => absurd g (by decide)) (fun _ => ?_)
  refine And.intro (show vp_in 1 4 from vp_in_nI (show 1 < 4 by decide) (by decide)) ?_
  have i2 : vp_in (Int32.ofInt 1 + Int32.ofInt 1) 4 := vp_in_nI (show 2 < 4 by decide) (by decide)
  have i3 : vp_in (Int32.ofInt 1 + Int32.ofInt 2) 4 := vp_in_nI (show 3 < 4 by decide) (by decide)
  refine And.intro (fun _ => ?_) (fun _ => And.intro (fun _ => ?_) (fun _ => And.intro (fun _ => ?_) (fun _ => And.intro (fun _ => ?_) (fun _ => And.intro (fun _ => ?_) (fun _ => And.intro (fun _ => ?_) (fun _ => And.intro (fun _ => ?_) (fun _ => And.intro (fun _ => ?_) (fun _ => And.intro (fun _ => ?_) (fun _ => ?_)))))))))
  · refine And.intro i2 (And.intro i3 ?_)
    refine c_write (n := 0) (by omega) rfl (fun e => ?_) (fun k e => ?_)
    · refine And.intro i2 (And.intro i3 ?_)
      refine r_write (n := 0) (by omega) rfl (fun e2 => ?_) (fun k2 e2 => absurd (e.symm.trans e2) (by simp))
      exact And.intro (fun _ => fin none none _ _ _ _ _ _) (fun g => absurd rfl g)
    · refine And.intro i2 (And.intro i3 ?_)
      refine r_write (n := 0) (by omega) rfl (fun e2 => absurd (e.symm.trans e2) (by simp)) (fun k2 e2 => ?_)
      exact And.intro (fun _ => fin none none _ _ _ _ _ _) (fun g => absurd rfl g)
  · refine l_compile0 rfl hb (fun s' b => ?_)
    refine r_compile0 rfl (fun r' hr => ?_)
    refine r_thrown ?_
    rw [hr]
    refine And.intro (fun _ => ?_) (fun g => absurd rfl g)
    exact And.intro (fun _ => fin _ _ _ _ _ _ _ _) (fun g => absurd g (by decide))
  · refine c_position ?_
    refine r_position ?_
    exact And.intro (fun _ => fin none none _ _ _ _ _ _) (fun g => absurd rfl g)
  · refine c_start0 rfl ?_
    refine r_start0 rfl ?_
    exact And.intro (fun _ => fin none none _ _ _ _ _ _) (fun g => absurd rfl g)
  · refine And.intro i2 ?_
    refine l_run0 (b0 := b0 + 1) rfl (by omega) (fun g b op => ?_) (fun g => ?_)
    · refine And.intro i2 ?_
      refine r_run0 rfl (fun _ => ?_) (fun g2 => absurd g g2)
      refine r_thrown ?_
      refine And.intro (fun _ => ?_) (fun g => absurd rfl g)
      exact And.intro (fun _ => fin _ _ _ _ _ _ _ _) (fun g => absurd g (by decide))
    · refine And.intro i2 ?_
      refine r_run0 rfl (fun g2 => absurd g2 g) (fun _ => ?_)
      refine r_thrown ?_
      refine And.intro (fun _ => ?_) (fun g => absurd rfl g)
      refine And.intro (fun g => absurd rfl g) (fun _ => ?_)
      refine And.intro (in0 (by decide)) ?_
      exact And.intro (fun _ => fin _ _ _ _ _ _ _ _) (fun g => absurd (by decide) g)
  · refine c_state ?_
    refine r_state ?_
    exact And.intro (fun _ => fin none none _ _ _ _ _ _) (fun g => absurd rfl g)
  · refine And.intro i2 ?_
    refine c_count0 hz rfl rfl rfl rfl rfl rfl rfl rfl rfl (fun s' => ?_)
    refine And.intro i2 ?_
    refine r_count0 hz rfl (fun k hk => ?_) rfl rfl rfl (fun r' => ?_)
    · match k, hk with
      | 0, _ => rfl
      | 1, _ => rfl
      | 2, _ => rfl
      | 3, _ => rfl
      | 4, _ => rfl
    · exact And.intro (fun _ => fin none none _ _ _ _ _ _) (fun g => absurd rfl g)
  · refine c_next0 rfl ?_
    refine r_next0 rfl ?_
    exact And.intro (fun _ => fin none none _ _ _ _ _ _) (fun g => absurd rfl g)
  · refine And.intro i2 ?_
    refine c_shown0 rfl ?_
    refine And.intro i2 ?_
    refine r_shown0 rfl ?_
    exact And.intro (fun _ => fin none none _ _ _ _ _ _) (fun g => absurd rfl g)
  · exact fin none none _ _ _ _ _ _
theorem l_main {m z : Nat} (hz : z ≤ 250) (hx : xs.length ≤ 4) {J : Nat → mj_L → List Value → mj_H → Prop} (hJ : ∀ pc ls st h, mj_sg (mj_Mt gT (law_cst xs) gnw (m + 8)) (law_cst xs) gnw (mj_hd (mj_off oM_0) hM_0) cM_0 J (fun r => r.1 = .inl (some (.int 1))) 400 true pc ls st h → J pc ls st h) (hb : 12 ≤ b1) : J 19 [some (.ref 1001), some (.ref 0), some (.ref 27), some (.ref 54), some (.int 1), none, none] [] (cW (c0 z) (rW (r0 z) [oJ 1 l0]), b0 + 2, b1, true) := by
  rcases xs with _ | ⟨a, _ | ⟨b, _ | ⟨c, _ | ⟨d, _ | ⟨e, l⟩⟩⟩⟩⟩
  · refine hJ _ _ _ _ ?_
    refine And.intro (fun _ => ?_) (fun (g : ¬ Int32.ofNat 0 - Int32.ofInt 3 < 1) => absurd (by decide) g)
    exact And.intro (Or.inr rfl) rfl
  · refine hJ _ _ _ _ ?_
    refine And.intro (fun _ => ?_) (fun (g : ¬ Int32.ofNat 1 - Int32.ofInt 3 < 1) => absurd (by decide) g)
    exact And.intro (Or.inr rfl) rfl
  · refine hJ _ _ _ _ ?_
    refine And.intro (fun _ => ?_) (fun (g : ¬ Int32.ofNat 2 - Int32.ofInt 3 < 1) => absurd (by decide) g)
    exact And.intro (Or.inr rfl) rfl
  · refine hJ _ _ _ _ ?_
    refine And.intro (fun _ => ?_) (fun (g : ¬ Int32.ofNat 3 - Int32.ofInt 3 < 1) => absurd (by decide) g)
    exact And.intro (Or.inr rfl) rfl
  · exact l_one hz hJ hb
  · simp only [List.length_cons] at hx
    omega
set_option maxHeartbeats 2000000 in
theorem l_law4 (hx : xs.length ≤ 4) (hb : 20000 ≤ b1) : mj_Mt gT (law_cst xs) gnw (m + 9) 0 [.ref 1001] ([], b0 + 60, b1, true) (fun r => r.1 = .inl (some (.int 1))) := by
  intro J hJ
  refine hJ _ _ _ _ ?_
  refine And.intro (Nat.le_of_ble_eq_true rfl) (And.intro (show 7 ≤ b1 by omega) ?_)
  refine l_cell1 (by omega) ?_
  refine c_pm_init (bc := b0 + 33) (show 4000 ≤ b1 - 7 by omega) (fun c1 (h1 : b1 - 7 - 4000 ≤ c1) => ?_)
  refine And.intro (Nat.le_of_ble_eq_true rfl) (And.intro (show 45 ≤ c1 by omega) ?_)
  refine l_cell2 (by omega) ?_
  refine r_init (bc := b0 + 6) (show 12000 ≤ c1 - 45 by omega) (fun c2 (h2 : c1 - 45 ≤ c2 + 12000) => ?_)
  have hz := (clZ_le (xs.getD 0 0)).2
  revert hz
  generalize clZ (xs.getD 0 0) = z
  intro hz
  refine And.intro (Nat.le_of_ble_eq_true rfl) (And.intro (by decide) (And.intro (by rw [show (Int32.ofInt 1).toNatClampNeg = 1 by decide]; omega) (And.intro (by decide) ?_)))
  have main : ∀ c3, c2 ≤ c3 + 1 → J 19 [some (.ref 1001), some (.ref 0), some (.ref 27), some (.ref 54), some (.int 1), none, none] [] (cW (c0 z) (rW (r0 z) [oJ 1 l0]), b0 + 5, c3, true) := fun c3 h3 => l_main (b0 := b0 + 3) hz hx hJ (by omega)
  exact main _ (by rw [show (Int32.ofInt 1).toNatClampNeg = 1 by decide]; omega)
end P1h
