section LLW
variable {m b0 b1 : Nat} {op : Bool} {Q : mj_R → Prop} {s : cS} {xs : List Int32}
set_option maxRecDepth 10000
theorem L_cell1 {o : mj_O} (hx : xs.length ≤ 2000) (hQ : Q (.inl (some (.int (xs.getD 0 0))), ([o], b0, b1, op))) : mj_Mt gT (law_cst xs) gnw (m + 1) y_Law_cell [.ref 1001, .int 0] ([o], b0, b1, op) Q := by
  intro J hJ
  refine hJ _ _ _ _ ?_
  cases xs with
  | nil => exact And.intro (fun _ => hQ) (fun g => absurd (by decide) g)
  | cons a l =>
    have hl : l.length + 1 ≤ 2000 := hx
    refine And.intro (fun (g : nI (l.length + 1) ≤ 0) => absurd g (nI_nle (by omega) (by omega))) (fun _ => ?_)
    exact And.intro (in0 (show 0 < l.length + 1 by omega)) hQ
theorem L_cell2 {o : mj_O} (hx : xs.length ≤ 2000) (hQ : Q (.inl (some (.int (xs.getD 0 0))), (cW s [o], b0, b1, op))) : mj_Mt gT (law_cst xs) gnw (m + 1) y_Law_cell [.ref 1001, .int 0] (cW s [o], b0, b1, op) Q := by
  intro J hJ
  refine hJ _ _ _ _ ?_
  cases xs with
  | nil => exact And.intro (fun _ => hQ) (fun g => absurd (by decide) g)
  | cons a l =>
    have hl : l.length + 1 ≤ 2000 := hx
    refine And.intro (fun (g : nI (l.length + 1) ≤ 0) => absurd g (nI_nle (by omega) (by omega))) (fun _ => ?_)
    exact And.intro (in0 (show 0 < l.length + 1 by omega)) hQ
theorem L_law (hx : xs.length ≤ 1537) (hb0 : 200 * 512 ≤ b0) (hb : 20000 + 14000 * 512 ≤ b1) : mj_Mt gT (law_cst xs) gnw (m + 131) 0 [.ref 1001] ([], b0 + 60, b1, true) (fun r => r.1 = .inl (some (.int 1))) := by
  intro J hJ
  refine hJ _ _ _ _ ?_
  refine And.intro (Nat.le_of_ble_eq_true rfl) (And.intro (show 7 ≤ b1 by omega) ?_)
  refine L_cell1 (by omega) ?_
  refine c_pm_init (bc := b0 + 33) (show 4000 ≤ b1 - 7 by omega) (fun c1 (h1 : b1 - 7 - 4000 ≤ c1) => ?_)
  refine And.intro (Nat.le_of_ble_eq_true rfl) (And.intro (show 45 ≤ c1 by omega) ?_)
  refine L_cell2 (by omega) ?_
  refine r_init (bc := b0 + 6) (show 12000 ≤ c1 - 45 by omega) (fun c2 (h2 : c1 - 45 ≤ c2 + 12000) => ?_)
  have hz := clZ_le (xs.getD 0 0)
  revert hz
  generalize clZ (xs.getD 0 0) = z
  intro hz
  refine And.intro (Nat.le_of_ble_eq_true rfl) (And.intro (by decide) (And.intro (by rw [show (Int32.ofInt 1).toNatClampNeg = 1 by decide]; omega) (And.intro (by decide) ?_)))
  have main : ∀ c3, c2 ≤ c3 + 1 → J 19 [some (.ref 1001), some (.ref 0), some (.ref 27), some (.ref 54), some (.int 1), none, none] [] (cW (c0 z) (rW (r0 z) [oJ 1 l0]), b0 + 5, c3, true) := fun c3 h3 => L_loop hx hJ 512 1 none none _ _ _ _ _ _ z 0 (fun _ => 0) 0 0 (-1) (by omega) (by omega) (CX_c0 z (by omega) hz.2) ⟨RY_r0 z (by omega) hz.2, rfl, ⟨fun _ => rfl, fun _ => rfl⟩⟩ rfl ⟨⟨by omega, by omega⟩, fun e => absurd e (by decide)⟩
  exact main _ (by rw [show (Int32.ofInt 1).toNatClampNeg = 1 by decide]; omega)
end LLW
