section P1b
variable {cst : Nat → Option (Nat × (Nat → Int32))} {m bc bs : Nat} {Q : mj_R → Prop}
set_option maxRecDepth 10000
def c0 (z : Nat) : cS := ((((((z, -1), z0), (z0, z0)), (((z0, z0), z0), (0, z0))), ((((0, 0), l0), (l0, 0)), (((0, 0), z0), (0, 0)))), (((((0, 0), 0), (0, 0)), (((0, 0), 0), (l0, l0))), ((((fillF z0 0 z, z0), z0), (nI z, 0)), (((0, 0), sbO), (sbB, l0)))))
def clZ (x : Int32) : Nat := if x < 20 then 20 else if 250 < x then 250 else x.toNatClampNeg
theorem clZ_le (x : Int32) : 20 ≤ clZ x ∧ clZ x ≤ 250 := by
  unfold clZ
  split
  · omega
  · split
    · omega
    · rename_i h1 h2
      obtain ⟨j, hj, rfl⟩ := nI_of (x := x) (fun h => h1 (Int32.lt_of_lt_of_le h (by decide)))
      rw [nI_clamp (by omega)]
      have a : ¬ j < 20 := fun h => h1 ((nI_ltI (b := 20) hj (by decide)).mpr h)
      have b : ¬ 250 < j := fun h => h2 ((nI_ltI (a := 250) (by decide) hj).mpr h)
      omega
theorem clZ_nI (x : Int32) : nI (clZ x) = if x < 20 then 20 else if 250 < x then 250 else x := by
  unfold clZ
  split
  · decide
  · split
    · decide
    · rename_i h1 h2
      obtain ⟨j, hj, rfl⟩ := nI_of (x := x) (fun h => h1 (Int32.lt_of_lt_of_le h (by decide)))
      rw [nI_clamp (by omega)]
theorem clZ_mm (x : Int32) : (if Int32.ofInt 20 < (if x < Int32.ofInt 250 then x else Int32.ofInt 250) then (if x < Int32.ofInt 250 then x else Int32.ofInt 250) else Int32.ofInt 20) = nI (clZ x) := by
  rw [clZ_nI]
  have e20 : Int32.ofInt 20 = 20 := by decide
  have e250 : Int32.ofInt 250 = 250 := by decide
  rw [e20, e250]
  by_cases h1 : x < 20
  · have h2 : x < 250 := Int32.lt_trans h1 (by decide)
    have h3 : ¬ 20 < x := fun h => Int32.lt_irrefl (Int32.lt_trans h h1)
    rw [if_pos h1, if_pos h2, if_neg h3]
  · rw [if_neg h1]
    by_cases h2 : 250 < x
    · have h3 : ¬ x < 250 := fun h => Int32.lt_irrefl (Int32.lt_trans h h2)
      rw [if_pos h2, if_neg h3]
      decide
    · rw [if_neg h2]
      by_cases h3 : x < 250
      · rw [if_pos h3]
        by_cases h4 : 20 < x
        · rw [if_pos h4]
        · rw [if_neg h4]
          exact Int32.le_antisymm (Int32.not_lt.mp h1) (Int32.not_lt.mp h4)
      · rw [if_neg h3]
        have : x = 250 := Int32.le_antisymm (Int32.not_lt.mp h2) (Int32.not_lt.mp h3)
        subst this
        decide
set_option maxHeartbeats 2000000 in
theorem c_pm_init {x : Int32} (hb : 4000 ≤ bs) (hQ : ∀ b, bs - 4000 ≤ b → Q (.inl none, (cW (c0 (clZ x)) [], bc, b, true))) :
    mj_Mt gT cst gnw (m + 5) y_P_init [.ref 0, .int x] ([oF 0 fN0], bc + 26, bs, true) Q := by
  have hv := clZ_mm x
  have h5 := (clZ_le x).2
  have ec : ∀ z : Nat, z ≤ 250 → (nI z).toNatClampNeg = z := fun z hz => nI_clamp (by omega)
  revert hv h5 hQ
  generalize clZ x = z
  intro hQ hv h5
  intro J hJ
  refine hJ _ _ _ _ ?_
  refine And.intro (Nat.le_of_ble_eq_true rfl) (And.intro (show 7 ≤ bs by omega) ?_)
  rw [hv]
  refine c_tree_init (show 576 ≤ bs - 7 by omega) (fun b1 (h1 : bs - 7 ≤ b1 + 576) => ?_)
  refine And.intro (Nat.le_of_ble_eq_true rfl) (And.intro (show 2 ≤ b1 by omega) ?_)
  refine c_text_init (show 96 ≤ b1 - 2 by omega) (fun b2 (h2 : b1 - 2 ≤ b2 + 96) => ?_)
  refine And.intro (Nat.le_of_ble_eq_true rfl) (And.intro (show 3 ≤ b2 by omega) ?_)
  refine c_reader_init (fun b3 (h3 : b2 - 3 ≤ b3 + 0) => ?_)
  refine And.intro (Nat.le_of_ble_eq_true rfl) (And.intro (show 5 ≤ b3 by omega) ?_)
  refine c_code_init (nI_pos (by omega)) (by rw [ec z h5]; exact h5) (by rw [ec z h5]; show 2 * z ≤ b3 - 5; omega) (fun b4 (h4 : b3 - 5 ≤ b4 + 2 * (nI z).toNatClampNeg) => ?_)
  rw [ec z h5] at h4 ⊢
  refine And.intro (Nat.le_of_ble_eq_true rfl) (And.intro (show 5 ≤ b4 by omega) ?_)
  refine c_coder_init (show 9 ≤ b4 - 5 by omega) (fun b5 (h5_ : b4 - 5 ≤ b5 + 9) => ?_)
  refine And.intro (Nat.le_of_ble_eq_true rfl) (And.intro (show 10 ≤ b5 by omega) ?_)
  refine c_machine_init h5 (show 153 + 5 * z ≤ b5 - 10 by omega) (fun b6 (h6 : b5 - 10 ≤ b6 + (153 + 5 * z)) => ?_)
  exact hQ _ (by omega)
end P1b
