section
section P1f
variable {cst : Nat → Option (Nat × (Nat → Int32))} {m bc bs : Nat} {Q : mj_R → Prop}
set_option maxRecDepth 10000
def r0 (z : Nat) : rM := ((((((z, 0), 0), ((z0, 0), -1)), (((0, z0), z0), ((z0, z0), z0))), ((((z0, z0), z0), ((z0, z0), z0)), (((0, 0), z0), (z0, 0)))), (((((0, z0), z0), ((z0, z0), z0)), (((z0, z0), z0), (z0, 0))), ((((z0, upd (upd (upd (upd (upd z0 0 (-1)) 1 (-1)) 2 (-1)) 3 (-1)) 4 (-1)), 0), ((0, 0), 0)), (((0, 0), 0), (0, z0)))))
theorem e100 : (Int32.ofInt 100).toNatClampNeg = 100 := by decide
theorem e300 : (Int32.ofInt 300).toNatClampNeg = 300 := by decide
theorem e1200 : (Int32.ofInt 1200).toNatClampNeg = 1200 := by decide
theorem e250 : (Int32.ofInt 250).toNatClampNeg = 250 := by decide
theorem e260 : (Int32.ofInt 260).toNatClampNeg = 260 := by decide
theorem e5 : (Int32.ofInt 5).toNatClampNeg = 5 := by decide
set_option maxHeartbeats 2000000 in
theorem r_init {s : cS} {x : Int32} (hb : 12000 ≤ bs) (hQ : ∀ b, bs ≤ b + 12000 → Q (.inl none, (cW s (rW (r0 (clZ x)) []), bc, b, true))) :
    mj_Mt gT cst gnw (m + 1) y_R_init [.ref 27, .int x] (cW s [oF 10 fN10], bc + 26, bs, true) Q := by
  have hv := clZ_nI x
  revert hv hQ
  generalize clZ x = z
  intro hQ hv
  intro J hJ
  refine hJ _ _ _ _ ?_
  refine And.intro (Nat.le_of_ble_eq_true rfl) (And.intro (by decide) (And.intro (by rw [e96]; omega) (And.intro (by decide) ?_)))
  generalize hb0 : bs - (Int32.ofInt 96).toNatClampNeg = b0
  replace hb0 : bs ≤ b0 + 96 := by rw [← hb0, e96]; omega
  change mj_sg _ _ _ _ _ _ _ _ _ 5 [some (.ref 27), some (.int x)] [.ref 28, .ref 27] (cW s [oF 10 [.int 0, .int 0, .int 0, .null, .int 0, .int 0, .int 0, .null, .null, .null, .null, .null, .null, .null, .null, .null, .null, .null, .int 0, .int 0, .null, .null, .int 0, .int 0, .null, .null, .null, .null, .null, .null, .null, .null, .null, .int 0, .null, .null, .int 0, .int 0, .int 0, .int 0, .int 0, .int 0, .int 0, .int 0, .null], oC 96 z0], bc + 25, b0, true)
  refine And.intro (Nat.le_of_ble_eq_true rfl) (And.intro (by decide) (And.intro (by rw [e100]; omega) (And.intro (by decide) ?_)))
  generalize hb1 : b0 - (Int32.ofInt 100).toNatClampNeg = b1
  replace hb1 : b0 ≤ b1 + 100 := by rw [← hb1, e100]; omega
  change mj_sg _ _ _ _ _ _ _ _ _ 12 [some (.ref 27), some (.int x)] [.ref 29, .ref 27] (cW s [oF 10 [.int 0, .int 0, .int 0, .ref 28, .int 0, .int (-1), .int 0, .null, .null, .null, .null, .null, .null, .null, .null, .null, .null, .null, .int 0, .int 0, .null, .null, .int 0, .int 0, .null, .null, .null, .null, .null, .null, .null, .null, .null, .int 0, .null, .null, .int 0, .int 0, .int 0, .int 0, .int 0, .int 0, .int 0, .int 0, .null], oC 96 z0, oI 100 z0], bc + 24, b1, true)
  refine And.intro (Nat.le_of_ble_eq_true rfl) (And.intro (by decide) (And.intro (by rw [e100]; omega) (And.intro (by decide) ?_)))
  generalize hb2 : b1 - (Int32.ofInt 100).toNatClampNeg = b2
  replace hb2 : b1 ≤ b2 + 100 := by rw [← hb2, e100]; omega
  change mj_sg _ _ _ _ _ _ _ _ _ 16 [some (.ref 27), some (.int x)] [.ref 30, .ref 27] (cW s [oF 10 [.int 0, .int 0, .int 0, .ref 28, .int 0, .int (-1), .int 0, .ref 29, .null, .null, .null, .null, .null, .null, .null, .null, .null, .null, .int 0, .int 0, .null, .null, .int 0, .int 0, .null, .null, .null, .null, .null, .null, .null, .null, .null, .int 0, .null, .null, .int 0, .int 0, .int 0, .int 0, .int 0, .int 0, .int 0, .int 0, .null], oC 96 z0, oI 100 z0, oI 100 z0], bc + 23, b2, true)
  refine And.intro (Nat.le_of_ble_eq_true rfl) (And.intro (by decide) (And.intro (by rw [e100]; omega) (And.intro (by decide) ?_)))
  generalize hb3 : b2 - (Int32.ofInt 100).toNatClampNeg = b3
  replace hb3 : b2 ≤ b3 + 100 := by rw [← hb3, e100]; omega
  change mj_sg _ _ _ _ _ _ _ _ _ 20 [some (.ref 27), some (.int x)] [.ref 31, .ref 27] (cW s [oF 10 [.int 0, .int 0, .int 0, .ref 28, .int 0, .int (-1), .int 0, .ref 29, .ref 30, .null, .null, .null, .null, .null, .null, .null, .null, .null, .int 0, .int 0, .null, .null, .int 0, .int 0, .null, .null, .null, .null, .null, .null, .null, .null, .null, .int 0, .null, .null, .int 0, .int 0, .int 0, .int 0, .int 0, .int 0, .int 0, .int 0, .null], oC 96 z0, oI 100 z0, oI 100 z0, oI 100 z0], bc + 22, b3, true)
  refine And.intro (Nat.le_of_ble_eq_true rfl) (And.intro (by decide) (And.intro (by rw [e100]; omega) (And.intro (by decide) ?_)))
  generalize hb4 : b3 - (Int32.ofInt 100).toNatClampNeg = b4
  replace hb4 : b3 ≤ b4 + 100 := by rw [← hb4, e100]; omega
  change mj_sg _ _ _ _ _ _ _ _ _ 24 [some (.ref 27), some (.int x)] [.ref 32, .ref 27] (cW s [oF 10 [.int 0, .int 0, .int 0, .ref 28, .int 0, .int (-1), .int 0, .ref 29, .ref 30, .ref 31, .null, .null, .null, .null, .null, .null, .null, .null, .int 0, .int 0, .null, .null, .int 0, .int 0, .null, .null, .null, .null, .null, .null, .null, .null, .null, .int 0, .null, .null, .int 0, .int 0, .int 0, .int 0, .int 0, .int 0, .int 0, .int 0, .null], oC 96 z0, oI 100 z0, oI 100 z0, oI 100 z0, oI 100 z0], bc + 21, b4, true)
  refine And.intro (Nat.le_of_ble_eq_true rfl) (And.intro (by decide) (And.intro (by rw [e100]; omega) (And.intro (by decide) ?_)))
  generalize hb5 : b4 - (Int32.ofInt 100).toNatClampNeg = b5
  replace hb5 : b4 ≤ b5 + 100 := by rw [← hb5, e100]; omega
  change mj_sg _ _ _ _ _ _ _ _ _ 28 [some (.ref 27), some (.int x)] [.ref 33, .ref 27] (cW s [oF 10 [.int 0, .int 0, .int 0, .ref 28, .int 0, .int (-1), .int 0, .ref 29, .ref 30, .ref 31, .ref 32, .null, .null, .null, .null, .null, .null, .null, .int 0, .int 0, .null, .null, .int 0, .int 0, .null, .null, .null, .null, .null, .null, .null, .null, .null, .int 0, .null, .null, .int 0, .int 0, .int 0, .int 0, .int 0, .int 0, .int 0, .int 0, .null], oC 96 z0, oI 100 z0, oI 100 z0, oI 100 z0, oI 100 z0, oI 100 z0], bc + 20, b5, true)
  refine And.intro (Nat.le_of_ble_eq_true rfl) (And.intro (by decide) (And.intro (by rw [e100]; omega) (And.intro (by decide) ?_)))
  generalize hb6 : b5 - (Int32.ofInt 100).toNatClampNeg = b6
  replace hb6 : b5 ≤ b6 + 100 := by rw [← hb6, e100]; omega
  change mj_sg _ _ _ _ _ _ _ _ _ 32 [some (.ref 27), some (.int x)] [.ref 34, .ref 27] (cW s [oF 10 [.int 0, .int 0, .int 0, .ref 28, .int 0, .int (-1), .int 0, .ref 29, .ref 30, .ref 31, .ref 32, .ref 33, .null, .null, .null, .null, .null, .null, .int 0, .int 0, .null, .null, .int 0, .int 0, .null, .null, .null, .null, .null, .null, .null, .null, .null, .int 0, .null, .null, .int 0, .int 0, .int 0, .int 0, .int 0, .int 0, .int 0, .int 0, .null], oC 96 z0, oI 100 z0, oI 100 z0, oI 100 z0, oI 100 z0, oI 100 z0, oI 100 z0], bc + 19, b6, true)
  refine And.intro (Nat.le_of_ble_eq_true rfl) (And.intro (by decide) (And.intro (by rw [e100]; omega) (And.intro (by decide) ?_)))
  generalize hb7 : b6 - (Int32.ofInt 100).toNatClampNeg = b7
  replace hb7 : b6 ≤ b7 + 100 := by rw [← hb7, e100]; omega
  change mj_sg _ _ _ _ _ _ _ _ _ 36 [some (.ref 27), some (.int x)] [.ref 35, .ref 27] (cW s [oF 10 [.int 0, .int 0, .int 0, .ref 28, .int 0, .int (-1), .int 0, .ref 29, .ref 30, .ref 31, .ref 32, .ref 33, .ref 34, .null, .null, .null, .null, .null, .int 0, .int 0, .null, .null, .int 0, .int 0, .null, .null, .null, .null, .null, .null, .null, .null, .null, .int 0, .null, .null, .int 0, .int 0, .int 0, .int 0, .int 0, .int 0, .int 0, .int 0, .null], oC 96 z0, oI 100 z0, oI 100 z0, oI 100 z0, oI 100 z0, oI 100 z0, oI 100 z0, oI 100 z0], bc + 18, b7, true)
  refine And.intro (Nat.le_of_ble_eq_true rfl) (And.intro (by decide) (And.intro (by rw [e100]; omega) (And.intro (by decide) ?_)))
  generalize hb8 : b7 - (Int32.ofInt 100).toNatClampNeg = b8
  replace hb8 : b7 ≤ b8 + 100 := by rw [← hb8, e100]; omega
  change mj_sg _ _ _ _ _ _ _ _ _ 40 [some (.ref 27), some (.int x)] [.ref 36, .ref 27] (cW s [oF 10 [.int 0, .int 0, .int 0, .ref 28, .int 0, .int (-1), .int 0, .ref 29, .ref 30, .ref 31, .ref 32, .ref 33, .ref 34, .ref 35, .null, .null, .null, .null, .int 0, .int 0, .null, .null, .int 0, .int 0, .null, .null, .null, .null, .null, .null, .null, .null, .null, .int 0, .null, .null, .int 0, .int 0, .int 0, .int 0, .int 0, .int 0, .int 0, .int 0, .null], oC 96 z0, oI 100 z0, oI 100 z0, oI 100 z0, oI 100 z0, oI 100 z0, oI 100 z0, oI 100 z0, oI 100 z0], bc + 17, b8, true)
  refine And.intro (Nat.le_of_ble_eq_true rfl) (And.intro (by decide) (And.intro (by rw [e100]; omega) (And.intro (by decide) ?_)))
  generalize hb9 : b8 - (Int32.ofInt 100).toNatClampNeg = b9
  replace hb9 : b8 ≤ b9 + 100 := by rw [← hb9, e100]; omega
  change mj_sg _ _ _ _ _ _ _ _ _ 44 [some (.ref 27), some (.int x)] [.ref 37, .ref 27] (cW s [oF 10 [.int 0, .int 0, .int 0, .ref 28, .int 0, .int (-1), .int 0, .ref 29, .ref 30, .ref 31, .ref 32, .ref 33, .ref 34, .ref 35, .ref 36, .null, .null, .null, .int 0, .int 0, .null, .null, .int 0, .int 0, .null, .null, .null, .null, .null, .null, .null, .null, .null, .int 0, .null, .null, .int 0, .int 0, .int 0, .int 0, .int 0, .int 0, .int 0, .int 0, .null], oC 96 z0, oI 100 z0, oI 100 z0, oI 100 z0, oI 100 z0, oI 100 z0, oI 100 z0, oI 100 z0, oI 100 z0, oI 100 z0], bc + 16, b9, true)
  refine And.intro (Nat.le_of_ble_eq_true rfl) (And.intro (by decide) (And.intro (by rw [e300]; omega) (And.intro (by decide) ?_)))
  generalize hb10 : b9 - (Int32.ofInt 300).toNatClampNeg = b10
  replace hb10 : b9 ≤ b10 + 300 := by rw [← hb10, e300]; omega
  change mj_sg _ _ _ _ _ _ _ _ _ 48 [some (.ref 27), some (.int x)] [.ref 38, .ref 27] (cW s [oF 10 [.int 0, .int 0, .int 0, .ref 28, .int 0, .int (-1), .int 0, .ref 29, .ref 30, .ref 31, .ref 32, .ref 33, .ref 34, .ref 35, .ref 36, .ref 37, .null, .null, .int 0, .int 0, .null, .null, .int 0, .int 0, .null, .null, .null, .null, .null, .null, .null, .null, .null, .int 0, .null, .null, .int 0, .int 0, .int 0, .int 0, .int 0, .int 0, .int 0, .int 0, .null], oC 96 z0, oI 100 z0, oI 100 z0, oI 100 z0, oI 100 z0, oI 100 z0, oI 100 z0, oI 100 z0, oI 100 z0, oI 100 z0, oI 300 z0], bc + 15, b10, true)
  refine And.intro (Nat.le_of_ble_eq_true rfl) (And.intro (by decide) (And.intro (by rw [e100]; omega) (And.intro (by decide) ?_)))
  generalize hb11 : b10 - (Int32.ofInt 100).toNatClampNeg = b11
  replace hb11 : b10 ≤ b11 + 100 := by rw [← hb11, e100]; omega
  change mj_sg _ _ _ _ _ _ _ _ _ 52 [some (.ref 27), some (.int x)] [.ref 39, .ref 27] (cW s [oF 10 [.int 0, .int 0, .int 0, .ref 28, .int 0, .int (-1), .int 0, .ref 29, .ref 30, .ref 31, .ref 32, .ref 33, .ref 34, .ref 35, .ref 36, .ref 37, .ref 38, .null, .int 0, .int 0, .null, .null, .int 0, .int 0, .null, .null, .null, .null, .null, .null, .null, .null, .null, .int 0, .null, .null, .int 0, .int 0, .int 0, .int 0, .int 0, .int 0, .int 0, .int 0, .null], oC 96 z0, oI 100 z0, oI 100 z0, oI 100 z0, oI 100 z0, oI 100 z0, oI 100 z0, oI 100 z0, oI 100 z0, oI 100 z0, oI 300 z0, oI 100 z0], bc + 14, b11, true)
  refine And.intro (Nat.le_of_ble_eq_true rfl) (And.intro (by decide) (And.intro (by rw [e1200]; omega) (And.intro (by decide) ?_)))
  generalize hb12 : b11 - (Int32.ofInt 1200).toNatClampNeg = b12
  replace hb12 : b11 ≤ b12 + 1200 := by rw [← hb12, e1200]; omega
  change mj_sg _ _ _ _ _ _ _ _ _ 56 [some (.ref 27), some (.int x)] [.ref 40, .ref 27] (cW s [oF 10 [.int 0, .int 0, .int 0, .ref 28, .int 0, .int (-1), .int 0, .ref 29, .ref 30, .ref 31, .ref 32, .ref 33, .ref 34, .ref 35, .ref 36, .ref 37, .ref 38, .ref 39, .int 0, .int 0, .null, .null, .int 0, .int 0, .null, .null, .null, .null, .null, .null, .null, .null, .null, .int 0, .null, .null, .int 0, .int 0, .int 0, .int 0, .int 0, .int 0, .int 0, .int 0, .null], oC 96 z0, oI 100 z0, oI 100 z0, oI 100 z0, oI 100 z0, oI 100 z0, oI 100 z0, oI 100 z0, oI 100 z0, oI 100 z0, oI 300 z0, oI 100 z0, oI 1200 z0], bc + 13, b12, true)
  refine And.intro (Nat.le_of_ble_eq_true rfl) (And.intro (by decide) (And.intro (by rw [e1200]; omega) (And.intro (by decide) ?_)))
  generalize hb13 : b12 - (Int32.ofInt 1200).toNatClampNeg = b13
  replace hb13 : b12 ≤ b13 + 1200 := by rw [← hb13, e1200]; omega
  change mj_sg _ _ _ _ _ _ _ _ _ 60 [some (.ref 27), some (.int x)] [.ref 41, .ref 27] (cW s [oF 10 [.int 0, .int 0, .int 0, .ref 28, .int 0, .int (-1), .int 0, .ref 29, .ref 30, .ref 31, .ref 32, .ref 33, .ref 34, .ref 35, .ref 36, .ref 37, .ref 38, .ref 39, .int 0, .int 0, .ref 40, .null, .int 0, .int 0, .null, .null, .null, .null, .null, .null, .null, .null, .null, .int 0, .null, .null, .int 0, .int 0, .int 0, .int 0, .int 0, .int 0, .int 0, .int 0, .null], oC 96 z0, oI 100 z0, oI 100 z0, oI 100 z0, oI 100 z0, oI 100 z0, oI 100 z0, oI 100 z0, oI 100 z0, oI 100 z0, oI 300 z0, oI 100 z0, oI 1200 z0, oI 1200 z0], bc + 12, b13, true)
  refine And.intro (Nat.le_of_ble_eq_true rfl) (And.intro (by decide) (And.intro (by rw [e1200]; omega) (And.intro (by decide) ?_)))
  generalize hb14 : b13 - (Int32.ofInt 1200).toNatClampNeg = b14
  replace hb14 : b13 ≤ b14 + 1200 := by rw [← hb14, e1200]; omega
  change mj_sg _ _ _ _ _ _ _ _ _ 64 [some (.ref 27), some (.int x)] [.ref 42, .ref 27] (cW s [oF 10 [.int 0, .int 0, .int 0, .ref 28, .int 0, .int (-1), .int 0, .ref 29, .ref 30, .ref 31, .ref 32, .ref 33, .ref 34, .ref 35, .ref 36, .ref 37, .ref 38, .ref 39, .int 0, .int 0, .ref 40, .ref 41, .int 0, .int 0, .null, .null, .null, .null, .null, .null, .null, .null, .null, .int 0, .null, .null, .int 0, .int 0, .int 0, .int 0, .int 0, .int 0, .int 0, .int 0, .null], oC 96 z0, oI 100 z0, oI 100 z0, oI 100 z0, oI 100 z0, oI 100 z0, oI 100 z0, oI 100 z0, oI 100 z0, oI 100 z0, oI 300 z0, oI 100 z0, oI 1200 z0, oI 1200 z0, oI 1200 z0], bc + 11, b14, true)
  refine And.intro (Nat.le_of_ble_eq_true rfl) (And.intro (by decide) (And.intro (by rw [e1200]; omega) (And.intro (by decide) ?_)))
  generalize hb15 : b14 - (Int32.ofInt 1200).toNatClampNeg = b15
  replace hb15 : b14 ≤ b15 + 1200 := by rw [← hb15, e1200]; omega
  change mj_sg _ _ _ _ _ _ _ _ _ 68 [some (.ref 27), some (.int x)] [.ref 43, .ref 27] (cW s [oF 10 [.int 0, .int 0, .int 0, .ref 28, .int 0, .int (-1), .int 0, .ref 29, .ref 30, .ref 31, .ref 32, .ref 33, .ref 34, .ref 35, .ref 36, .ref 37, .ref 38, .ref 39, .int 0, .int 0, .ref 40, .ref 41, .int 0, .int 0, .ref 42, .null, .null, .null, .null, .null, .null, .null, .null, .int 0, .null, .null, .int 0, .int 0, .int 0, .int 0, .int 0, .int 0, .int 0, .int 0, .null], oC 96 z0, oI 100 z0, oI 100 z0, oI 100 z0, oI 100 z0, oI 100 z0, oI 100 z0, oI 100 z0, oI 100 z0, oI 100 z0, oI 300 z0, oI 100 z0, oI 1200 z0, oI 1200 z0, oI 1200 z0, oI 1200 z0], bc + 10, b15, true)
  refine And.intro (Nat.le_of_ble_eq_true rfl) (And.intro (by decide) (And.intro (by rw [e250]; omega) (And.intro (by decide) ?_)))
  generalize hb16 : b15 - (Int32.ofInt 250).toNatClampNeg = b16
  replace hb16 : b15 ≤ b16 + 250 := by rw [← hb16, e250]; omega
  change mj_sg _ _ _ _ _ _ _ _ _ 72 [some (.ref 27), some (.int x)] [.ref 44, .ref 27] (cW s [oF 10 [.int 0, .int 0, .int 0, .ref 28, .int 0, .int (-1), .int 0, .ref 29, .ref 30, .ref 31, .ref 32, .ref 33, .ref 34, .ref 35, .ref 36, .ref 37, .ref 38, .ref 39, .int 0, .int 0, .ref 40, .ref 41, .int 0, .int 0, .ref 42, .ref 43, .null, .null, .null, .null, .null, .null, .null, .int 0, .null, .null, .int 0, .int 0, .int 0, .int 0, .int 0, .int 0, .int 0, .int 0, .null], oC 96 z0, oI 100 z0, oI 100 z0, oI 100 z0, oI 100 z0, oI 100 z0, oI 100 z0, oI 100 z0, oI 100 z0, oI 100 z0, oI 300 z0, oI 100 z0, oI 1200 z0, oI 1200 z0, oI 1200 z0, oI 1200 z0, oZ 250 z0], bc + 9, b16, true)
  refine And.intro (Nat.le_of_ble_eq_true rfl) (And.intro (by decide) (And.intro (by rw [e250]; omega) (And.intro (by decide) ?_)))
  generalize hb17 : b16 - (Int32.ofInt 250).toNatClampNeg = b17
  replace hb17 : b16 ≤ b17 + 250 := by rw [← hb17, e250]; omega
  change mj_sg _ _ _ _ _ _ _ _ _ 76 [some (.ref 27), some (.int x)] [.ref 45, .ref 27] (cW s [oF 10 [.int 0, .int 0, .int 0, .ref 28, .int 0, .int (-1), .int 0, .ref 29, .ref 30, .ref 31, .ref 32, .ref 33, .ref 34, .ref 35, .ref 36, .ref 37, .ref 38, .ref 39, .int 0, .int 0, .ref 40, .ref 41, .int 0, .int 0, .ref 42, .ref 43, .ref 44, .null, .null, .null, .null, .null, .null, .int 0, .null, .null, .int 0, .int 0, .int 0, .int 0, .int 0, .int 0, .int 0, .int 0, .null], oC 96 z0, oI 100 z0, oI 100 z0, oI 100 z0, oI 100 z0, oI 100 z0, oI 100 z0, oI 100 z0, oI 100 z0, oI 100 z0, oI 300 z0, oI 100 z0, oI 1200 z0, oI 1200 z0, oI 1200 z0, oI 1200 z0, oZ 250 z0, oZ 250 z0], bc + 8, b17, true)
  refine And.intro (Nat.le_of_ble_eq_true rfl) (And.intro (by decide) (And.intro (by rw [e250]; omega) (And.intro (by decide) ?_)))
  generalize hb18 : b17 - (Int32.ofInt 250).toNatClampNeg = b18
  replace hb18 : b17 ≤ b18 + 250 := by rw [← hb18, e250]; omega
  change mj_sg _ _ _ _ _ _ _ _ _ 80 [some (.ref 27), some (.int x)] [.ref 46, .ref 27] (cW s [oF 10 [.int 0, .int 0, .int 0, .ref 28, .int 0, .int (-1), .int 0, .ref 29, .ref 30, .ref 31, .ref 32, .ref 33, .ref 34, .ref 35, .ref 36, .ref 37, .ref 38, .ref 39, .int 0, .int 0, .ref 40, .ref 41, .int 0, .int 0, .ref 42, .ref 43, .ref 44, .ref 45, .null, .null, .null, .null, .null, .int 0, .null, .null, .int 0, .int 0, .int 0, .int 0, .int 0, .int 0, .int 0, .int 0, .null], oC 96 z0, oI 100 z0, oI 100 z0, oI 100 z0, oI 100 z0, oI 100 z0, oI 100 z0, oI 100 z0, oI 100 z0, oI 100 z0, oI 300 z0, oI 100 z0, oI 1200 z0, oI 1200 z0, oI 1200 z0, oI 1200 z0, oZ 250 z0, oZ 250 z0, oI 250 z0], bc + 7, b18, true)
  refine And.intro (Nat.le_of_ble_eq_true rfl) (And.intro (by decide) (And.intro (by rw [e250]; omega) (And.intro (by decide) ?_)))
  generalize hb19 : b18 - (Int32.ofInt 250).toNatClampNeg = b19
  replace hb19 : b18 ≤ b19 + 250 := by rw [← hb19, e250]; omega
  change mj_sg _ _ _ _ _ _ _ _ _ 84 [some (.ref 27), some (.int x)] [.ref 47, .ref 27] (cW s [oF 10 [.int 0, .int 0, .int 0, .ref 28, .int 0, .int (-1), .int 0, .ref 29, .ref 30, .ref 31, .ref 32, .ref 33, .ref 34, .ref 35, .ref 36, .ref 37, .ref 38, .ref 39, .int 0, .int 0, .ref 40, .ref 41, .int 0, .int 0, .ref 42, .ref 43, .ref 44, .ref 45, .ref 46, .null, .null, .null, .null, .int 0, .null, .null, .int 0, .int 0, .int 0, .int 0, .int 0, .int 0, .int 0, .int 0, .null], oC 96 z0, oI 100 z0, oI 100 z0, oI 100 z0, oI 100 z0, oI 100 z0, oI 100 z0, oI 100 z0, oI 100 z0, oI 100 z0, oI 300 z0, oI 100 z0, oI 1200 z0, oI 1200 z0, oI 1200 z0, oI 1200 z0, oZ 250 z0, oZ 250 z0, oI 250 z0, oI 250 z0], bc + 6, b19, true)
  refine And.intro (Nat.le_of_ble_eq_true rfl) (And.intro (by decide) (And.intro (by rw [e250]; omega) (And.intro (by decide) ?_)))
  generalize hb20 : b19 - (Int32.ofInt 250).toNatClampNeg = b20
  replace hb20 : b19 ≤ b20 + 250 := by rw [← hb20, e250]; omega
  change mj_sg _ _ _ _ _ _ _ _ _ 88 [some (.ref 27), some (.int x)] [.ref 48, .ref 27] (cW s [oF 10 [.int 0, .int 0, .int 0, .ref 28, .int 0, .int (-1), .int 0, .ref 29, .ref 30, .ref 31, .ref 32, .ref 33, .ref 34, .ref 35, .ref 36, .ref 37, .ref 38, .ref 39, .int 0, .int 0, .ref 40, .ref 41, .int 0, .int 0, .ref 42, .ref 43, .ref 44, .ref 45, .ref 46, .ref 47, .null, .null, .null, .int 0, .null, .null, .int 0, .int 0, .int 0, .int 0, .int 0, .int 0, .int 0, .int 0, .null], oC 96 z0, oI 100 z0, oI 100 z0, oI 100 z0, oI 100 z0, oI 100 z0, oI 100 z0, oI 100 z0, oI 100 z0, oI 100 z0, oI 300 z0, oI 100 z0, oI 1200 z0, oI 1200 z0, oI 1200 z0, oI 1200 z0, oZ 250 z0, oZ 250 z0, oI 250 z0, oI 250 z0, oI 250 z0], bc + 5, b20, true)
  refine And.intro (Nat.le_of_ble_eq_true rfl) (And.intro (by decide) (And.intro (by rw [e250]; omega) (And.intro (by decide) ?_)))
  generalize hb21 : b20 - (Int32.ofInt 250).toNatClampNeg = b21
  replace hb21 : b20 ≤ b21 + 250 := by rw [← hb21, e250]; omega
  change mj_sg _ _ _ _ _ _ _ _ _ 92 [some (.ref 27), some (.int x)] [.ref 49, .ref 27] (cW s [oF 10 [.int 0, .int 0, .int 0, .ref 28, .int 0, .int (-1), .int 0, .ref 29, .ref 30, .ref 31, .ref 32, .ref 33, .ref 34, .ref 35, .ref 36, .ref 37, .ref 38, .ref 39, .int 0, .int 0, .ref 40, .ref 41, .int 0, .int 0, .ref 42, .ref 43, .ref 44, .ref 45, .ref 46, .ref 47, .ref 48, .null, .null, .int 0, .null, .null, .int 0, .int 0, .int 0, .int 0, .int 0, .int 0, .int 0, .int 0, .null], oC 96 z0, oI 100 z0, oI 100 z0, oI 100 z0, oI 100 z0, oI 100 z0, oI 100 z0, oI 100 z0, oI 100 z0, oI 100 z0, oI 300 z0, oI 100 z0, oI 1200 z0, oI 1200 z0, oI 1200 z0, oI 1200 z0, oZ 250 z0, oZ 250 z0, oI 250 z0, oI 250 z0, oI 250 z0, oI 250 z0], bc + 4, b21, true)
  refine And.intro (Nat.le_of_ble_eq_true rfl) (And.intro (by decide) (And.intro (by rw [e250]; omega) (And.intro (by decide) ?_)))
  generalize hb22 : b21 - (Int32.ofInt 250).toNatClampNeg = b22
  replace hb22 : b21 ≤ b22 + 250 := by rw [← hb22, e250]; omega
  change mj_sg _ _ _ _ _ _ _ _ _ 96 [some (.ref 27), some (.int x)] [.ref 50, .ref 27] (cW s [oF 10 [.int 0, .int 0, .int 0, .ref 28, .int 0, .int (-1), .int 0, .ref 29, .ref 30, .ref 31, .ref 32, .ref 33, .ref 34, .ref 35, .ref 36, .ref 37, .ref 38, .ref 39, .int 0, .int 0, .ref 40, .ref 41, .int 0, .int 0, .ref 42, .ref 43, .ref 44, .ref 45, .ref 46, .ref 47, .ref 48, .ref 49, .null, .int 0, .null, .null, .int 0, .int 0, .int 0, .int 0, .int 0, .int 0, .int 0, .int 0, .null], oC 96 z0, oI 100 z0, oI 100 z0, oI 100 z0, oI 100 z0, oI 100 z0, oI 100 z0, oI 100 z0, oI 100 z0, oI 100 z0, oI 300 z0, oI 100 z0, oI 1200 z0, oI 1200 z0, oI 1200 z0, oI 1200 z0, oZ 250 z0, oZ 250 z0, oI 250 z0, oI 250 z0, oI 250 z0, oI 250 z0, oZ 250 z0], bc + 3, b22, true)
  refine And.intro (Nat.le_of_ble_eq_true rfl) (And.intro (by decide) (And.intro (by rw [e260]; omega) (And.intro (by decide) ?_)))
  generalize hb23 : b22 - (Int32.ofInt 260).toNatClampNeg = b23
  replace hb23 : b22 ≤ b23 + 260 := by rw [← hb23, e260]; omega
  change mj_sg _ _ _ _ _ _ _ _ _ 100 [some (.ref 27), some (.int x)] [.ref 51, .ref 27] (cW s [oF 10 [.int 0, .int 0, .int 0, .ref 28, .int 0, .int (-1), .int 0, .ref 29, .ref 30, .ref 31, .ref 32, .ref 33, .ref 34, .ref 35, .ref 36, .ref 37, .ref 38, .ref 39, .int 0, .int 0, .ref 40, .ref 41, .int 0, .int 0, .ref 42, .ref 43, .ref 44, .ref 45, .ref 46, .ref 47, .ref 48, .ref 49, .ref 50, .int 0, .null, .null, .int 0, .int 0, .int 0, .int 0, .int 0, .int 0, .int 0, .int 0, .null], oC 96 z0, oI 100 z0, oI 100 z0, oI 100 z0, oI 100 z0, oI 100 z0, oI 100 z0, oI 100 z0, oI 100 z0, oI 100 z0, oI 300 z0, oI 100 z0, oI 1200 z0, oI 1200 z0, oI 1200 z0, oI 1200 z0, oZ 250 z0, oZ 250 z0, oI 250 z0, oI 250 z0, oI 250 z0, oI 250 z0, oZ 250 z0, oI 260 z0], bc + 2, b23, true)
  refine And.intro (Nat.le_of_ble_eq_true rfl) (And.intro (by decide) (And.intro (by rw [e5]; omega) (And.intro (by decide) ?_)))
  generalize hb24 : b23 - (Int32.ofInt 5).toNatClampNeg = b24
  replace hb24 : b23 ≤ b24 + 5 := by rw [← hb24, e5]; omega
  change mj_sg _ _ _ _ _ _ _ _ _ 104 [some (.ref 27), some (.int x)] [.ref 52, .ref 27] (cW s [oF 10 [.int 0, .int 0, .int 0, .ref 28, .int 0, .int (-1), .int 0, .ref 29, .ref 30, .ref 31, .ref 32, .ref 33, .ref 34, .ref 35, .ref 36, .ref 37, .ref 38, .ref 39, .int 0, .int 0, .ref 40, .ref 41, .int 0, .int 0, .ref 42, .ref 43, .ref 44, .ref 45, .ref 46, .ref 47, .ref 48, .ref 49, .ref 50, .int 0, .ref 51, .null, .int 0, .int 0, .int 0, .int 0, .int 0, .int 0, .int 0, .int 0, .null], oC 96 z0, oI 100 z0, oI 100 z0, oI 100 z0, oI 100 z0, oI 100 z0, oI 100 z0, oI 100 z0, oI 100 z0, oI 100 z0, oI 300 z0, oI 100 z0, oI 1200 z0, oI 1200 z0, oI 1200 z0, oI 1200 z0, oZ 250 z0, oZ 250 z0, oI 250 z0, oI 250 z0, oI 250 z0, oI 250 z0, oZ 250 z0, oI 260 z0, oI 5 z0], bc + 1, b24, true)
  refine And.intro (by unfold vp_in; decide) ?_
  refine And.intro (by unfold vp_in; decide) ?_
  refine And.intro (by unfold vp_in; decide) ?_
  refine And.intro (by unfold vp_in; decide) ?_
  refine And.intro (by unfold vp_in; decide) ?_
  refine And.intro (Nat.le_of_ble_eq_true rfl) (And.intro (by decide) (And.intro (by rw [e120]; omega) (And.intro (by decide) ?_)))
  generalize hb25 : b24 - (Int32.ofInt 120).toNatClampNeg = b25
  replace hb25 : b24 ≤ b25 + 120 := by rw [← hb25, e120]; omega
  change mj_sg _ _ _ _ _ _ _ _ _ 128 [some (.ref 27), some (.int x)] [.ref 53, .ref 27] (cW s [oF 10 [.int 0, .int 0, .int 0, .ref 28, .int 0, .int (-1), .int 0, .ref 29, .ref 30, .ref 31, .ref 32, .ref 33, .ref 34, .ref 35, .ref 36, .ref 37, .ref 38, .ref 39, .int 0, .int 0, .ref 40, .ref 41, .int 0, .int 0, .ref 42, .ref 43, .ref 44, .ref 45, .ref 46, .ref 47, .ref 48, .ref 49, .ref 50, .int 0, .ref 51, .ref 52, .int 0, .int 0, .int 0, .int 0, .int 0, .int 0, .int 0, .int 0, .null], oC 96 z0, oI 100 z0, oI 100 z0, oI 100 z0, oI 100 z0, oI 100 z0, oI 100 z0, oI 100 z0, oI 100 z0, oI 100 z0, oI 300 z0, oI 100 z0, oI 1200 z0, oI 1200 z0, oI 1200 z0, oI 1200 z0, oZ 250 z0, oZ 250 z0, oI 250 z0, oI 250 z0, oI 250 z0, oI 250 z0, oZ 250 z0, oI 260 z0, oI 5 (upd (upd (upd (upd (upd z0 0 (-1)) 1 (-1)) 2 (-1)) 3 (-1)) 4 (-1)), oC 120 z0], bc + 0, b25, true)
  have key : ∀ v : Int32, v = nI z → Q (.inl none, (cW s [oF 10 [.int v, .int 0, .int 0, .ref 28, .int 0, .int (-1), .int 0, .ref 29, .ref 30, .ref 31, .ref 32, .ref 33, .ref 34, .ref 35, .ref 36, .ref 37, .ref 38, .ref 39, .int 0, .int 0, .ref 40, .ref 41, .int 0, .int 0, .ref 42, .ref 43, .ref 44, .ref 45, .ref 46, .ref 47, .ref 48, .ref 49, .ref 50, .int 0, .ref 51, .ref 52, .int 0, .int 0, .int 0, .int 0, .int 0, .int 0, .int 0, .int 0, .ref 53], oC 96 z0, oI 100 z0, oI 100 z0, oI 100 z0, oI 100 z0, oI 100 z0, oI 100 z0, oI 100 z0, oI 100 z0, oI 100 z0, oI 300 z0, oI 100 z0, oI 1200 z0, oI 1200 z0, oI 1200 z0, oI 1200 z0, oZ 250 z0, oZ 250 z0, oI 250 z0, oI 250 z0, oI 250 z0, oI 250 z0, oZ 250 z0, oI 260 z0, oI 5 (upd (upd (upd (upd (upd z0 0 (-1)) 1 (-1)) 2 (-1)) 3 (-1)) 4 (-1)), oC 120 z0], bc, b25, true)) := by
    rintro v rfl
    exact hQ _ (by omega)
  refine And.intro (fun (g : 20 ≤ x) => ?_) (fun (g : ¬ 20 ≤ x) => ?_)
  · rw [if_neg (Int32.not_lt.mpr g)] at hv
    refine And.intro (fun (g2 : x ≤ 250) => ?_) (fun (g2 : ¬ x ≤ 250) => ?_)
    · rw [if_neg (Int32.not_lt.mpr g2)] at hv
      exact key _ hv.symm
    · rw [if_pos (Int32.not_le.mp g2)] at hv
      exact key _ hv.symm
  · rw [if_pos (Int32.not_le.mp g)] at hv
    exact key _ hv.symm
end P1f
end
section
section P1g
variable {cst : Nat → Option (Nat × (Nat → Int32))} {m b0 b1 : Nat} {op : Bool} {tl : List mj_O} {Q : mj_R → Prop} {s : cS} {r : rM}
set_option maxRecDepth 10000
theorem r_here0 (hp : r.p = 0) (ht : r.typed = 0) (hQ : Q (.inl (some (.int 0)), (cW s (rW r tl), b0, b1, op))) : mj_Mt gT cst gnw (m + 1) y_R_here [.ref 27, .int 0] (cW s (rW r tl), b0, b1, op) Q := by
  intro J hJ
  refine hJ _ _ _ _ ?_
  refine And.intro (fun _ => ?_) (fun (g : ¬ r.typed ≤ r.p + 0) => absurd (by rw [hp, ht]; decide) g)
  exact And.intro rfl hQ
theorem r_takes0 {c : Int32} (hp : r.p = 0) (ht : r.typed = 0) (hc : ¬ 0 = c) (hQ : Q (.inl (some (.int 0)), (cW s (rW r tl), b0, b1, op))) : mj_Mt gT cst gnw (m + 2) y_R_takes [.ref 27, .int c] (cW s (rW r tl), b0, b1, op) Q := by
  intro J hJ
  refine hJ _ _ _ _ ?_
  refine r_here0 hp ht ?_
  refine And.intro (fun _ => ?_) (fun (g : 0 = c) => absurd g hc)
  refine And.intro (fun _ => ?_) (fun g => absurd rfl g)
  exact And.intro (Or.inl rfl) hQ
theorem r_isDigit {h : mj_H} {c : Int32} (hQ : Q (.inl (some (.int (bI (isD c)))), h)) : mj_Mt gT cst gnw (m + 1) y_R_isDigit [.int c] h Q := by
  intro J hJ
  refine hJ _ _ _ _ ?_
  refine And.intro (fun (g : c < 48) => ?_) (fun (g : ¬ c < 48) => ?_)
  · have e : isD c = false := by simp [isD, Int32.not_le.mpr g]
    rw [e] at hQ
    exact And.intro (Or.inl rfl) hQ
  · refine And.intro (fun (g2 : 57 < c) => ?_) (fun (g2 : ¬ 57 < c) => ?_)
    · have e : isD c = false := by simp [isD, Int32.not_le.mpr g2]
      rw [e] at hQ
      exact And.intro (Or.inl rfl) hQ
    · have e : isD c = true := by simp [isD, Int32.not_lt.mp g, Int32.not_lt.mp g2]
      rw [e] at hQ
      exact And.intro (Or.inr rfl) hQ
theorem r_isLetter {h : mj_H} {c : Int32} (hQ : Q (.inl (some (.int (bI (isL c)))), h)) : mj_Mt gT cst gnw (m + 1) y_R_isLetter [.int c] h Q := by
  intro J hJ
  refine hJ _ _ _ _ ?_
  refine And.intro (fun (g : c < 97) => ?_) (fun (g : ¬ c < 97) => ?_)
  · have e : isL c = false := by simp [isL, Int32.not_le.mpr g]
    rw [e] at hQ
    exact And.intro (Or.inl rfl) hQ
  · refine And.intro (fun (g2 : 122 < c) => ?_) (fun (g2 : ¬ 122 < c) => ?_)
    · have e : isL c = false := by simp [isL, Int32.not_le.mpr g2]
      rw [e] at hQ
      exact And.intro (Or.inl rfl) hQ
    · have e : isL c = true := by simp [isL, Int32.not_lt.mp g, Int32.not_lt.mp g2]
      rw [e] at hQ
      exact And.intro (Or.inr rfl) hQ
theorem r_number0 (hp : r.p = 0) (ht : r.typed = 0) (hQ : Q (.inl (some (.int 0)), (cW s (rW r tl), b0, b1, op))) : mj_Mt gT cst gnw (m + 3) y_R_number [.ref 27] (cW s (rW r tl), b0, b1, op) Q := by
  intro J hJ
  refine hJ _ _ _ _ ?_
  refine r_takes0 hp ht (by decide) ?_
  refine hJ _ _ _ _ ?_
  refine And.intro (fun g => absurd g (by decide)) (fun _ => ?_)
  refine r_here0 hp ht ?_
  refine r_isDigit ?_
  refine And.intro (fun _ => ?_) (fun g => absurd rfl g)
  refine And.intro (fun _ => ?_) (fun g => absurd (by decide) g)
  exact And.intro (Or.inl rfl) hQ
theorem in0 {n : Nat} (h : 0 < n) : vp_in 0 n := by
  rintro (g | g)
  · exact absurd g (by decide)
  · exact absurd g (by rw [show (0 : Int32).toNatClampNeg = 0 by decide]; omega)
theorem r_part0 {a : Int32} (hp : r.parts = 0) (hQ : Q (.inl (some (.int 0)), (cW s (rW (((((((((((r.s_parts 1).s_kind (upd r.kind 0 a)).s_at_ (upd r.at_ 0 r.p)).s_until_ (upd r.until_ 0 r.p)).s_value (upd r.value 0 0)).s_parent (upd r.parent 0 (-1))).s_first (upd r.first 0 (-1))).s_last (upd r.last 0 (-1))).s_next (upd r.next 0 (-1))).s_many (upd r.many 0 0)).s_bound (upd r.bound 0 0)) tl), b0, b1, op))) : mj_Mt gT cst gnw (m + 1) y_R_part [.ref 27, .int a, .int (-1)] (cW s (rW r tl), b0, b1, op) Q := by
  have e : r = (r.s_parts r.parts) := rfl
  rw [hp] at e
  rw [e]
  intro J hJ
  refine hJ _ _ _ _ ?_
  refine And.intro (in0 (by decide)) ?_
  change mj_sg _ _ _ _ _ _ _ _ _ 14 [some (.ref 27), some (.int a), some (.int (-1)), some (.int 0)] [] (cW s (rW ((r.s_parts 1).s_kind (upd r.kind 0 a)) tl), b0, b1, op)
  refine And.intro (in0 (by decide)) ?_
  change mj_sg _ _ _ _ _ _ _ _ _ 20 [some (.ref 27), some (.int a), some (.int (-1)), some (.int 0)] [] (cW s (rW (((r.s_parts 1).s_kind (upd r.kind 0 a)).s_at_ (upd r.at_ 0 r.p)) tl), b0, b1, op)
  refine And.intro (in0 (by decide)) ?_
  change mj_sg _ _ _ _ _ _ _ _ _ 26 [some (.ref 27), some (.int a), some (.int (-1)), some (.int 0)] [] (cW s (rW ((((r.s_parts 1).s_kind (upd r.kind 0 a)).s_at_ (upd r.at_ 0 r.p)).s_until_ (upd r.until_ 0 r.p)) tl), b0, b1, op)
  refine And.intro (in0 (by decide)) ?_
  change mj_sg _ _ _ _ _ _ _ _ _ 31 [some (.ref 27), some (.int a), some (.int (-1)), some (.int 0)] [] (cW s (rW (((((r.s_parts 1).s_kind (upd r.kind 0 a)).s_at_ (upd r.at_ 0 r.p)).s_until_ (upd r.until_ 0 r.p)).s_value (upd r.value 0 0)) tl), b0, b1, op)
  refine And.intro (in0 (by decide)) ?_
  change mj_sg _ _ _ _ _ _ _ _ _ 36 [some (.ref 27), some (.int a), some (.int (-1)), some (.int 0)] [] (cW s (rW ((((((r.s_parts 1).s_kind (upd r.kind 0 a)).s_at_ (upd r.at_ 0 r.p)).s_until_ (upd r.until_ 0 r.p)).s_value (upd r.value 0 0)).s_parent (upd r.parent 0 (-1))) tl), b0, b1, op)
  refine And.intro (in0 (by decide)) ?_
  change mj_sg _ _ _ _ _ _ _ _ _ 41 [some (.ref 27), some (.int a), some (.int (-1)), some (.int 0)] [] (cW s (rW (((((((r.s_parts 1).s_kind (upd r.kind 0 a)).s_at_ (upd r.at_ 0 r.p)).s_until_ (upd r.until_ 0 r.p)).s_value (upd r.value 0 0)).s_parent (upd r.parent 0 (-1))).s_first (upd r.first 0 (-1))) tl), b0, b1, op)
  refine And.intro (in0 (by decide)) ?_
  change mj_sg _ _ _ _ _ _ _ _ _ 46 [some (.ref 27), some (.int a), some (.int (-1)), some (.int 0)] [] (cW s (rW ((((((((r.s_parts 1).s_kind (upd r.kind 0 a)).s_at_ (upd r.at_ 0 r.p)).s_until_ (upd r.until_ 0 r.p)).s_value (upd r.value 0 0)).s_parent (upd r.parent 0 (-1))).s_first (upd r.first 0 (-1))).s_last (upd r.last 0 (-1))) tl), b0, b1, op)
  refine And.intro (in0 (by decide)) ?_
  change mj_sg _ _ _ _ _ _ _ _ _ 51 [some (.ref 27), some (.int a), some (.int (-1)), some (.int 0)] [] (cW s (rW (((((((((r.s_parts 1).s_kind (upd r.kind 0 a)).s_at_ (upd r.at_ 0 r.p)).s_until_ (upd r.until_ 0 r.p)).s_value (upd r.value 0 0)).s_parent (upd r.parent 0 (-1))).s_first (upd r.first 0 (-1))).s_last (upd r.last 0 (-1))).s_next (upd r.next 0 (-1))) tl), b0, b1, op)
  refine And.intro (in0 (by decide)) ?_
  change mj_sg _ _ _ _ _ _ _ _ _ 56 [some (.ref 27), some (.int a), some (.int (-1)), some (.int 0)] [] (cW s (rW ((((((((((r.s_parts 1).s_kind (upd r.kind 0 a)).s_at_ (upd r.at_ 0 r.p)).s_until_ (upd r.until_ 0 r.p)).s_value (upd r.value 0 0)).s_parent (upd r.parent 0 (-1))).s_first (upd r.first 0 (-1))).s_last (upd r.last 0 (-1))).s_next (upd r.next 0 (-1))).s_many (upd r.many 0 0)) tl), b0, b1, op)
  refine And.intro (in0 (by decide)) ?_
  change mj_sg _ _ _ _ _ _ _ _ _ 61 [some (.ref 27), some (.int a), some (.int (-1)), some (.int 0)] [] (cW s (rW (((((((((((r.s_parts 1).s_kind (upd r.kind 0 a)).s_at_ (upd r.at_ 0 r.p)).s_until_ (upd r.until_ 0 r.p)).s_value (upd r.value 0 0)).s_parent (upd r.parent 0 (-1))).s_first (upd r.first 0 (-1))).s_last (upd r.last 0 (-1))).s_next (upd r.next 0 (-1))).s_many (upd r.many 0 0)).s_bound (upd r.bound 0 0)) tl), b0, b1, op)
  refine And.intro (fun _ => ?_) (fun g => absurd (by decide) g)
  exact hQ
theorem r_begin0 (hp : r.p = 0) (ht : r.typed = 0) (hn : r.parts = 0) (hQ : ∀ r' : rM, r'.p = 0 → Q (.inl (some (.int (-1))), (cW s (rW r' tl), b0, b1, op))) : mj_Mt gT cst gnw (m + 4) y_R_begin [.ref 27, .int (-1)] (cW s (rW r tl), b0, b1, op) Q := by
  intro J hJ
  refine hJ _ _ _ _ ?_
  refine r_part0 hn ?_
  refine r_here0 hp ht ?_
  refine r_isLetter ?_
  refine And.intro (fun _ => ?_) (fun g => absurd rfl g)
  refine And.intro (fun _ => ?_) (fun g => absurd g (by decide))
  refine And.intro (fun g => absurd g (by decide)) (fun _ => ?_)
  refine r_number0 hp ht ?_
  refine And.intro (fun _ => ?_) (fun g => absurd rfl g)
  refine And.intro (in0 (by decide)) ?_
  refine And.intro (fun _ => ?_) (fun g => absurd rfl g)
  exact hQ (((((((((((r.s_parts 1).s_kind (upd r.kind 0 0)).s_at_ (upd r.at_ 0 r.p)).s_until_ (upd r.until_ 0 r.p)).s_value (upd (upd r.value 0 0) 0 0)).s_parent (upd r.parent 0 (-1))).s_first (upd r.first 0 (-1))).s_last (upd r.last 0 (-1))).s_next (upd r.next 0 (-1))).s_many (upd r.many 0 0)).s_bound (upd r.bound 0 0)) hp
theorem r_read0 (ht : r.typed = 0) (hQ : ∀ r' : rM, r'.p = 0 → Q (.inl (some (.int 0)), (cW s (rW r' tl), b0, b1, op))) : mj_Mt gT cst gnw (m + 5) y_R_read [.ref 27] (cW s (rW r tl), b0, b1, op) Q := by
  intro J hJ
  refine hJ _ _ _ _ ?_
  refine hJ _ _ _ _ ?_
  refine And.intro (fun g => absurd g (by decide)) (fun _ => ?_)
  refine r_begin0 (r := (((r.s_p 0).s_parts 0).s_depth 0)) rfl ht rfl (fun r' hr => ?_)
  refine And.intro (fun g => absurd g (by decide)) (fun _ => ?_)
  exact And.intro (Or.inl rfl) (hQ r' hr)
theorem r_compile0 (ht : r.typed = 0) (hQ : ∀ r' : rM, r'.thrown = 1 → Q (.inl (some (.int 0)), (cW s (rW r' tl), b0, b1, op))) : mj_Mt gT cst gnw (m + 6) y_R_compile [.ref 27] (cW s (rW r tl), b0, b1, op) Q := by
  intro J hJ
  refine hJ _ _ _ _ ?_
  refine r_read0 ht (fun r' hr => ?_)
  refine And.intro (fun _ => ?_) (fun g => absurd rfl g)
  refine And.intro (fun (g : r'.p < 0) => absurd g (by rw [hr]; decide)) (fun _ => ?_)
  refine And.intro (fun _ => ?_) (fun (g : (1 : Int32) = 0) => absurd g (by decide))
  refine And.intro (fun (g : (1 : Int32) ≤ 0) => absurd g (by decide)) (fun _ => ?_)
  exact hQ (((r'.s_error r'.p).s_thrown 1).s_typed 0) rfl
theorem r_position (hQ : Q (.inl (some (.int r.error)), (cW s (rW (r.s_thrown 0) tl), b0, b1, op))) : mj_Mt gT cst gnw (m + 1) y_R_position [.ref 27] (cW s (rW r tl), b0, b1, op) Q := by
  intro J hJ
  refine hJ _ _ _ _ ?_
  exact hQ
theorem r_start0 (hs : r.program = 0) (hQ : Q (.inl (some (.int 0)), (cW s (rW (r.s_thrown 0) tl), b0, b1, op))) : mj_Mt gT cst gnw (m + 1) y_R_start [.ref 27] (cW s (rW r tl), b0, b1, op) Q := by
  intro J hJ
  refine hJ _ _ _ _ ?_
  refine And.intro (fun (g : ¬ r.program = 0) => absurd hs g) (fun _ => ?_)
  exact And.intro (Or.inl rfl) hQ
theorem r_state (hQ : Q (.inl (some (.int r.state)), (cW s (rW (r.s_thrown 0) tl), b0, b1, op))) : mj_Mt gT cst gnw (m + 1) y_R_state [.ref 27] (cW s (rW r tl), b0, b1, op) Q := by
  intro J hJ
  refine hJ _ _ _ _ ?_
  exact hQ
theorem r_next0 (hs : r.state = 0) (hQ : Q (.inl (some (.int (-1))), (cW s (rW (r.s_thrown 0) tl), b0, b1, op))) : mj_Mt gT cst gnw (m + 1) y_R_next [.ref 27] (cW s (rW r tl), b0, b1, op) Q := by
  intro J hJ
  refine hJ _ _ _ _ ?_
  exact And.intro (fun _ => hQ) (fun (g : r.state = 1) => absurd (hs.symm.trans g) (by decide))
theorem r_shown0 {k : Int32} (hs : r.state = 0) (hQ : Q (.inl (some (.int (-1))), (cW s (rW (r.s_thrown 0) tl), b0, b1, op))) : mj_Mt gT cst gnw (m + 1) y_R_shown [.ref 27, .int k] (cW s (rW r tl), b0, b1, op) Q := by
  intro J hJ
  refine hJ _ _ _ _ ?_
  exact And.intro (fun _ => hQ) (fun (g : r.state = 2) => absurd (hs.symm.trans g) (by decide))
theorem r_run0 {n : Int32} (hs : r.state = 0) (h1 : n < 0 ∨ 200 < n → Q (.inl (some (.int 0)), (cW s (rW (r.s_thrown 1) tl), b0, b1, op))) (h2 : ¬ (n < 0 ∨ 200 < n) → Q (.inl (some (.int 0)), (cW s (rW (r.s_thrown 0) tl), b0, b1, op))) : mj_Mt gT cst gnw (m + 1) y_R_run [.ref 27, .int n] (cW s (rW r tl), b0, b1, op) Q := by
  intro J hJ
  have bad : n < 0 ∨ 200 < n → J 12 [some (.ref 27), some (.int n), some (.int 0)] [] (cW s (rW (r.s_thrown 1) tl), b0, b1, op) := by
    intro g
    refine hJ _ _ _ _ ?_
    exact And.intro (fun _ => h1 g) (fun (g : (1 : Int32) = 0) => absurd g (by decide))
  refine hJ _ _ _ _ ?_
  refine And.intro (fun (g : n < 0) => bad (Or.inl g)) (fun (g : ¬ n < 0) => ?_)
  refine And.intro (fun (g2 : n ≤ 200) => ?_) (fun (g2 : ¬ n ≤ 200) => bad (Or.inr (Int32.not_le.mp g2)))
  have h3 := h2 (fun q => q.elim g (fun q => Int32.not_lt.mpr g2 q))
  refine hJ _ _ _ _ ?_
  refine And.intro (fun (g : ¬ (0 : Int32) = 0) => absurd rfl g) (fun _ => ?_)
  refine And.intro (fun _ => h3) (fun _ => ?_)
  exact And.intro (fun _ => h3) (fun (g : r.state = 1) => absurd (hs.symm.trans g) (by decide))
theorem r_free0 (hz : r.z ≤ 250) (hu : r.used = z0) (hQ : Q (.inl (some (.int (nI r.z))), (cW s (rW r tl), b0, b1, op))) : mj_Mt gT cst gnw (m + 1) y_R_free [.ref 27] (cW s (rW r tl), b0, b1, op) Q := by
  intro J hJ
  have loop : ∀ (n k : Nat), n = r.z - k → k ≤ r.z → J 4 [some (.ref 27), some (.int (nI k)), some (.int (nI k))] [] (cW s (rW r tl), b0, b1, op) := by
    intro n
    induction n with
    | zero =>
      intro k hn hk
      have e : k = r.z := by omega
      subst e
      refine hJ _ _ _ _ ?_
      refine And.intro (fun _ => hQ) (fun (g : ¬ nI r.z ≤ nI r.z) => absurd (nI_le (by omega) (by omega)) g)
    | succ n ih =>
      intro k hn hk
      refine hJ _ _ _ _ ?_
      refine And.intro (fun (g : nI r.z ≤ nI k) => absurd g (nI_ge (by omega) (by omega))) (fun _ => ?_)
      refine And.intro (vp_in_nI (show k < 250 by omega) (by decide)) ?_
      refine And.intro (fun _ => ?_) (fun g => absurd (by rw [hu]) g)
      have key : ∀ x : Int32, x = nI (k + 1) → J 4 [some (.ref 27), some (.int x), some (.int x)] [] (cW s (rW r tl), b0, b1, op) := by
        rintro x rfl
        exact ih (k + 1) (by omega) (by omega)
      exact key _ (nI_succ k).symm
  refine hJ _ _ _ _ ?_
  exact loop r.z 0 (by omega) (by omega)
theorem r_mark0 {k : Int32} (hQ : Q (.inl none, (cW s (rW r tl), b0, b1, op))) : mj_Mt gT cst gnw (m + 1) y_R_mark [.ref 27, .int 0, .int k] (cW s (rW r tl), b0, b1, op) Q := by
  intro J hJ
  refine hJ _ _ _ _ ?_
  exact And.intro (fun _ => hQ) (fun g => absurd g (by decide))
theorem r_reach0 (hz : r.z ≤ 250) (hr : ∀ k, k < 5 → r.reg k = -1) (hQ : ∀ r' : rM, Q (.inl (some (.int 0)), (cW s (rW r' tl), b0, b1, op))) : mj_Mt gT cst gnw (m + 2) y_R_reach [.ref 27] (cW s (rW r tl), b0, b1, op) Q := by
  intro J hJ
  have loop2 : ∀ (f : Nat → Int32) (n k : Nat), n = 5 - k → k ≤ 5 → J 18 [some (.ref 27), some (.int (nI k)), none] [] (cW s (rW ((r.s_marked f).s_piled 0) tl), b0, b1, op) := by
    intro f n
    induction n with
    | zero =>
      intro k hn hk
      have e : k = 5 := by omega
      subst e
      refine hJ _ _ _ _ ?_
      refine And.intro (fun _ => ?_) (fun (g : ¬ nI 5 ≤ nI 5) => absurd (by decide) g)
      refine hJ _ _ _ _ ?_
      exact And.intro (fun _ => hQ _) (fun (g : ¬ (0 : Int32) ≤ 0) => absurd (by decide) g)
    | succ n ih =>
      intro k hn hk
      refine hJ _ _ _ _ ?_
      refine And.intro (fun (g : nI 5 ≤ nI k) => absurd g (nI_ge (by omega) (by omega))) (fun _ => ?_)
      refine And.intro (vp_in_nI (show k < 5 by omega) (by decide)) ?_
      have ek : (nI k).toNatClampNeg = k := nI_clamp (by omega)
      refine And.intro (fun (g : 0 ≤ r.reg (nI k).toNatClampNeg) => absurd g (by rw [ek, hr k (by omega)]; decide)) (fun _ => ?_)
      refine And.intro (vp_in_nI (show k < 5 by omega) (by decide)) ?_
      refine r_mark0 (r := ((r.s_marked f).s_piled 0)) ?_
      have key : ∀ x : Int32, x = nI (k + 1) → J 18 [some (.ref 27), some (.int x), none] [] (cW s (rW ((r.s_marked f).s_piled 0) tl), b0, b1, op) := by
        rintro x rfl
        exact ih (k + 1) (by omega) (by omega)
      exact key _ (nI_succ k).symm
  have loop : ∀ (n k : Nat) (f : Nat → Int32), n = r.z - k → k ≤ r.z → J 2 [some (.ref 27), some (.int (nI k)), none] [] (cW s (rW (r.s_marked f) tl), b0, b1, op) := by
    intro n
    induction n with
    | zero =>
      intro k f hn hk
      refine hJ _ _ _ _ ?_
      refine And.intro (fun _ => ?_) (fun (g : ¬ nI r.z ≤ nI k) => absurd (nI_le (by omega) (by omega)) g)
      exact loop2 f 5 0 rfl (by omega)
    | succ n ih =>
      intro k f hn hk
      refine hJ _ _ _ _ ?_
      refine And.intro (fun (g : nI r.z ≤ nI k) => absurd g (nI_ge (by omega) (by omega))) (fun _ => ?_)
      refine And.intro (vp_in_nI (show k < 250 by omega) (by decide)) ?_
      have key : ∀ (f : Nat → Int32) (x : Int32), x = nI (k + 1) → J 2 [some (.ref 27), some (.int x), none] [] (cW s (rW (r.s_marked f) tl), b0, b1, op) := by
        rintro f x rfl
        exact ih (k + 1) f (by omega) (by omega)
      exact key (upd f (nI k).toNatClampNeg (vp_nar .boolean (Int32.ofInt 0))) _ (nI_succ k).symm
  refine hJ _ _ _ _ ?_
  exact loop r.z 0 r.marked (by omega) (by omega)
theorem r_lengthOf0 {x : Int32} (hx : x = -1) (hQ : Q (.inl (some (.int 0)), (cW s (rW r tl), b0, b1, op))) : mj_Mt gT cst gnw (m + 1) y_R_lengthOf [.ref 27, .int x] (cW s (rW r tl), b0, b1, op) Q := by
  subst hx
  intro J hJ
  refine hJ _ _ _ _ ?_
  refine hJ _ _ _ _ ?_
  exact And.intro (fun _ => hQ) (fun g => absurd (by decide) g)
theorem r_count0 {w : Int32} (hz : r.z ≤ 250) (hu : r.used = z0) (hr : ∀ k, k < 5 → r.reg k = -1) (h5 : r.collections = 0) (h6 : r.takenBack = 0) (h7 : r.steps = 0)
    (hQ : ∀ r' : rM, Q (.inl (some (.int (cnt0 w))), (cW s (rW r' tl), b0, b1, op))) : mj_Mt gT cst gnw (m + 3) y_R_count [.ref 27, .int w] (cW s (rW r tl), b0, b1, op) Q := by
  intro J hJ
  refine hJ _ _ _ _ ?_
  have key : ∀ x : Int32, x = cnt0 w → Q (.inl (some (.int x)), (cW s (rW (r.s_thrown 0) tl), b0, b1, op)) := by
    rintro x rfl
    exact hQ _
  refine And.intro (fun g => ?_) (fun g0 => And.intro (fun g => ?_) (fun g1 => And.intro (fun g => ?_) (fun g2 => And.intro (fun g => ?_) (fun g3 => And.intro (fun g => ?_) (fun g4 => And.intro (fun g => ?_) (fun g5 => And.intro (fun g => ?_) (fun g6 => ?_)))))))
  · subst g
    refine r_free0 (r := (r.s_thrown 0)) hz hu ?_
    exact key _ (Int32.sub_self _)
  · subst g
    exact r_reach0 (r := (r.s_thrown 0)) hz hr (fun r' => hQ r')
  · subst g
    exact key _ h5
  · subst g
    exact key _ h6
  · subst g
    exact key _ h7
  · subst g
    refine And.intro (in0 (by decide)) ?_
    exact r_lengthOf0 (r := (r.s_thrown 0)) (hr 0 (by decide)) (hQ _)
  · subst g
    refine And.intro (vp_in_nI (show 3 < 5 by decide) (by decide)) ?_
    exact r_lengthOf0 (r := (r.s_thrown 0)) (hr 3 (by decide)) (hQ _)
  · refine key _ ?_
    unfold cnt0
    rw [if_neg]
    · rfl
    · rintro (g | g | g | g | g | g | g)
      · exact g0 g
      · exact g1 g
      · exact g2 g
      · exact g3 g
      · exact g4 g
      · exact g5 g
      · exact g6 g
end P1g
end
section
abbrev bO (j : Nat) (ml : Int32) (n : Nat) : mj_O := .inr (.inl (9, [.ref j, .int 0, .int ml, .int (nI n)]))
abbrev bB (N : Nat) (g : Nat → Int32) : mj_O := .inl (4, N, .inl g)
section J1
variable {cst : Nat → Option (Nat × (Nat → Int32))} {m bc bs : Nat} {op : Bool} {Q : mj_R → Prop} {ml : Int32} {n N : Nat} {g : Nat → Int32} {os : List mj_O}
set_option maxRecDepth 10000
theorem j_isLatin1 {j : Nat} (hQ : Q (.inl (some (.int 1)), (bO j ml n :: os, bc, bs, op))) : mj_Mt gT cst gnw (m + 1) y_AbstractStringBuilder_isLatin1 [.ref 0] (bO j ml n :: os, bc, bs, op) Q := by
  intro J hJ
  refine hJ _ _ _ _ ?_
  refine And.intro (fun h => absurd h (by decide)) (fun _ => ?_)
  refine And.intro (fun h => absurd rfl h) (fun _ => ?_)
  exact And.intro (Or.inr rfl) hQ
theorem j_canEncodeC {c : Nat} (hc : c < 256) (hQ : Q (.inl (some (.int 1)), (os, bc, bs, op))) : mj_Mt gT cst gnw (m + 1) y_StringLatin1_canEncode_C [.int (nI c)] (os, bc, bs, op) Q := by
  intro J hJ
  refine hJ _ _ _ _ ?_
  refine And.intro (fun h => absurd h (show ¬ nI 255 < nI c from nI_nlt (by omega) (by decide))) (fun _ => ?_)
  exact And.intro (Or.inr rfl) hQ
theorem j_newLength {x y z : Int32} {q : Nat} (h : N < q) (hq : q ≤ 1000) (hx : x = nI N) (hy : y = nI (q - N)) (hz : z = nI (N + 2)) (hQ : Q (.inl (some (.int (nI (sb_cap q N)))), (os, bc, bs, op))) : mj_Mt gT cst gnw (m + 1) y_ArraysSupport_newLength [.int x, .int y, .int z] (os, bc, bs, op) Q := by
  have hc : sb_cap q N = N + (if q - N < N + 2 then N + 2 else q - N) := by
    unfold sb_cap
    rw [if_neg (by omega)]
    split <;> split <;> omega
  have hg := sb_cap_ge q N
  have hl : sb_cap q N ≤ 2002 := by
    unfold sb_cap
    split
    · omega
    · split <;> omega
  have e : x + (if y < z then z else y) = nI (sb_cap q N) := by
    rw [hc, hx, hy, hz]
    by_cases h2 : q - N < N + 2
    · rw [if_pos h2, if_pos (nI_lt h2 (by omega))]
      exact nI_add N (N + 2)
    · rw [if_neg h2, if_neg (nI_nlt (by omega) (by omega))]
      exact nI_add N (q - N)
  rw [← e] at hQ
  intro J hJ
  refine hJ _ _ _ _ ?_
  refine And.intro (fun h9 => absurd (show nI (sb_cap q N) ≤ 0 by rw [← e]; exact h9) (nI_nle (by omega) (by omega))) (fun _ => ?_)
  refine And.intro (fun h9 => absurd (show nI 2147483639 < nI (sb_cap q N) by rw [← e]; exact h9) (nI_nlt (by omega) (by decide))) (fun _ => ?_)
  exact hQ
theorem j_newCapacity {q : Nat} (h : N < q) (hq : q ≤ 1000) (hQ : Q (.inl (some (.int (nI (sb_cap q N)))), (bO 1 ml n :: bB N g :: os, bc, bs, op))) : mj_Mt gT cst gnw (m + 2) y_AbstractStringBuilder_newCapacity [.ref 0, .int (nI q)] (bO 1 ml n :: bB N g :: os, bc, bs, op) Q := by
  have hl : sb_cap q N ≤ 2002 := by
    unfold sb_cap
    split
    · omega
    · split <;> omega
  intro J hJ
  refine hJ _ _ _ _ ?_
  refine j_newLength (N := N) (q := q) h hq rfl (by rw [sb_shl0]; exact pk_sub (by omega)) (by rw [sb_shl0]; exact nI_add N 2) ?_
  refine And.intro (fun _ => ?_) (fun h9 => absurd ((nI_eq (a := sb_cap q N) (b := 2147483647) (by omega) (by decide)).mp h9) (by omega))
  rw [← sb_shr0 (nI (sb_cap q N))] at hQ
  exact hQ
theorem j_copyOf {o0 : mj_O} {x : Int32} {q : Nat} (hx : x = nI q) (h : N < q) (hq : q ≤ 2000) (hf : sb_Fit g) (hb : q ≤ bs) (hQ : Q (.inl (some (.ref 2)), ([o0, bB N g, bB q (va_cpy g (fun _ => 0) 0 0 N)], bc, bs - q, true))) : mj_Mt gT cst gnw (m + 1) y_Arrays_copyOf [.ref 1, .int x] ([o0, bB N g], bc + 1, bs, true) Q := by
  subst hx
  have ec : (nI q).toNatClampNeg = q := nI_clamp (by omega)
  have em : (if nI q < Int32.ofNat N then nI q else Int32.ofNat N) = nI N := if_neg (nI_nlt (by omega) (by omega))
  have e0 : (Int32.ofInt 0).toNatClampNeg = 0 := by decide
  have en : (nI N).toNatClampNeg = N := nI_clamp (by omega)
  intro J hJ
  refine hJ _ _ _ _ ?_
  refine And.intro (fun _ => ?_) (fun h9 => absurd ((nI_eq (a := q) (b := N) (by omega) (by omega)).mp h9) (by omega))
  refine And.intro (Nat.le_of_ble_eq_true rfl) (And.intro (nI_pos (by omega)) (And.intro (by rw [ec]; omega) (And.intro (by rw [ec]; omega) ?_)))
  refine And.intro (by decide) (And.intro (by decide) (And.intro (by rw [em]; exact nI_pos (by omega)) (And.intro (by rw [em, e0, en]; omega) (And.intro (by rw [em, e0, en, ec]; omega) (And.intro hf ?_)))))
  have key : ∀ (a c1 c2 c3 b : Nat), a = q → c1 = 0 → c2 = 0 → c3 = N → b = q → Q (.inl (some (.ref 2)), ([o0, bB N g, bB a (va_cpy g (fun _ => 0) c1 c2 c3)], bc, bs - b, true)) := by
    rintro a c1 c2 c3 b rfl rfl rfl rfl rfl
    exact hQ
  exact key _ _ _ _ _ ec e0 e0 (by rw [em]; exact en) ec
theorem j_ensure {x : Int32} {q : Nat} (hx : x = nI q) (hq : q ≤ 900) (hN : N ≤ 65536) (hf : sb_Fit g) (hb : 2 * q ≤ bs)
    (h1 : q ≤ N → Q (.inl none, ([bO 1 ml n, bB N g], bc + 1, bs, true)))
    (h2 : N < q → sb_cap q N ≤ 2 * q → Q (.inl none, ([bO 2 ml n, bB N g, bB (sb_cap q N) (va_cpy g (fun _ => 0) 0 0 N)], bc, bs - sb_cap q N, true))) :
    mj_Mt gT cst gnw (m + 3) y_AbstractStringBuilder_ensureCapacityInternal [.ref 0, .int x] ([bO 1 ml n, bB N g], bc + 1, bs, true) Q := by
  subst hx
  have e1 : (nI q - nI N).toInt = (q : Int) - N := pk_sub_toInt (by omega) (by omega)
  have es : nI q - (Int32.ofNat N >>> ((0 : Int32) &&& 31)) = nI q - nI N := by rw [sb_shr0]; rfl
  intro J hJ
  refine hJ _ _ _ _ ?_
  refine And.intro (fun h9 => ?_) (fun h9 => ?_)
  · have h9 : nI q - nI N ≤ 0 := by rw [← es]; exact h9
    refine h1 ?_
    rw [Int32.le_iff_toInt_le, e1, Int32.toInt_zero] at h9
    omega
  · have h9 : ¬ nI q - nI N ≤ 0 := by rw [← es]; exact h9
    rw [Int32.le_iff_toInt_le, e1, Int32.toInt_zero] at h9
    have hl : N < q := by omega
    have hg := sb_cap_ge q N
    have hc : sb_cap q N ≤ 2 * q := by
      unfold sb_cap
      rw [if_neg (by omega)]
      split <;> omega
    refine j_newCapacity hl (by omega) ?_
    refine j_copyOf (q := sb_cap q N) (sb_shl0 _) (by omega) (by omega) hf (by omega) ?_
    exact h2 hl hc
theorem j_asb_length {j : Nat} (hQ : Q (.inl (some (.int (nI n))), (bO j ml n :: os, bc, bs, op))) : mj_Mt gT cst gnw (m + 1) y_AbstractStringBuilder_length [.ref 0] (bO j ml n :: os, bc, bs, op) Q := by
  intro J hJ
  refine hJ _ _ _ _ ?_
  exact hQ
theorem j_length {j : Nat} (hQ : Q (.inl (some (.int (nI n))), (bO j ml n :: os, bc, bs, op))) : mj_Mt gT cst gnw (m + 2) y_StringBuilder_length [.ref 0] (bO j ml n :: os, bc, bs, op) Q := by
  intro J hJ
  refine hJ _ _ _ _ ?_
  refine j_asb_length ?_
  exact hQ
theorem j_pcheck {i k : Nat} {v : Value} (hi : i < k) (hk : k < 2 ^ 31) (hQ : Q (.inl (some (.int (nI i))), (os, bc, bs, op))) : mj_Mt gT cst gnw (m + 1) y_Preconditions_checkIndex [.int (nI i), .int (nI k), .retAddr 0] (os, bc, bs, op) Q := by
  intro J hJ
  refine hJ _ _ _ _ ?_
  refine And.intro (fun h => absurd h (nI_pos (by omega))) (fun _ => ?_)
  refine And.intro (fun _ => ?_) (fun h => absurd (nI_lt hi hk) h)
  exact hQ
theorem j_check {i k : Nat} (hi : i < k) (hk : k < 2 ^ 31) (hQ : Q (.inl none, (os, bc, bs, op))) : mj_Mt gT cst gnw (m + 2) y_String_checkIndex [.int (nI i), .int (nI k)] (os, bc, bs, op) Q := by
  intro J hJ
  refine hJ _ _ _ _ ?_
  refine j_pcheck (v := .null) hi hk ?_
  exact hQ
theorem j_asb_charAt {f : Nat → Nat} {i : Nat} (hn : n ≤ N) (hN : N ≤ 65536) (hL : sb_Lat f n g) (hi : i < n) (hQ : Q (.inl (some (.int (nI (f i)))), (bO 1 ml n :: bB N g :: os, bc, bs, op))) : mj_Mt gT cst gnw (m + 3) y_AbstractStringBuilder_charAt [.ref 0, .int (nI i)] (bO 1 ml n :: bB N g :: os, bc, bs, op) Q := by
  obtain ⟨h1, h2⟩ := hL i hi
  obtain ⟨b1, b2, -⟩ := sb_byte _ h1
  have hc := (pk_charN (q := f i) (by omega)).1
  have em : (if (Int32.ofNat N >>> ((0 : Int32) &&& 31)) < nI n then (Int32.ofNat N >>> ((0 : Int32) &&& 31)) else nI n) = nI n := by
    rw [sb_shr0]
    exact if_neg (nI_nlt (a := N) (b := n) hn (by omega))
  intro J hJ
  refine hJ _ _ _ _ ?_
  have key : ∀ x : Int32, x = nI n → mj_Mt gT cst gnw (m + 2) y_String_checkIndex [.int (nI i), .int x] (bO 1 ml n :: bB N g :: os, bc, bs, op) (mj_after (mj_hd (mj_off kO_AbstractStringBuilder_charAt) kH_AbstractStringBuilder_charAt) Q (mj_sg (mj_Mt gT cst gnw (m + 2)) cst gnw (mj_hd (mj_off kO_AbstractStringBuilder_charAt) kH_AbstractStringBuilder_charAt) kC_AbstractStringBuilder_charAt J Q 383 false) 16 [some (.ref 0), some (.int (nI i)), some (.int 0), some (.ref 1), some (.int x)] []) := by
    rintro x rfl
    refine j_check hi (by omega) ?_
    refine And.intro (fun h => absurd rfl h) (fun _ => ?_)
    refine And.intro (vp_in_nI (by omega) (by omega)) ?_
    have ev : ((g (nI i).toNatClampNeg &&& Int32.ofInt 255).toUInt32 % 65536).toInt32 = nI (f i) := by
      rw [nI_clamp (by omega), h2, show Int32.ofInt 255 = 255 by decide, b1, b2]
    rw [← ev] at hc hQ
    exact And.intro hc hQ
  exact key _ em
theorem j_charAt {f : Nat → Nat} {i : Nat} (hn : n ≤ N) (hN : N ≤ 65536) (hL : sb_Lat f n g) (hi : i < n) (hQ : Q (.inl (some (.int (nI (f i)))), (bO 1 ml n :: bB N g :: os, bc, bs, op))) : mj_Mt gT cst gnw (m + 4) y_StringBuilder_charAt [.ref 0, .int (nI i)] (bO 1 ml n :: bB N g :: os, bc, bs, op) Q := by
  obtain ⟨h1, -⟩ := hL i hi
  intro J hJ
  refine hJ _ _ _ _ ?_
  refine j_asb_charAt hn hN hL hi ?_
  exact And.intro (pk_charN (q := f i) (by omega)).1 hQ
theorem j_asb_setLength (hn : n ≤ N) (hN : N ≤ 65536) (hf : sb_Fit g) (hQ : ∀ ml', Q (.inl none, ([bO 1 ml' 0, bB N g], bc + 1, bs, true))) : mj_Mt gT cst gnw (m + 4) y_AbstractStringBuilder_setLength [.ref 0, .int 0] ([bO 1 ml n, bB N g], bc + 1, bs, true) Q := by
  intro J hJ
  refine hJ _ _ _ _ ?_
  refine And.intro (fun _ => ?_) (fun h => absurd (by decide) h)
  refine j_ensure (q := 0) rfl (by omega) hN hf (by omega) (fun _ => ?_) (fun h => absurd h (by omega))
  refine And.intro (fun _ => ?_) (fun h9 => absurd (nI_pos' (by omega)) h9)
  refine And.intro (fun _ => ?_) (fun _ => ?_)
  · exact hQ ml
  · refine And.intro (Or.inr rfl) ?_
    exact hQ 1
theorem j_setLength (hn : n ≤ N) (hN : N ≤ 65536) (hf : sb_Fit g) (hQ : ∀ ml', Q (.inl none, ([bO 1 ml' 0, bB N g], bc + 1, bs, true))) : mj_Mt gT cst gnw (m + 5) y_StringBuilder_setLength [.ref 0, .int 0] ([bO 1 ml n, bB N g], bc + 1, bs, true) Q := by
  intro J hJ
  refine hJ _ _ _ _ ?_
  refine j_asb_setLength hn hN hf (fun ml' => ?_)
  exact hQ ml'
end J1
end
