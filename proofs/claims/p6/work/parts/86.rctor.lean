section P1f
variable {cst : Nat → Option (Nat × (Nat → Int32))} {m bc bs : Nat} {Q : mj_R → Prop}
set_option maxRecDepth 10000
def r0 (z : Nat) : rM := ((((((z, 0), 0), ((z0, 0), -1)), (((0, z0), z0), ((z0, z0), z0))), ((((z0, z0), z0), ((z0, z0), z0)), (((0, 0), z0), (z0, 0)))), (((((0, z0), z0), ((z0, z0), z0)), (((z0, z0), z0), (z0, 0))), ((((z0, upd (upd (upd (upd (upd z0 0 (-1)) 1 (-1)) 2 (-1)) 3 (-1)) 4 (-1)), 0), ((0, 0), 0)), (((0, 0), 0), (0, z0)))))
theorem e100 : (Int32.ofInt 100).toNatClampNeg = 100 := by decide
theorem e300 : (Int32.ofInt 300).toNatClampNeg = 300 := by decide
theorem e1200 : (Int32.ofInt 1200).toNatClampNeg = 1200 := by decide
theorem e250 : (Int32.ofInt 250).toNatClampNeg = 250 := by decide
theorem e260 : (Int32.ofInt 260).toNatClampNeg = 260 := by decide
theorem e5 : (Int32.ofInt 5).toNatClampNeg = 5 := by decide
set_option maxHeartbeats 2000000 in
theorem r_init {s : cS} {x : Int32} (hb : 12000 ≤ bs) (hQ : ∀ b, bs ≤ b + 12000 → Q (.inl none, (cW s (rW (r0 (clZ x)) []), bc, b, true))) :
    mj_Mt gT cst gnw (m + 1) y_R_init [.ref 27, .int x] (cW s [oF 10 fN10], bc + 26, bs, true) Q := by
  have hv := clZ_nI x
  revert hv hQ
  generalize clZ x = z
  intro hQ hv
  intro J hJ
  refine hJ _ _ _ _ ?_
  refine And.intro (Nat.le_of_ble_eq_true rfl) (And.intro (by decide) (And.intro (by rw [e96]; omega) (And.intro (by decide) ?_)))
  generalize hb0 : bs - (Int32.ofInt 96).toNatClampNeg = b0
  replace hb0 : bs ≤ b0 + 96 := by rw [← hb0, e96]; omega
  change mj_sg _ _ _ _ _ _ _ _ _ 5 [some (.ref 27), some (.int x)] [.ref 28, .ref 27] (cW s [oF 10 [.int 0, .int 0, .int 0, .null, .int 0, .int 0, .int 0, .null, .null, .null, .null, .null, .null, .null, .null, .null, .null, .null, .int 0, .int 0, .null, .null, .int 0, .int 0, .null, .null, .null, .null, .null, .null, .null, .null, .null, .int 0, .null, .null, .int 0, .int 0, .int 0, .int 0, .int 0, .int 0, .int 0, .int 0, .null], oC 96 z0], bc + 25, b0, true)
  refine And.intro (Nat.le_of_ble_eq_true rfl) (And.intro (by decide) (And.intro (by rw [e100]; omega) (And.intro (by decide) ?_)))
  generalize hb1 : b0 - (Int32.ofInt 100).toNatClampNeg = b1
  replace hb1 : b0 ≤ b1 + 100 := by rw [← hb1, e100]; omega
  change mj_sg _ _ _ _ _ _ _ _ _ 12 [some (.ref 27), some (.int x)] [.ref 29, .ref 27] (cW s [oF 10 [.int 0, .int 0, .int 0, .ref 28, .int 0, .int (-1), .int 0, .null, .null, .null, .null, .null, .null, .null, .null, .null, .null, .null, .int 0, .int 0, .null, .null, .int 0, .int 0, .null, .null, .null, .null, .null, .null, .null, .null, .null, .int 0, .null, .null, .int 0, .int 0, .int 0, .int 0, .int 0, .int 0, .int 0, .int 0, .null], oC 96 z0, oI 100 z0], bc + 24, b1, true)
  refine And.intro (Nat.le_of_ble_eq_true rfl) (And.intro (by decide) (And.intro (by rw [e100]; omega) (And.intro (by decide) ?_)))
  generalize hb2 : b1 - (Int32.ofInt 100).toNatClampNeg = b2
  replace hb2 : b1 ≤ b2 + 100 := by rw [← hb2, e100]; omega
  change mj_sg _ _ _ _ _ _ _ _ _ 16 [some (.ref 27), some (.int x)] [.ref 30, .ref 27] (cW s [oF 10 [.int 0, .int 0, .int 0, .ref 28, .int 0, .int (-1), .int 0, .ref 29, .null, .null, .null, .null, .null, .null, .null, .null, .null, .null, .int 0, .int 0, .null, .null, .int 0, .int 0, .null, .null, .null, .null, .null, .null, .null, .null, .null, .int 0, .null, .null, .int 0, .int 0, .int 0, .int 0, .int 0, .int 0, .int 0, .int 0, .null], oC 96 z0, oI 100 z0, oI 100 z0], bc + 23, b2, true)
  refine And.intro (Nat.le_of_ble_eq_true rfl) (And.intro (by decide) (And.intro (by rw [e100]; omega) (And.intro (by decide) ?_)))
  generalize hb3 : b2 - (Int32.ofInt 100).toNatClampNeg = b3
  replace hb3 : b2 ≤ b3 + 100 := by rw [← hb3, e100]; omega
  change mj_sg _ _ _ _ _ _ _ _ _ 20 [some (.ref 27), some (.int x)] [.ref 31, .ref 27] (cW s [oF 10 [.int 0, .int 0, .int 0, .ref 28, .int 0, .int (-1), .int 0, .ref 29, .ref 30, .null, .null, .null, .null, .null, .null, .null, .null, .null, .int 0, .int 0, .null, .null, .int 0, .int 0, .null, .null, .null, .null, .null, .null, .null, .null, .null, .int 0, .null, .null, .int 0, .int 0, .int 0, .int 0, .int 0, .int 0, .int 0, .int 0, .null], oC 96 z0, oI 100 z0, oI 100 z0, oI 100 z0], bc + 22, b3, true)
  refine And.intro (Nat.le_of_ble_eq_true rfl) (And.intro (by decide) (And.intro (by rw [e100]; omega) (And.intro (by decide) ?_)))
  generalize hb4 : b3 - (Int32.ofInt 100).toNatClampNeg = b4
  replace hb4 : b3 ≤ b4 + 100 := by rw [← hb4, e100]; omega
  change mj_sg _ _ _ _ _ _ _ _ _ 24 [some (.ref 27), some (.int x)] [.ref 32, .ref 27] (cW s [oF 10 [.int 0, .int 0, .int 0, .ref 28, .int 0, .int (-1), .int 0, .ref 29, .ref 30, .ref 31, .null, .null, .null, .null, .null, .null, .null, .null, .int 0, .int 0, .null, .null, .int 0, .int 0, .null, .null, .null, .null, .null, .null, .null, .null, .null, .int 0, .null, .null, .int 0, .int 0, .int 0, .int 0, .int 0, .int 0, .int 0, .int 0, .null], oC 96 z0, oI 100 z0, oI 100 z0, oI 100 z0, oI 100 z0], bc + 21, b4, true)
  refine And.intro (Nat.le_of_ble_eq_true rfl) (And.intro (by decide) (And.intro (by rw [e100]; omega) (And.intro (by decide) ?_)))
  generalize hb5 : b4 - (Int32.ofInt 100).toNatClampNeg = b5
  replace hb5 : b4 ≤ b5 + 100 := by rw [← hb5, e100]; omega
  change mj_sg _ _ _ _ _ _ _ _ _ 28 [some (.ref 27), some (.int x)] [.ref 33, .ref 27] (cW s [oF 10 [.int 0, .int 0, .int 0, .ref 28, .int 0, .int (-1), .int 0, .ref 29, .ref 30, .ref 31, .ref 32, .null, .null, .null, .null, .null, .null, .null, .int 0, .int 0, .null, .null, .int 0, .int 0, .null, .null, .null, .null, .null, .null, .null, .null, .null, .int 0, .null, .null, .int 0, .int 0, .int 0, .int 0, .int 0, .int 0, .int 0, .int 0, .null], oC 96 z0, oI 100 z0, oI 100 z0, oI 100 z0, oI 100 z0, oI 100 z0], bc + 20, b5, true)
  refine And.intro (Nat.le_of_ble_eq_true rfl) (And.intro (by decide) (And.intro (by rw [e100]; omega) (And.intro (by decide) ?_)))
  generalize hb6 : b5 - (Int32.ofInt 100).toNatClampNeg = b6
  replace hb6 : b5 ≤ b6 + 100 := by rw [← hb6, e100]; omega
  change mj_sg _ _ _ _ _ _ _ _ _ 32 [some (.ref 27), some (.int x)] [.ref 34, .ref 27] (cW s [oF 10 [.int 0, .int 0, .int 0, .ref 28, .int 0, .int (-1), .int 0, .ref 29, .ref 30, .ref 31, .ref 32, .ref 33, .null, .null, .null, .null, .null, .null, .int 0, .int 0, .null, .null, .int 0, .int 0, .null, .null, .null, .null, .null, .null, .null, .null, .null, .int 0, .null, .null, .int 0, .int 0, .int 0, .int 0, .int 0, .int 0, .int 0, .int 0, .null], oC 96 z0, oI 100 z0, oI 100 z0, oI 100 z0, oI 100 z0, oI 100 z0, oI 100 z0], bc + 19, b6, true)
  refine And.intro (Nat.le_of_ble_eq_true rfl) (And.intro (by decide) (And.intro (by rw [e100]; omega) (And.intro (by decide) ?_)))
  generalize hb7 : b6 - (Int32.ofInt 100).toNatClampNeg = b7
  replace hb7 : b6 ≤ b7 + 100 := by rw [← hb7, e100]; omega
  change mj_sg _ _ _ _ _ _ _ _ _ 36 [some (.ref 27), some (.int x)] [.ref 35, .ref 27] (cW s [oF 10 [.int 0, .int 0, .int 0, .ref 28, .int 0, .int (-1), .int 0, .ref 29, .ref 30, .ref 31, .ref 32, .ref 33, .ref 34, .null, .null, .null, .null, .null, .int 0, .int 0, .null, .null, .int 0, .int 0, .null, .null, .null, .null, .null, .null, .null, .null, .null, .int 0, .null, .null, .int 0, .int 0, .int 0, .int 0, .int 0, .int 0, .int 0, .int 0, .null], oC 96 z0, oI 100 z0, oI 100 z0, oI 100 z0, oI 100 z0, oI 100 z0, oI 100 z0, oI 100 z0], bc + 18, b7, true)
  refine And.intro (Nat.le_of_ble_eq_true rfl) (And.intro (by decide) (And.intro (by rw [e100]; omega) (And.intro (by decide) ?_)))
  generalize hb8 : b7 - (Int32.ofInt 100).toNatClampNeg = b8
  replace hb8 : b7 ≤ b8 + 100 := by rw [← hb8, e100]; omega
  change mj_sg _ _ _ _ _ _ _ _ _ 40 [some (.ref 27), some (.int x)] [.ref 36, .ref 27] (cW s [oF 10 [.int 0, .int 0, .int 0, .ref 28, .int 0, .int (-1), .int 0, .ref 29, .ref 30, .ref 31, .ref 32, .ref 33, .ref 34, .ref 35, .null, .null, .null, .null, .int 0, .int 0, .null, .null, .int 0, .int 0, .null, .null, .null, .null, .null, .null, .null, .null, .null, .int 0, .null, .null, .int 0, .int 0, .int 0, .int 0, .int 0, .int 0, .int 0, .int 0, .null], oC 96 z0, oI 100 z0, oI 100 z0, oI 100 z0, oI 100 z0, oI 100 z0, oI 100 z0, oI 100 z0, oI 100 z0], bc + 17, b8, true)
  refine And.intro (Nat.le_of_ble_eq_true rfl) (And.intro (by decide) (And.intro (by rw [e100]; omega) (And.intro (by decide) ?_)))
  generalize hb9 : b8 - (Int32.ofInt 100).toNatClampNeg = b9
  replace hb9 : b8 ≤ b9 + 100 := by rw [← hb9, e100]; omega
  change mj_sg _ _ _ _ _ _ _ _ _ 44 [some (.ref 27), some (.int x)] [.ref 37, .ref 27] (cW s [oF 10 [.int 0, .int 0, .int 0, .ref 28, .int 0, .int (-1), .int 0, .ref 29, .ref 30, .ref 31, .ref 32, .ref 33, .ref 34, .ref 35, .ref 36, .null, .null, .null, .int 0, .int 0, .null, .null, .int 0, .int 0, .null, .null, .null, .null, .null, .null, .null, .null, .null, .int 0, .null, .null, .int 0, .int 0, .int 0, .int 0, .int 0, .int 0, .int 0, .int 0, .null], oC 96 z0, oI 100 z0, oI 100 z0, oI 100 z0, oI 100 z0, oI 100 z0, oI 100 z0, oI 100 z0, oI 100 z0, oI 100 z0], bc + 16, b9, true)
  refine And.intro (Nat.le_of_ble_eq_true rfl) (And.intro (by decide) (And.intro (by rw [e300]; omega) (And.intro (by decide) ?_)))
  generalize hb10 : b9 - (Int32.ofInt 300).toNatClampNeg = b10
  replace hb10 : b9 ≤ b10 + 300 := by rw [← hb10, e300]; omega
  change mj_sg _ _ _ _ _ _ _ _ _ 48 [some (.ref 27), some (.int x)] [.ref 38, .ref 27] (cW s [oF 10 [.int 0, .int 0, .int 0, .ref 28, .int 0, .int (-1), .int 0, .ref 29, .ref 30, .ref 31, .ref 32, .ref 33, .ref 34, .ref 35, .ref 36, .ref 37, .null, .null, .int 0, .int 0, .null, .null, .int 0, .int 0, .null, .null, .null, .null, .null, .null, .null, .null, .null, .int 0, .null, .null, .int 0, .int 0, .int 0, .int 0, .int 0, .int 0, .int 0, .int 0, .null], oC 96 z0, oI 100 z0, oI 100 z0, oI 100 z0, oI 100 z0, oI 100 z0, oI 100 z0, oI 100 z0, oI 100 z0, oI 100 z0, oI 300 z0], bc + 15, b10, true)
  refine And.intro (Nat.le_of_ble_eq_true rfl) (And.intro (by decide) (And.intro (by rw [e100]; omega) (And.intro (by decide) ?_)))
  generalize hb11 : b10 - (Int32.ofInt 100).toNatClampNeg = b11
  replace hb11 : b10 ≤ b11 + 100 := by rw [← hb11, e100]; omega
  change mj_sg _ _ _ _ _ _ _ _ _ 52 [some (.ref 27), some (.int x)] [.ref 39, .ref 27] (cW s [oF 10 [.int 0, .int 0, .int 0, .ref 28, .int 0, .int (-1), .int 0, .ref 29, .ref 30, .ref 31, .ref 32, .ref 33, .ref 34, .ref 35, .ref 36, .ref 37, .ref 38, .null, .int 0, .int 0, .null, .null, .int 0, .int 0, .null, .null, .null, .null, .null, .null, .null, .null, .null, .int 0, .null, .null, .int 0, .int 0, .int 0, .int 0, .int 0, .int 0, .int 0, .int 0, .null], oC 96 z0, oI 100 z0, oI 100 z0, oI 100 z0, oI 100 z0, oI 100 z0, oI 100 z0, oI 100 z0, oI 100 z0, oI 100 z0, oI 300 z0, oI 100 z0], bc + 14, b11, true)
  refine And.intro (Nat.le_of_ble_eq_true rfl) (And.intro (by decide) (And.intro (by rw [e1200]; omega) (And.intro (by decide) ?_)))
  generalize hb12 : b11 - (Int32.ofInt 1200).toNatClampNeg = b12
  replace hb12 : b11 ≤ b12 + 1200 := by rw [← hb12, e1200]; omega
  change mj_sg _ _ _ _ _ _ _ _ _ 56 [some (.ref 27), some (.int x)] [.ref 40, .ref 27] (cW s [oF 10 [.int 0, .int 0, .int 0, .ref 28, .int 0, .int (-1), .int 0, .ref 29, .ref 30, .ref 31, .ref 32, .ref 33, .ref 34, .ref 35, .ref 36, .ref 37, .ref 38, .ref 39, .int 0, .int 0, .null, .null, .int 0, .int 0, .null, .null, .null, .null, .null, .null, .null, .null, .null, .int 0, .null, .null, .int 0, .int 0, .int 0, .int 0, .int 0, .int 0, .int 0, .int 0, .null], oC 96 z0, oI 100 z0, oI 100 z0, oI 100 z0, oI 100 z0, oI 100 z0, oI 100 z0, oI 100 z0, oI 100 z0, oI 100 z0, oI 300 z0, oI 100 z0, oI 1200 z0], bc + 13, b12, true)
  refine And.intro (Nat.le_of_ble_eq_true rfl) (And.intro (by decide) (And.intro (by rw [e1200]; omega) (And.intro (by decide) ?_)))
  generalize hb13 : b12 - (Int32.ofInt 1200).toNatClampNeg = b13
  replace hb13 : b12 ≤ b13 + 1200 := by rw [← hb13, e1200]; omega
  change mj_sg _ _ _ _ _ _ _ _ _ 60 [some (.ref 27), some (.int x)] [.ref 41, .ref 27] (cW s [oF 10 [.int 0, .int 0, .int 0, .ref 28, .int 0, .int (-1), .int 0, .ref 29, .ref 30, .ref 31, .ref 32, .ref 33, .ref 34, .ref 35, .ref 36, .ref 37, .ref 38, .ref 39, .int 0, .int 0, .ref 40, .null, .int 0, .int 0, .null, .null, .null, .null, .null, .null, .null, .null, .null, .int 0, .null, .null, .int 0, .int 0, .int 0, .int 0, .int 0, .int 0, .int 0, .int 0, .null], oC 96 z0, oI 100 z0, oI 100 z0, oI 100 z0, oI 100 z0, oI 100 z0, oI 100 z0, oI 100 z0, oI 100 z0, oI 100 z0, oI 300 z0, oI 100 z0, oI 1200 z0, oI 1200 z0], bc + 12, b13, true)
  refine And.intro (Nat.le_of_ble_eq_true rfl) (And.intro (by decide) (And.intro (by rw [e1200]; omega) (And.intro (by decide) ?_)))
  generalize hb14 : b13 - (Int32.ofInt 1200).toNatClampNeg = b14
  replace hb14 : b13 ≤ b14 + 1200 := by rw [← hb14, e1200]; omega
  change mj_sg _ _ _ _ _ _ _ _ _ 64 [some (.ref 27), some (.int x)] [.ref 42, .ref 27] (cW s [oF 10 [.int 0, .int 0, .int 0, .ref 28, .int 0, .int (-1), .int 0, .ref 29, .ref 30, .ref 31, .ref 32, .ref 33, .ref 34, .ref 35, .ref 36, .ref 37, .ref 38, .ref 39, .int 0, .int 0, .ref 40, .ref 41, .int 0, .int 0, .null, .null, .null, .null, .null, .null, .null, .null, .null, .int 0, .null, .null, .int 0, .int 0, .int 0, .int 0, .int 0, .int 0, .int 0, .int 0, .null], oC 96 z0, oI 100 z0, oI 100 z0, oI 100 z0, oI 100 z0, oI 100 z0, oI 100 z0, oI 100 z0, oI 100 z0, oI 100 z0, oI 300 z0, oI 100 z0, oI 1200 z0, oI 1200 z0, oI 1200 z0], bc + 11, b14, true)
  refine And.intro (Nat.le_of_ble_eq_true rfl) (And.intro (by decide) (And.intro (by rw [e1200]; omega) (And.intro (by decide) ?_)))
  generalize hb15 : b14 - (Int32.ofInt 1200).toNatClampNeg = b15
  replace hb15 : b14 ≤ b15 + 1200 := by rw [← hb15, e1200]; omega
  change mj_sg _ _ _ _ _ _ _ _ _ 68 [some (.ref 27), some (.int x)] [.ref 43, .ref 27] (cW s [oF 10 [.int 0, .int 0, .int 0, .ref 28, .int 0, .int (-1), .int 0, .ref 29, .ref 30, .ref 31, .ref 32, .ref 33, .ref 34, .ref 35, .ref 36, .ref 37, .ref 38, .ref 39, .int 0, .int 0, .ref 40, .ref 41, .int 0, .int 0, .ref 42, .null, .null, .null, .null, .null, .null, .null, .null, .int 0, .null, .null, .int 0, .int 0, .int 0, .int 0, .int 0, .int 0, .int 0, .int 0, .null], oC 96 z0, oI 100 z0, oI 100 z0, oI 100 z0, oI 100 z0, oI 100 z0, oI 100 z0, oI 100 z0, oI 100 z0, oI 100 z0, oI 300 z0, oI 100 z0, oI 1200 z0, oI 1200 z0, oI 1200 z0, oI 1200 z0], bc + 10, b15, true)
  refine And.intro (Nat.le_of_ble_eq_true rfl) (And.intro (by decide) (And.intro (by rw [e250]; omega) (And.intro (by decide) ?_)))
  generalize hb16 : b15 - (Int32.ofInt 250).toNatClampNeg = b16
  replace hb16 : b15 ≤ b16 + 250 := by rw [← hb16, e250]; omega
  change mj_sg _ _ _ _ _ _ _ _ _ 72 [some (.ref 27), some (.int x)] [.ref 44, .ref 27] (cW s [oF 10 [.int 0, .int 0, .int 0, .ref 28, .int 0, .int (-1), .int 0, .ref 29, .ref 30, .ref 31, .ref 32, .ref 33, .ref 34, .ref 35, .ref 36, .ref 37, .ref 38, .ref 39, .int 0, .int 0, .ref 40, .ref 41, .int 0, .int 0, .ref 42, .ref 43, .null, .null, .null, .null, .null, .null, .null, .int 0, .null, .null, .int 0, .int 0, .int 0, .int 0, .int 0, .int 0, .int 0, .int 0, .null], oC 96 z0, oI 100 z0, oI 100 z0, oI 100 z0, oI 100 z0, oI 100 z0, oI 100 z0, oI 100 z0, oI 100 z0, oI 100 z0, oI 300 z0, oI 100 z0, oI 1200 z0, oI 1200 z0, oI 1200 z0, oI 1200 z0, oZ 250 z0], bc + 9, b16, true)
  refine And.intro (Nat.le_of_ble_eq_true rfl) (And.intro (by decide) (And.intro (by rw [e250]; omega) (And.intro (by decide) ?_)))
  generalize hb17 : b16 - (Int32.ofInt 250).toNatClampNeg = b17
  replace hb17 : b16 ≤ b17 + 250 := by rw [← hb17, e250]; omega
  change mj_sg _ _ _ _ _ _ _ _ _ 76 [some (.ref 27), some (.int x)] [.ref 45, .ref 27] (cW s [oF 10 [.int 0, .int 0, .int 0, .ref 28, .int 0, .int (-1), .int 0, .ref 29, .ref 30, .ref 31, .ref 32, .ref 33, .ref 34, .ref 35, .ref 36, .ref 37, .ref 38, .ref 39, .int 0, .int 0, .ref 40, .ref 41, .int 0, .int 0, .ref 42, .ref 43, .ref 44, .null, .null, .null, .null, .null, .null, .int 0, .null, .null, .int 0, .int 0, .int 0, .int 0, .int 0, .int 0, .int 0, .int 0, .null], oC 96 z0, oI 100 z0, oI 100 z0, oI 100 z0, oI 100 z0, oI 100 z0, oI 100 z0, oI 100 z0, oI 100 z0, oI 100 z0, oI 300 z0, oI 100 z0, oI 1200 z0, oI 1200 z0, oI 1200 z0, oI 1200 z0, oZ 250 z0, oZ 250 z0], bc + 8, b17, true)
  refine And.intro (Nat.le_of_ble_eq_true rfl) (And.intro (by decide) (And.intro (by rw [e250]; omega) (And.intro (by decide) ?_)))
  generalize hb18 : b17 - (Int32.ofInt 250).toNatClampNeg = b18
  replace hb18 : b17 ≤ b18 + 250 := by rw [← hb18, e250]; omega
  change mj_sg _ _ _ _ _ _ _ _ _ 80 [some (.ref 27), some (.int x)] [.ref 46, .ref 27] (cW s [oF 10 [.int 0, .int 0, .int 0, .ref 28, .int 0, .int (-1), .int 0, .ref 29, .ref 30, .ref 31, .ref 32, .ref 33, .ref 34, .ref 35, .ref 36, .ref 37, .ref 38, .ref 39, .int 0, .int 0, .ref 40, .ref 41, .int 0, .int 0, .ref 42, .ref 43, .ref 44, .ref 45, .null, .null, .null, .null, .null, .int 0, .null, .null, .int 0, .int 0, .int 0, .int 0, .int 0, .int 0, .int 0, .int 0, .null], oC 96 z0, oI 100 z0, oI 100 z0, oI 100 z0, oI 100 z0, oI 100 z0, oI 100 z0, oI 100 z0, oI 100 z0, oI 100 z0, oI 300 z0, oI 100 z0, oI 1200 z0, oI 1200 z0, oI 1200 z0, oI 1200 z0, oZ 250 z0, oZ 250 z0, oI 250 z0], bc + 7, b18, true)
  refine And.intro (Nat.le_of_ble_eq_true rfl) (And.intro (by decide) (And.intro (by rw [e250]; omega) (And.intro (by decide) ?_)))
  generalize hb19 : b18 - (Int32.ofInt 250).toNatClampNeg = b19
  replace hb19 : b18 ≤ b19 + 250 := by rw [← hb19, e250]; omega
  change mj_sg _ _ _ _ _ _ _ _ _ 84 [some (.ref 27), some (.int x)] [.ref 47, .ref 27] (cW s [oF 10 [.int 0, .int 0, .int 0, .ref 28, .int 0, .int (-1), .int 0, .ref 29, .ref 30, .ref 31, .ref 32, .ref 33, .ref 34, .ref 35, .ref 36, .ref 37, .ref 38, .ref 39, .int 0, .int 0, .ref 40, .ref 41, .int 0, .int 0, .ref 42, .ref 43, .ref 44, .ref 45, .ref 46, .null, .null, .null, .null, .int 0, .null, .null, .int 0, .int 0, .int 0, .int 0, .int 0, .int 0, .int 0, .int 0, .null], oC 96 z0, oI 100 z0, oI 100 z0, oI 100 z0, oI 100 z0, oI 100 z0, oI 100 z0, oI 100 z0, oI 100 z0, oI 100 z0, oI 300 z0, oI 100 z0, oI 1200 z0, oI 1200 z0, oI 1200 z0, oI 1200 z0, oZ 250 z0, oZ 250 z0, oI 250 z0, oI 250 z0], bc + 6, b19, true)
  refine And.intro (Nat.le_of_ble_eq_true rfl) (And.intro (by decide) (And.intro (by rw [e250]; omega) (And.intro (by decide) ?_)))
  generalize hb20 : b19 - (Int32.ofInt 250).toNatClampNeg = b20
  replace hb20 : b19 ≤ b20 + 250 := by rw [← hb20, e250]; omega
  change mj_sg _ _ _ _ _ _ _ _ _ 88 [some (.ref 27), some (.int x)] [.ref 48, .ref 27] (cW s [oF 10 [.int 0, .int 0, .int 0, .ref 28, .int 0, .int (-1), .int 0, .ref 29, .ref 30, .ref 31, .ref 32, .ref 33, .ref 34, .ref 35, .ref 36, .ref 37, .ref 38, .ref 39, .int 0, .int 0, .ref 40, .ref 41, .int 0, .int 0, .ref 42, .ref 43, .ref 44, .ref 45, .ref 46, .ref 47, .null, .null, .null, .int 0, .null, .null, .int 0, .int 0, .int 0, .int 0, .int 0, .int 0, .int 0, .int 0, .null], oC 96 z0, oI 100 z0, oI 100 z0, oI 100 z0, oI 100 z0, oI 100 z0, oI 100 z0, oI 100 z0, oI 100 z0, oI 100 z0, oI 300 z0, oI 100 z0, oI 1200 z0, oI 1200 z0, oI 1200 z0, oI 1200 z0, oZ 250 z0, oZ 250 z0, oI 250 z0, oI 250 z0, oI 250 z0], bc + 5, b20, true)
  refine And.intro (Nat.le_of_ble_eq_true rfl) (And.intro (by decide) (And.intro (by rw [e250]; omega) (And.intro (by decide) ?_)))
  generalize hb21 : b20 - (Int32.ofInt 250).toNatClampNeg = b21
  replace hb21 : b20 ≤ b21 + 250 := by rw [← hb21, e250]; omega
  change mj_sg _ _ _ _ _ _ _ _ _ 92 [some (.ref 27), some (.int x)] [.ref 49, .ref 27] (cW s [oF 10 [.int 0, .int 0, .int 0, .ref 28, .int 0, .int (-1), .int 0, .ref 29, .ref 30, .ref 31, .ref 32, .ref 33, .ref 34, .ref 35, .ref 36, .ref 37, .ref 38, .ref 39, .int 0, .int 0, .ref 40, .ref 41, .int 0, .int 0, .ref 42, .ref 43, .ref 44, .ref 45, .ref 46, .ref 47, .ref 48, .null, .null, .int 0, .null, .null, .int 0, .int 0, .int 0, .int 0, .int 0, .int 0, .int 0, .int 0, .null], oC 96 z0, oI 100 z0, oI 100 z0, oI 100 z0, oI 100 z0, oI 100 z0, oI 100 z0, oI 100 z0, oI 100 z0, oI 100 z0, oI 300 z0, oI 100 z0, oI 1200 z0, oI 1200 z0, oI 1200 z0, oI 1200 z0, oZ 250 z0, oZ 250 z0, oI 250 z0, oI 250 z0, oI 250 z0, oI 250 z0], bc + 4, b21, true)
  refine And.intro (Nat.le_of_ble_eq_true rfl) (And.intro (by decide) (And.intro (by rw [e250]; omega) (And.intro (by decide) ?_)))
  generalize hb22 : b21 - (Int32.ofInt 250).toNatClampNeg = b22
  replace hb22 : b21 ≤ b22 + 250 := by rw [← hb22, e250]; omega
  change mj_sg _ _ _ _ _ _ _ _ _ 96 [some (.ref 27), some (.int x)] [.ref 50, .ref 27] (cW s [oF 10 [.int 0, .int 0, .int 0, .ref 28, .int 0, .int (-1), .int 0, .ref 29, .ref 30, .ref 31, .ref 32, .ref 33, .ref 34, .ref 35, .ref 36, .ref 37, .ref 38, .ref 39, .int 0, .int 0, .ref 40, .ref 41, .int 0, .int 0, .ref 42, .ref 43, .ref 44, .ref 45, .ref 46, .ref 47, .ref 48, .ref 49, .null, .int 0, .null, .null, .int 0, .int 0, .int 0, .int 0, .int 0, .int 0, .int 0, .int 0, .null], oC 96 z0, oI 100 z0, oI 100 z0, oI 100 z0, oI 100 z0, oI 100 z0, oI 100 z0, oI 100 z0, oI 100 z0, oI 100 z0, oI 300 z0, oI 100 z0, oI 1200 z0, oI 1200 z0, oI 1200 z0, oI 1200 z0, oZ 250 z0, oZ 250 z0, oI 250 z0, oI 250 z0, oI 250 z0, oI 250 z0, oZ 250 z0], bc + 3, b22, true)
  refine And.intro (Nat.le_of_ble_eq_true rfl) (And.intro (by decide) (And.intro (by rw [e260]; omega) (And.intro (by decide) ?_)))
  generalize hb23 : b22 - (Int32.ofInt 260).toNatClampNeg = b23
  replace hb23 : b22 ≤ b23 + 260 := by rw [← hb23, e260]; omega
  change mj_sg _ _ _ _ _ _ _ _ _ 100 [some (.ref 27), some (.int x)] [.ref 51, .ref 27] (cW s [oF 10 [.int 0, .int 0, .int 0, .ref 28, .int 0, .int (-1), .int 0, .ref 29, .ref 30, .ref 31, .ref 32, .ref 33, .ref 34, .ref 35, .ref 36, .ref 37, .ref 38, .ref 39, .int 0, .int 0, .ref 40, .ref 41, .int 0, .int 0, .ref 42, .ref 43, .ref 44, .ref 45, .ref 46, .ref 47, .ref 48, .ref 49, .ref 50, .int 0, .null, .null, .int 0, .int 0, .int 0, .int 0, .int 0, .int 0, .int 0, .int 0, .null], oC 96 z0, oI 100 z0, oI 100 z0, oI 100 z0, oI 100 z0, oI 100 z0, oI 100 z0, oI 100 z0, oI 100 z0, oI 100 z0, oI 300 z0, oI 100 z0, oI 1200 z0, oI 1200 z0, oI 1200 z0, oI 1200 z0, oZ 250 z0, oZ 250 z0, oI 250 z0, oI 250 z0, oI 250 z0, oI 250 z0, oZ 250 z0, oI 260 z0], bc + 2, b23, true)
  refine And.intro (Nat.le_of_ble_eq_true rfl) (And.intro (by decide) (And.intro (by rw [e5]; omega) (And.intro (by decide) ?_)))
  generalize hb24 : b23 - (Int32.ofInt 5).toNatClampNeg = b24
  replace hb24 : b23 ≤ b24 + 5 := by rw [← hb24, e5]; omega
  change mj_sg _ _ _ _ _ _ _ _ _ 104 [some (.ref 27), some (.int x)] [.ref 52, .ref 27] (cW s [oF 10 [.int 0, .int 0, .int 0, .ref 28, .int 0, .int (-1), .int 0, .ref 29, .ref 30, .ref 31, .ref 32, .ref 33, .ref 34, .ref 35, .ref 36, .ref 37, .ref 38, .ref 39, .int 0, .int 0, .ref 40, .ref 41, .int 0, .int 0, .ref 42, .ref 43, .ref 44, .ref 45, .ref 46, .ref 47, .ref 48, .ref 49, .ref 50, .int 0, .ref 51, .null, .int 0, .int 0, .int 0, .int 0, .int 0, .int 0, .int 0, .int 0, .null], oC 96 z0, oI 100 z0, oI 100 z0, oI 100 z0, oI 100 z0, oI 100 z0, oI 100 z0, oI 100 z0, oI 100 z0, oI 100 z0, oI 300 z0, oI 100 z0, oI 1200 z0, oI 1200 z0, oI 1200 z0, oI 1200 z0, oZ 250 z0, oZ 250 z0, oI 250 z0, oI 250 z0, oI 250 z0, oI 250 z0, oZ 250 z0, oI 260 z0, oI 5 z0], bc + 1, b24, true)
  refine And.intro (by unfold vp_in; decide) ?_
  refine And.intro (by unfold vp_in; decide) ?_
  refine And.intro (by unfold vp_in; decide) ?_
  refine And.intro (by unfold vp_in; decide) ?_
  refine And.intro (by unfold vp_in; decide) ?_
  refine And.intro (Nat.le_of_ble_eq_true rfl) (And.intro (by decide) (And.intro (by rw [e120]; omega) (And.intro (by decide) ?_)))
  generalize hb25 : b24 - (Int32.ofInt 120).toNatClampNeg = b25
  replace hb25 : b24 ≤ b25 + 120 := by rw [← hb25, e120]; omega
  change mj_sg _ _ _ _ _ _ _ _ _ 128 [some (.ref 27), some (.int x)] [.ref 53, .ref 27] (cW s [oF 10 [.int 0, .int 0, .int 0, .ref 28, .int 0, .int (-1), .int 0, .ref 29, .ref 30, .ref 31, .ref 32, .ref 33, .ref 34, .ref 35, .ref 36, .ref 37, .ref 38, .ref 39, .int 0, .int 0, .ref 40, .ref 41, .int 0, .int 0, .ref 42, .ref 43, .ref 44, .ref 45, .ref 46, .ref 47, .ref 48, .ref 49, .ref 50, .int 0, .ref 51, .ref 52, .int 0, .int 0, .int 0, .int 0, .int 0, .int 0, .int 0, .int 0, .null], oC 96 z0, oI 100 z0, oI 100 z0, oI 100 z0, oI 100 z0, oI 100 z0, oI 100 z0, oI 100 z0, oI 100 z0, oI 100 z0, oI 300 z0, oI 100 z0, oI 1200 z0, oI 1200 z0, oI 1200 z0, oI 1200 z0, oZ 250 z0, oZ 250 z0, oI 250 z0, oI 250 z0, oI 250 z0, oI 250 z0, oZ 250 z0, oI 260 z0, oI 5 (upd (upd (upd (upd (upd z0 0 (-1)) 1 (-1)) 2 (-1)) 3 (-1)) 4 (-1)), oC 120 z0], bc + 0, b25, true)
  have key : ∀ v : Int32, v = nI z → Q (.inl none, (cW s [oF 10 [.int v, .int 0, .int 0, .ref 28, .int 0, .int (-1), .int 0, .ref 29, .ref 30, .ref 31, .ref 32, .ref 33, .ref 34, .ref 35, .ref 36, .ref 37, .ref 38, .ref 39, .int 0, .int 0, .ref 40, .ref 41, .int 0, .int 0, .ref 42, .ref 43, .ref 44, .ref 45, .ref 46, .ref 47, .ref 48, .ref 49, .ref 50, .int 0, .ref 51, .ref 52, .int 0, .int 0, .int 0, .int 0, .int 0, .int 0, .int 0, .int 0, .ref 53], oC 96 z0, oI 100 z0, oI 100 z0, oI 100 z0, oI 100 z0, oI 100 z0, oI 100 z0, oI 100 z0, oI 100 z0, oI 100 z0, oI 300 z0, oI 100 z0, oI 1200 z0, oI 1200 z0, oI 1200 z0, oI 1200 z0, oZ 250 z0, oZ 250 z0, oI 250 z0, oI 250 z0, oI 250 z0, oI 250 z0, oZ 250 z0, oI 260 z0, oI 5 (upd (upd (upd (upd (upd z0 0 (-1)) 1 (-1)) 2 (-1)) 3 (-1)) 4 (-1)), oC 120 z0], bc, b25, true)) := by
    rintro v rfl
    exact hQ _ (by omega)
  refine And.intro (fun (g : 20 ≤ x) => ?_) (fun (g : ¬ 20 ≤ x) => ?_)
  · rw [if_neg (Int32.not_lt.mpr g)] at hv
    refine And.intro (fun (g2 : x ≤ 250) => ?_) (fun (g2 : ¬ x ≤ 250) => ?_)
    · rw [if_neg (Int32.not_lt.mpr g2)] at hv
      exact key _ hv.symm
    · rw [if_pos (Int32.not_le.mp g2)] at hv
      exact key _ hv.symm
  · rw [if_pos (Int32.not_le.mp g)] at hv
    exact key _ hv.symm
end P1f
