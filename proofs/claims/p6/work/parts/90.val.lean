abbrev Vl : Type := Unit ⊕ Int32 ⊕ Int32 ⊕ Nat ⊕ Nat
abbrev vNil : Vl := .inl ()
abbrev vInt (x : Int32) : Vl := .inr (.inl x)
abbrev vSym (x : Int32) : Vl := .inr (.inr (.inl x))
abbrev vPr (a : Nat) : Vl := .inr (.inr (.inr (.inl a)))
abbrev vFn (a : Nat) : Vl := .inr (.inr (.inr (.inr a)))
def eK (k : Nat) (x : Int32) : Int64 := Int64.ofNat (k * 4294967296) ||| (x.toInt64 &&& Int64.ofNat 4294967295)
def encV : Vl → Int64
  | .inl _ => 0
  | .inr (.inl x) => eK 1 x
  | .inr (.inr (.inl x)) => eK 2 x
  | .inr (.inr (.inr (.inl a))) => eK 3 (nI a)
  | .inr (.inr (.inr (.inr a))) => eK 4 (nI a)
theorem eK_nat (k : Nat) (hk : k ≤ 4) (x : Int32) : (eK k x).toBitVec.toNat = k * 4294967296 + x.toBitVec.toNat := by
  unfold eK
  have hx : x.toBitVec.toNat < 2 ^ 32 := x.toBitVec.isLt
  have hz : x.toBitVec.signExtend 64 &&& 4294967295#64 = x.toBitVec.setWidth 64 := by
    apply BitVec.eq_of_getLsbD_eq
    intro i hi
    have hm : (4294967295#64).getLsbD i = decide (i < 32) := by
      rw [BitVec.getLsbD_ofNat]
      rw [show (4294967295 : Nat) = 2 ^ 32 - 1 by decide, Nat.testBit_two_pow_sub_one]
      simp [hi]
    rw [BitVec.getLsbD_and, hm, BitVec.getLsbD_signExtend, BitVec.getLsbD_setWidth]
    by_cases h : i < 32
    · simp [h, hi]
    · simp [h, hi, BitVec.getLsbD_of_ge x.toBitVec i (by omega)]
  have e : (Int64.ofNat (k * 4294967296) ||| (x.toInt64 &&& Int64.ofNat 4294967295)).toBitVec = BitVec.ofNat 64 (k * 4294967296) ||| x.toBitVec.setWidth 64 := by
    rw [← hz]
    rfl
  rw [e, BitVec.toNat_or, BitVec.toNat_ofNat, BitVec.toNat_setWidth, Nat.mod_eq_of_lt (by omega : k * 4294967296 < 2 ^ 64), Nat.mod_eq_of_lt (by omega : x.toBitVec.toNat < 2 ^ 64)]
  rw [show k * 4294967296 = 2 ^ 32 * k by omega]
  exact (Nat.two_pow_add_eq_or_of_lt hx k).symm
theorem i64_ext {a b : Int64} (h : a.toBitVec.toNat = b.toBitVec.toNat) : a = b := Int64.toBitVec_inj.mp (BitVec.eq_of_toNat_eq h)
theorem i32_ext {a b : Int32} (h : a.toBitVec.toNat = b.toBitVec.toNat) : a = b := Int32.toBitVec_inj.mp (BitVec.eq_of_toNat_eq h)
theorem eK_shr (k : Nat) (hk : k ≤ 4) (x : Int32) : (eK k x) >>> ((Int32.ofInt 32).toInt64 &&& 63) = Int64.ofNat k := by
  have hn := eK_nat k hk x
  have hx : x.toBitVec.toNat < 2 ^ 32 := x.toBitVec.isLt
  have e1 : ((eK k x) >>> ((Int32.ofInt 32).toInt64 &&& 63)).toBitVec = (eK k x).toBitVec.sshiftRight 32 := by
    have : (Int32.ofInt 32).toInt64 &&& 63 = 32 := by decide
    rw [this, Int64.toBitVec_shiftRight]
    rfl
  apply i64_ext
  rw [e1, BitVec.sshiftRight_eq_of_msb_false, BitVec.toNat_ushiftRight, hn]
  · rw [Nat.shiftRight_eq_div_pow, show k * 4294967296 + x.toBitVec.toNat = x.toBitVec.toNat + 2 ^ 32 * k by omega, Nat.add_mul_div_left _ _ (by decide), Nat.div_eq_of_lt hx]
    show 0 + k = k % 2 ^ 64
    omega
  · rw [BitVec.msb_eq_false_iff_two_mul_lt, hn]
    omega
theorem eK_int (k : Nat) (hk : k ≤ 4) (x : Int32) : (eK k x).toInt32 = x := by
  have hn := eK_nat k hk x
  have hx : x.toBitVec.toNat < 2 ^ 32 := x.toBitVec.isLt
  apply i32_ext
  have e1 : (eK k x).toInt32.toBitVec = (eK k x).toBitVec.setWidth 32 := by
    rw [Int64.toBitVec_toInt32, BitVec.signExtend_eq_setWidth_of_le _ (by decide)]
  rw [e1, BitVec.toNat_setWidth, hn]
  omega
theorem eK_ne {j k : Nat} (hj : j ≤ 4) (hk : k ≤ 4) {x y : Int32} (h : eK j x = eK k y) : j = k ∧ x = y := by
  have h1 := eK_nat j hj x
  have h2 := eK_nat k hk y
  have hx : x.toBitVec.toNat < 2 ^ 32 := x.toBitVec.isLt
  have hy : y.toBitVec.toNat < 2 ^ 32 := y.toBitVec.isLt
  rw [h, h2] at h1
  exact ⟨by omega, i32_ext (by omega)⟩
def kV : Vl → Nat
  | .inl _ => 0
  | .inr (.inl _) => 1
  | .inr (.inr (.inl _)) => 2
  | .inr (.inr (.inr (.inl _))) => 3
  | .inr (.inr (.inr (.inr _))) => 4
theorem encV_shr (v : Vl) : encV v >>> ((Int32.ofInt 32).toInt64 &&& 63) = Int64.ofNat (kV v) := by
  rcases v with u | x | x | x | x
  · exact (by decide : (0 : Int64) >>> ((Int32.ofInt 32).toInt64 &&& 63) = Int64.ofNat 0)
  · exact eK_shr 1 (by decide) x
  · exact eK_shr 2 (by decide) x
  · exact eK_shr 3 (by decide) (nI x)
  · exact eK_shr 4 (by decide) (nI x)
theorem kV_le (v : Vl) : kV v ≤ 4 := by rcases v with u | x | x | x | x <;> simp [kV]
def cV : Vl → Int32
  | .inr (.inr (.inr (.inl a))) => nI a
  | .inr (.inr (.inr (.inr a))) => nI a
  | _ => -1
section P2a
variable {cst : Nat → Option (Nat × (Nat → Int32))} {m : Nat} {Q : mj_R → Prop} {h : mj_H}
set_option maxRecDepth 10000
theorem v_number {x : Int32} (hQ : Q (.inl (some (.long (encV (vInt x)))), h)) : mj_Mt gT cst gnw (m + 1) y_Value_number [.int x] h Q := by
  intro J hJ
  refine hJ _ _ _ _ ?_
  exact hQ
theorem v_symbol {x : Int32} (hQ : Q (.inl (some (.long (encV (vSym x)))), h)) : mj_Mt gT cst gnw (m + 1) y_Value_symbol [.int x] h Q := by
  intro J hJ
  refine hJ _ _ _ _ ?_
  exact hQ
theorem v_pair {a : Nat} (hQ : Q (.inl (some (.long (encV (vPr a)))), h)) : mj_Mt gT cst gnw (m + 1) y_Value_pair [.int (nI a)] h Q := by
  intro J hJ
  refine hJ _ _ _ _ ?_
  exact hQ
theorem v_function {a : Nat} (hQ : Q (.inl (some (.long (encV (vFn a)))), h)) : mj_Mt gT cst gnw (m + 1) y_Value_function [.int (nI a)] h Q := by
  intro J hJ
  refine hJ _ _ _ _ ?_
  exact hQ
theorem lg0 {j k : Nat} (hj : j ≤ 4) (hk : k ≤ 4) : (¬ lg_cmp (Int64.ofNat j) (Int64.ofNat k) = 0) ↔ ¬ j = k := by
  match j, k, hj, hk with
  | 0, 0, _, _ | 0, 1, _, _ | 0, 2, _, _ | 0, 3, _, _ | 0, 4, _, _
  | 1, 0, _, _ | 1, 1, _, _ | 1, 2, _, _ | 1, 3, _, _ | 1, 4, _, _
  | 2, 0, _, _ | 2, 1, _, _ | 2, 2, _, _ | 2, 3, _, _ | 2, 4, _, _
  | 3, 0, _, _ | 3, 1, _, _ | 3, 2, _, _ | 3, 3, _, _ | 3, 4, _, _
  | 4, 0, _, _ | 4, 1, _, _ | 4, 2, _, _ | 4, 3, _, _ | 4, 4, _, _ => decide
theorem lg3 {j : Nat} (hj : j ≤ 4) : lg_cmp (Int64.ofNat j) (Int64.ofNat 3) < 0 ↔ j < 3 := by
  match j, hj with
  | 0, _ | 1, _ | 2, _ | 3, _ | 4, _ => decide
def bJ (b : Bool) : Int32 := if b then 1 else 0
theorem v_is (k y : Nat) (hk : k ≤ 4) (hy : (y = y_Value_isNumber ∧ k = 1) ∨ (y = y_Value_isSymbol ∧ k = 2) ∨ (y = y_Value_isPair ∧ k = 3) ∨ (y = y_Value_isFunction ∧ k = 4)) {v : Vl} (hQ : Q (.inl (some (.int (bJ (kV v == k)))), h)) : mj_Mt gT cst gnw (m + 1) y [.long (encV v)] h Q := by
  have hb : ∀ b : Bool, (kV v == k) = b → Q (.inl (some (.int (bJ b))), h) := by
    rintro b rfl
    exact hQ
  have key : ∀ x : Int64, x = Int64.ofNat (kV v) → (¬ lg_cmp x (Int64.ofNat k) = 0 → (0 : Int32) = 0 ∨ (0 : Int32) = 1) := fun _ _ _ => Or.inl rfl
  have e := encV_shr v
  have hl := lg0 (kV_le v) hk
  rcases hy with ⟨rfl, rfl⟩ | ⟨rfl, rfl⟩ | ⟨rfl, rfl⟩ | ⟨rfl, rfl⟩ <;>
  · intro J hJ
    refine hJ _ _ _ _ ?_
    refine And.intro (fun g => ?_) (fun g => ?_)
    · rw [e] at g
      exact And.intro (Or.inl rfl) (hb false (by simpa using hl.mp g))
    · rw [e] at g
      exact And.intro (Or.inr rfl) (hb true (by simpa using fun q => (hl.mpr q) g))
theorem v_isNumber {v : Vl} (hQ : Q (.inl (some (.int (bJ (kV v == 1)))), h)) : mj_Mt gT cst gnw (m + 1) y_Value_isNumber [.long (encV v)] h Q := v_is 1 _ (by decide) (Or.inl ⟨rfl, rfl⟩) hQ
theorem v_isSymbol {v : Vl} (hQ : Q (.inl (some (.int (bJ (kV v == 2)))), h)) : mj_Mt gT cst gnw (m + 1) y_Value_isSymbol [.long (encV v)] h Q := v_is 2 _ (by decide) (Or.inr (Or.inl ⟨rfl, rfl⟩)) hQ
theorem v_isPair {v : Vl} (hQ : Q (.inl (some (.int (bJ (kV v == 3)))), h)) : mj_Mt gT cst gnw (m + 1) y_Value_isPair [.long (encV v)] h Q := v_is 3 _ (by decide) (Or.inr (Or.inr (Or.inl ⟨rfl, rfl⟩))) hQ
theorem v_isFunction {v : Vl} (hQ : Q (.inl (some (.int (bJ (kV v == 4)))), h)) : mj_Mt gT cst gnw (m + 1) y_Value_isFunction [.long (encV v)] h Q := v_is 4 _ (by decide) (Or.inr (Or.inr (Or.inr ⟨rfl, rfl⟩))) hQ
theorem v_cell {v : Vl} (hQ : Q (.inl (some (.int (cV v))), h)) : mj_Mt gT cst gnw (m + 1) y_Value_cell [.long (encV v)] h Q := by
  have e := encV_shr v
  intro J hJ
  refine hJ _ _ _ _ ?_
  refine And.intro (fun g => ?_) (fun g => ?_)
  · rw [e] at g
    have h3 := (lg3 (kV_le v)).mp g
    rcases v with u | x | x | x | x
    · exact hQ
    · exact hQ
    · exact hQ
    · exact absurd h3 (by simp [kV])
    · exact absurd h3 (by simp [kV])
  · rw [e] at g
    have h3 : ¬ kV v < 3 := fun q => g ((lg3 (kV_le v)).mpr q)
    have key : ∀ x : Int32, x = cV v → Q (.inl (some (.int x)), h) := by
      rintro x rfl
      exact hQ
    rcases v with u | x | x | x | x
    · exact absurd (by simp [kV]) h3
    · exact absurd (by simp [kV]) h3
    · exact absurd (by simp [kV]) h3
    · exact key _ (eK_int 3 (by decide) (nI x))
    · exact key _ (eK_int 4 (by decide) (nI x))
theorem v_content {x : Int64} (hQ : Q (.inl (some (.int x.toInt32)), h)) : mj_Mt gT cst gnw (m + 1) y_Value_content [.long x] h Q := by
  intro J hJ
  refine hJ _ _ _ _ ?_
  exact hQ
end P2a
