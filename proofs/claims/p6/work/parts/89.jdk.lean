abbrev bO (j : Nat) (ml : Int32) (n : Nat) : mj_O := .inr (.inl (9, [.ref j, .int 0, .int ml, .int (nI n)]))
abbrev bB (N : Nat) (g : Nat → Int32) : mj_O := .inl (4, N, .inl g)
section J1
variable {cst : Nat → Option (Nat × (Nat → Int32))} {m bc bs : Nat} {op : Bool} {Q : mj_R → Prop} {ml : Int32} {n N : Nat} {g : Nat → Int32} {os : List mj_O}
set_option maxRecDepth 10000
theorem j_isLatin1 {j : Nat} (hQ : Q (.inl (some (.int 1)), (bO j ml n :: os, bc, bs, op))) : mj_Mt gT cst gnw (m + 1) y_AbstractStringBuilder_isLatin1 [.ref 0] (bO j ml n :: os, bc, bs, op) Q := by
  intro J hJ
  refine hJ _ _ _ _ ?_
  refine And.intro (fun h => absurd h (by decide)) (fun _ => ?_)
  refine And.intro (fun h => absurd rfl h) (fun _ => ?_)
  exact And.intro (Or.inr rfl) hQ
theorem j_canEncodeC {c : Nat} (hc : c < 256) (hQ : Q (.inl (some (.int 1)), (os, bc, bs, op))) : mj_Mt gT cst gnw (m + 1) y_StringLatin1_canEncode_C [.int (nI c)] (os, bc, bs, op) Q := by
  intro J hJ
  refine hJ _ _ _ _ ?_
  refine And.intro (fun h => absurd h (show ¬ nI 255 < nI c from nI_nlt (by omega) (by decide))) (fun _ => ?_)
  exact And.intro (Or.inr rfl) hQ
theorem j_newLength {x y z : Int32} {q : Nat} (h : N < q) (hq : q ≤ 1000) (hx : x = nI N) (hy : y = nI (q - N)) (hz : z = nI (N + 2)) (hQ : Q (.inl (some (.int (nI (sb_cap q N)))), (os, bc, bs, op))) : mj_Mt gT cst gnw (m + 1) y_ArraysSupport_newLength [.int x, .int y, .int z] (os, bc, bs, op) Q := by
  have hc : sb_cap q N = N + (if q - N < N + 2 then N + 2 else q - N) := by
    unfold sb_cap
    rw [if_neg (by omega)]
    split <;> split <;> omega
  have hg := sb_cap_ge q N
  have hl : sb_cap q N ≤ 2002 := by
    unfold sb_cap
    split
    · omega
    · split <;> omega
  have e : x + (if y < z then z else y) = nI (sb_cap q N) := by
    rw [hc, hx, hy, hz]
    by_cases h2 : q - N < N + 2
    · rw [if_pos h2, if_pos (nI_lt h2 (by omega))]
      exact nI_add N (N + 2)
    · rw [if_neg h2, if_neg (nI_nlt (by omega) (by omega))]
      exact nI_add N (q - N)
  rw [← e] at hQ
  intro J hJ
  refine hJ _ _ _ _ ?_
  refine And.intro (fun h9 => absurd (show nI (sb_cap q N) ≤ 0 by rw [← e]; exact h9) (nI_nle (by omega) (by omega))) (fun _ => ?_)
  refine And.intro (fun h9 => absurd (show nI 2147483639 < nI (sb_cap q N) by rw [← e]; exact h9) (nI_nlt (by omega) (by decide))) (fun _ => ?_)
  exact hQ
theorem j_newCapacity {q : Nat} (h : N < q) (hq : q ≤ 1000) (hQ : Q (.inl (some (.int (nI (sb_cap q N)))), (bO 1 ml n :: bB N g :: os, bc, bs, op))) : mj_Mt gT cst gnw (m + 2) y_AbstractStringBuilder_newCapacity [.ref 0, .int (nI q)] (bO 1 ml n :: bB N g :: os, bc, bs, op) Q := by
  have hl : sb_cap q N ≤ 2002 := by
    unfold sb_cap
    split
    · omega
    · split <;> omega
  intro J hJ
  refine hJ _ _ _ _ ?_
  refine j_newLength (N := N) (q := q) h hq rfl (by rw [sb_shl0]; exact pk_sub (by omega)) (by rw [sb_shl0]; exact nI_add N 2) ?_
  refine And.intro (fun _ => ?_) (fun h9 => absurd ((nI_eq (a := sb_cap q N) (b := 2147483647) (by omega) (by decide)).mp h9) (by omega))
  rw [← sb_shr0 (nI (sb_cap q N))] at hQ
  exact hQ
theorem j_copyOf {o0 : mj_O} {x : Int32} {q : Nat} (hx : x = nI q) (h : N < q) (hq : q ≤ 2000) (hf : sb_Fit g) (hb : q ≤ bs) (hQ : Q (.inl (some (.ref 2)), ([o0, bB N g, bB q (va_cpy g (fun _ => 0) 0 0 N)], bc, bs - q, true))) : mj_Mt gT cst gnw (m + 1) y_Arrays_copyOf [.ref 1, .int x] ([o0, bB N g], bc + 1, bs, true) Q := by
  subst hx
  have ec : (nI q).toNatClampNeg = q := nI_clamp (by omega)
  have em : (if nI q < Int32.ofNat N then nI q else Int32.ofNat N) = nI N := if_neg (nI_nlt (by omega) (by omega))
  have e0 : (Int32.ofInt 0).toNatClampNeg = 0 := by decide
  have en : (nI N).toNatClampNeg = N := nI_clamp (by omega)
  intro J hJ
  refine hJ _ _ _ _ ?_
  refine And.intro (fun _ => ?_) (fun h9 => absurd ((nI_eq (a := q) (b := N) (by omega) (by omega)).mp h9) (by omega))
  refine And.intro (Nat.le_of_ble_eq_true rfl) (And.intro (nI_pos (by omega)) (And.intro (by rw [ec]; omega) (And.intro (by rw [ec]; omega) ?_)))
  refine And.intro (by decide) (And.intro (by decide) (And.intro (by rw [em]; exact nI_pos (by omega)) (And.intro (by rw [em, e0, en]; omega) (And.intro (by rw [em, e0, en, ec]; omega) (And.intro hf ?_)))))
  have key : ∀ (a c1 c2 c3 b : Nat), a = q → c1 = 0 → c2 = 0 → c3 = N → b = q → Q (.inl (some (.ref 2)), ([o0, bB N g, bB a (va_cpy g (fun _ => 0) c1 c2 c3)], bc, bs - b, true)) := by
    rintro a c1 c2 c3 b rfl rfl rfl rfl rfl
    exact hQ
  exact key _ _ _ _ _ ec e0 e0 (by rw [em]; exact en) ec
theorem j_ensure {x : Int32} {q : Nat} (hx : x = nI q) (hq : q ≤ 900) (hN : N ≤ 65536) (hf : sb_Fit g) (hb : 2 * q ≤ bs)
    (h1 : q ≤ N → Q (.inl none, ([bO 1 ml n, bB N g], bc + 1, bs, true)))
    (h2 : N < q → sb_cap q N ≤ 2 * q → Q (.inl none, ([bO 2 ml n, bB N g, bB (sb_cap q N) (va_cpy g (fun _ => 0) 0 0 N)], bc, bs - sb_cap q N, true))) :
    mj_Mt gT cst gnw (m + 3) y_AbstractStringBuilder_ensureCapacityInternal [.ref 0, .int x] ([bO 1 ml n, bB N g], bc + 1, bs, true) Q := by
  subst hx
  have e1 : (nI q - nI N).toInt = (q : Int) - N := pk_sub_toInt (by omega) (by omega)
  have es : nI q - (Int32.ofNat N >>> ((0 : Int32) &&& 31)) = nI q - nI N := by rw [sb_shr0]; rfl
  intro J hJ
  refine hJ _ _ _ _ ?_
  refine And.intro (fun h9 => ?_) (fun h9 => ?_)
  · have h9 : nI q - nI N ≤ 0 := by rw [← es]; exact h9
    refine h1 ?_
    rw [Int32.le_iff_toInt_le, e1, Int32.toInt_zero] at h9
    omega
  · have h9 : ¬ nI q - nI N ≤ 0 := by rw [← es]; exact h9
    rw [Int32.le_iff_toInt_le, e1, Int32.toInt_zero] at h9
    have hl : N < q := by omega
    have hg := sb_cap_ge q N
    have hc : sb_cap q N ≤ 2 * q := by
      unfold sb_cap
      rw [if_neg (by omega)]
      split <;> omega
    refine j_newCapacity hl (by omega) ?_
    refine j_copyOf (q := sb_cap q N) (sb_shl0 _) (by omega) (by omega) hf (by omega) ?_
    exact h2 hl hc
theorem j_asb_length {j : Nat} (hQ : Q (.inl (some (.int (nI n))), (bO j ml n :: os, bc, bs, op))) : mj_Mt gT cst gnw (m + 1) y_AbstractStringBuilder_length [.ref 0] (bO j ml n :: os, bc, bs, op) Q := by
  intro J hJ
  refine hJ _ _ _ _ ?_
  exact hQ
theorem j_length {j : Nat} (hQ : Q (.inl (some (.int (nI n))), (bO j ml n :: os, bc, bs, op))) : mj_Mt gT cst gnw (m + 2) y_StringBuilder_length [.ref 0] (bO j ml n :: os, bc, bs, op) Q := by
  intro J hJ
  refine hJ _ _ _ _ ?_
  refine j_asb_length ?_
  exact hQ
theorem j_pcheck {i k : Nat} {v : Value} (hi : i < k) (hk : k < 2 ^ 31) (hQ : Q (.inl (some (.int (nI i))), (os, bc, bs, op))) : mj_Mt gT cst gnw (m + 1) y_Preconditions_checkIndex [.int (nI i), .int (nI k), .retAddr 0] (os, bc, bs, op) Q := by
  intro J hJ
  refine hJ _ _ _ _ ?_
  refine And.intro (fun h => absurd h (nI_pos (by omega))) (fun _ => ?_)
  refine And.intro (fun _ => ?_) (fun h => absurd (nI_lt hi hk) h)
  exact hQ
theorem j_check {i k : Nat} (hi : i < k) (hk : k < 2 ^ 31) (hQ : Q (.inl none, (os, bc, bs, op))) : mj_Mt gT cst gnw (m + 2) y_String_checkIndex [.int (nI i), .int (nI k)] (os, bc, bs, op) Q := by
  intro J hJ
  refine hJ _ _ _ _ ?_
  refine j_pcheck (v := .null) hi hk ?_
  exact hQ
theorem j_asb_charAt {f : Nat → Nat} {i : Nat} (hn : n ≤ N) (hN : N ≤ 65536) (hL : sb_Lat f n g) (hi : i < n) (hQ : Q (.inl (some (.int (nI (f i)))), (bO 1 ml n :: bB N g :: os, bc, bs, op))) : mj_Mt gT cst gnw (m + 3) y_AbstractStringBuilder_charAt [.ref 0, .int (nI i)] (bO 1 ml n :: bB N g :: os, bc, bs, op) Q := by
  obtain ⟨h1, h2⟩ := hL i hi
  obtain ⟨b1, b2, -⟩ := sb_byte _ h1
  have hc := (pk_charN (q := f i) (by omega)).1
  have em : (if (Int32.ofNat N >>> ((0 : Int32) &&& 31)) < nI n then (Int32.ofNat N >>> ((0 : Int32) &&& 31)) else nI n) = nI n := by
    rw [sb_shr0]
    exact if_neg (nI_nlt (a := N) (b := n) hn (by omega))
  intro J hJ
  refine hJ _ _ _ _ ?_
  have key : ∀ x : Int32, x = nI n → mj_Mt gT cst gnw (m + 2) y_String_checkIndex [.int (nI i), .int x] (bO 1 ml n :: bB N g :: os, bc, bs, op) (mj_after (mj_hd (mj_off kO_AbstractStringBuilder_charAt) kH_AbstractStringBuilder_charAt) Q (mj_sg (mj_Mt gT cst gnw (m + 2)) cst gnw (mj_hd (mj_off kO_AbstractStringBuilder_charAt) kH_AbstractStringBuilder_charAt) kC_AbstractStringBuilder_charAt J Q 383 false) 16 [some (.ref 0), some (.int (nI i)), some (.int 0), some (.ref 1), some (.int x)] []) := by
    rintro x rfl
    refine j_check hi (by omega) ?_
    refine And.intro (fun h => absurd rfl h) (fun _ => ?_)
    refine And.intro (vp_in_nI (by omega) (by omega)) ?_
    have ev : ((g (nI i).toNatClampNeg &&& Int32.ofInt 255).toUInt32 % 65536).toInt32 = nI (f i) := by
      rw [nI_clamp (by omega), h2, show Int32.ofInt 255 = 255 by decide, b1, b2]
    rw [← ev] at hc hQ
    exact And.intro hc hQ
  exact key _ em
theorem j_charAt {f : Nat → Nat} {i : Nat} (hn : n ≤ N) (hN : N ≤ 65536) (hL : sb_Lat f n g) (hi : i < n) (hQ : Q (.inl (some (.int (nI (f i)))), (bO 1 ml n :: bB N g :: os, bc, bs, op))) : mj_Mt gT cst gnw (m + 4) y_StringBuilder_charAt [.ref 0, .int (nI i)] (bO 1 ml n :: bB N g :: os, bc, bs, op) Q := by
  obtain ⟨h1, -⟩ := hL i hi
  intro J hJ
  refine hJ _ _ _ _ ?_
  refine j_asb_charAt hn hN hL hi ?_
  exact And.intro (pk_charN (q := f i) (by omega)).1 hQ
theorem j_asb_setLength (hn : n ≤ N) (hN : N ≤ 65536) (hf : sb_Fit g) (hQ : ∀ ml', Q (.inl none, ([bO 1 ml' 0, bB N g], bc + 1, bs, true))) : mj_Mt gT cst gnw (m + 4) y_AbstractStringBuilder_setLength [.ref 0, .int 0] ([bO 1 ml n, bB N g], bc + 1, bs, true) Q := by
  intro J hJ
  refine hJ _ _ _ _ ?_
  refine And.intro (fun _ => ?_) (fun h => absurd (by decide) h)
  refine j_ensure (q := 0) rfl (by omega) hN hf (by omega) (fun _ => ?_) (fun h => absurd h (by omega))
  refine And.intro (fun _ => ?_) (fun h9 => absurd (nI_pos' (by omega)) h9)
  refine And.intro (fun _ => ?_) (fun _ => ?_)
  · exact hQ ml
  · refine And.intro (Or.inr rfl) ?_
    exact hQ 1
theorem j_setLength (hn : n ≤ N) (hN : N ≤ 65536) (hf : sb_Fit g) (hQ : ∀ ml', Q (.inl none, ([bO 1 ml' 0, bB N g], bc + 1, bs, true))) : mj_Mt gT cst gnw (m + 5) y_StringBuilder_setLength [.ref 0, .int 0] ([bO 1 ml n, bB N g], bc + 1, bs, true) Q := by
  intro J hJ
  refine hJ _ _ _ _ ?_
  refine j_asb_setLength hn hN hf (fun ml' => ?_)
  exact hQ ml'
end J1
