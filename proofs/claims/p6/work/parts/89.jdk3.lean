section J3
variable {cst : Nat → Option (Nat × (Nat → Int32))} {m bc bs : Nat} {op : Bool} {Q : mj_R → Prop} {ml : Int32} {n N : Nat} {g : Nat → Int32} {os : List mj_O} {xs : List Int32}
set_option maxRecDepth 10000
theorem j_asb_appendC {c : Nat} (hc : c < 256) (hn : n ≤ N) (hN : N ≤ 65536) (hq : n + 1 ≤ 900) (hf : sb_Fit g) (hb : 2 * (n + 1) ≤ bs) (h1 : n + 1 ≤ N → Q (.inl (some (.ref 0)), ([bO 1 ml (n + 1), bB N (upd g n (sb_b c))], bc + 1, bs, true))) (h2 : N < n + 1 → sb_cap (n + 1) N ≤ 2 * (n + 1) → Q (.inl (some (.ref 0)), ([bO 2 ml (n + 1), bB N g, bB (sb_cap (n + 1) N) (upd (va_cpy g (fun _ => 0) 0 0 N) n (sb_b c))], bc, bs - sb_cap (n + 1) N, true))) : mj_Mt gT cst gnw (m + 4) y_AbstractStringBuilder_append_C [.ref 0, .int (nI c)] ([bO 1 ml n, bB N g], bc + 1, bs, true) Q := by
  have ec : (nI n).toNatClampNeg = n := nI_clamp (by omega)
  have ev : vp_nar .byte (nI c).toInt8.toInt32 = sb_b c := pk_vb (nI c)
  intro J hJ
  refine hJ _ _ _ _ ?_
  refine j_ensure (q := n + 1) (nI_1 n) hq hN hf hb (fun hl => ?_) (fun hl hk => ?_)
  · have hcg := sb_cap_ge (n + 1) N
    refine j_isLatin1 ?_
    refine And.intro (fun h => absurd h (by decide)) (fun _ => ?_)
    refine j_canEncodeC hc ?_
    refine And.intro (fun h => absurd h (by decide)) (fun _ => ?_)
    refine And.intro (vp_in_nI (by omega) (by omega)) ?_
    have key : ∀ (x : Int32) (i : Nat) (y : Int32), x = nI (n + 1) → i = n → y = sb_b c → Q (.inl (some (.ref 0)), ([.inr (.inl (9, [.ref 1, .int 0, .int ml, .int x])), bB N (upd g i y)], bc + 1, bs, true)) := by
      rintro x i y rfl rfl rfl
      exact h1 hl
    exact key _ _ _ (nI_1 n) ec ev
  · have hcg := sb_cap_ge (n + 1) N
    refine j_isLatin1 ?_
    refine And.intro (fun h => absurd h (by decide)) (fun _ => ?_)
    refine j_canEncodeC hc ?_
    refine And.intro (fun h => absurd h (by decide)) (fun _ => ?_)
    refine And.intro (vp_in_nI (by omega) (by omega)) ?_
    have key : ∀ (x : Int32) (i : Nat) (y : Int32), x = nI (n + 1) → i = n → y = sb_b c → Q (.inl (some (.ref 0)), ([.inr (.inl (9, [.ref 2, .int 0, .int ml, .int x])), bB N g, bB (sb_cap (n + 1) N) (upd (va_cpy g (fun _ => 0) 0 0 N) i y)], bc, bs - sb_cap (n + 1) N, true)) := by
      rintro x i y rfl rfl rfl
      exact h2 hl hk
    exact key _ _ _ (nI_1 n) ec ev
theorem j_appendC {c : Nat} (hc : c < 256) (hn : n ≤ N) (hN : N ≤ 65536) (hq : n + 1 ≤ 900) (hf : sb_Fit g) (hb : 2 * (n + 1) ≤ bs) (h1 : n + 1 ≤ N → Q (.inl (some (.ref 0)), ([bO 1 ml (n + 1), bB N (upd g n (sb_b c))], bc + 1, bs, true))) (h2 : N < n + 1 → sb_cap (n + 1) N ≤ 2 * (n + 1) → Q (.inl (some (.ref 0)), ([bO 2 ml (n + 1), bB N g, bB (sb_cap (n + 1) N) (upd (va_cpy g (fun _ => 0) 0 0 N) n (sb_b c))], bc, bs - sb_cap (n + 1) N, true))) : mj_Mt gT cst gnw (m + 5) y_StringBuilder_append_C [.ref 0, .int (nI c)] ([bO 1 ml n, bB N g], bc + 1, bs, true) Q := by
  intro J hJ
  refine hJ _ _ _ _ ?_
  refine j_asb_appendC hc hn hN hq hf hb (fun hl => ?_) (fun hl hk => ?_)
  · exact h1 hl
  · exact h2 hl hk
theorem j_asb_appendI {x : Int32} (hn : n ≤ N) (hN : N ≤ 65536) (hq : n + isz x ≤ 900) (hf : sb_Fit g) (hb : 2 * (n + isz x) ≤ bs) (h1 : n + isz x ≤ N → ∀ g', (∀ j, j < n → g' j = g j) → (∀ i, i < isz x → g' (n + i) = sb_b (ich x i)) → sb_Fit g' → Q (.inl (some (.ref 0)), ([bO 1 ml (n + isz x), bB N g'], bc + 1, bs, true))) (h2 : N < n + isz x → sb_cap (n + isz x) N ≤ 2 * (n + isz x) → ∀ g', (∀ j, j < n → g' j = g j) → (∀ i, i < isz x → g' (n + i) = sb_b (ich x i)) → sb_Fit g' → Q (.inl (some (.ref 0)), ([bO 2 ml (n + isz x), bB N g, bB (sb_cap (n + isz x) N) g'], bc, bs - sb_cap (n + isz x) N, true))) : mj_Mt gT (law_cst xs) gnw (m + 4) y_AbstractStringBuilder_append_I [.ref 0, .int x] ([bO 1 ml n, bB N g], bc + 1, bs, true) Q := by
  have hsz := isz_in x
  have ea : nI n + nI (isz x) = nI (n + isz x) := nI_add n (isz x)
  intro J hJ
  refine hJ _ _ _ _ ?_
  refine j_stringSize ?_
  refine j_ensure (q := n + isz x) ea hq hN hf hb (fun hl => ?_) (fun hl hk => ?_)
  · have hcg := sb_cap_ge (n + isz x) N
    refine j_isLatin1 ?_
    refine And.intro (fun h => absurd h (by decide)) (fun _ => ?_)
    refine j_getChars1 (n0 := n) (p := n + isz x) ea (by omega) rfl (by omega) (fun g' q1 q2 q3 => ?_)
    have key : ∀ (z : Int32), z = nI (n + isz x) → Q (.inl (some (.ref 0)), ([.inr (.inl (9, [.ref 1, .int 0, .int ml, .int z])), bB N g'], bc + 1, bs, true)) := by
      rintro z rfl
      refine h1 hl g' (fun j hj => ?_) q2 (q3 hf)
      rw [q1 j (Or.inl hj)]
    exact key _ ea
  · have hcg := sb_cap_ge (n + isz x) N
    refine j_isLatin1 ?_
    refine And.intro (fun h => absurd h (by decide)) (fun _ => ?_)
    refine j_getChars2 (n0 := n) (p := n + isz x) ea (by omega) rfl (by omega) (fun g' q1 q2 q3 => ?_)
    have key : ∀ (z : Int32), z = nI (n + isz x) → Q (.inl (some (.ref 0)), ([.inr (.inl (9, [.ref 2, .int 0, .int ml, .int z])), bB N g, bB (sb_cap (n + isz x) N) g'], bc, bs - sb_cap (n + isz x) N, true)) := by
      rintro z rfl
      refine h2 hl hk g' (fun j hj => ?_) q2 (q3 (sb_fitC hf sb_fit0))
      rw [q1 j (Or.inl hj), sb_cpy0 (by omega)]
    exact key _ ea
theorem j_appendI {x : Int32} (hn : n ≤ N) (hN : N ≤ 65536) (hq : n + isz x ≤ 900) (hf : sb_Fit g) (hb : 2 * (n + isz x) ≤ bs) (h1 : n + isz x ≤ N → ∀ g', (∀ j, j < n → g' j = g j) → (∀ i, i < isz x → g' (n + i) = sb_b (ich x i)) → sb_Fit g' → Q (.inl (some (.ref 0)), ([bO 1 ml (n + isz x), bB N g'], bc + 1, bs, true))) (h2 : N < n + isz x → sb_cap (n + isz x) N ≤ 2 * (n + isz x) → ∀ g', (∀ j, j < n → g' j = g j) → (∀ i, i < isz x → g' (n + i) = sb_b (ich x i)) → sb_Fit g' → Q (.inl (some (.ref 0)), ([bO 2 ml (n + isz x), bB N g, bB (sb_cap (n + isz x) N) g'], bc, bs - sb_cap (n + isz x) N, true))) : mj_Mt gT (law_cst xs) gnw (m + 5) y_StringBuilder_append_I [.ref 0, .int x] ([bO 1 ml n, bB N g], bc + 1, bs, true) Q := by
  intro J hJ
  refine hJ _ _ _ _ ?_
  refine j_asb_appendI hn hN hq hf hb (fun hl g' q1 q2 q3 => ?_) (fun hl hk g' q1 q2 q3 => ?_)
  · exact h1 hl g' q1 q2 q3
  · exact h2 hl hk g' q1 q2 q3
def stx2010 : Nat → Nat := fun i => ([32, 46, 32] : List Nat).getD i 0
theorem j_lat2010 : ∀ i, i < 3 → stx2010 i < 256 ∧ law_s2010.getD i 0 = sb_b (stx2010 i) := by decide +kernel
theorem j_fit2010 : sb_Fit (fun j => law_s2010.getD j 0) := fun j => by
  match j with
  | 0 => decide
  | 1 => decide
  | 2 => decide
  | j + 3 => exact (by decide : fits .byte (.int 0) = true)
theorem j_coder2010 (hQ : Q (.inl (some (.int 0)), (os, bc, bs, op))) : mj_Mt gT (law_cst xs) gnw (m + 1) y_String_coder [.ref 2010] (os, bc, bs, op) Q := by
  intro J hJ
  refine hJ _ _ _ _ ?_
  refine And.intro (fun h => absurd h (by decide)) (fun _ => ?_)
  exact And.intro (by decide) hQ
theorem j_slen2010 (hQ : Q (.inl (some (.int (nI 3))), (os, bc, bs, op))) : mj_Mt gT (law_cst xs) gnw (m + 2) y_String_length [.ref 2010] (os, bc, bs, op) Q := by
  intro J hJ
  refine hJ _ _ _ _ ?_
  refine j_coder2010 ?_
  rw [← sb_shr0 (nI 3)] at hQ
  exact hQ
theorem j_infl2010 {j : Nat} (hQ : Q (.inl none, (bO j ml n :: os, bc, bs, op))) : mj_Mt gT (law_cst xs) gnw (m + 2) y_AbstractStringBuilder_inflateIfNeededFor [.ref 0, .ref 2010] (bO j ml n :: os, bc, bs, op) Q := by
  intro J hJ
  refine hJ _ _ _ _ ?_
  refine And.intro (fun h => absurd h (by decide)) (fun _ => ?_)
  refine j_coder2010 ?_
  refine And.intro (fun _ => ?_) (fun h => absurd rfl h)
  exact hQ
theorem j_gb2010_1 (h : n + 3 ≤ N) (hN : N ≤ 65536) (hQ : Q (.inl none, ([bO 1 ml n, bB N (va_cpy (fun j => law_s2010.getD j 0) g 0 n 3)], bc, bs, op))) : mj_Mt gT (law_cst xs) gnw (m + 2) y_String_getBytes [.ref 2010, .ref 1, .int (nI n), .int 0] ([bO 1 ml n, bB N g], bc, bs, op) Q := by
  have e1 : (nI n <<< ((0 : Int32) &&& 31)).toNatClampNeg = n := by rw [sb_shl0]; exact nI_clamp (by omega)
  have e2 : (Int32.ofNat 3).toNatClampNeg = 3 := by decide
  have e0 : (Int32.ofInt 0).toNatClampNeg = 0 := by decide
  intro J hJ
  refine hJ _ _ _ _ ?_
  refine j_coder2010 ?_
  refine And.intro (fun h => absurd rfl h) (fun _ => ?_)
  refine And.intro (by decide) (And.intro (by decide) (And.intro (by decide) (And.intro (by rw [sb_shl0]; exact nI_pos (by omega)) (And.intro (by decide) (And.intro (by decide) (And.intro (by rw [e1, e2]; omega) (And.intro j_fit2010 ?_)))))))
  have key : ∀ (a b c : Nat), a = 0 → b = n → c = 3 → Q (.inl none, ([bO 1 ml n, bB N (va_cpy (fun j => law_s2010.getD j 0) g a b c)], bc, bs, op)) := by
    rintro a b c rfl rfl rfl
    exact hQ
  exact key _ _ _ e0 e1 e2
theorem j_pa2010_1 (h : n + 3 ≤ N) (hN : N ≤ 65536) (hQ : Q (.inl none, ([bO 1 ml n, bB N (va_cpy (fun j => law_s2010.getD j 0) g 0 n 3)], bc, bs, op))) : mj_Mt gT (law_cst xs) gnw (m + 3) y_AbstractStringBuilder_putStringAt [.ref 0, .int (nI n), .ref 2010] ([bO 1 ml n, bB N g], bc, bs, op) Q := by
  intro J hJ
  refine hJ _ _ _ _ ?_
  refine j_infl2010 ?_
  refine j_gb2010_1 h hN ?_
  exact hQ
theorem j_gb2010_2 {o1 : mj_O} (h : n + 3 ≤ N) (hN : N ≤ 65536) (hQ : Q (.inl none, ([bO 2 ml n, o1, bB N (va_cpy (fun j => law_s2010.getD j 0) g 0 n 3)], bc, bs, op))) : mj_Mt gT (law_cst xs) gnw (m + 2) y_String_getBytes [.ref 2010, .ref 2, .int (nI n), .int 0] ([bO 2 ml n, o1, bB N g], bc, bs, op) Q := by
  have e1 : (nI n <<< ((0 : Int32) &&& 31)).toNatClampNeg = n := by rw [sb_shl0]; exact nI_clamp (by omega)
  have e2 : (Int32.ofNat 3).toNatClampNeg = 3 := by decide
  have e0 : (Int32.ofInt 0).toNatClampNeg = 0 := by decide
  intro J hJ
  refine hJ _ _ _ _ ?_
  refine j_coder2010 ?_
  refine And.intro (fun h => absurd rfl h) (fun _ => ?_)
  refine And.intro (by decide) (And.intro (by decide) (And.intro (by decide) (And.intro (by rw [sb_shl0]; exact nI_pos (by omega)) (And.intro (by decide) (And.intro (by decide) (And.intro (by rw [e1, e2]; omega) (And.intro j_fit2010 ?_)))))))
  have key : ∀ (a b c : Nat), a = 0 → b = n → c = 3 → Q (.inl none, ([bO 2 ml n, o1, bB N (va_cpy (fun j => law_s2010.getD j 0) g a b c)], bc, bs, op)) := by
    rintro a b c rfl rfl rfl
    exact hQ
  exact key _ _ _ e0 e1 e2
theorem j_pa2010_2 {o1 : mj_O} (h : n + 3 ≤ N) (hN : N ≤ 65536) (hQ : Q (.inl none, ([bO 2 ml n, o1, bB N (va_cpy (fun j => law_s2010.getD j 0) g 0 n 3)], bc, bs, op))) : mj_Mt gT (law_cst xs) gnw (m + 3) y_AbstractStringBuilder_putStringAt [.ref 0, .int (nI n), .ref 2010] ([bO 2 ml n, o1, bB N g], bc, bs, op) Q := by
  intro J hJ
  refine hJ _ _ _ _ ?_
  refine j_infl2010 ?_
  refine j_gb2010_2 h hN ?_
  exact hQ
theorem j_asb_appendS2010 (hn : n ≤ N) (hN : N ≤ 65536) (hq : n + 3 ≤ 900) (hf : sb_Fit g) (hb : 2 * (n + 3) ≤ bs) (h1 : n + 3 ≤ N → Q (.inl (some (.ref 0)), ([bO 1 ml (n + 3), bB N (va_cpy (fun j => law_s2010.getD j 0) g 0 n 3)], bc + 1, bs, true))) (h2 : N < n + 3 → sb_cap (n + 3) N ≤ 2 * (n + 3) → Q (.inl (some (.ref 0)), ([bO 2 ml (n + 3), bB N g, bB (sb_cap (n + 3) N) (va_cpy (fun j => law_s2010.getD j 0) (va_cpy g (fun _ => 0) 0 0 N) 0 n 3)], bc, bs - sb_cap (n + 3) N, true))) : mj_Mt gT (law_cst xs) gnw (m + 4) y_AbstractStringBuilder_append_S [.ref 0, .ref 2010] ([bO 1 ml n, bB N g], bc + 1, bs, true) Q := by
  have ea : nI n + nI 3 = nI (n + 3) := nI_add n 3
  intro J hJ
  refine hJ _ _ _ _ ?_
  refine j_slen2010 ?_
  refine j_ensure (q := n + 3) ea hq hN hf hb (fun hl => ?_) (fun hl hk => ?_)
  · have hcg := sb_cap_ge (n + 3) N
    refine j_pa2010_1 (by omega) (by omega) ?_
    have key : ∀ (z : Int32), z = nI (n + 3) → Q (.inl (some (.ref 0)), ([.inr (.inl (9, [.ref 1, .int 0, .int ml, .int z])), bB N (va_cpy (fun j => law_s2010.getD j 0) g 0 n 3)], bc + 1, bs, true)) := by
      rintro z rfl
      exact h1 hl
    exact key _ ea
  · have hcg := sb_cap_ge (n + 3) N
    refine j_pa2010_2 (by omega) (by omega) ?_
    have key : ∀ (z : Int32), z = nI (n + 3) → Q (.inl (some (.ref 0)), ([.inr (.inl (9, [.ref 2, .int 0, .int ml, .int z])), bB N g, bB (sb_cap (n + 3) N) (va_cpy (fun j => law_s2010.getD j 0) (va_cpy g (fun _ => 0) 0 0 N) 0 n 3)], bc, bs - sb_cap (n + 3) N, true)) := by
      rintro z rfl
      exact h2 hl hk
    exact key _ ea
theorem j_appendS2010 (hn : n ≤ N) (hN : N ≤ 65536) (hq : n + 3 ≤ 900) (hf : sb_Fit g) (hb : 2 * (n + 3) ≤ bs) (h1 : n + 3 ≤ N → Q (.inl (some (.ref 0)), ([bO 1 ml (n + 3), bB N (va_cpy (fun j => law_s2010.getD j 0) g 0 n 3)], bc + 1, bs, true))) (h2 : N < n + 3 → sb_cap (n + 3) N ≤ 2 * (n + 3) → Q (.inl (some (.ref 0)), ([bO 2 ml (n + 3), bB N g, bB (sb_cap (n + 3) N) (va_cpy (fun j => law_s2010.getD j 0) (va_cpy g (fun _ => 0) 0 0 N) 0 n 3)], bc, bs - sb_cap (n + 3) N, true))) : mj_Mt gT (law_cst xs) gnw (m + 5) y_StringBuilder_append_S [.ref 0, .ref 2010] ([bO 1 ml n, bB N g], bc + 1, bs, true) Q := by
  intro J hJ
  refine hJ _ _ _ _ ?_
  refine j_asb_appendS2010 hn hN hq hf hb (fun hl => ?_) (fun hl hk => ?_)
  · exact h1 hl
  · exact h2 hl hk
def stx2011 : Nat → Nat := fun i => ([40, 41] : List Nat).getD i 0
theorem j_lat2011 : ∀ i, i < 2 → stx2011 i < 256 ∧ law_s2011.getD i 0 = sb_b (stx2011 i) := by decide +kernel
theorem j_fit2011 : sb_Fit (fun j => law_s2011.getD j 0) := fun j => by
  match j with
  | 0 => decide
  | 1 => decide
  | j + 2 => exact (by decide : fits .byte (.int 0) = true)
theorem j_coder2011 (hQ : Q (.inl (some (.int 0)), (os, bc, bs, op))) : mj_Mt gT (law_cst xs) gnw (m + 1) y_String_coder [.ref 2011] (os, bc, bs, op) Q := by
  intro J hJ
  refine hJ _ _ _ _ ?_
  refine And.intro (fun h => absurd h (by decide)) (fun _ => ?_)
  exact And.intro (by decide) hQ
theorem j_slen2011 (hQ : Q (.inl (some (.int (nI 2))), (os, bc, bs, op))) : mj_Mt gT (law_cst xs) gnw (m + 2) y_String_length [.ref 2011] (os, bc, bs, op) Q := by
  intro J hJ
  refine hJ _ _ _ _ ?_
  refine j_coder2011 ?_
  rw [← sb_shr0 (nI 2)] at hQ
  exact hQ
theorem j_infl2011 {j : Nat} (hQ : Q (.inl none, (bO j ml n :: os, bc, bs, op))) : mj_Mt gT (law_cst xs) gnw (m + 2) y_AbstractStringBuilder_inflateIfNeededFor [.ref 0, .ref 2011] (bO j ml n :: os, bc, bs, op) Q := by
  intro J hJ
  refine hJ _ _ _ _ ?_
  refine And.intro (fun h => absurd h (by decide)) (fun _ => ?_)
  refine j_coder2011 ?_
  refine And.intro (fun _ => ?_) (fun h => absurd rfl h)
  exact hQ
theorem j_gb2011_1 (h : n + 2 ≤ N) (hN : N ≤ 65536) (hQ : Q (.inl none, ([bO 1 ml n, bB N (va_cpy (fun j => law_s2011.getD j 0) g 0 n 2)], bc, bs, op))) : mj_Mt gT (law_cst xs) gnw (m + 2) y_String_getBytes [.ref 2011, .ref 1, .int (nI n), .int 0] ([bO 1 ml n, bB N g], bc, bs, op) Q := by
  have e1 : (nI n <<< ((0 : Int32) &&& 31)).toNatClampNeg = n := by rw [sb_shl0]; exact nI_clamp (by omega)
  have e2 : (Int32.ofNat 2).toNatClampNeg = 2 := by decide
  have e0 : (Int32.ofInt 0).toNatClampNeg = 0 := by decide
  intro J hJ
  refine hJ _ _ _ _ ?_
  refine j_coder2011 ?_
  refine And.intro (fun h => absurd rfl h) (fun _ => ?_)
  refine And.intro (by decide) (And.intro (by decide) (And.intro (by decide) (And.intro (by rw [sb_shl0]; exact nI_pos (by omega)) (And.intro (by decide) (And.intro (by decide) (And.intro (by rw [e1, e2]; omega) (And.intro j_fit2011 ?_)))))))
  have key : ∀ (a b c : Nat), a = 0 → b = n → c = 2 → Q (.inl none, ([bO 1 ml n, bB N (va_cpy (fun j => law_s2011.getD j 0) g a b c)], bc, bs, op)) := by
    rintro a b c rfl rfl rfl
    exact hQ
  exact key _ _ _ e0 e1 e2
theorem j_pa2011_1 (h : n + 2 ≤ N) (hN : N ≤ 65536) (hQ : Q (.inl none, ([bO 1 ml n, bB N (va_cpy (fun j => law_s2011.getD j 0) g 0 n 2)], bc, bs, op))) : mj_Mt gT (law_cst xs) gnw (m + 3) y_AbstractStringBuilder_putStringAt [.ref 0, .int (nI n), .ref 2011] ([bO 1 ml n, bB N g], bc, bs, op) Q := by
  intro J hJ
  refine hJ _ _ _ _ ?_
  refine j_infl2011 ?_
  refine j_gb2011_1 h hN ?_
  exact hQ
theorem j_gb2011_2 {o1 : mj_O} (h : n + 2 ≤ N) (hN : N ≤ 65536) (hQ : Q (.inl none, ([bO 2 ml n, o1, bB N (va_cpy (fun j => law_s2011.getD j 0) g 0 n 2)], bc, bs, op))) : mj_Mt gT (law_cst xs) gnw (m + 2) y_String_getBytes [.ref 2011, .ref 2, .int (nI n), .int 0] ([bO 2 ml n, o1, bB N g], bc, bs, op) Q := by
  have e1 : (nI n <<< ((0 : Int32) &&& 31)).toNatClampNeg = n := by rw [sb_shl0]; exact nI_clamp (by omega)
  have e2 : (Int32.ofNat 2).toNatClampNeg = 2 := by decide
  have e0 : (Int32.ofInt 0).toNatClampNeg = 0 := by decide
  intro J hJ
  refine hJ _ _ _ _ ?_
  refine j_coder2011 ?_
  refine And.intro (fun h => absurd rfl h) (fun _ => ?_)
  refine And.intro (by decide) (And.intro (by decide) (And.intro (by decide) (And.intro (by rw [sb_shl0]; exact nI_pos (by omega)) (And.intro (by decide) (And.intro (by decide) (And.intro (by rw [e1, e2]; omega) (And.intro j_fit2011 ?_)))))))
  have key : ∀ (a b c : Nat), a = 0 → b = n → c = 2 → Q (.inl none, ([bO 2 ml n, o1, bB N (va_cpy (fun j => law_s2011.getD j 0) g a b c)], bc, bs, op)) := by
    rintro a b c rfl rfl rfl
    exact hQ
  exact key _ _ _ e0 e1 e2
theorem j_pa2011_2 {o1 : mj_O} (h : n + 2 ≤ N) (hN : N ≤ 65536) (hQ : Q (.inl none, ([bO 2 ml n, o1, bB N (va_cpy (fun j => law_s2011.getD j 0) g 0 n 2)], bc, bs, op))) : mj_Mt gT (law_cst xs) gnw (m + 3) y_AbstractStringBuilder_putStringAt [.ref 0, .int (nI n), .ref 2011] ([bO 2 ml n, o1, bB N g], bc, bs, op) Q := by
  intro J hJ
  refine hJ _ _ _ _ ?_
  refine j_infl2011 ?_
  refine j_gb2011_2 h hN ?_
  exact hQ
theorem j_asb_appendS2011 (hn : n ≤ N) (hN : N ≤ 65536) (hq : n + 2 ≤ 900) (hf : sb_Fit g) (hb : 2 * (n + 2) ≤ bs) (h1 : n + 2 ≤ N → Q (.inl (some (.ref 0)), ([bO 1 ml (n + 2), bB N (va_cpy (fun j => law_s2011.getD j 0) g 0 n 2)], bc + 1, bs, true))) (h2 : N < n + 2 → sb_cap (n + 2) N ≤ 2 * (n + 2) → Q (.inl (some (.ref 0)), ([bO 2 ml (n + 2), bB N g, bB (sb_cap (n + 2) N) (va_cpy (fun j => law_s2011.getD j 0) (va_cpy g (fun _ => 0) 0 0 N) 0 n 2)], bc, bs - sb_cap (n + 2) N, true))) : mj_Mt gT (law_cst xs) gnw (m + 4) y_AbstractStringBuilder_append_S [.ref 0, .ref 2011] ([bO 1 ml n, bB N g], bc + 1, bs, true) Q := by
  have ea : nI n + nI 2 = nI (n + 2) := nI_add n 2
  intro J hJ
  refine hJ _ _ _ _ ?_
  refine j_slen2011 ?_
  refine j_ensure (q := n + 2) ea hq hN hf hb (fun hl => ?_) (fun hl hk => ?_)
  · have hcg := sb_cap_ge (n + 2) N
    refine j_pa2011_1 (by omega) (by omega) ?_
    have key : ∀ (z : Int32), z = nI (n + 2) → Q (.inl (some (.ref 0)), ([.inr (.inl (9, [.ref 1, .int 0, .int ml, .int z])), bB N (va_cpy (fun j => law_s2011.getD j 0) g 0 n 2)], bc + 1, bs, true)) := by
      rintro z rfl
      exact h1 hl
    exact key _ ea
  · have hcg := sb_cap_ge (n + 2) N
    refine j_pa2011_2 (by omega) (by omega) ?_
    have key : ∀ (z : Int32), z = nI (n + 2) → Q (.inl (some (.ref 0)), ([.inr (.inl (9, [.ref 2, .int 0, .int ml, .int z])), bB N g, bB (sb_cap (n + 2) N) (va_cpy (fun j => law_s2011.getD j 0) (va_cpy g (fun _ => 0) 0 0 N) 0 n 2)], bc, bs - sb_cap (n + 2) N, true)) := by
      rintro z rfl
      exact h2 hl hk
    exact key _ ea
theorem j_appendS2011 (hn : n ≤ N) (hN : N ≤ 65536) (hq : n + 2 ≤ 900) (hf : sb_Fit g) (hb : 2 * (n + 2) ≤ bs) (h1 : n + 2 ≤ N → Q (.inl (some (.ref 0)), ([bO 1 ml (n + 2), bB N (va_cpy (fun j => law_s2011.getD j 0) g 0 n 2)], bc + 1, bs, true))) (h2 : N < n + 2 → sb_cap (n + 2) N ≤ 2 * (n + 2) → Q (.inl (some (.ref 0)), ([bO 2 ml (n + 2), bB N g, bB (sb_cap (n + 2) N) (va_cpy (fun j => law_s2011.getD j 0) (va_cpy g (fun _ => 0) 0 0 N) 0 n 2)], bc, bs - sb_cap (n + 2) N, true))) : mj_Mt gT (law_cst xs) gnw (m + 5) y_StringBuilder_append_S [.ref 0, .ref 2011] ([bO 1 ml n, bB N g], bc + 1, bs, true) Q := by
  intro J hJ
  refine hJ _ _ _ _ ?_
  refine j_asb_appendS2011 hn hN hq hf hb (fun hl => ?_) (fun hl hk => ?_)
  · exact h1 hl
  · exact h2 hl hk
variable {k : Nat → mj_L → List Value → mj_H → Prop} {pc : Nat} {ls : mj_L} {r : List Value} {osx : List mj_O} {a : Nat} {opx : Bool} {f : Nat → Nat}
theorem x_length (hk : k (pc + 1) ls (.int (nI n) :: r) ((mj_stn osx a (.inr (.inr (.inl (n, f))))), bc + 1, bs, false)) : ∀ (ml : Int32) (N : Nat) (g : Nat → Int32), n ≤ N → N ≤ 65536 → sb_Lat f n g → sb_Fit g → mj_Mt gT cst gnw (m + 2) y_StringBuilder_length (.ref 0 :: []) ([.inr (.inl (9, [.ref 1, .int 0, .int ml, .int (nI n)])), .inl (4, N, .inl g)], bc + 1, bs, true) (mj_bp k pc ls r (osx, bc + 1, bs, opx) a) := by
  intro ml N g hn hN hL hf
  refine j_length ?_
  refine Exists.intro 1 (Exists.intro N (Exists.intro g (Exists.intro n (Exists.intro f (Exists.intro ml (And.intro rfl (And.intro rfl (And.intro (by decide) (And.intro (by omega) (And.intro (by omega) (And.intro ?_ (And.intro ?_ ?_))))))))))))
  · exact hL
  · exact hf
  · exact hk
theorem x_charAt {i : Nat} (hi : i < n) (hk : k (pc + 1) ls (.int (nI (f i)) :: r) ((mj_stn osx a (.inr (.inr (.inl (n, f))))), bc + 1, bs, false)) : ∀ (ml : Int32) (N : Nat) (g : Nat → Int32), n ≤ N → N ≤ 65536 → sb_Lat f n g → sb_Fit g → mj_Mt gT cst gnw (m + 4) y_StringBuilder_charAt (.ref 0 :: [.int (nI i)]) ([.inr (.inl (9, [.ref 1, .int 0, .int ml, .int (nI n)])), .inl (4, N, .inl g)], bc + 1, bs, true) (mj_bp k pc ls r (osx, bc + 1, bs, opx) a) := by
  intro ml N g hn hN hL hf
  refine j_charAt hn hN hL hi ?_
  refine Exists.intro 1 (Exists.intro N (Exists.intro g (Exists.intro n (Exists.intro f (Exists.intro ml (And.intro rfl (And.intro rfl (And.intro (by decide) (And.intro (by omega) (And.intro (by omega) (And.intro ?_ (And.intro ?_ ?_))))))))))))
  · exact hL
  · exact hf
  · exact hk
theorem x_setLength (hk : ∀ f', k (pc + 1) ls r ((mj_stn osx a (.inr (.inr (.inl (0, f'))))), bc + 1, bs, false)) : ∀ (ml : Int32) (N : Nat) (g : Nat → Int32), n ≤ N → N ≤ 65536 → sb_Lat f n g → sb_Fit g → mj_Mt gT cst gnw (m + 5) y_StringBuilder_setLength (.ref 0 :: [.int 0]) ([.inr (.inl (9, [.ref 1, .int 0, .int ml, .int (nI n)])), .inl (4, N, .inl g)], bc + 1, bs, true) (mj_bp k pc ls r (osx, bc + 1, bs, opx) a) := by
  intro ml N g hn hN hL hf
  refine j_setLength hn hN hf (fun ml' => ?_)
  refine Exists.intro 1 (Exists.intro N (Exists.intro g (Exists.intro 0 (Exists.intro f (Exists.intro ml' (And.intro rfl (And.intro rfl (And.intro (by decide) (And.intro (by omega) (And.intro (by omega) (And.intro ?_ (And.intro ?_ ?_))))))))))))
  · exact fun j hj => absurd hj (by omega)
  · exact hf
  · exact hk f
theorem x_appendC {c : Nat} {y : Int32} (hy : y = nI c) (hc : c < 256) (hq : n + 1 ≤ 900) (hb : 2 * (n + 1) ≤ bs) (hk : ∀ b0 b1, bc ≤ b0 → bs ≤ b1 + 2 * (n + 1) → k (pc + 1) ls (.ref a :: r) ((mj_stn osx a (.inr (.inr (.inl (n + 1, sb_cat f n (fun _ => c)))))), b0, b1, false)) : ∀ (ml : Int32) (N : Nat) (g : Nat → Int32), n ≤ N → N ≤ 65536 → sb_Lat f n g → sb_Fit g → mj_Mt gT cst gnw (m + 5) y_StringBuilder_append_C (.ref 0 :: [.int y]) ([.inr (.inl (9, [.ref 1, .int 0, .int ml, .int (nI n)])), .inl (4, N, .inl g)], bc + 1, bs, true) (mj_bp k pc ls r (osx, bc + 1, bs, opx) a) := by
  subst hy
  intro ml N g hn hN hL hf
  refine j_appendC hc hn hN hq hf hb (fun hl => ?_) (fun hl h9 => ?_)
  · refine Exists.intro 1 (Exists.intro N (Exists.intro (upd g n (sb_b c)) (Exists.intro (n + 1) (Exists.intro (sb_cat f n (fun _ => c)) (Exists.intro ml (And.intro rfl (And.intro rfl (And.intro (by decide) (And.intro (by omega) (And.intro (by omega) (And.intro ?_ (And.intro ?_ ?_))))))))))))
    · refine sb_latPut hL (fun j hj => pk_un (by omega)) (fun i hi => ?_)
      obtain rfl : i = 0 := by omega
      exact ⟨hc, pk_us⟩
    · exact sb_fitU hf (sb_fitB _)
    · exact hk _ _ (by omega) (by omega)
  · have hcg := sb_cap_ge (n + 1) N
    refine Exists.intro 2 (Exists.intro (sb_cap (n + 1) N) (Exists.intro (upd (va_cpy g (fun _ => 0) 0 0 N) n (sb_b c)) (Exists.intro (n + 1) (Exists.intro (sb_cat f n (fun _ => c)) (Exists.intro ml (And.intro rfl (And.intro rfl (And.intro (by decide) (And.intro (by omega) (And.intro (by omega) (And.intro ?_ (And.intro ?_ ?_))))))))))))
    · refine sb_latPut hL (fun j hj => by rw [pk_un (by omega), sb_cpy0 (by omega)]) (fun i hi => ?_)
      obtain rfl : i = 0 := by omega
      exact ⟨hc, pk_us⟩
    · exact sb_fitU (sb_fitC hf sb_fit0) (sb_fitB _)
    · exact hk _ _ (by omega) (by omega)
theorem ich_lt (x : Int32) (i : Nat) : ich x i < 256 := by
  unfold ich sb_dec
  split
  · split
    · decide
    · omega
  · omega
theorem x_appendI {x : Int32} (hq : n + isz x ≤ 900) (hb : 2 * (n + isz x) ≤ bs) (hk : ∀ b0 b1, bc ≤ b0 → bs ≤ b1 + 2 * (n + isz x) → k (pc + 1) ls (.ref a :: r) ((mj_stn osx a (.inr (.inr (.inl (n + isz x, sb_cat f n (ich x)))))), b0, b1, false)) : ∀ (ml : Int32) (N : Nat) (g : Nat → Int32), n ≤ N → N ≤ 65536 → sb_Lat f n g → sb_Fit g → mj_Mt gT (law_cst xs) gnw (m + 5) y_StringBuilder_append_I (.ref 0 :: [.int x]) ([.inr (.inl (9, [.ref 1, .int 0, .int ml, .int (nI n)])), .inl (4, N, .inl g)], bc + 1, bs, true) (mj_bp k pc ls r (osx, bc + 1, bs, opx) a) := by
  intro ml N g hn hN hL hf
  refine j_appendI hn hN hq hf hb (fun hl g' q1 q2 q3 => ?_) (fun hl h9 g' q1 q2 q3 => ?_)
  · refine Exists.intro 1 (Exists.intro N (Exists.intro g' (Exists.intro (n + isz x) (Exists.intro (sb_cat f n (ich x)) (Exists.intro ml (And.intro rfl (And.intro rfl (And.intro (by decide) (And.intro (by omega) (And.intro (by omega) (And.intro ?_ (And.intro ?_ ?_))))))))))))
    · exact sb_latPut hL q1 (fun i hi => ⟨ich_lt x i, q2 i hi⟩)
    · exact q3
    · exact hk _ _ (by omega) (by omega)
  · have hcg := sb_cap_ge (n + isz x) N
    refine Exists.intro 2 (Exists.intro (sb_cap (n + isz x) N) (Exists.intro g' (Exists.intro (n + isz x) (Exists.intro (sb_cat f n (ich x)) (Exists.intro ml (And.intro rfl (And.intro rfl (And.intro (by decide) (And.intro (by omega) (And.intro (by omega) (And.intro ?_ (And.intro ?_ ?_))))))))))))
    · exact sb_latPut hL q1 (fun i hi => ⟨ich_lt x i, q2 i hi⟩)
    · exact q3
    · exact hk _ _ (by omega) (by omega)
theorem x_appendS2010 (hq : n + 3 ≤ 900) (hb : 2 * (n + 3) ≤ bs) (hk : ∀ b0 b1, bc ≤ b0 → bs ≤ b1 + 2 * (n + 3) → k (pc + 1) ls (.ref a :: r) ((mj_stn osx a (.inr (.inr (.inl (n + 3, sb_cat f n stx2010))))), b0, b1, false)) : ∀ (ml : Int32) (N : Nat) (g : Nat → Int32), n ≤ N → N ≤ 65536 → sb_Lat f n g → sb_Fit g → mj_Mt gT (law_cst xs) gnw (m + 5) y_StringBuilder_append_S (.ref 0 :: [.ref 2010]) ([.inr (.inl (9, [.ref 1, .int 0, .int ml, .int (nI n)])), .inl (4, N, .inl g)], bc + 1, bs, true) (mj_bp k pc ls r (osx, bc + 1, bs, opx) a) := by
  intro ml N g hn hN hL hf
  refine j_appendS2010 hn hN hq hf hb (fun hl => ?_) (fun hl h9 => ?_)
  · refine Exists.intro 1 (Exists.intro N (Exists.intro (va_cpy (fun j => law_s2010.getD j 0) g 0 n 3) (Exists.intro (n + 3) (Exists.intro (sb_cat f n stx2010) (Exists.intro ml (And.intro rfl (And.intro rfl (And.intro (by decide) (And.intro (by omega) (And.intro (by omega) (And.intro ?_ (And.intro ?_ ?_))))))))))))
    · refine sb_latPut hL (fun j hj => pk_cpy_out (Or.inl hj)) (fun i hi => ⟨(j_lat2010 i hi).1, ?_⟩)
      rw [pk_cpy_in (by omega) (by omega), show 0 + (n + i - n) = i by omega]
      exact (j_lat2010 i hi).2
    · exact sb_fitC j_fit2010 hf
    · exact hk _ _ (by omega) (by omega)
  · have hcg := sb_cap_ge (n + 3) N
    refine Exists.intro 2 (Exists.intro (sb_cap (n + 3) N) (Exists.intro (va_cpy (fun j => law_s2010.getD j 0) (va_cpy g (fun _ => 0) 0 0 N) 0 n 3) (Exists.intro (n + 3) (Exists.intro (sb_cat f n stx2010) (Exists.intro ml (And.intro rfl (And.intro rfl (And.intro (by decide) (And.intro (by omega) (And.intro (by omega) (And.intro ?_ (And.intro ?_ ?_))))))))))))
    · refine sb_latPut hL (fun j hj => by rw [pk_cpy_out (Or.inl hj), sb_cpy0 (by omega)]) (fun i hi => ⟨(j_lat2010 i hi).1, ?_⟩)
      rw [pk_cpy_in (by omega) (by omega), show 0 + (n + i - n) = i by omega]
      exact (j_lat2010 i hi).2
    · exact sb_fitC j_fit2010 (sb_fitC hf sb_fit0)
    · exact hk _ _ (by omega) (by omega)
theorem x_appendS2011 (hq : n + 2 ≤ 900) (hb : 2 * (n + 2) ≤ bs) (hk : ∀ b0 b1, bc ≤ b0 → bs ≤ b1 + 2 * (n + 2) → k (pc + 1) ls (.ref a :: r) ((mj_stn osx a (.inr (.inr (.inl (n + 2, sb_cat f n stx2011))))), b0, b1, false)) : ∀ (ml : Int32) (N : Nat) (g : Nat → Int32), n ≤ N → N ≤ 65536 → sb_Lat f n g → sb_Fit g → mj_Mt gT (law_cst xs) gnw (m + 5) y_StringBuilder_append_S (.ref 0 :: [.ref 2011]) ([.inr (.inl (9, [.ref 1, .int 0, .int ml, .int (nI n)])), .inl (4, N, .inl g)], bc + 1, bs, true) (mj_bp k pc ls r (osx, bc + 1, bs, opx) a) := by
  intro ml N g hn hN hL hf
  refine j_appendS2011 hn hN hq hf hb (fun hl => ?_) (fun hl h9 => ?_)
  · refine Exists.intro 1 (Exists.intro N (Exists.intro (va_cpy (fun j => law_s2011.getD j 0) g 0 n 2) (Exists.intro (n + 2) (Exists.intro (sb_cat f n stx2011) (Exists.intro ml (And.intro rfl (And.intro rfl (And.intro (by decide) (And.intro (by omega) (And.intro (by omega) (And.intro ?_ (And.intro ?_ ?_))))))))))))
    · refine sb_latPut hL (fun j hj => pk_cpy_out (Or.inl hj)) (fun i hi => ⟨(j_lat2011 i hi).1, ?_⟩)
      rw [pk_cpy_in (by omega) (by omega), show 0 + (n + i - n) = i by omega]
      exact (j_lat2011 i hi).2
    · exact sb_fitC j_fit2011 hf
    · exact hk _ _ (by omega) (by omega)
  · have hcg := sb_cap_ge (n + 2) N
    refine Exists.intro 2 (Exists.intro (sb_cap (n + 2) N) (Exists.intro (va_cpy (fun j => law_s2011.getD j 0) (va_cpy g (fun _ => 0) 0 0 N) 0 n 2) (Exists.intro (n + 2) (Exists.intro (sb_cat f n stx2011) (Exists.intro ml (And.intro rfl (And.intro rfl (And.intro (by decide) (And.intro (by omega) (And.intro (by omega) (And.intro ?_ (And.intro ?_ ?_))))))))))))
    · refine sb_latPut hL (fun j hj => by rw [pk_cpy_out (Or.inl hj), sb_cpy0 (by omega)]) (fun i hi => ⟨(j_lat2011 i hi).1, ?_⟩)
      rw [pk_cpy_in (by omega) (by omega), show 0 + (n + i - n) = i by omega]
      exact (j_lat2011 i hi).2
    · exact sb_fitC j_fit2011 (sb_fitC hf sb_fit0)
    · exact hk _ _ (by omega) (by omega)
end J3
