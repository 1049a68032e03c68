def cSo (z : Nat) (err : Int32) (t : tS) (X : Nat → Int32) (len a : Nat) (s : cD_) (S E C D : Vl) (mode colls taken steps : Int32) (H T : Nat → Vl) (fr : Nat → Nat) (g : gS) (f c : Nat) (k : Int32) (n : Nat) (fb : Nat → Nat) (R : Nat → Vl) : cS := ((((((z, err), tK t), (tV t, tP t)), (((eO (tF t), eO (tL t)), eO (tN t)), (nI (tn t), X))), ((((nI len, nI a), eH (cH_ (dC s))), (eH (cT_ (dC s)), nI (cn (dC s)))), (((oV (cl (dC s)), bI (ci (dC s))), eO (dF s)), (nI (dK s), dU s)))), (((((encV S, encV E), encV C), (encV D, mode)), (((colls, taken), steps), (eH H, eH T))), ((((eN fr, eB g.1), eN g.2.1), (nI f, nI g.2.2)), (((nI c, k), .inr (.inr (.inl (n, fb)))), (.inr (.inr (.inr ())), eH R)))))
def CI (err : Int32) (z len : Nat) (tx : Nat → Nat) (mode : Int32) (c : Nat) (tl W : List mj_O) : Prop := ∃ (t : tS) (X : Nat → Int32) (a : Nat) (s : cD_) (S E C D : Vl) (colls taken steps : Int32) (H T : Nat → Vl) (fr : Nat → Nat) (g : gS) (f : Nat) (k : Int32) (n : Nat) (fb : Nat → Nat) (R : Nat → Vl),
  W = WC z err t X len a s S E C D mode colls taken steps H T fr g f c k n fb R tl ∧ z ≤ 250 ∧ tOK t ∧ txOK X len tx ∧ (∀ i j, dF s i = some j → j < 1000) ∧ OC z s ∧ mOK z S E C D H T ∧ (∀ j, j < z → fr j < z) ∧ f ≤ z ∧ c ≤ z ∧ dOK z n fb R
def txW (w : Int64) (len k : Nat) (tx : Nat → Nat) : Nat → Nat := fun i => if i < k then (wT w 8 len (fun i => nI (tx i)) i).toNatClampNeg else 0
theorem wT_agr (w : Int64) : ∀ (j n k : Nat) (t t' : Nat → Int32), (∀ i, i < n → t i = t' i) → wC w j n = some k → ∀ i, i < k → wT w j n t i = wT w j n t' i
  | 0, n, k, t, t', h, e => by
    have e : some n = some k := e
    cases e
    exact h
  | j + 1, n, k, t, t', h, e => by
    rw [wC_succ] at e
    rw [wT_succ, wT_succ]
    by_cases h0 : wB w j = 0
    · rw [if_pos h0] at e
      rw [if_pos h0, if_pos h0]
      exact wT_agr w j n k t t' h e
    · rw [if_neg h0] at e
      rw [if_neg h0, if_neg h0]
      split at e
      · cases e
      · refine wT_agr w j (n + 1) k _ _ (fun i hi => ?_) e
        unfold upd
        split
        · rfl
        · exact h i (by omega)
theorem wT_chr (w : Int64) : ∀ (j n k : Nat) (t : Nat → Int32), (∀ i, i < n → ∃ c : Nat, t i = nI c ∧ 32 ≤ c ∧ c ≤ 126) → wC w j n = some k → ∀ i, i < k → ∃ c : Nat, wT w j n t i = nI c ∧ 32 ≤ c ∧ c ≤ 126
  | 0, n, k, t, h, e => by
    have e : some n = some k := e
    cases e
    exact h
  | j + 1, n, k, t, h, e => by
    rw [wC_succ] at e
    rw [wT_succ]
    by_cases h0 : wB w j = 0
    · rw [if_pos h0] at e
      rw [if_pos h0]
      exact wT_chr w j n k t h e
    · rw [if_neg h0] at e
      rw [if_neg h0]
      split at e
      · cases e
      · next hr =>
        refine wT_chr w j (n + 1) k _ (fun i hi => ?_) e
        unfold upd
        split
        · have h1 : ¬ wB w j < 32 := fun q => hr (Or.inl q)
          have h2 : ¬ 126 < wB w j := fun q => hr (Or.inr q)
          have h3 : ¬ wB w j < 0 := fun q => h1 (Int32.lt_trans q (by decide))
          obtain ⟨c, hc, ec⟩ := nI_of h3
          rw [ec] at h1 h2 ⊢
          have g1 : 32 ≤ c := Nat.le_of_not_lt (fun q => h1 (nI_lt (b := 32) q (by decide)))
          have g2 : c ≤ 126 := Nat.le_of_not_lt (fun q => h2 (nI_lt (a := 126) q (by omega)))
          refine ⟨c, ?_, g1, g2⟩
          rw [(sb_byte c (by omega)).2.1]
          exact Value.int.inj (pk_charN (q := c) (by omega)).1
        · exact h i (by omega)
theorem txW_ok {w : Int64} {X : Nat → Int32} {len k : Nat} {tx : Nat → Nat} (hx : txOK X len tx) (h : wR w len = some k) : txOK (wT w 8 len X) k (txW w len k tx) := by
  have hk : wC w 8 len = some k ∧ k ≤ 96 := by
    unfold wR at h
    cases hc : wC w 8 0 with
    | none => rw [hc] at h; cases h
    | some q =>
      rw [hc] at h
      have h : (if len + q ≤ 96 then some (len + q) else none) = some k := h
      split at h
      · cases h
        exact ⟨wC_add hc len, by assumption⟩
      · cases h
  refine ⟨hk.2, fun i hi => ?_, fun i hi => ?_⟩
  · have e1 := wT_agr w 8 len k X (fun i => nI (tx i)) (fun i hi => (hx.2.1 i hi).1) hk.1 i hi
    obtain ⟨c, e2, g1, g2⟩ := wT_chr w 8 len k (fun i => nI (tx i)) (fun i hi => ⟨tx i, rfl, (hx.2.1 i hi).2⟩) hk.1 i hi
    have e3 : txW w len k tx i = c := by
      unfold txW
      rw [if_pos hi, e2]
      exact nI_clamp (by omega)
    rw [e3, e1, e2]
    exact ⟨rfl, g1, g2⟩
  · exact if_neg (by omega)
section P2p
variable {err : Int32} {m b0 b1 : Nat} {op : Bool} {tl W : List mj_O} {Q : mj_R → Prop} {xs : List Int32} {z len c : Nat} {tx : Nat → Nat} {mode : Int32}
set_option maxRecDepth 10000
theorem C_write {w : Int64} (h : CI err z len tx mode c tl W) (h1 : wR w len = none → Q (.inl (some (.int 0)), (W, b0, b1, op))) (h2 : ∀ k W', wR w len = some k → CI err z k (txW w len k tx) mode c tl W' → Q (.inl (some (.int 1)), (W', b0, b1, op))) : mj_Mt gT (law_cst xs) gnw (m + 4) y_P_write [.ref 0, .long w] (W, b0, b1, op) Q := by
  obtain ⟨t, X, a, s, S, E, C, D, colls, taken, steps, H, T, fr, g, f, k, n, fb, R, rfl, hz, ht, hx, hF, hO, hM, hfr, hf, hc, hd⟩ := h
  refine c_write (s := cSo z err t X len a s S E C D mode colls taken steps H T fr g f c k n fb R) (n := len) hx.1 rfl (fun e => h1 e) (fun k2 e => ?_)
  refine h2 k2 _ e ⟨t, wT w 8 len X, a, s, S, E, C, D, colls, taken, steps, H, T, fr, g, f, k, n, fb, R, rfl, hz, ht, txW_ok hx e, hF, hO, hM, hfr, hf, hc, hd⟩
theorem C_position (h : CI err z len tx mode c tl W) (hQ : Q (.inl (some (.int err)), (W, b0, b1, op))) : mj_Mt gT (law_cst xs) gnw (m + 1) y_P_position [.ref 0] (W, b0, b1, op) Q := by
  obtain ⟨t, X, a, s, S, E, C, D, colls, taken, steps, H, T, fr, g, f, k, n, fb, R, rfl, -⟩ := h
  intro J hJ
  refine hJ _ _ _ _ ?_
  exact hQ
theorem M_mode {err : Int32} {t : tS} {X : Nat → Int32} {a : Nat} {s : cD_} {S E C D : Vl} {colls taken steps : Int32} {H T : Nat → Vl} {fr : Nat → Nat} {g : gS} {f : Nat} {k : Int32} {n : Nat} {fb : Nat → Nat} {R : Nat → Vl} (hQ : Q (.inl (some (.int mode)), (WC z err t X len a s S E C D mode colls taken steps H T fr g f c k n fb R tl, b0, b1, op))) : mj_Mt gT (law_cst xs) gnw (m + 1) y_Machine_mode [.ref 16] (WC z err t X len a s S E C D mode colls taken steps H T fr g f c k n fb R tl, b0, b1, op) Q := by
  intro J hJ
  refine hJ _ _ _ _ ?_
  exact hQ
theorem C_state (h : CI err z len tx mode c tl W) (hQ : Q (.inl (some (.int mode)), (W, b0, b1, op))) : mj_Mt gT (law_cst xs) gnw (m + 2) y_P_state [.ref 0] (W, b0, b1, op) Q := by
  obtain ⟨t, X, a, s, S, E, C, D, colls, taken, steps, H, T, fr, g, f, k, n, fb, R, rfl, -⟩ := h
  intro J hJ
  refine hJ _ _ _ _ ?_
  refine M_mode ?_
  exact hQ
theorem faN_fr {z : Nat} : ∀ (j c : Nat) (p : (Nat → Nat) × Nat), c + j ≤ z → (∀ i, i < z → p.1 i < z) → (∀ i, i < z → (faN j c p).1 i < z) ∧ (faN j c p).2 = p.2 + j
  | 0, c, p, _, h => ⟨h, rfl⟩
  | j + 1, c, p, hc, h => by
    have := faN_fr (z := z) j (c + 1) (upW p.1 p.2 c, p.2 + 1) (by omega) (fun i hi => by
      show upW p.1 p.2 c i < z
      unfold upW
      split
      · omega
      · exact h i hi)
    refine ⟨this.1, ?_⟩
    have e : (faN j (c + 1) (upW p.1 p.2 c, p.2 + 1)).2 = p.2 + 1 + j := this.2
    show (faN j (c + 1) (upW p.1 p.2 c, p.2 + 1)).2 = p.2 + (j + 1)
    omega
theorem C_start (h : CI err z len tx mode c tl W) (h0 : c = 0 → Q (.inl (some (.int 0)), (W, b0, b1, op))) (h1 : ∀ W', 0 < c → CI err z len tx 1 c tl W' → Q (.inl (some (.int 1)), (W', b0, b1, op))) : mj_Mt gT (law_cst xs) gnw (m + 4) y_P_start [.ref 0] (W, b0, b1, op) Q := by
  obtain ⟨t, X, a, s, S, E, C, D, colls, taken, steps, H, T, fr, g, f, k, n, fb, R, rfl, hz, ht, hx, hF, hO, hM, hfr, hf, hc, hd⟩ := h
  have hfa := faN_fr (z := z) (z - c) c (fr, 0) (by omega) hfr
  have hf2 : (faN (z - c) c (fr, 0)).2 = 0 + (z - c) := hfa.2
  intro J hJ
  refine hJ _ _ _ _ ?_
  refine k_beginW hz hc hfr (fun e => ?_) (fun e => ?_)
  · exact And.intro (Or.inl rfl) (h0 e)
  · refine And.intro (Or.inr rfl) (h1 _ e ⟨t, X, a, s, vNil, vNil, vPr 0, vNil, 0, 0, 0, H, T, (faN (z - c) c (fr, 0)).1, g, (faN (z - c) c (fr, 0)).2, k, n, fb, R, rfl, hz, ht, hx, hF, hO, ⟨hM.1, hM.2.1, trivial, trivial, ?_, trivial⟩, hfa.1, by omega, hc, hd⟩)
    show 0 < z
    omega
theorem C_next (h : CI err z len tx mode c tl W) (hQ : ∀ x, Q (.inl (some (.int x)), (W, b0, b1, op))) : mj_Mt gT (law_cst xs) gnw (m + 4) y_P_next [.ref 0] (W, b0, b1, op) Q := by
  obtain ⟨t, X, a, s, S, E, C, D, colls, taken, steps, H, T, fr, g, f, k, n, fb, R, rfl, hz, ht, hx, hF, hO, ⟨hA, hB, hS, hE, hC, hD⟩, hfr, hf, hc, hd⟩ := h
  intro J hJ
  refine hJ _ _ _ _ ?_
  refine M_mode ?_
  refine And.intro (fun _ => ?_) (fun _ => ?_)
  · exact hQ _
  · refine k_instruction hz hA hB hfr hS hE hC hD ?_
    exact hQ _
theorem M_shown {err : Int32} {t : tS} {X : Nat → Int32} {a : Nat} {s : cD_} {S E C D : Vl} {colls taken steps : Int32} {H T : Nat → Vl} {fr : Nat → Nat} {g : gS} {f : Nat} {k : Int32} {n : Nat} {fb : Nat → Nat} {R : Nat → Vl} {x : Int32} (hd : dOK z n fb R) (hQ : ∀ y op', Q (.inl (some (.int y)), (WC z err t X len a s S E C D mode colls taken steps H T fr g f c k n fb R tl, b0 + 1, b1, op'))) : mj_Mt gT (law_cst xs) gnw (m + 6) y_Machine_shownCode [.ref 16, .int x] (WC z err t X len a s S E C D mode colls taken steps H T fr g f c k n fb R tl, b0 + 1, b1, op) Q := by
  obtain ⟨⟨l, rfl, hl, hag⟩, -⟩ := hd
  intro J hJ
  refine hJ _ _ _ _ ?_
  refine d_codeAt (by omega) hag (fun op' => ?_)
  exact hQ _ op'
theorem C_shown {x : Int32} (h : CI err z len tx mode c tl W) (hQ : ∀ y op', Q (.inl (some (.int y)), (W, b0 + 1, b1, op'))) : mj_Mt gT (law_cst xs) gnw (m + 7) y_P_shown [.ref 0, .int x] (W, b0 + 1, b1, op) Q := by
  obtain ⟨t, X, a, s, S, E, C, D, colls, taken, steps, H, T, fr, g, f, k, n, fb, R, rfl, hz, ht, hx, hF, hO, hM, hfr, hf, hc, hd⟩ := h
  intro J hJ
  refine hJ _ _ _ _ ?_
  refine M_mode ?_
  refine And.intro (fun _ => ?_) (fun _ => ?_)
  · exact hQ _ op
  · refine M_shown hd (fun y op' => ?_)
    exact hQ y op'
end P2p
