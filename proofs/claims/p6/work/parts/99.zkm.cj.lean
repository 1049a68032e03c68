def CJ (z len : Nat) (tx : Nat → Nat) (mode : Int32) (c : Nat) (err : Int32) (H T : Nat → Vl) (S E C D : Vl) (fr : Nat → Nat) (f n : Nat) (fb : Nat → Nat) (tl W : List mj_O) : Prop := ∃ (t : tS) (X : Nat → Int32) (a : Nat) (s : cD_) (colls taken steps : Int32) (g : gS) (k : Int32) (R : Nat → Vl),
  W = WC z err t X len a s S E C D mode colls taken steps H T fr g f c k n fb R tl ∧ z ≤ 250 ∧ tOK t ∧ txOK X len tx ∧ (∀ i j, dF s i = some j → j < 1000) ∧ OC z s ∧ mOK z S E C D H T ∧ (∀ j, j < z → fr j < z) ∧ f ≤ z ∧ c ≤ z ∧ dOK z n fb R
def CY (z len : Nat) (tx : Nat → Nat) (mode : Int32) (c : Nat) (err : Int32) (H T : Nat → Vl) (S E C D : Vl) (fr : Nat → Nat) (f n : Nat) (fb : Nat → Nat) (s : cS) : Prop := ∀ tl, CJ z len tx mode c err H T S E C D fr f n fb tl (cW s tl)
theorem CJ_CY {z len : Nat} {tx : Nat → Nat} {mode : Int32} {c : Nat} {err : Int32} {H T : Nat → Vl} {S E C D : Vl} {fr : Nat → Nat} {f n : Nat} {fb : Nat → Nat} {tl W : List mj_O} (h : CJ z len tx mode c err H T S E C D fr f n fb tl W) : ∃ s, W = cW s tl ∧ CY z len tx mode c err H T S E C D fr f n fb s := by
  obtain ⟨t, X, a, s, colls, taken, steps, g, k, R, e, h⟩ := h
  refine ⟨cSo z err t X len a s S E C D mode colls taken steps H T fr g f c k n fb R, e, fun tl' => ?_⟩
  exact ⟨t, X, a, s, colls, taken, steps, g, k, R, rfl, h⟩
def CRUN (z : Nat) : Nat → KS → Nat → KS → Prop
  | 0, σ, k, σ' => k = 0 ∧ σ' = σ
  | N + 1, σ, k, σ' => (¬ σ.2.2.2.2.2 = 1 ∧ k = 0 ∧ σ' = σ) ∨ (σ.2.2.2.2.2 = 1 ∧ ∃ σ1 k1, CSTEP z σ σ1 ∧ k = k1 + 1 ∧ CRUN z N σ1 k1 σ')
section ZKM
variable {m b0 b1 : Nat} {op : Bool} {tl W : List mj_O} {Q : mj_R → Prop} {xs : List Int32} {z len c : Nat} {tx : Nat → Nat} {mode err : Int32} {H T : Nat → Vl} {S E C D : Vl} {fr : Nat → Nat} {f n : Nat} {fb : Nat → Nat}
set_option maxRecDepth 10000
theorem J_write {w : Int64} (h : CJ z len tx mode c err H T S E C D fr f n fb tl W) (h1 : wR w len = none → Q (.inl (some (.int 0)), (W, b0, b1, op))) (h2 : ∀ k W', wR w len = some k → CJ z k (txW w len k tx) mode c err H T S E C D fr f n fb tl W' → Q (.inl (some (.int 1)), (W', b0, b1, op))) : mj_Mt gT (law_cst xs) gnw (m + 4) y_P_write [.ref 0, .long w] (W, b0, b1, op) Q := by
  obtain ⟨t, X, a, s, colls, taken, steps, g, k, R, rfl, hz, ht, hx, hF, hO, hM, hfr, hf, hc, hd⟩ := h
  refine c_write (s := cSo z err t X len a s S E C D mode colls taken steps H T fr g f c k n fb R) (n := len) hx.1 rfl (fun e => h1 e) (fun k2 e => ?_)
  exact h2 k2 _ e ⟨t, wT w 8 len X, a, s, colls, taken, steps, g, k, R, rfl, hz, ht, txW_ok hx e, hF, hO, hM, hfr, hf, hc, hd⟩
theorem J_position (h : CJ z len tx mode c err H T S E C D fr f n fb tl W) (hQ : Q (.inl (some (.int err)), (W, b0, b1, op))) : mj_Mt gT (law_cst xs) gnw (m + 1) y_P_position [.ref 0] (W, b0, b1, op) Q := by
  obtain ⟨t, X, a, s, colls, taken, steps, g, k, R, rfl, -⟩ := h
  intro J hJ
  refine hJ _ _ _ _ ?_
  exact hQ
theorem J_state (h : CJ z len tx mode c err H T S E C D fr f n fb tl W) (hQ : Q (.inl (some (.int mode)), (W, b0, b1, op))) : mj_Mt gT (law_cst xs) gnw (m + 2) y_P_state [.ref 0] (W, b0, b1, op) Q := by
  obtain ⟨t, X, a, s, colls, taken, steps, g, k, R, rfl, -⟩ := h
  intro J hJ
  refine hJ _ _ _ _ ?_
  refine M_mode ?_
  exact hQ
theorem J_start (h : CJ z len tx mode c err H T S E C D fr f n fb tl W) (h0 : c = 0 → Q (.inl (some (.int 0)), (W, b0, b1, op))) (h1 : ∀ W', 0 < c → CJ z len tx 1 c err H T vNil vNil (vPr 0) vNil (faN (z - c) c (fr, 0)).1 (z - c) n fb tl W' → Q (.inl (some (.int 1)), (W', b0, b1, op))) : mj_Mt gT (law_cst xs) gnw (m + 4) y_P_start [.ref 0] (W, b0, b1, op) Q := by
  obtain ⟨t, X, a, s, colls, taken, steps, g, k, R, rfl, hz, ht, hx, hF, hO, hM, hfr, hf, hc, hd⟩ := h
  have hfa := faN_fr (z := z) (z - c) c (fr, 0) (by omega) hfr
  have hf2 : (faN (z - c) c (fr, 0)).2 = z - c := by
    have : (faN (z - c) c (fr, 0)).2 = 0 + (z - c) := hfa.2
    omega
  intro J hJ
  refine hJ _ _ _ _ ?_
  refine k_beginW hz hc hfr (fun e => ?_) (fun e => ?_)
  · exact And.intro (Or.inl rfl) (h0 e)
  · rw [hf2]
    refine And.intro (Or.inr rfl) (h1 _ e ⟨t, X, a, s, 0, 0, 0, g, k, R, rfl, hz, ht, hx, hF, hO, ⟨hM.1, hM.2.1, trivial, trivial, ?_, trivial⟩, hfa.1, by omega, hc, hd⟩)
    show 0 < z
    omega
theorem J_next (h : CJ z len tx mode c err H T S E C D fr f n fb tl W) (h0 : ¬ mode = 1 → Q (.inl (some (.int (-1))), (W, b0, b1, op))) (h1 : mode = 1 → Q (.inl (some (.int (encV (ofV H C)).toInt32)), (W, b0, b1, op))) : mj_Mt gT (law_cst xs) gnw (m + 4) y_P_next [.ref 0] (W, b0, b1, op) Q := by
  obtain ⟨t, X, a, s, colls, taken, steps, g, k, R, rfl, hz, ht, hx, hF, hO, ⟨hA, hB, hS, hE, hC, hD⟩, hfr, hf, hc, hd⟩ := h
  intro J hJ
  refine hJ _ _ _ _ ?_
  refine M_mode ?_
  refine And.intro (fun w => ?_) (fun w => ?_)
  · exact h0 w
  · refine k_instruction hz hA hB hfr hS hE hC hD ?_
    exact h1 w
theorem J_shown {x : Int32} (h : CJ z len tx mode c err H T S E C D fr f n fb tl W) (hQ : ∀ y op', Q (.inl (some (.int y)), (W, b0 + 1, b1, op'))) : mj_Mt gT (law_cst xs) gnw (m + 7) y_P_shown [.ref 0, .int x] (W, b0 + 1, b1, op) Q := by
  obtain ⟨t, X, a, s, colls, taken, steps, g, k, R, rfl, hz, ht, hx, hF, hO, hM, hfr, hf, hc, hd⟩ := h
  intro J hJ
  refine hJ _ _ _ _ ?_
  refine M_mode ?_
  refine And.intro (fun _ => ?_) (fun _ => ?_)
  · exact hQ _ op
  · refine M_shown hd (fun y op' => ?_)
    exact hQ y op'
theorem J_count {x : Int32} (h : CJ z len tx mode c err H T S E C D fr f n fb tl W) (hQ : ∀ y W', CJ z len tx mode c err H T S E C D fr f n fb tl W' → Q (.inl (some (.int y)), (W', b0, b1, op))) : mj_Mt gT (law_cst xs) gnw (m + 6) y_P_count [.ref 0, .int x] (W, b0, b1, op) Q := by
  have hI0 := h
  obtain ⟨t, X, a, s, colls, taken, steps, g, k, R, rfl, hz, ht, hx, hF, hO, hM, hfr, hf, hc, hd⟩ := h
  have key : ∀ y, Q (.inl (some (.int y)), (WC z err t X len a s S E C D mode colls taken steps H T fr g f c k n fb R tl, b0, b1, op)) := fun y => hQ y _ hI0
  obtain ⟨hA, hB, hS, hE, hC, hD⟩ := hM
  intro J hJ
  refine hJ _ _ _ _ ?_
  refine And.intro (fun w => ?_) (fun g0 => And.intro (fun w => ?_) (fun g1 => And.intro (fun w => ?_) (fun g2 => And.intro (fun w => ?_) (fun g3 => And.intro (fun w => ?_) (fun g4 => And.intro (fun w => ?_) (fun g5 => And.intro (fun w => ?_) (fun g6 => ?_)))))))
  · intro J1 hJ1
    refine hJ1 _ _ _ _ ?_
    intro J2 hJ2
    refine hJ2 _ _ _ _ ?_
    exact key _
  · intro J1 hJ1
    refine hJ1 _ _ _ _ ?_
    refine s_mark hz hc hA hB hS hE hC hD ?_
    exact hQ _ _ ⟨t, X, a, s, colls, taken, steps, mrk z H T S E C D (if c = 0 then vNil else vPr 0) g, k, R, rfl, hz, ht, hx, hF, hO, ⟨hA, hB, hS, hE, hC, hD⟩, hfr, hf, hc, hd⟩
  · intro J1 hJ1
    refine hJ1 _ _ _ _ ?_
    exact key _
  · intro J1 hJ1
    refine hJ1 _ _ _ _ ?_
    exact key _
  · intro J1 hJ1
    refine hJ1 _ _ _ _ ?_
    exact key _
  · intro J1 hJ1
    refine hJ1 _ _ _ _ ?_
    refine s_length hz hB hS ?_
    exact key _
  · intro J1 hJ1
    refine hJ1 _ _ _ _ ?_
    refine s_length hz hB hD ?_
    exact key _
  · exact key _
def KRN (z c : Nat) (mode : Int32) (H T : Nat → Vl) (S E C D : Vl) (fr : Nat → Nat) (f : Nat) : Prop := mode = 1 → 0 < c ∧ CDE c H T ∧ ∃ U, KT z c H T S E C D fr f U
theorem J_run {x : Int32} (h : CJ z len tx mode c err H T S E C D fr f n fb tl W) (hK : KRN z c mode H T S E C D fr f) (hD0 : DSP H T S mode n fb) (hb0 : 1 ≤ b0) (hb1 : 6 ≤ b1) (hb2 : mode = 1 → 200 ≤ b0 ∧ 20000 ≤ b1)
    (h1 : ∀ b0' b1', (x < 0 ∨ 200 < x) → b0 ≤ b0' + 1 → b1 ≤ b1' + 6 → Q (.inr 0, (W, b0', b1', false)))
    (h2 : ∀ N k mode' W' H' T' S' E' C' D' fr' f' n' fb' b0' b1' op', x = nI N → N ≤ 200 → k ≤ N → CRUN z N (H, T, (S, E, C, D), fr, f, mode) k (H', T', (S', E', C', D'), fr', f', mode') → CJ z len tx mode' c err H' T' S' E' C' D' fr' f' n' fb' tl W' → KRN z c mode' H' T' S' E' C' D' fr' f' → DSP H' T' S' mode' n' fb' → (b0' = b0 ∧ b1' = b1 ∧ (mode = 1 ∨ mode' = mode)) ∨ (¬ mode' = 1 ∧ mode = 1 ∧ b0 ≤ b0' + 140 ∧ b1 ≤ b1' + 19740) → Q (.inl (some (.int (nI k))), (W', b0', b1', op'))) :
    mj_Mt gT (law_cst xs) gnw (m + 13) y_P_run [.ref 0, .int x] (W, b0, b1, op) Q := by
  obtain ⟨b0, rfl⟩ : ∃ b, b0 = b + 1 := ⟨b0 - 1, by omega⟩
  intro J hJ
  refine hJ _ _ _ _ ?_
  refine And.intro (fun (q : x < 0) => ?_) (fun (q : ¬ x < 0) => ?_)
  · exact And.intro hb1 (h1 b0 (b1 - 6) (Or.inl q) (by omega) (by omega))
  · refine And.intro (fun (q2 : x ≤ 200) => ?_) (fun (q2 : ¬ x ≤ 200) => ?_)
    · obtain ⟨N, hN, ex⟩ := nI_of2 (M := 200) (n := 200) (by decide) q q2
      have loop : ∀ (j i : Nat) (mode' : Int32) (W' : List mj_O) (H' T' : Nat → Vl) (S' E' C' D' : Vl) (fr' : Nat → Nat) (f' n' : Nat) (fb' : Nat → Nat) (b0' b1' : Nat) (op' : Bool), i + j = N → (∀ σ2 k2, CRUN z j (H', T', (S', E', C', D'), fr', f', mode') k2 σ2 → CRUN z N (H, T, (S, E, C, D), fr, f, mode) (i + k2) σ2) → CJ z len tx mode' c err H' T' S' E' C' D' fr' f' n' fb' tl W' → KRN z c mode' H' T' S' E' C' D' fr' f' → DSP H' T' S' mode' n' fb' → ((b0' = b0 + 1 ∧ b1' = b1 ∧ (mode = 1 ∨ mode' = mode)) ∨ (¬ mode' = 1 ∧ mode = 1 ∧ b0 + 1 ≤ b0' + 140 ∧ b1 ≤ b1' + 19740)) → J 8 [some (.ref 0), some (.int x), some (.int (nI i))] [] (W', b0', b1', op') := by
        intro j
        induction j with
        | zero =>
          intro i mode' W' H' T' S' E' C' D' fr' f' n' fb' b0' b1' op' hi hR hI hKp hDs hm
          refine hJ _ _ _ _ ?_
          refine And.intro (fun _ => ?_) (fun (w : ¬ x ≤ nI i) => absurd (by rw [ex]; exact nI_le (by omega) (by omega)) w)
          exact h2 N i mode' W' H' T' S' E' C' D' fr' f' n' fb' b0' b1' op' ex hN (by omega) (hR _ 0 ⟨rfl, rfl⟩) hI hKp hDs hm
        | succ j ih =>
          intro i mode' W' H' T' S' E' C' D' fr' f' n' fb' b0' b1' op' hi hR hI hKp hDs hm
          refine hJ _ _ _ _ ?_
          refine And.intro (fun (w : x ≤ nI i) => absurd w (by rw [ex]; exact nI_ge (by omega) (by omega))) (fun _ => ?_)
          have hI0 := hI
          obtain ⟨t, X, a, s, colls, taken, steps, g, k, R, rfl, hz, ht, hx, hF, hO, hM, hfr, hf, hc, hd⟩ := hI
          refine M_mode ?_
          refine And.intro (fun (w2 : ¬ mode' = 1) => ?_) (fun (w2 : mode' = 1) => ?_)
          · exact h2 N i mode' _ H' T' S' E' C' D' fr' f' n' fb' b0' b1' op' ex hN (by omega) (hR _ 0 (Or.inl ⟨w2, rfl, rfl⟩)) hI0 hKp hDs hm
          · subst w2
            obtain ⟨e1, e2, e3⟩ : b0' = b0 + 1 ∧ b1' = b1 ∧ mode = 1 := by
              rcases hm with ⟨p1, p2, p3⟩ | ⟨p1, -⟩
              · exact ⟨p1, p2, p3.elim id Eq.symm⟩
              · exact absurd rfl p1
            subst e1 e2 e3
            obtain ⟨r1, r2⟩ := hb2 rfl
            obtain ⟨hc0, hCD, U, hKT⟩ := hKp rfl
            refine k_stepE hz hc0 hc hKT hCD hM hfr hd r1 r2 (fun S2 E2 C2 D2 mode2 colls2 taken2 H2 T2 fr2 g2 f2 k2 n2 fb2 R2 b02 b12 op2 U2 vC v1 v2 v3 v3c v4 v4d v5 => ?_)
            have hstep : ∀ y : Int32, y = nI (i + 1) → J 8 [some (.ref 0), some (.int x), some (.int y)] [] (WC z err t X len a s S2 E2 C2 D2 mode2 colls2 taken2 (steps + 1) H2 T2 fr2 g2 f2 c k2 n2 fb2 R2 tl, b02, b12, op2) := by
              rintro y rfl
              refine ih (i + 1) mode2 _ H2 T2 S2 E2 C2 D2 fr2 f2 n2 fb2 b02 b12 op2 (by omega) (fun σ2 k3 hk3 => ?_) ⟨t, X, a, s, colls2, taken2, steps + 1, g2, k2, R2, rfl, hz, ht, hx, hF, hO, v1, v2, v3.2.2.2.2, hc, v4⟩ (fun _ => ⟨hc0, CDE_ag hCD v3c, U2, v3⟩) v4d ?_
              · rw [show i + 1 + k3 = i + (k3 + 1) by omega]
                exact hR σ2 (k3 + 1) (Or.inr ⟨rfl, _, k3, vC, rfl, hk3⟩)
              · rcases v5 with ⟨w1, w2, w3⟩ | ⟨w1, w2, w3⟩
                · exact Or.inl ⟨w1, w2, Or.inl rfl⟩
                · subst w1
                  exact Or.inr ⟨by decide, rfl, w2, w3⟩
            exact hstep _ (nI_succ i).symm
      exact loop N 0 mode W H T S E C D fr f n fb (b0 + 1) b1 op (by omega) (fun σ2 k2 hk2 => by rw [Nat.zero_add]; exact hk2) h hK hD0 (Or.inl ⟨rfl, rfl, Or.inr rfl⟩)
    · exact And.intro hb1 (h1 b0 (b1 - 6) (Or.inr (Int32.not_le.mp q2)) (by omega) (by omega))
end ZKM
