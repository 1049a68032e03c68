section ZKR
variable {cst : Nat → Option (Nat × (Nat → Int32))} {m b0 b1 : Nat} {op : Bool} {tl : List mj_O} {Q : mj_R → Prop} {s : cS} {r : rM} {z c : Nat} {H T : Nat → Vl} {S E C D : Vl} {fr : Nat → Nat} {f : Nat} {mode : Int32}
set_option maxRecDepth 10000
theorem R_countE {x : Int32} (hI : RMI r) (hQ : ∀ y r', ke r r' → RMI r' → (∀ z c σ, JNT z c σ r → JNT z c σ r') → Q (.inl (some (.int y)), (cW s (rW r' tl), b0, b1, op))) : mj_Mt gT cst gnw (m + 3) y_R_count [.ref 27, .int x] (cW s (rW r tl), b0, b1, op) Q := by
  obtain ⟨H, T, S, E, C, D, R, hX⟩ := RMI_RX hI
  have hz := hX.1.1.2
  obtain ⟨⟨n1, c1⟩, ⟨n2, c2⟩⟩ := RMI_len hI
  have k0 : ke r (thR r 0) := ⟨rfl, rfl, rfl, rfl, rfl⟩
  have h0 : RMI (thR r 0) := hI
  intro J hJ
  refine hJ _ _ _ _ ?_
  refine And.intro (fun _ => ?_) (fun _ => And.intro (fun _ => ?_) (fun _ => And.intro (fun _ => ?_) (fun _ => And.intro (fun _ => ?_) (fun _ => And.intro (fun _ => ?_) (fun _ => And.intro (fun _ => ?_) (fun _ => And.intro (fun _ => ?_) (fun _ => ?_)))))))
  · refine r_free (r := thR r 0) hz ?_
    exact hQ _ (thR r 0) k0 h0 (fun _ _ _ hj => hj)
  · refine R_reach (r := thR r 0) (H := H) (T := T) (S := S) (E := E) (C := C) (D := D) (R := R) hX hI.1.1 (fun c mk pl n _ _ _ _ _ _ _ => ?_)
    exact hQ _ (mpR (thR r 0) mk pl n) ⟨rfl, rfl, rfl, rfl, rfl⟩ (RMI_mp h0) (fun _ _ _ hj => hj)
  · exact hQ _ (thR r 0) k0 h0 (fun _ _ _ hj => hj)
  · exact hQ _ (thR r 0) k0 h0 (fun _ _ _ hj => hj)
  · exact hQ _ (thR r 0) k0 h0 (fun _ _ _ hj => hj)
  · refine And.intro (in0 (by decide)) ?_
    refine R_lengthOf (r := thR r 0) (n := n1) (chN_th _ _ c1) (fun y => ?_)
    exact hQ _ (thR r 0) k0 h0 (fun _ _ _ hj => hj)
  · refine And.intro i53 ?_
    refine R_lengthOf (r := thR r 0) (n := n2) (chN_th _ _ c2) (fun y => ?_)
    exact hQ _ (thR r 0) k0 h0 (fun _ _ _ hj => hj)
  · exact hQ _ (thR r 0) k0 h0 (fun _ _ _ hj => hj)
theorem R_nextE (hJN : JNT z c (H, T, (S, E, C, D), fr, f, mode) r) (hQ : Q (.inl (some (.int (if mode = 1 then (encV (ofV H C)).toInt32 else -1))), (cW s (rW (thR r 0) tl), b0, b1, op))) : mj_Mt gT cst gnw (m + 1) y_R_next [.ref 27] (cW s (rW r tl), b0, b1, op) Q := by
  intro J hJ
  refine hJ _ _ _ _ ?_
  have hst : r.state = mode := hJN.1
  refine And.intro (fun (g : ¬ r.state = 1) => ?_) (fun (g : r.state = 1) => ?_)
  · rw [if_neg (fun e => g (hst.trans e))] at hQ
    exact hQ
  · have hm : mode = 1 := hst.symm.trans g
    subst hm
    rw [if_pos rfl] at hQ
    rcases hJN.2 with ⟨-, -, w⟩ | ⟨-, -, w, -⟩ | ⟨hc, hp, -, hCD, R', H', T', S', E', C', D', ro', k0, n0, b0', e0, U, ρ, hX, hT, hK, hB⟩
    · exact absurd (show (1 : Int32) = 0 from w) (by decide)
    · exact absurd (show (1 : Int32) = 0 from w) (by decide)
    obtain ⟨f0, hw⟩ : ∃ f, wt H' T' ro' f C' k0 n0 b0' e0 := hT.2.2.2.1.2
    cases f0 with
    | zero => exact absurd hw id
    | succ f0 =>
    obtain ⟨c', i, rfl, -, hi, -⟩ := hw
    obtain ⟨h2, uc⟩ := rg_pr hX.2.2.2.1
    have hc' := Ur_lt hX.1 uc
    have eh : r.head c' = i := by
      have := (hX.1.2.1 c' uc).1
      rw [hi] at this
      exact this.2
    have hx : ofV H C = vInt i := by
      have q := VR_H hB.2.1 hB.2.2.1.2.2.1
      have q : VR ρ (ofV H C) (H' c') := q
      rw [hi] at q
      generalize ofV H C = v at q
      rcases v with u | y | y | j | j <;> first | exact absurd q id | (have q : y = i := q; rw [q])
    rw [iV_enc hx] at hQ
    refine And.intro i52 ?_
    refine And.intro (show vp_in (r.reg 2) 250 by rw [h2]; exact vp_in_nI hc' (by decide)) ?_
    have key : ∀ j : Nat, j = c' → Q (.inl (some (.int (r.head j))), (cW s (rW (thR r 0) tl), b0, b1, op)) := by
      rintro j rfl
      rw [eh]
      exact hQ
    exact key _ (by show (r.reg 2).toNatClampNeg = c'; rw [h2]; exact nI_clamp (by omega))
end ZKR
theorem JNT_KRN {z c : Nat} {H T : Nat → Vl} {S E C D : Vl} {fr : Nat → Nat} {f : Nat} {mode : Int32} {r : rM} (h : JNT z c (H, T, (S, E, C, D), fr, f, mode) r) : KRN z c mode H T S E C D fr f := by
  rintro rfl
  rcases h.2 with ⟨-, -, w⟩ | ⟨-, -, w, -⟩ | ⟨hc, hp, -, hCD, R', H', T', S', E', C', D', ro', k0, n0, b0', e0, U, ρ, hX, hT, hK, hB⟩
  · exact absurd (show (1 : Int32) = 0 from w) (by decide)
  · exact absurd (show (1 : Int32) = 0 from w) (by decide)
  · exact ⟨hc, hCD, U, hK⟩
theorem CJ_c {z len : Nat} {tx : Nat → Nat} {mode : Int32} {c : Nat} {err : Int32} {H T : Nat → Vl} {S E C D : Vl} {fr : Nat → Nat} {f n : Nat} {fb : Nat → Nat} {tl W : List mj_O} (h : CJ z len tx mode c err H T S E C D fr f n fb tl W) : c ≤ z ∧ z ≤ 250 := by
  obtain ⟨t, X, a, s, colls, taken, steps, g, k, R, rfl, hz, ht, hx, hF, hO, hM, hfr, hf, hc, hd⟩ := h
  exact ⟨hc, hz⟩
section ZKS
variable {m b0 b1 z len c : Nat} {tx : Nat → Nat} {mode err : Int32} {op : Bool} {Q : mj_R → Prop} {s : cS} {r : rM} {xs : List Int32} {fo : Nat → Int64} {H T : Nat → Vl} {S E C D : Vl} {fr : Nat → Nat} {f n : Nat} {fb : Nat → Nat}
set_option maxRecDepth 10000
theorem LJ_compile {l : Nat} (hl : 120 ≤ l) (h : CY z len tx mode c err H T S E C D fr f n fb s) (hb : 12 ≤ b1)
    (h1 : ∀ i s' b0' b1' op' err', GOut tx len z i 0 → (i = 1 ∨ i = 2) → CY z 0 (fun _ => 0) mode c err' H T S E C D fr f n fb s' → b0 ≤ b0' → b1 ≤ b1' + 12 → Q (.inl (some (.int (nI i))), (cW s' (rW r [oJ 1 fo]), b0', b1', op')))
    (h2 : ∀ N s' f' (τ : Tau) H0 T0 Hf Tf lf bf H2 T2 fr2, GOut tx len z 0 N → 1 ≤ N → N ≤ 250 → gEx tx 10 0 0 = .inl (τ, len) → lyS z (τ [] ++ [(1, 19)]) ((H0, T0, 0, none, false), []) = ((Hf, Tf, N, lf, bf), []) → (∀ i, i < N → H2 i = Hf i ∧ T2 i = Tf i) → CY z 0 (fun _ => 0) 0 N (-1) H2 T2 vNil vNil vNil vNil fr2 (z - N) n fb s' → f' 0 = (nI N).toInt64 → Q (.inl (some (.int (nI 0))), (cW s' (rW r [oJ 1 f']), b0 + 2, b1, op))) :
    mj_Mt gT (law_cst xs) gnw (l + 2) y_Law_compile [.ref 0, .ref 54] (cW s (rW r [oJ 1 fo]), b0 + 2, b1, op) Q := by
  intro J hJ
  refine hJ _ _ _ _ ?_
  refine J_compile hl (h _) hb (fun i W' b0' b1' err' hi hc q0 q1 => ?_) (fun N W' τ H0 T0 Hf Tf lf bf H2 T2 fr2 hG g1 g2 e1 e2 e3 hc => ?_)
  · obtain ⟨s', rfl, hs⟩ := CJ_CY hc
    rcases hi with ⟨rfl, hG⟩ | ⟨rfl, hG⟩
    · exact h1 1 s' _ _ _ err' hG (Or.inl rfl) hs q0 q1
    · exact h1 2 s' _ _ _ err' hG (Or.inr rfl) hs q0 q1
  · obtain ⟨s', rfl, hs⟩ := CJ_CY hc
    refine And.intro (in0 (by decide)) ?_
    refine h2 N s' _ τ H0 T0 Hf Tf lf bf H2 T2 fr2 hG g1 g2 e1 e2 e3 hs ?_
    show vp_updL fo _ _ 0 = _
    exact if_pos rfl
theorem LJ_run {x : Int32} (h : CY z len tx mode c err H T S E C D fr f n fb s) (hK : KRN z c mode H T S E C D fr f) (hD0 : DSP H T S mode n fb) (hb0 : 1 ≤ b0) (hb1 : 6 ≤ b1) (hb2 : mode = 1 → 200 ≤ b0 ∧ 20000 ≤ b1)
    (h1 : ∀ b0' b1' op', (x < 0 ∨ 200 < x) → b0 ≤ b0' + 1 → b1 ≤ b1' + 6 → Q (.inl (some (.int (nI 1))), (cW s (rW r [oJ 1 fo]), b0', b1', op')))
    (h2 : ∀ N k mode' s' f' H' T' S' E' C' D' fr' fq n' fb' b0' b1' op', x = nI N → N ≤ 200 → k ≤ N → CRUN z N (H, T, (S, E, C, D), fr, f, mode) k (H', T', (S', E', C', D'), fr', fq, mode') → CY z len tx mode' c err H' T' S' E' C' D' fr' fq n' fb' s' → DSP H' T' S' mode' n' fb' → f' 0 = (nI k).toInt64 → (b0' = b0 ∧ b1' = b1 ∧ (mode = 1 ∨ mode' = mode)) ∨ (¬ mode' = 1 ∧ mode = 1 ∧ b0 ≤ b0' + 140 ∧ b1 ≤ b1' + 19740) → Q (.inl (some (.int (nI 0))), (cW s' (rW r [oJ 1 f']), b0', b1', op'))) :
    mj_Mt gT (law_cst xs) gnw (m + 14) y_Law_run [.ref 0, .int x, .ref 54] (cW s (rW r [oJ 1 fo]), b0, b1, op) Q := by
  intro J hJ
  refine hJ _ _ _ _ ?_
  refine J_run (h _) hK hD0 hb0 hb1 hb2 (fun b0' b1' hx q0 q1 => ?_) (fun N k mode' W' H' T' S' E' C' D' fr' f' n' fb' b0' b1' op' ex hN hkN hC hc hK' hD' hq => ?_)
  · exact h1 b0' b1' _ hx q0 q1
  · obtain ⟨s', rfl, hs⟩ := CJ_CY hc
    refine And.intro (in0 (by decide)) ?_
    refine h2 N k mode' s' _ H' T' S' E' C' D' fr' f' n' fb' b0' b1' op' ex hN hkN hC hs hD' ?_ hq
    show vp_updL fo _ _ 0 = _
    exact if_pos rfl
end ZKS
