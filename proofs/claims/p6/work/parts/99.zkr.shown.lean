def SHQ (H T : Nat → Vl) (S : Vl) (mode x y : Int32) : Prop := (¬ mode = 2 ∧ y = -1) ∨ (mode = 2 ∧ ∃ l : List Nat, l.length ≤ 140 ∧ (∃ R0 : Nat → Vl, l = (shw H T 120 [] R0 0 (ofV H S)).1) ∧ y = if 0 ≤ x ∧ x < 120 ∧ x < nI l.length then nI (l.getD x.toNatClampNeg 0) else -1)
section ZKR
variable {m b0 b1 : Nat} {op : Bool} {tl W : List mj_O} {Q : mj_R → Prop} {xs : List Int32} {z len c : Nat} {tx : Nat → Nat} {mode err : Int32} {H T : Nat → Vl} {S E C D : Vl} {fr : Nat → Nat} {f n : Nat} {fb : Nat → Nat}
set_option maxRecDepth 10000
theorem CJ_M (h : CJ z len tx mode c err H T S E C D fr f n fb tl W) : mOK z S E C D H T := by
  obtain ⟨t, X, a, s, colls, taken, steps, g, k, R, rfl, hz, ht, hx, hF, hO, hM, hfr, hf, hc, hd⟩ := h
  exact hM
theorem M_shownE {err : Int32} {t : tS} {X : Nat → Int32} {a : Nat} {s : cD_} {S E C D : Vl} {colls taken steps : Int32} {H T : Nat → Vl} {fr : Nat → Nat} {g : gS} {f : Nat} {k : Int32} {n : Nat} {fb : Nat → Nat} {R : Nat → Vl} {x : Int32} {l : List Nat} (hn : n = l.length) (hl : l.length ≤ 140) (hag : agr l fb) (hQ : ∀ op', Q (.inl (some (.int (if 0 ≤ x ∧ x < 120 ∧ x < nI l.length then nI (l.getD x.toNatClampNeg 0) else -1))), (WC z err t X len a s S E C D mode colls taken steps H T fr g f c k n fb R tl, b0 + 1, b1, op'))) : mj_Mt gT (law_cst xs) gnw (m + 6) y_Machine_shownCode [.ref 16, .int x] (WC z err t X len a s S E C D mode colls taken steps H T fr g f c k n fb R tl, b0 + 1, b1, op) Q := by
  subst hn
  intro J hJ
  refine hJ _ _ _ _ ?_
  refine d_codeAt hl hag (fun op' => ?_)
  exact hQ op'
theorem J_shownE {x : Int32} (h : CJ z len tx mode c err H T S E C D fr f n fb tl W) (hds : DSP H T S mode n fb) (hQ : ∀ y op', SHQ H T S mode x y → Q (.inl (some (.int y)), (W, b0 + 1, b1, op'))) : mj_Mt gT (law_cst xs) gnw (m + 7) y_P_shown [.ref 0, .int x] (W, b0 + 1, b1, op) Q := by
  obtain ⟨t, X, a, s, colls, taken, steps, g, k, R, rfl, hz, ht, hx, hF, hO, hM, hfr, hf, hc, hd⟩ := h
  intro J hJ
  refine hJ _ _ _ _ ?_
  refine M_mode ?_
  refine And.intro (fun (g : ¬ mode = 2) => ?_) (fun (g : mode = 2) => ?_)
  · exact hQ _ op (Or.inl ⟨g, rfl⟩)
  · obtain ⟨R0, e1, e2⟩ := hds g
    obtain ⟨⟨l', el, hl, -⟩, -⟩ := hd
    have hl2 : (shw H T 120 [] R0 0 (ofV H S)).1.length ≤ 140 := by omega
    refine M_shownE e1 hl2 e2 (fun op' => ?_)
    exact hQ _ op' (Or.inr ⟨g, _, hl2, ⟨R0, rfl⟩, rfl⟩)
theorem sOK_VR {ρ : Nat → Nat → Prop} {v w : Vl} (hv : okV z v) (q : VR ρ v w) : sOKv w := by
  intro y e
  subst e
  rcases v with u | x | x | a | a <;> first | exact absurd q id | skip
  obtain ⟨c, hc, rfl⟩ := hv
  have q : nI c = y := q
  exact ⟨c, hc, q.symm⟩
end ZKR
section ZKS
variable {cst : Nat → Option (Nat × (Nat → Int32))} {m b0 b1 : Nat} {op : Bool} {tl : List mj_O} {Q : mj_R → Prop} {s : cS} {r : rM} {z c : Nat} {H T : Nat → Vl} {S E C D : Vl} {fr : Nat → Nat} {f : Nat} {mode : Int32}
set_option maxRecDepth 10000
theorem JNT_PRC {R0 : Nat → Vl} (hJN : JNT z c (H, T, (S, E, C, D), fr, f, mode) r) (hM : mOK z S E C D H T) (h2 : mode = 2) : ∃ p : sP, (r.shown = nI p.1 ∧ r.show_ = p.2) ∧ PRC (shw H T 120 [] R0 0 (ofV H S)).1 p := by
  obtain ⟨hst, hJN⟩ := hJN
  have hst : r.state = mode := hst
  obtain ⟨hA, hB, -⟩ := hM
  rcases hJN with ⟨-, -, w⟩ | ⟨-, -, w, -⟩ | ⟨hc, hp, -, hCD, R', H', T', S', E', C', D', ro', k0, n0, b0', e0, U, ρ, hX, hT, hK, hBI⟩
  · have w : mode = 0 := w
    exact absurd (h2.symm.trans w) (by decide)
  · have w : mode = 0 := w
    exact absurd (h2.symm.trans w) (by decide)
  · obtain ⟨hI, hBH, ⟨qS, qE, qC, qD, qR⟩, hdom, hf, hcR, hSh⟩ := hBI
    have hBH : BH ρ H T H' T' := hBH
    have qS : VR ρ S S' := qS
    have hUz : ∀ a, U a → a < z := hK.2.1
    have hSM : SMc r H' T' (fun b => ∃ a, ρ a b) := by
      refine ⟨hX.1.1.2, fun b hb => ?_⟩
      obtain ⟨a, q⟩ := hb
      obtain ⟨ua, ub⟩ := hdom a b q
      obtain ⟨q1, q2⟩ := hBH a b q
      refine ⟨ub, hX.1.2.1 b ub, ⟨sOK_VR (hA a (hUz a ua)) q1, sOK_VR (hB a (hUz a ua)) q2⟩, fun b2 e2 => ?_, fun b2 e2 => ?_⟩
      · obtain ⟨a3, e3, w3⟩ := cellW q1 e2
        exact ⟨a3, w3⟩
      · obtain ⟨a3, e3, w3⟩ := cellW q2 e2
        exact ⟨a3, w3⟩
    have hin : inU (fun b => ∃ a, ρ a b) S' := fun b eb => by
      obtain ⟨a3, e3, w3⟩ := cellW qS eb
      exact ⟨a3, w3⟩
    obtain ⟨p, hp1, hp2⟩ := hSh (hst.trans h2) ⟨_, hSM, hin⟩
    refine ⟨p, hp1, ?_⟩
    rw [shw_VR hBH 120 [] R0 (fun _ => vNil) 0 _ _ (fun i hi => absurd hi (Nat.not_lt_zero i)) (VR_H hBH qS)]
    exact hp2
theorem R_shownE {x y : Int32} (hJN : JNT z c (H, T, (S, E, C, D), fr, f, mode) r) (hM : mOK z S E C D H T) (hy : SHQ H T S mode x y) (hQ : Q (.inl (some (.int y)), (cW s (rW (thR r 0) tl), b0, b1, op))) : mj_Mt gT cst gnw (m + 1) y_R_shown [.ref 27, .int x] (cW s (rW r tl), b0, b1, op) Q := by
  have hst : r.state = mode := hJN.1
  intro J hJ
  refine hJ _ _ _ _ ?_
  rcases hy with ⟨g, rfl⟩ | ⟨g, l, hl, ⟨R0, el⟩, hy⟩
  · refine And.intro (fun _ => hQ) (fun (w : r.state = 2) => absurd (hst.symm.trans w) g)
  · obtain ⟨p, ⟨p1, p2⟩, hp⟩ := JNT_PRC (R0 := R0) hJN hM g
    rw [← el] at hp
    have hp1 := hp.1
    refine And.intro (fun (w : ¬ r.state = 2) => absurd (hst.trans g) w) (fun _ => ?_)
    refine And.intro (fun (w : x < 0) => ?_) (fun (w : ¬ x < 0) => ?_)
    · rw [if_neg (fun q => absurd w (Int32.not_lt.mpr q.1))] at hy
      rw [hy] at hQ
      exact hQ
    · obtain ⟨j, hj, rfl⟩ := nI_of w
      refine And.intro (fun (w2 : r.shown ≤ nI j) => ?_) (fun (w2 : ¬ r.shown ≤ nI j) => ?_)
      · rw [p1] at w2
        have w3 : p.1 ≤ j := (nI_leI (by omega) hj).mp w2
        rw [if_neg (fun q => by
          have q1 : j < 120 := (nI_ltI (b := 120) hj (by decide)).mp q.2.1
          have q2 : j < l.length := (nI_ltI hj (by omega)).mp q.2.2
          omega)] at hy
        rw [hy] at hQ
        exact hQ
      · have w3 : j < p.1 := Nat.lt_of_not_le (fun q => w2 (by rw [p1]; exact nI_le q hj))
        have e : r.show_ (nI j).toNatClampNeg = y := by
          rw [nI_clamp hj, p2, hp.2 j w3, hy, if_pos ⟨Int32.not_lt.mp w, (nI_ltI (b := 120) hj (by decide)).mpr (by omega), (nI_ltI hj (by omega)).mpr (by omega)⟩, nI_clamp hj]
        refine And.intro (vp_in_nI (show j < 120 by omega) (by decide)) ?_
        show Q (.inl (some (.int (r.show_ (nI j).toNatClampNeg))), (cW s (rW (thR r 0) tl), b0, b1, op))
        rw [e]
        exact hQ
end ZKS
