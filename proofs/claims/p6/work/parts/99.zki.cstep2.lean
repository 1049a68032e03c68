def DSP (H T : Nat → Vl) (S : Vl) (mode : Int32) (n : Nat) (fb : Nat → Nat) : Prop := mode = 2 → ∃ R0 : Nat → Vl, n = (shw H T 120 [] R0 0 (ofV H S)).1.length ∧ agr (shw H T 120 [] R0 0 (ofV H S)).1 fb
theorem CA_cde {z c : Nat} {H T : Nat → Vl} {S E C D : Vl} {fr : Nat → Nat} {f : Nat} {U : Nat → Prop} {x : Int32} {σ' : KS} (hCD : CDE c H T) (hK : KT z c H T S E C D fr f U) (hx : ofV H C = vInt x) (hn : rqN x ≤ f) {md : Int32} (h : CA (H, T, (S, E, C, D), fr, f, md) σ' x) : CDE c σ'.1 σ'.2.1 := by
  rcases h with ⟨-, rfl⟩ | ⟨-, -, rfl⟩ | ⟨h19, al, sh, S', E', C', D', f', hs, hf, rfl⟩
  · exact hCD
  · exact hCD
  · exact CDE_ag hCD (KT_act hK hx h19 hn hs hf).2
theorem CSTEP_cde {z c : Nat} {H T : Nat → Vl} {S E C D : Vl} {fr : Nat → Nat} {f : Nat} {U : Nat → Prop} {σ' : KS} {md : Int32} (hCD : CDE c H T) (hK : KT z c H T S E C D fr f U) (h : CSTEP z (H, T, (S, E, C, D), fr, f, md) σ') : CDE c σ'.1 σ'.2.1 := by
  obtain ⟨x, hx, h⟩ := h
  rcases h with ⟨hn, h⟩ | ⟨-, mk, hC, ⟨hn, h⟩ | ⟨-, rfl⟩⟩
  · exact CA_cde hCD hK hx hn h
  · exact CA_cde hCD (KT_col hK hCD hC).1 hx hn h
  · exact hCD
section ZKK
variable {m b0 b1 : Nat} {op : Bool} {tl : List mj_O} {Q : mj_R → Prop} {xs : List Int32} {o0 o1 o2 o3 o4 o5 o6 o7 o8 o9 o10 o11 o12 o13 o14 o15 : mj_O} {S E C D : Vl} {colls taken steps : Int32} {z : Nat} {H T : Nat → Vl} {fr : Nat → Nat} {g : gS} {f c : Nat} {k : Int32} {n : Nat} {fb : Nat → Nat} {R : Nat → Vl} {U : Nat → Prop}
set_option maxRecDepth 10000
theorem k_stepE (hz : z ≤ 250) (hc : 0 < c) (hcz : c ≤ z) (hK : KT z c H T S E C D fr f U) (hCD : CDE c H T) (hM : mOK z S E C D H T) (hfr : ∀ j, j < z → fr j < z) (hd : dOK z n fb R) (hc0 : 200 ≤ b0) (hc1 : 20000 ≤ b1)
    (hQ : ∀ S' E' C' D' mode' colls' taken' H' T' fr' g' f' k' n' fb' R' b0' b1' op' U', CSTEP z (H, T, (S, E, C, D), fr, f, 1) (H', T', (S', E', C', D'), fr', f', mode') → mOK z S' E' C' D' H' T' → (∀ j, j < z → fr' j < z) → KT z c H' T' S' E' C' D' fr' f' U' → (∀ i, i < c → H' i = H i ∧ T' i = T i) → dOK z n' fb' R' → DSP H' T' S' mode' n' fb' → ((b0' = b0 ∧ b1' = b1 ∧ (mode' = 1 ∨ mode' = 3 ∨ mode' = 4)) ∨ (mode' = 2 ∧ b0 ≤ b0' + 140 ∧ b1 ≤ b1' + 19740)) → Q (.inl none, (fW o0 o1 o2 o3 o4 o5 o6 o7 o8 o9 o10 o11 o12 o13 o14 o15 S' E' C' D' mode' colls' taken' (steps + 1) z H' T' fr' g' f' c k' n' fb' R' tl, b0', b1', op'))) :
    mj_Mt gT (law_cst xs) gnw (m + 11) y_Machine_step [.ref 16] (fW o0 o1 o2 o3 o4 o5 o6 o7 o8 o9 o10 o11 o12 o13 o14 o15 S E C D 1 colls taken steps z H T fr g f c k n fb R tl, b0, b1, op) Q := by
  have hM0 := hM
  have hK0 := hK
  obtain ⟨hA, hB, hS, hE, hC, hD⟩ := hM
  obtain ⟨⟨ro, kq, nq, bq, eq, hT, hcU⟩, g2, g3, g4, g5⟩ := hK
  obtain ⟨c0, x, rfl, uc, hi, hr, hAX⟩ := TI_AX hT
  have hx : ofV H (vPr c0) = vInt x := hi
  have ex : (encV (ofV H (vPr c0))).toInt32 = x := iV_enc hx
  have h4 := (rnd_rq x).2
  intro J hJ
  refine hJ _ _ _ _ ?_
  refine k_instruction hz hA hB hfr hS hE hC hD ?_
  rw [ex]
  refine o_needs ?_
  rw [need_rq hr]
  refine s_freeCells ?_
  refine And.intro (fun h1 => ?_) (fun h1 => ?_)
  · have h1 : rqN x ≤ f := (nI_leI (by omega) (by omega)).mp h1
    refine s_freeCells ?_
    refine And.intro (fun _ => ?_) (fun h => absurd (nI_le h1 (by omega)) h)
    refine k_actE hx h1 hz hK0 hM0 hfr hd hc0 hc1 (fun q => ?_) (fun H' T' S' E' C' D' f' U' q q2 q3 qc => ?_) (fun k' fb' R' b0' b1' op' q q1 q2 q3 q4 => ?_)
    · refine And.intro (fun w => absurd rfl w) (fun _ => ?_)
      exact hQ _ _ _ _ 3 _ _ _ _ _ _ _ _ _ _ _ _ _ _ U ⟨x, hx, Or.inl ⟨h1, q⟩⟩ hM0 hfr hK0 (fun _ _ => ⟨rfl, rfl⟩) hd (fun w => absurd w (by decide)) (Or.inl ⟨rfl, rfl, Or.inr (Or.inl rfl)⟩)
    · refine And.intro (fun _ => ?_) (fun w => absurd w (by decide))
      exact hQ _ _ _ _ 1 _ _ _ _ _ _ _ _ _ _ _ _ _ _ U' ⟨x, hx, Or.inl ⟨h1, q⟩⟩ q2 hfr q3 qc hd (fun w => absurd w (by decide)) (Or.inl ⟨rfl, rfl, Or.inl rfl⟩)
    · refine And.intro (fun _ => ?_) (fun w => absurd w (by decide))
      exact hQ _ _ _ _ 2 _ _ _ _ _ _ _ _ _ _ _ _ _ _ U ⟨x, hx, Or.inl ⟨h1, q⟩⟩ hM0 hfr hK0 (fun _ _ => ⟨rfl, rfl⟩) q1 (fun _ => ⟨R, rfl, q2⟩) (Or.inr ⟨rfl, q3, q4⟩)
  · have h1 : f < rqN x := Nat.lt_of_not_le (fun w => h1 (nI_le w (by omega)))
    refine k_collect hz hcz hA hB hS hE hC hD ?_
    rw [if_neg (show ¬ c = 0 by omega)]
    have hCOL := mrk_COL (g := g) hM0 (show 0 < z by omega)
    have hfu := fuN_le (mrk z H T S E (vPr c0) D (vPr 0) g).1 z 0 (fr, 0)
    have hfr2 := fuN_fr (mrk z H T S E (vPr c0) D (vPr 0) g).1 z 0 (fr, 0) (by omega) hfr
    obtain ⟨hK2, -⟩ := KT_col hK0 hCD hCOL
    generalize (mrk z H T S E (vPr c0) D (vPr 0) g) = g2 at *
    obtain ⟨p, ep⟩ : ∃ p, p = fuN g2.1 z 0 (fr, 0) := ⟨_, rfl⟩
    rw [← ep] at hfu hfr2 hK2 ⊢
    have hfu : p.2 ≤ 0 + z := hfu
    refine s_freeCells ?_
    refine And.intro (fun h2 => ?_) (fun h2 => ?_)
    · have h2 : rqN x ≤ p.2 := (nI_leI (by omega) (by omega)).mp h2
      refine k_actE hx h2 hz hK2 hM0 hfr2 hd hc0 hc1 (fun q => ?_) (fun H' T' S' E' C' D' f' U' q q2 q3 qc => ?_) (fun k' fb' R' b0' b1' op' q q1 q2 q3 q4 => ?_)
      · refine And.intro (fun w => absurd rfl w) (fun _ => ?_)
        exact hQ _ _ _ _ 3 _ _ _ _ _ _ _ _ _ _ _ _ _ _ _ ⟨x, hx, Or.inr ⟨h1, g2.1, hCOL, Or.inl (by rw [← ep]; exact ⟨h2, q⟩)⟩⟩ hM0 hfr2 hK2 (fun _ _ => ⟨rfl, rfl⟩) hd (fun w => absurd w (by decide)) (Or.inl ⟨rfl, rfl, Or.inr (Or.inl rfl)⟩)
      · refine And.intro (fun _ => ?_) (fun w => absurd w (by decide))
        exact hQ _ _ _ _ 1 _ _ _ _ _ _ _ _ _ _ _ _ _ _ U' ⟨x, hx, Or.inr ⟨h1, g2.1, hCOL, Or.inl (by rw [← ep]; exact ⟨h2, q⟩)⟩⟩ q2 hfr2 q3 qc hd (fun w => absurd w (by decide)) (Or.inl ⟨rfl, rfl, Or.inl rfl⟩)
      · refine And.intro (fun _ => ?_) (fun w => absurd w (by decide))
        exact hQ _ _ _ _ 2 _ _ _ _ _ _ _ _ _ _ _ _ _ _ _ ⟨x, hx, Or.inr ⟨h1, g2.1, hCOL, Or.inl (by rw [← ep]; exact ⟨h2, q⟩)⟩⟩ hM0 hfr2 hK2 (fun _ _ => ⟨rfl, rfl⟩) q1 (fun _ => ⟨R, rfl, q2⟩) (Or.inr ⟨rfl, q3, q4⟩)
    · have h2 : p.2 < rqN x := Nat.lt_of_not_le (fun w => h2 (nI_le w (by omega)))
      exact hQ _ _ _ _ 4 _ _ _ _ _ _ _ _ _ _ _ _ _ _ _ ⟨x, hx, Or.inr ⟨h1, g2.1, hCOL, Or.inr (by rw [← ep]; exact ⟨h2, rfl⟩)⟩⟩ hM0 hfr2 hK2 (fun _ _ => ⟨rfl, rfl⟩) hd (fun w => absurd w (by decide)) (Or.inl ⟨rfl, rfl, Or.inr (Or.inr rfl)⟩)
end ZKK
