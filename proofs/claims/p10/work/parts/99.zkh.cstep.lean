section
abbrev KS : Type := (Nat → Vl) × (Nat → Vl) × (Vl × Vl × Vl × Vl) × (Nat → Nat) × Nat × Int32
def CA (σ σ' : KS) (x : Int32) : Prop :=
    (x = 19 ∧ σ' = (σ.1, σ.2.1, σ.2.2.1, σ.2.2.2.1, σ.2.2.2.2.1, 2))
  ∨ (¬ x = 19 ∧ stp (fun j => σ.2.2.2.1 (σ.2.2.2.2.1 - 1 - j)) σ.1 σ.2.1 σ.2.2.1.1 σ.2.2.1.2.1 σ.2.2.1.2.2.1 σ.2.2.1.2.2.2 x = none ∧ σ' = (σ.1, σ.2.1, σ.2.2.1, σ.2.2.2.1, σ.2.2.2.2.1, 3))
  ∨ (¬ x = 19 ∧ ∃ al sh S' E' C' D' f', stp (fun j => σ.2.2.2.1 (σ.2.2.2.2.1 - 1 - j)) σ.1 σ.2.1 σ.2.2.1.1 σ.2.2.1.2.1 σ.2.2.1.2.2.1 σ.2.2.1.2.2.2 x = some (al, sh, S', E', C', D') ∧ f' + rqN x = σ.2.2.2.2.1 ∧ σ' = (stH sh (alH (fun j => σ.2.2.2.1 (σ.2.2.2.2.1 - 1 - j)) 0 al σ.1), alT (fun j => σ.2.2.2.1 (σ.2.2.2.2.1 - 1 - j)) 0 al σ.2.1, (S', E', C', D'), σ.2.2.2.1, f', 1))
def COL (z : Nat) (H T : Nat → Vl) (S E C D : Vl) (mk : Nat → Bool) : Prop := (rtM mk S ∧ rtM mk E ∧ rtM mk C ∧ rtM mk D ∧ rtM mk (vPr 0)) ∧ (∀ a, a < z → mk a = true → rtM mk (H a) ∧ rtM mk (T a)) ∧ ∀ M : Nat → Prop, clo M H T → inU M S → inU M E → inU M C → inU M D → M 0 → ∀ a, a < z → mk a = true → M a
def CSTEP (z : Nat) (σ σ' : KS) : Prop := ∃ x, ofV σ.1 σ.2.2.1.2.2.1 = vInt x ∧
    ((rqN x ≤ σ.2.2.2.2.1 ∧ CA σ σ' x)
  ∨ (σ.2.2.2.2.1 < rqN x ∧ ∃ mk, COL z σ.1 σ.2.1 σ.2.2.1.1 σ.2.2.1.2.1 σ.2.2.1.2.2.1 σ.2.2.1.2.2.2 mk ∧
      ((rqN x ≤ (fuN mk z 0 (σ.2.2.2.1, 0)).2 ∧ CA (σ.1, σ.2.1, σ.2.2.1, (fuN mk z 0 (σ.2.2.2.1, 0)).1, (fuN mk z 0 (σ.2.2.2.1, 0)).2, σ.2.2.2.2.2) σ' x)
      ∨ ((fuN mk z 0 (σ.2.2.2.1, 0)).2 < rqN x ∧ σ' = (σ.1, σ.2.1, σ.2.2.1, (fuN mk z 0 (σ.2.2.2.1, 0)).1, (fuN mk z 0 (σ.2.2.2.1, 0)).2, 4)))))
def KT (z c : Nat) (H T : Nat → Vl) (S E C D : Vl) (fr : Nat → Nat) (f : Nat) (U : Nat → Prop) : Prop := (∃ ro k n b e, TI H T ro U S E C D (vPr 0) k n b e ∧ ∀ i, i < c → U i ∧ ro i = false) ∧ (∀ a, U a → a < z) ∧ (∀ j, j < f → fr j < z ∧ ¬ U (fr j)) ∧ (∀ i j, i < j → j < f → ¬ fr i = fr j) ∧ f ≤ z
theorem need_rq {x : Int32} (h : 1 ≤ x ∧ x ≤ 19) : needX x = rqN x := by
  obtain ⟨h1, h2⟩ := h
  obtain ⟨j, hj, rfl⟩ := nI_of (Int32.not_lt.mpr (Int32.le_trans (by decide : (0 : Int32) ≤ 1) h1))
  have g1 : 1 ≤ j := (nI_leI (a := 1) (by decide) hj).mp h1
  have g2 : j ≤ 19 := (nI_leI (b := 19) hj (by decide)).mp h2
  exact (by decide : ∀ j, j < 20 → 1 ≤ j → needX (nI j) = rqN (nI j)) j (by omega) g1
def CDE (c : Nat) (H T : Nat → Vl) : Prop := (∀ i, i < c → inU (fun a => a < c) (H i) ∧ inU (fun a => a < c) (T i)) ∧ ∀ M : Nat → Prop, M 0 → (∀ i, i < c → M i → inU M (H i) ∧ inU M (T i)) → ∀ i, i < c → M i
theorem CDE_ag {c : Nat} {H T H' T' : Nat → Vl} (h : CDE c H T) (hH : ∀ i, i < c → H' i = H i ∧ T' i = T i) : CDE c H' T' := by
  refine ⟨fun i hi => ?_, fun M m0 hM => h.2 M m0 (fun i hi mi => ?_)⟩
  · rw [(hH i hi).1, (hH i hi).2]
    exact h.1 i hi
  · rw [← (hH i hi).1, ← (hH i hi).2]
    exact hM i hi mi
section ZKI
variable {z c : Nat} {H T : Nat → Vl} {S E C D : Vl} {fr : Nat → Nat} {f : Nat} {U : Nat → Prop} {x : Int32} {g : gS}
theorem KT_fr (h : KT z c H T S E C D fr f U) {n : Nat} (hn : n ≤ f) : frN U (fun j => fr (f - 1 - j)) n := by
  obtain ⟨-, -, h3, h4, -⟩ := h
  intro j hj
  refine ⟨(h3 (f - 1 - j) (by omega)).2, fun l hl hne e => ?_⟩
  have e : fr (f - 1 - l) = fr (f - 1 - j) := e
  rcases Nat.lt_or_ge (f - 1 - l) (f - 1 - j) with w | w
  · exact h4 _ _ w (by omega) e
  · exact h4 (f - 1 - j) (f - 1 - l) (by omega) (by omega) e.symm
theorem KT_act (h : KT z c H T S E C D fr f U) (hx : ofV H C = vInt x) (h19 : ¬ x = 19) (hn : rqN x ≤ f) {al : List (Vl × Vl)} {sh : Option (Vl × Vl)} {S' E' C' D' : Vl} {f' : Nat} (hs : stp (fun j => fr (f - 1 - j)) H T S E C D x = some (al, sh, S', E', C', D')) (hf : f' + rqN x = f) : KT z c (stH sh (alH (fun j => fr (f - 1 - j)) 0 al H)) (alT (fun j => fr (f - 1 - j)) 0 al T) S' E' C' D' fr f' (nwU U (fun j => fr (f - 1 - j)) (rqN x)) ∧ ∀ i, i < c → stH sh (alH (fun j => fr (f - 1 - j)) 0 al H) i = H i ∧ alT (fun j => fr (f - 1 - j)) 0 al T i = T i := by
  have hfr := KT_fr h hn
  obtain ⟨⟨ro, k, n, b, e, hT, hcd⟩, h2, h3, h4, h5⟩ := h
  obtain ⟨ro', k', n', b', e', hT', hEx⟩ := stp_TI hT hx hfr h19 hs
  refine ⟨⟨⟨ro', k', n', b', e', hT', fun i hi => ⟨Or.inl (hcd i hi).1, (hEx i (hcd i hi).1).2.1.trans (hcd i hi).2⟩⟩, fun a ha => ?_, fun j hj => ⟨(h3 j (by omega)).1, ?_⟩, fun i j hij hj => h4 i j hij (by omega), by omega⟩, fun i hi => ⟨(hEx i (hcd i hi).1).2.2 (hcd i hi).2, (hEx i (hcd i hi).1).1⟩⟩
  · rcases ha with q | ⟨j, hj, rfl⟩
    · exact h2 a q
    · exact (h3 _ (by omega)).1
  · rintro (q | ⟨l, hl, q⟩)
    · exact (h3 j (by omega)).2 q
    · exact h4 j (f - 1 - l) (by omega) (by omega) q
theorem KT_col (h : KT z c H T S E C D fr f U) (hcd : CDE c H T) {mk : Nat → Bool} (hc : COL z H T S E C D mk) : KT z c H T S E C D (fuN mk z 0 (fr, 0)).1 (fuN mk z 0 (fr, 0)).2 (fun a => a < z ∧ mk a = true) ∧ (∀ a, a < z → mk a = true → U a) ∧ (∀ i, i < c → mk i = true) := by
  obtain ⟨⟨ro, k, n, b, e, hT, hcU⟩, h2, h3, h4, h5⟩ := h
  obtain ⟨⟨rS, rE, rC, rD, r0⟩, hcl, hmin⟩ := hc
  have hU : ∀ a, a < z → mk a = true → U a := hmin U (fun a ua => ⟨SI_h hT.1.1 ua, SI_t hT.1.1 ua⟩) hT.2.1.1 hT.2.2.1.1 hT.2.2.2.1.1 hT.2.2.2.2.1.1 (inU_pr hT.1.2.1)
  have hmc : ∀ i, i < c → mk i = true := hcd.2 (fun a => mk a = true) (r0 0 rfl) (fun i hi mi => hcl i (h2 i (hcU i hi).1) mi)
  have tr : ∀ v, inU U v → rtM mk v → inU (fun a => a < z ∧ mk a = true) v := fun v q1 q2 a ea => ⟨h2 a (q1 a ea), q2 a ea⟩
  obtain ⟨f1, f2, f3⟩ := fuN_ok mk z 0 (fr, 0) (fun j hj => absurd hj (Nat.not_lt_zero j)) (fun i j _ hj => absurd hj (Nat.not_lt_zero j))
  rw [Nat.zero_add] at f1 f2
  refine ⟨⟨⟨ro, k, n, b, e, TI_sub hT (fun a ha => hU a ha.1 ha.2) (fun a ha => ?_) (tr S hT.2.1.1 rS) (tr E hT.2.2.1.1 rE) (tr C hT.2.2.2.1.1 rC) (tr D hT.2.2.2.2.1.1 rD) (tr _ hT.1.2.1 r0), fun i hi => ⟨⟨h2 i (hcU i hi).1, hmc i hi⟩, (hcU i hi).2⟩⟩, fun a ha => ha.1, fun j hj => ?_, fun i j hij hj => by have := f3 i j hij hj; omega, ?_⟩, hU, hmc⟩
  · have ua := hU a ha.1 ha.2
    obtain ⟨q1, q2⟩ := hcl a ha.1 ha.2
    exact ⟨tr _ (SI_h hT.1.1 ua) q1, tr _ (SI_t hT.1.1 ua) q2⟩
  · obtain ⟨q1, q2⟩ := f2 j hj
    refine ⟨q1, fun q => ?_⟩
    rw [q.2] at q2
    cases q2
  · have := cu_le mk z
    have e9 : 0 + z = z := Nat.zero_add z
    rw [e9] at f1
    have e0 : cu mk 0 = 0 := rfl
    omega
theorem mrk_COL (hM : mOK z S E C D H T) (hz0 : 0 < z) : COL z H T S E C D (mrk z H T S E C D (vPr 0) g).1 := by
  obtain ⟨hA, hB, hS, hE, hC, hD⟩ := hM
  have triv : ∀ v : Vl, inU (fun _ => True) v := fun v a _ => trivial
  have h1 := mrk_ok (g := g) (M := fun _ => True) (K := vPr 0) hA hB hS hE hC hD hz0 (fun a _ => ⟨triv _, triv _⟩) (triv S) (triv E) (triv C) (triv D) (triv _)
  refine ⟨h1.2, fun a ha hm => (h1.1 a ha hm).2, fun M c1 m1 m2 m3 m4 m5 a ha hm => ?_⟩
  exact ((mrk_ok (g := g) (M := M) (K := vPr 0) hA hB hS hE hC hD hz0 c1 m1 m2 m3 m4 (pr_inU m5)).1 a ha hm).1
end ZKI
section ZKJ
variable {m b0 b1 : Nat} {op : Bool} {tl : List mj_O} {Q : mj_R → Prop} {xs : List Int32} {o0 o1 o2 o3 o4 o5 o6 o7 o8 o9 o10 o11 o12 o13 o14 o15 : mj_O} {S E C D : Vl} {mode colls taken steps : Int32} {z : Nat} {H T : Nat → Vl} {fr : Nat → Nat} {g : gS} {f c : Nat} {k : Int32} {n : Nat} {fb : Nat → Nat} {R : Nat → Vl} {U : Nat → Prop}
set_option maxRecDepth 10000
theorem k_stopX (hz : z ≤ 250) (hM : mOK z S E C D H T) (hd : dOK z n fb R) (hc0 : 200 ≤ b0) (hc1 : 20000 ≤ b1) (hQ : ∀ k' fb' R' b0' b1' op', dOK z (shw H T 120 [] R 0 (ofV H S)).1.length fb' R' → agr (shw H T 120 [] R 0 (ofV H S)).1 fb' → b0 ≤ b0' + 140 → b1 ≤ b1' + 19740 → Q (.inl (some (.int 1)), (fW o0 o1 o2 o3 o4 o5 o6 o7 o8 o9 o10 o11 o12 o13 o14 o15 S E C D 2 colls taken steps z H T fr g f c k' (shw H T 120 [] R 0 (ofV H S)).1.length fb' R' tl, b0', b1', op'))) : mj_Mt gT (law_cst xs) gnw (m + 9) y_Machine_stop [.ref 16] (fW o0 o1 o2 o3 o4 o5 o6 o7 o8 o9 o10 o11 o12 o13 o14 o15 S E C D mode colls taken steps z H T fr g f c k n fb R tl, b0, b1, op) Q := by
  obtain ⟨hA, hB, hS, hE, hC, hD⟩ := hM
  obtain ⟨hd1, hd2⟩ := hd
  intro J hJ
  refine hJ _ _ _ _ ?_
  refine s_head hz hS ?_
  have hs := shw_ok hA hB 120 [] R 0 (ofV H S) (Nat.zero_le _) (by decide) (okV_of hA hS) hd2
  refine d_show hz hA hB hc0 hc1 (okV_of hA hS) hd2 (fun f' b0' b1' q1 q2 q3 => ?_)
  refine And.intro (Or.inr rfl) ?_
  have hp := pot_le (n := (shw H T 120 [] R 0 (ofV H S)).1.length) (by omega)
  exact hQ _ _ _ _ _ _ ⟨⟨_, rfl, hs.1, q1⟩, hs.2⟩ q1 (by omega) (by omega)
theorem k_actE {x : Int32} (hx : ofV H C = vInt x) (hn : rqN x ≤ f) (hz : z ≤ 250) (hK : KT z c H T S E C D fr f U) (hM : mOK z S E C D H T) (hfr : ∀ j, j < z → fr j < z) (hd : dOK z n fb R) (hc0 : 200 ≤ b0) (hc1 : 20000 ≤ b1)
    (h0 : CA (H, T, (S, E, C, D), fr, f, 1) (H, T, (S, E, C, D), fr, f, 3) x → Q (.inl (some (.int 0)), (fW o0 o1 o2 o3 o4 o5 o6 o7 o8 o9 o10 o11 o12 o13 o14 o15 S E C D mode colls taken steps z H T fr g f c k n fb R tl, b0, b1, op)))
    (h1 : ∀ H' T' S' E' C' D' f' U', CA (H, T, (S, E, C, D), fr, f, 1) (H', T', (S', E', C', D'), fr, f', 1) x → mOK z S' E' C' D' H' T' → KT z c H' T' S' E' C' D' fr f' U' → (∀ i, i < c → H' i = H i ∧ T' i = T i) → Q (.inl (some (.int 1)), (fW o0 o1 o2 o3 o4 o5 o6 o7 o8 o9 o10 o11 o12 o13 o14 o15 S' E' C' D' mode colls taken steps z H' T' fr g f' c k n fb R tl, b0, b1, op)))
    (h2 : ∀ k' fb' R' b0' b1' op', CA (H, T, (S, E, C, D), fr, f, 1) (H, T, (S, E, C, D), fr, f, 2) x → dOK z (shw H T 120 [] R 0 (ofV H S)).1.length fb' R' → agr (shw H T 120 [] R 0 (ofV H S)).1 fb' → b0 ≤ b0' + 140 → b1 ≤ b1' + 19740 → Q (.inl (some (.int 1)), (fW o0 o1 o2 o3 o4 o5 o6 o7 o8 o9 o10 o11 o12 o13 o14 o15 S E C D 2 colls taken steps z H T fr g f c k' (shw H T 120 [] R 0 (ofV H S)).1.length fb' R' tl, b0', b1', op'))) :
    mj_Mt gT (law_cst xs) gnw (m + 10) y_Machine_act [.ref 16, .int x] (fW o0 o1 o2 o3 o4 o5 o6 o7 o8 o9 o10 o11 o12 o13 o14 o15 S E C D mode colls taken steps z H T fr g f c k n fb R tl, b0, b1, op) Q := by
  have hK0 := hK
  obtain ⟨⟨ro, kq, nq, bq, eq, hT, hcU⟩, g2, g3, g4, g5⟩ := hK
  obtain ⟨c0, i, rfl, uc, hi, hr, hAX⟩ := TI_AX hT
  have hx0 : H c0 = vInt x := hx
  rw [hi] at hx0
  cases hx0
  by_cases h19 : x = 19
  · subst h19
    intro J hJ
    refine hJ _ _ _ _ ?_
    refine And.intro (fun q => absurd (show (19 : Int32) = 1 from q) (by decide)) (fun _ => ?_)
    refine And.intro (fun q => absurd (show (19 : Int32) = 2 from q) (by decide)) (fun _ => ?_)
    refine And.intro (fun q => absurd (show (19 : Int32) = 3 from q) (by decide)) (fun _ => ?_)
    refine And.intro (fun q => absurd (show (19 : Int32) = 4 from q) (by decide)) (fun _ => ?_)
    refine And.intro (fun q => absurd (show (19 : Int32) = 5 from q) (by decide)) (fun _ => ?_)
    refine And.intro (fun q => absurd (show (19 : Int32) = 6 from q) (by decide)) (fun _ => ?_)
    refine And.intro (fun q => absurd (show (19 : Int32) = 7 from q) (by decide)) (fun _ => ?_)
    refine And.intro (fun q => absurd (show (19 : Int32) = 8 from q) (by decide)) (fun _ => ?_)
    refine And.intro (fun q => absurd (show (19 : Int32) = 9 from q) (by decide)) (fun _ => ?_)
    refine And.intro (fun q => absurd (show (19 : Int32) = 10 from q) (by decide)) (fun _ => ?_)
    refine And.intro (fun q => absurd (show (19 : Int32) = 11 from q) (by decide)) (fun _ => ?_)
    refine And.intro (fun q => absurd (show (19 : Int32) = 12 from q) (by decide)) (fun _ => ?_)
    refine And.intro (fun q => absurd (show (19 : Int32) = 13 from q) (by decide)) (fun _ => ?_)
    refine And.intro (fun q => absurd (show (19 : Int32) = 14 from q) (by decide)) (fun _ => ?_)
    refine And.intro (fun q => absurd (show (19 : Int32) = 15 from q) (by decide)) (fun _ => ?_)
    refine And.intro (fun q => absurd (show (19 : Int32) = 16 from q) (by decide)) (fun _ => ?_)
    refine And.intro (fun q => absurd (show (19 : Int32) = 17 from q) (by decide)) (fun _ => ?_)
    refine And.intro (fun q => absurd (show (19 : Int32) = 18 from q) (by decide)) (fun _ => ?_)
    refine And.intro (fun _ => ?_) (fun q => absurd (show (19 : Int32) = 19 from rfl) q)
    refine k_stopX hz hM hd hc0 hc1 (fun k' fb' R' b0' b1' op' q1 q2 q3 q4 => ?_)
    exact And.intro (Or.inr rfl) (h2 k' fb' R' b0' b1' op' (Or.inl ⟨rfl, rfl⟩) q1 q2 q3 q4)
  · have h18 : 1 ≤ x ∧ x ≤ 18 := by
      refine ⟨hr.1, ?_⟩
      obtain ⟨j, hj, rfl⟩ := nI_of (Int32.not_lt.mpr (Int32.le_trans (by decide : (0 : Int32) ≤ 1) hr.1))
      have w2 : j ≤ 19 := (nI_leI (b := 19) hj (by decide)).mp hr.2
      have w3 : ¬ j = 19 := fun e => h19 (by rw [e]; rfl)
      exact nI_le (b := 18) (by omega) (by decide)
    have hfrn := KT_fr hK0 hn
    refine k_actX (kk := fun j => fr (f - 1 - j)) h18 hAX (fun j hj => ⟨rfl, (hfrn j hj).1⟩) hn hz hM hfr g5 (fun q => h0 (Or.inr (Or.inl ⟨h19, q, rfl⟩))) (fun al sh S' E' C' D' f' q qf => ?_)
    have hOK : al.length = rqN x ∧ mOK z S' E' C' D' (stH sh (alH (fun j => fr (f - 1 - j)) 0 al H)) (alT (fun j => fr (f - 1 - j)) 0 al T) := OK_all h18 hM (fun j hj => (g3 _ (by omega)).1) q
    exact h1 _ _ _ _ _ _ f' _ (Or.inr (Or.inr ⟨h19, al, sh, S', E', C', D', f', q, qf, rfl⟩)) hOK.2 (KT_act hK0 hx h19 hn q qf).1 (KT_act hK0 hx h19 hn q qf).2
end ZKJ
end
section
def DSP (H T : Nat → Vl) (S : Vl) (mode : Int32) (n : Nat) (fb : Nat → Nat) : Prop := mode = 2 → ∃ R0 : Nat → Vl, n = (shw H T 120 [] R0 0 (ofV H S)).1.length ∧ agr (shw H T 120 [] R0 0 (ofV H S)).1 fb
theorem CA_cde {z c : Nat} {H T : Nat → Vl} {S E C D : Vl} {fr : Nat → Nat} {f : Nat} {U : Nat → Prop} {x : Int32} {σ' : KS} (hCD : CDE c H T) (hK : KT z c H T S E C D fr f U) (hx : ofV H C = vInt x) (hn : rqN x ≤ f) {md : Int32} (h : CA (H, T, (S, E, C, D), fr, f, md) σ' x) : CDE c σ'.1 σ'.2.1 := by
  rcases h with ⟨-, rfl⟩ | ⟨-, -, rfl⟩ | ⟨h19, al, sh, S', E', C', D', f', hs, hf, rfl⟩
  · exact hCD
  · exact hCD
  · exact CDE_ag hCD (KT_act hK hx h19 hn hs hf).2
theorem CSTEP_cde {z c : Nat} {H T : Nat → Vl} {S E C D : Vl} {fr : Nat → Nat} {f : Nat} {U : Nat → Prop} {σ' : KS} {md : Int32} (hCD : CDE c H T) (hK : KT z c H T S E C D fr f U) (h : CSTEP z (H, T, (S, E, C, D), fr, f, md) σ') : CDE c σ'.1 σ'.2.1 := by
  obtain ⟨x, hx, h⟩ := h
  rcases h with ⟨hn, h⟩ | ⟨-, mk, hC, ⟨hn, h⟩ | ⟨-, rfl⟩⟩
  · exact CA_cde hCD hK hx hn h
  · exact CA_cde hCD (KT_col hK hCD hC).1 hx hn h
  · exact hCD
section ZKK
variable {m b0 b1 : Nat} {op : Bool} {tl : List mj_O} {Q : mj_R → Prop} {xs : List Int32} {o0 o1 o2 o3 o4 o5 o6 o7 o8 o9 o10 o11 o12 o13 o14 o15 : mj_O} {S E C D : Vl} {colls taken steps : Int32} {z : Nat} {H T : Nat → Vl} {fr : Nat → Nat} {g : gS} {f c : Nat} {k : Int32} {n : Nat} {fb : Nat → Nat} {R : Nat → Vl} {U : Nat → Prop}
set_option maxRecDepth 10000
theorem k_stepE (hz : z ≤ 250) (hc : 0 < c) (hcz : c ≤ z) (hK : KT z c H T S E C D fr f U) (hCD : CDE c H T) (hM : mOK z S E C D H T) (hfr : ∀ j, j < z → fr j < z) (hd : dOK z n fb R) (hc0 : 200 ≤ b0) (hc1 : 20000 ≤ b1)
    (hQ : ∀ S' E' C' D' mode' colls' taken' H' T' fr' g' f' k' n' fb' R' b0' b1' op' U', CSTEP z (H, T, (S, E, C, D), fr, f, 1) (H', T', (S', E', C', D'), fr', f', mode') → mOK z S' E' C' D' H' T' → (∀ j, j < z → fr' j < z) → KT z c H' T' S' E' C' D' fr' f' U' → (∀ i, i < c → H' i = H i ∧ T' i = T i) → dOK z n' fb' R' → DSP H' T' S' mode' n' fb' → ((b0' = b0 ∧ b1' = b1 ∧ (mode' = 1 ∨ mode' = 3 ∨ mode' = 4)) ∨ (mode' = 2 ∧ b0 ≤ b0' + 140 ∧ b1 ≤ b1' + 19740)) → Q (.inl none, (fW o0 o1 o2 o3 o4 o5 o6 o7 o8 o9 o10 o11 o12 o13 o14 o15 S' E' C' D' mode' colls' taken' (steps + 1) z H' T' fr' g' f' c k' n' fb' R' tl, b0', b1', op'))) :
    mj_Mt gT (law_cst xs) gnw (m + 11) y_Machine_step [.ref 16] (fW o0 o1 o2 o3 o4 o5 o6 o7 o8 o9 o10 o11 o12 o13 o14 o15 S E C D 1 colls taken steps z H T fr g f c k n fb R tl, b0, b1, op) Q := by
  have hM0 := hM
  have hK0 := hK
  obtain ⟨hA, hB, hS, hE, hC, hD⟩ := hM
  obtain ⟨⟨ro, kq, nq, bq, eq, hT, hcU⟩, g2, g3, g4, g5⟩ := hK
  obtain ⟨c0, x, rfl, uc, hi, hr, hAX⟩ := TI_AX hT
  have hx : ofV H (vPr c0) = vInt x := hi
  have ex : (encV (ofV H (vPr c0))).toInt32 = x := iV_enc hx
  have h4 := (rnd_rq x).2
  intro J hJ
  refine hJ _ _ _ _ ?_
  refine k_instruction hz hA hB hfr hS hE hC hD ?_
  rw [ex]
  refine o_needs ?_
  rw [need_rq hr]
  refine s_freeCells ?_
  refine And.intro (fun h1 => ?_) (fun h1 => ?_)
  · have h1 : rqN x ≤ f := (nI_leI (by omega) (by omega)).mp h1
    refine s_freeCells ?_
    refine And.intro (fun _ => ?_) (fun h => absurd (nI_le h1 (by omega)) h)
    refine k_actE hx h1 hz hK0 hM0 hfr hd hc0 hc1 (fun q => ?_) (fun H' T' S' E' C' D' f' U' q q2 q3 qc => ?_) (fun k' fb' R' b0' b1' op' q q1 q2 q3 q4 => ?_)
    · refine And.intro (fun w => absurd rfl w) (fun _ => ?_)
      exact hQ _ _ _ _ 3 _ _ _ _ _ _ _ _ _ _ _ _ _ _ U ⟨x, hx, Or.inl ⟨h1, q⟩⟩ hM0 hfr hK0 (fun _ _ => ⟨rfl, rfl⟩) hd (fun w => absurd w (by decide)) (Or.inl ⟨rfl, rfl, Or.inr (Or.inl rfl)⟩)
    · refine And.intro (fun _ => ?_) (fun w => absurd w (by decide))
      exact hQ _ _ _ _ 1 _ _ _ _ _ _ _ _ _ _ _ _ _ _ U' ⟨x, hx, Or.inl ⟨h1, q⟩⟩ q2 hfr q3 qc hd (fun w => absurd w (by decide)) (Or.inl ⟨rfl, rfl, Or.inl rfl⟩)
    · refine And.intro (fun _ => ?_) (fun w => absurd w (by decide))
      exact hQ _ _ _ _ 2 _ _ _ _ _ _ _ _ _ _ _ _ _ _ U ⟨x, hx, Or.inl ⟨h1, q⟩⟩ hM0 hfr hK0 (fun _ _ => ⟨rfl, rfl⟩) q1 (fun _ => ⟨R, rfl, q2⟩) (Or.inr ⟨rfl, q3, q4⟩)
  · have h1 : f < rqN x := Nat.lt_of_not_le (fun w => h1 (nI_le w (by omega)))
    refine k_collect hz hcz hA hB hS hE hC hD ?_
    rw [if_neg (show ¬ c = 0 by omega)]
    have hCOL := mrk_COL (g := g) hM0 (show 0 < z by omega)
    have hfu := fuN_le (mrk z H T S E (vPr c0) D (vPr 0) g).1 z 0 (fr, 0)
    have hfr2 := fuN_fr (mrk z H T S E (vPr c0) D (vPr 0) g).1 z 0 (fr, 0) (by omega) hfr
    obtain ⟨hK2, -⟩ := KT_col hK0 hCD hCOL
    generalize (mrk z H T S E (vPr c0) D (vPr 0) g) = g2 at *
    obtain ⟨p, ep⟩ : ∃ p, p = fuN g2.1 z 0 (fr, 0) := ⟨_, rfl⟩
    rw [← ep] at hfu hfr2 hK2 ⊢
    have hfu : p.2 ≤ 0 + z := hfu
    refine s_freeCells ?_
    refine And.intro (fun h2 => ?_) (fun h2 => ?_)
    · have h2 : rqN x ≤ p.2 := (nI_leI (by omega) (by omega)).mp h2
      refine k_actE hx h2 hz hK2 hM0 hfr2 hd hc0 hc1 (fun q => ?_) (fun H' T' S' E' C' D' f' U' q q2 q3 qc => ?_) (fun k' fb' R' b0' b1' op' q q1 q2 q3 q4 => ?_)
      · refine And.intro (fun w => absurd rfl w) (fun _ => ?_)
        exact hQ _ _ _ _ 3 _ _ _ _ _ _ _ _ _ _ _ _ _ _ _ ⟨x, hx, Or.inr ⟨h1, g2.1, hCOL, Or.inl (by rw [← ep]; exact ⟨h2, q⟩)⟩⟩ hM0 hfr2 hK2 (fun _ _ => ⟨rfl, rfl⟩) hd (fun w => absurd w (by decide)) (Or.inl ⟨rfl, rfl, Or.inr (Or.inl rfl)⟩)
      · refine And.intro (fun _ => ?_) (fun w => absurd w (by decide))
        exact hQ _ _ _ _ 1 _ _ _ _ _ _ _ _ _ _ _ _ _ _ U' ⟨x, hx, Or.inr ⟨h1, g2.1, hCOL, Or.inl (by rw [← ep]; exact ⟨h2, q⟩)⟩⟩ q2 hfr2 q3 qc hd (fun w => absurd w (by decide)) (Or.inl ⟨rfl, rfl, Or.inl rfl⟩)
      · refine And.intro (fun _ => ?_) (fun w => absurd w (by decide))
        exact hQ _ _ _ _ 2 _ _ _ _ _ _ _ _ _ _ _ _ _ _ _ ⟨x, hx, Or.inr ⟨h1, g2.1, hCOL, Or.inl (by rw [← ep]; exact ⟨h2, q⟩)⟩⟩ hM0 hfr2 hK2 (fun _ _ => ⟨rfl, rfl⟩) q1 (fun _ => ⟨R, rfl, q2⟩) (Or.inr ⟨rfl, q3, q4⟩)
    · have h2 : p.2 < rqN x := Nat.lt_of_not_le (fun w => h2 (nI_le w (by omega)))
      exact hQ _ _ _ _ 4 _ _ _ _ _ _ _ _ _ _ _ _ _ _ _ ⟨x, hx, Or.inr ⟨h1, g2.1, hCOL, Or.inr (by rw [← ep]; exact ⟨h2, rfl⟩)⟩⟩ hM0 hfr2 hK2 (fun _ _ => ⟨rfl, rfl⟩) hd (fun w => absurd w (by decide)) (Or.inl ⟨rfl, rfl, Or.inr (Or.inr rfl)⟩)
end ZKK
end
section
noncomputable def dP (P : Nat → Prop) : Nat → Bool := fun b => @decide (P b) (Classical.propDecidable (P b))
theorem dP_t {P : Nat → Prop} {b : Nat} : dP P b = true ↔ P b := by
  unfold dP
  exact @decide_eq_true_iff (P b) (Classical.propDecidable (P b))
theorem dP_f {P : Nat → Prop} {b : Nat} : dP P b = false ↔ ¬ P b := by
  unfold dP
  exact @decide_eq_false_iff_not (P b) (Classical.propDecidable (P b))
theorem dP_add {P : Nat → Prop} {k : Nat} : upW (dP P) k true = dP (addU P k) := by
  funext b
  show (if b = k then true else dP P b) = dP (addU P k) b
  by_cases e : b = k
  · rw [if_pos e]
    exact (dP_t.mpr (Or.inr e)).symm
  · rw [if_neg e]
    by_cases h : P b
    · rw [dP_t.mpr h, dP_t.mpr (show addU P k b from Or.inl h)]
    · rw [dP_f.mpr h, dP_f.mpr (fun (q : addU P k b) => q.elim h e)]
theorem czN_cu (r : rM) : ∀ (n k a : Nat), k + n ≤ r.z → czN r.used n k a + cu (dP (Ur r)) k = a + cu (dP (Ur r)) (k + n)
  | 0, k, a, _ => rfl
  | n + 1, k, a, h => by
    have e : czN r.used (n + 1) k a = czN r.used n (k + 1) (if r.used k = 0 then a + 1 else a) := rfl
    have hcu := cu_s (dP (Ur r)) k
    have ih := czN_cu r n (k + 1) (if r.used k = 0 then a + 1 else a) (by omega)
    rw [show k + 1 + n = k + (n + 1) by omega] at ih
    rw [e]
    by_cases hu : r.used k = 0
    · rw [if_pos hu] at ih ⊢
      rw [if_neg (by rw [dP_f.mpr (fun (q : Ur r k) => q.2 hu)]; decide)] at hcu
      omega
    · rw [if_neg hu] at ih ⊢
      rw [if_pos (dP_t.mpr (show Ur r k from ⟨by omega, hu⟩))] at hcu
      omega
theorem fz_cu (r : rM) : fz r = cu (dP (Ur r)) r.z := by
  have := czN_cu r r.z 0 0 (by omega)
  unfold fz
  have e0 : cu (dP (Ur r)) 0 = 0 := rfl
  rw [e0, Nat.add_zero, Nat.zero_add, Nat.zero_add] at this
  exact this
theorem cu_nw {U : Nat → Prop} {kk : Nat → Nat} {z : Nat} : ∀ (n : Nat), frN U kk n → (∀ j, j < n → kk j < z) → cu (dP (nwU U kk n)) z + n = cu (dP U) z
  | 0, _, _ => by rw [nw_0]; rfl
  | n + 1, h, hz => by
    have ih := cu_nw n (fun j hj => ⟨(h j (by omega)).1, fun l hl hne => (h j (by omega)).2 l (by omega) hne⟩) (fun j hj => hz j (by omega))
    have hk : ¬ nwU U kk n (kk n) := fr_n h (Nat.lt_succ_self n)
    have := cu_upd (dP (nwU U kk n)) (kk n) (dP_f.mpr hk) z (hz n (Nat.lt_succ_self n))
    rw [dP_add, ← nw_s] at this
    omega
def BIS (c : Nat) (H T : Nat → Vl) (S E C D : Vl) (f : Nat) (U : Nat → Prop) (r : rM) (H' T' : Nat → Vl) (S' E' C' D' R' : Vl) (ρ : Nat → Nat → Prop) : Prop := FI ρ ∧ BH ρ H T H' T' ∧ (VR ρ S S' ∧ VR ρ E E' ∧ VR ρ C C' ∧ VR ρ D D' ∧ VR ρ (vPr 0) R') ∧ (∀ a b, ρ a b → U a ∧ Ur r b) ∧ f = fz r ∧ (∀ i, i < c → ∃ b, ρ i b) ∧ (r.state = 2 → RSH r H' T' S')
section ZKL
variable {z cc : Nat} {H T H' T' H2 T2 : Nat → Vl} {S E C D S' E' C' D' R' S2 E2 C2 D2 : Vl} {fr : Nat → Nat} {f : Nat} {U : Nat → Prop} {r r' : rM} {ρ : Nat → Nat → Prop} {x : Int32} {σ' : KS}
theorem BIS_act (hB : BIS cc H T S E C D f U r H' T' S' E' C' D' R' ρ) (hK : KT z cc H T S E C D fr f U) (hx : ofV H C = vInt x) (hr : 1 ≤ x ∧ x ≤ 19) (hn : rqN x ≤ f) (hz : r'.z = r.z) (hA : CA (H, T, (S, E, C, D), fr, f, 1) σ' x) (hE : EXA r H' T' S' E' C' D' x r' H2 T2 S2 E2 C2 D2) : r'.state = σ'.2.2.2.2.2 ∧ ∃ U' ρ', KT z cc σ'.1 σ'.2.1 σ'.2.2.1.1 σ'.2.2.1.2.1 σ'.2.2.1.2.2.1 σ'.2.2.1.2.2.2 σ'.2.2.2.1 σ'.2.2.2.2.1 U' ∧ BIS cc σ'.1 σ'.2.1 σ'.2.2.1.1 σ'.2.2.1.2.1 σ'.2.2.1.2.2.1 σ'.2.2.1.2.2.2 σ'.2.2.2.2.1 U' r' H2 T2 S2 E2 C2 D2 R' ρ' := by
  have hB0 := hB
  obtain ⟨hI, hH, ⟨qS, qE, qC, qD, qR⟩, hdom, hf, hcR, -⟩ := hB
  have same : ∀ (hs : Ur r' = Ur r) (hS : r'.state = 2 → RSH r' H' T' S'), BIS cc H T S E C D f U r' H' T' S' E' C' D' R' ρ := fun hs hS => ⟨hI, hH, ⟨qS, qE, qC, qD, qR⟩, fun a b q => ⟨(hdom a b q).1, by rw [hs]; exact (hdom a b q).2⟩, by rw [hf, fz_cu, fz_cu, hs, hz], hcR, hS⟩
  have h18 : ¬ x = 19 → 1 ≤ x ∧ x ≤ 18 := fun h19 => by
    refine ⟨hr.1, ?_⟩
    obtain ⟨j, hj, rfl⟩ := nI_of (Int32.not_lt.mpr (Int32.le_trans (by decide : (0 : Int32) ≤ 1) hr.1))
    have w2 : j ≤ 19 := (nI_leI (b := 19) hj (by decide)).mp hr.2
    have w3 : ¬ j = 19 := fun e => h19 (by rw [e]; rfl)
    exact nI_le (b := 18) (by omega) (by decide)
  rcases hE with ⟨e1, ⟨rfl, rfl⟩, ⟨rfl, rfl, rfl, rfl⟩, e4, e5, e6⟩ | ⟨e1, n19, kk, al, sh, e2, rfl, rfl, e5, e6⟩
  · rcases hA with ⟨rfl, rfl⟩ | ⟨h19, hN, rfl⟩ | ⟨h19, al, sh, S1, E1, C1, D1, f', hs, hf', rfl⟩
    · rcases e1 with e1 | e1
      · exact absurd rfl (e5 e1).1
      · exact ⟨e1, U, ρ, hK, same e4 (fun w => (e6 w).2)⟩
    · rcases e1 with e1 | e1
      · exact ⟨e1, U, ρ, hK, same e4 (fun w => absurd (e1.symm.trans w) (by decide))⟩
      · exact absurd (e6 e1).1 h19
    · rcases e1 with e1 | e1
      · have hN := (e5 e1).2 (fun _ => 0)
        have := (SN_all (k := fun j => fr (f - 1 - j)) (k' := fun _ => 0) (h18 h19) hI hH qS qE qC qD).mpr hN
        have hs : stp (fun j => fr (f - 1 - j)) H T S E C D x = some (al, sh, S1, E1, C1, D1) := hs
        rw [this] at hs
        cases hs
      · exact absurd (e6 e1).1 h19
  · have hX := h18 n19
    rcases hA with ⟨rfl, rfl⟩ | ⟨h19, hN, rfl⟩ | ⟨h19, al1, sh1, S1, E1, C1, D1, f', hs, hf', rfl⟩
    · exact absurd rfl n19
    · have hN : stp (fun j => fr (f - 1 - j)) H T S E C D x = none := hN
      have := (SN_all (k := fun j => fr (f - 1 - j)) (k' := kk) hX hI hH qS qE qC qD).mp hN
      rw [this] at e2
      cases e2
    · have hs : stp (fun j => fr (f - 1 - j)) H T S E C D x = some (al1, sh1, S1, E1, C1, D1) := hs
      have hf' : f' + rqN x = f := hf'
      have hfr := KT_fr hK hn
      have hFRS : FRS ρ (fun j => fr (f - 1 - j)) kk (rqN x) := fun j hj => ⟨⟨fun b q => (hfr j hj).1 (hdom _ _ q).1, fun a q => (e5 j hj).1 (hdom _ _ q).2⟩, fun i hi hne => ⟨(hfr j hj).2 i hi hne, (e5 j hj).2 i hi hne⟩⟩
      have hSB := SB_all (k := fun j => fr (f - 1 - j)) (k' := kk) hX hI hH qS qE qC qD hFRS
      rw [hs, e2] at hSB
      obtain ⟨-, s2, s3, s4, s5, s6⟩ := hSB
      refine ⟨e1, _, exR ρ (fun j => fr (f - 1 - j)) kk (rqN x), (KT_act hK hx h19 hn hs hf').1, FI_ex hI hFRS, s2, ⟨s3, s4, s5, s6, VR_up qR⟩, fun a b q => ?_, ?_, fun i hi => (hcR i hi).imp (fun b q => Or.inl q), fun w => absurd (e1.symm.trans w) (by decide)⟩
      · rcases q with q | ⟨j, hj, rfl, rfl⟩
        · exact ⟨Or.inl (hdom a b q).1, by rw [e6]; exact Or.inl (hdom a b q).2⟩
        · exact ⟨Or.inr ⟨j, hj, rfl⟩, by rw [e6]; exact Or.inr ⟨j, hj, rfl⟩⟩
      · have e6' : Ur r' = nwU (Ur r) kk (rqN x) := e6
        have hkz : ∀ j, j < rqN x → kk j < r.z := fun j hj => by
          have : Ur r' (kk j) := by rw [e6]; exact Or.inr ⟨j, hj, rfl⟩
          rw [← hz]
          exact this.1
        have := cu_nw (rqN x) e5 hkz
        show f' = fz r'
        rw [fz_cu, e6', hz]
        rw [fz_cu] at hf
        omega
theorem BIS_col {mk : Nat → Bool} (hB : BIS cc H T S E C D f U r H' T' S' E' C' D' R' ρ) (hK : KT z cc H T S E C D fr f U) (hCD : CDE cc H T) (hc : COL z H T S E C D mk) (hz : r'.z = r.z) (hst : r'.state = 1) (hzz : r.z = z) (u1 : ∀ b, Ur r' b → Ur r b ∧ ∃ a, a < z ∧ mk a = true ∧ ρ a b) (u2 : ∀ b, Ur r' b → inU (Ur r') (H' b) ∧ inU (Ur r') (T' b)) (uS : inU (Ur r') S') (uE : inU (Ur r') E') (uC : inU (Ur r') C') (uD : inU (Ur r') D') (uR : inU (Ur r') R') : ∃ ρ', BIS cc H T S E C D (fuN mk z 0 (fr, 0)).2 (fun a => a < z ∧ mk a = true) r' H' T' S' E' C' D' R' ρ' := by
  obtain ⟨hI, hH, ⟨qS, qE, qC, qD, qR⟩, hdom, hf, hcR, -⟩ := hB
  obtain ⟨hK2, hU, hmc⟩ := KT_col hK hCD hc
  obtain ⟨⟨rS, rE, rC, rD, r0⟩, hcl, hmin⟩ := hc
  have hUz : ∀ a, U a → a < z := hK.2.1
  have cell : ∀ {v w : Vl} {a : Nat}, VR ρ v w → ceV v = some a → ∃ b, ceV w = some b ∧ ρ a b := by
    intro v w a q e
    rcases v with u | y | y | i | i <;> rcases w with u' | y' | y' | j | j <;> first | exact absurd q id | cases e
    · exact ⟨j, rfl, q⟩
    · exact ⟨j, rfl, q⟩
  have mkd_ : ∀ a, a < z → mk a = true → ∃ b, Ur r' b ∧ ρ a b := by
    refine hmin (fun a => ∃ b, Ur r' b ∧ ρ a b) (fun a ha => ?_) ?_ ?_ ?_ ?_ ?_
    · obtain ⟨b, ub, q⟩ := ha
      refine ⟨fun a2 e => ?_, fun a2 e => ?_⟩
      · obtain ⟨b2, e2, q2⟩ := cell (hH a b q).1 e
        exact ⟨b2, (u2 b ub).1 b2 e2, q2⟩
      · obtain ⟨b2, e2, q2⟩ := cell (hH a b q).2 e
        exact ⟨b2, (u2 b ub).2 b2 e2, q2⟩
    · intro a2 e
      obtain ⟨b2, e2, q2⟩ := cell qS e
      exact ⟨b2, uS b2 e2, q2⟩
    · intro a2 e
      obtain ⟨b2, e2, q2⟩ := cell qE e
      exact ⟨b2, uE b2 e2, q2⟩
    · intro a2 e
      obtain ⟨b2, e2, q2⟩ := cell qC e
      exact ⟨b2, uC b2 e2, q2⟩
    · intro a2 e
      obtain ⟨b2, e2, q2⟩ := cell qD e
      exact ⟨b2, uD b2 e2, q2⟩
    · obtain ⟨b2, e2, q2⟩ := cell qR (show ceV (vPr 0) = some 0 from rfl)
      exact ⟨b2, uR b2 e2, q2⟩
  have up : ∀ {v w : Vl}, VR ρ v w → rtM mk v → inU (Ur r') w → VR (fun a b => ρ a b ∧ (a < z ∧ mk a = true) ∧ Ur r' b) v w := by
    intro v w q h1 h2
    rcases v with u | y | y | i | i <;> rcases w with u' | y' | y' | j | j <;> first | exact absurd q id | exact q | skip
    · exact ⟨q, ⟨hUz i (hdom i j q).1, h1 i rfl⟩, h2 j rfl⟩
    · exact ⟨q, ⟨hUz i (hdom i j q).1, h1 i rfl⟩, h2 j rfl⟩
  refine ⟨fun a b => ρ a b ∧ (a < z ∧ mk a = true) ∧ Ur r' b, ⟨fun a b b' q q' => hI.1 a b b' q.1 q'.1, fun a a' b q q' => hI.2 a a' b q.1 q'.1⟩, fun a b q => ?_, ⟨up qS rS uS, up qE rE uE, up qC rC uC, up qD rD uD, up qR r0 uR⟩, fun a b q => ⟨q.2.1, q.2.2⟩, ?_, fun i hi => ?_, fun w => absurd (hst.symm.trans w) (by decide)⟩
  · obtain ⟨q1, q2, q3⟩ := q
    obtain ⟨c1, c2⟩ := hcl a q2.1 q2.2
    exact ⟨up (hH a b q1).1 c1 (u2 b q3).1, up (hH a b q1).2 c2 (u2 b q3).2⟩
  · -- as many
    have f1 := (fuN_ok mk z 0 (fr, 0) (fun j hj => absurd hj (Nat.not_lt_zero j)) (fun i j _ hj => absurd hj (Nat.not_lt_zero j))).1
    have f1 : (fuN mk z 0 (fr, 0)).2 + cu mk 0 = 0 + cu mk (0 + z) := f1
    have e0 : cu mk 0 = 0 := rfl
    rw [Nat.zero_add, Nat.zero_add, e0, Nat.add_zero] at f1
    rw [f1, fz_cu, hz, hzz]
    have neg : ∀ (g : Nat → Bool) (n : Nat), cu g n + cu (fun a => !g a) n = n := by
      intro g n
      induction n with
      | zero => rfl
      | succ n ih =>
        rw [cu_s, cu_s]
        cases hg : g n with
        | true =>
          rw [if_pos rfl, if_neg (by simp [hg])]
          omega
        | false =>
          rw [if_neg (by decide), if_pos (by simp [hg])]
          omega
    have l1 : cu (fun a => !mk a) z ≤ cu (fun a => !dP (Ur r') a) z := cu_inj (ρ := ρ) (z := z) (z' := z) z _ _ (fun a ha hm => by
      have hm : mk a = true := by
        cases h : mk a with
        | true => rfl
        | false => simp [h] at hm
      obtain ⟨b, ub, q⟩ := mkd_ a ha hm
      exact ⟨b, by have := ub.1; omega, by show (!dP (Ur r') b) = false; rw [dP_t.mpr ub]; rfl, q⟩) hI.2
    have l2 : cu (fun a => !dP (Ur r') a) z ≤ cu (fun a => !mk a) z := cu_inj (ρ := fun b a => ρ a b) (z := z) (z' := z) z _ _ (fun b hb hm => by
      have hm : dP (Ur r') b = true := by
        cases h : dP (Ur r') b with
        | true => rfl
        | false => simp [h] at hm
      obtain ⟨-, a, a1, a2, q⟩ := u1 b (dP_t.mp hm)
      exact ⟨a, a1, by show (!mk a) = false; rw [a2]; rfl, q⟩) (fun b b' a q q' => hI.1 a b b' q q')
    have n1 := neg mk z
    have n2 := neg (dP (Ur r')) z
    omega
  · have hiz : i < z := by
      obtain ⟨b, q⟩ := hcR i hi
      exact hUz i (hdom i b q).1
    obtain ⟨b, ub, q⟩ := mkd_ i hiz (hmc i hi)
    exact ⟨b, q, ⟨hiz, hmc i hi⟩, ub⟩
end ZKL
end
section
section RSQ
variable {cst : Nat → Option (Nat × (Nat → Int32))} {m b0 b1 : Nat} {op : Bool} {tl : List mj_O} {Q : mj_R → Prop} {s : cS} {r : rM} {H T : Nat → Vl} {ro : Nat → Bool} {S E C D R : Vl} {k : Sk} {n : Nat} {b : Bool} {e : En} {J : Nat → mj_L → List Value → mj_H → Prop}
set_option maxRecDepth 10000
theorem R_actE {c f : Nat} {i : Int32} (hX : RX r H T S E (vPr c) D R) (hT : TI H T ro (Ur r) S E (vPr c) D R k n b e) (hst : r.state = 1) (hmk : mkOK r) (hsh : shOK r) (hQ : stE b0 b1 op tl Q s r H T S E (vPr c) D R i) (hi : rqN i ≤ fz r) (hw : wt H T ro (f + 1) (vPr c) k n b e) (hH : H c = vInt i) (F : Nat) :
    mj_sg (mj_Mt gT cst gnw (m + 4)) cst gnw (mj_hd (mj_off kO_R_step) kH_R_step) kC_R_step J Q (F + 160) false 37 [some (.ref 27), some (.int (nI c)), some (.int i), none, none] [] (cW s (rW r tl), b0, b1, op) := by
  have hc : c < 250 := Ur_lt hX.1 (rg_pr hX.2.2.2.1).2
  refine R_rest rfl hc ?_
  obtain ⟨c', i', ec, -, hH', h⟩ := hw
  cases ec
  rw [hH] at hH'
  cases hH'
  rcases h with ⟨e1, d, t, a1, a2, a0, a3⟩ | ⟨e1, d, x, a1, a2, a3, a4⟩ | ⟨e1, d, a1, a2, a3, a4⟩ | ⟨e1, x, k', a1, a2⟩ | ⟨e1, x, k', a1, a2⟩ | ⟨e1, a1⟩ | ⟨e1, x, k', a1, a2, a3, a4⟩ | ⟨e1, x, k', d, q, a1, a2, a3, a4, a5, a6, a7, a8⟩ | ⟨e1, a1⟩ | ⟨e1, x, k', a1, a2⟩ | ⟨e1, x, y, t, k', a1, a0, a2⟩ | ⟨e1, x, k', a1, a2⟩
  · subst e1
    exact AE_1 hX hT hst hmk hsh a1 a0 a3 hi hQ _
  · subst e1
    exact AE_2 hX hT hst hmk hsh a1 a3.1 a3.2 a4 hi hQ _
  · subst e1
    exact AE_3 hX hT hst hmk hsh a1 a3 a4 hi hQ _
  · subst e1
    exact AE_4 hX hT hst hmk hsh a1 a2 hi hQ _
  · subst e1
    exact AE_5 hX hT hst hmk hsh a1 a2 hi hQ _
  · subst e1
    exact AE_6 hX hT hst hmk hsh a1 hi hQ _
  · subst e1
    exact AE_7 hX hT hst hmk hsh a1 a2 a3 a4 hi hQ _
  · subst e1
    exact AE_8 hX hT hst hmk hsh a1 a2 a4 a6 a7 a8 hi hQ _
  · subst e1
    exact AE_9 hX hT hst hmk hsh a1 hQ _
  · refine AE_10 hX hT hst hmk hsh e1 a1 a2 ?_ hQ _
    rcases e1 with rfl | rfl | rfl <;> exact hi
  · refine AE_13 hX hT hst hmk hsh e1 a1 a0 a2 ?_ (fun q => ?_) hQ _
    · rcases e1 with rfl | rfl | rfl | rfl | rfl | rfl
      · exact Nat.le_trans (by decide) hi
      · exact hi
      · exact hi
      · exact hi
      · exact hi
      · exact hi
    · subst q
      exact hi
  · subst e1
    exact AE_19 hX hT hst hmk hsh a1 hQ _
def stB (z cc : Nat) (σ' : KS) (b0 b1 : Nat) (op : Bool) (tl : List mj_O) (Q : mj_R → Prop) (s : cS) (r : rM) (R : Vl) : Prop := ∀ (r' : rM) (H' T' : Nat → Vl) (ro' : Nat → Bool) (S' E' C' D' : Vl) (k' : Sk) (n' : Nat) (b' : Bool) (e' : En) (U' : Nat → Prop) (ρ' : Nat → Nat → Prop), kc r r' → mkOK r' → rnS r' → shOK r' → RX r' H' T' S' E' C' D' R → TI H' T' ro' (Ur r') S' E' C' D' R k' n' b' e' → r'.state = σ'.2.2.2.2.2 → KT z cc σ'.1 σ'.2.1 σ'.2.2.1.1 σ'.2.2.1.2.1 σ'.2.2.1.2.2.1 σ'.2.2.1.2.2.2 σ'.2.2.2.1 σ'.2.2.2.2.1 U' → BIS cc σ'.1 σ'.2.1 σ'.2.2.1.1 σ'.2.2.1.2.1 σ'.2.2.1.2.2.1 σ'.2.2.1.2.2.2 σ'.2.2.2.2.1 U' r' H' T' S' E' C' D' R ρ' → Q (.inl none, (cW s (rW r' tl), b0, b1, op))
theorem wt_19 {f c : Nat} {i : Int32} (hw : wt H T ro (f + 1) (vPr c) k n b e) (hH : H c = vInt i) : 1 ≤ i ∧ i ≤ 19 := by
  obtain ⟨c', i', ec, -, hH', hw⟩ := hw
  cases ec
  rw [hH] at hH'
  cases hH'
  rcases hw with ⟨e1, -⟩ | ⟨e1, -⟩ | ⟨e1, -⟩ | ⟨e1, -⟩ | ⟨e1, -⟩ | ⟨e1, -⟩ | ⟨e1, -⟩ | ⟨e1, -⟩ | ⟨e1, -⟩ | ⟨e1, -⟩ | ⟨e1, -⟩ | ⟨e1, -⟩
  · rw [e1]; decide
  · rw [e1]; decide
  · rw [e1]; decide
  · rw [e1]; decide
  · rw [e1]; decide
  · rw [e1]; decide
  · rw [e1]; decide
  · rw [e1]; decide
  · rw [e1]; decide
  · rcases e1 with e1 | e1 | e1 <;> rw [e1] <;> decide
  · rcases e1 with e1 | e1 | e1 | e1 | e1 | e1 <;> rw [e1] <;> decide
  · rw [e1]; decide
theorem R_stepE {z cc : Nat} {H1 T1 : Nat → Vl} {S1 E1 C1 D1 : Vl} {fr : Nat → Nat} {f1 : Nat} {U : Nat → Prop} {ρ : Nat → Nat → Prop} {σ' : KS} (hX : RX r H T S E C D R) (hT : TI H T ro (Ur r) S E C D R k n b e) (hst : r.state = 1) (hmk : mkOK r) (hsh : shOK r) (hzz : r.z = z) (hK : KT z cc H1 T1 S1 E1 C1 D1 fr f1 U) (hCD : CDE cc H1 T1) (hBI : BIS cc H1 T1 S1 E1 C1 D1 f1 U r H T S E C D R ρ) (hCS : CSTEP z (H1, T1, (S1, E1, C1, D1), fr, f1, 1) σ') (hQ : stB z cc σ' b0 b1 op tl Q s r R) : mj_Mt gT cst gnw (m + 5) y_R_step [.ref 27] (cW s (rW r tl), b0, b1, op) Q := by
  obtain ⟨f, hw⟩ : ∃ f, wt H T ro f C k n b e := hT.2.2.2.1.2
  cases f with
  | zero => exact absurd hw id
  | succ f =>
  have hw0 := hw
  obtain ⟨c, i, rfl, -, hH, -⟩ := hw
  have h19 := wt_19 hw0 hH
  have hB := hX.1
  have hz := hB.1.2
  obtain ⟨h2, uc⟩ := rg_pr hX.2.2.2.1
  have hc : c < 250 := Ur_lt hB uc
  have ek : (nI c).toNatClampNeg = c := nI_clamp (by omega)
  have eh : r.head c = i := by
    have := (hB.2.1 c uc).1
    rw [hH] at this
    exact this.2
  obtain ⟨en, hn4⟩ := rnd_rq i
  have hfz : ∀ r' : rM, r'.z ≤ 250 → fz r' ≤ 250 := fun r' h => by
    have := czN_le r'.used r'.z 0 0
    unfold fz
    omega
  obtain ⟨x, hx, hCS⟩ := hCS
  have hx : ofV H1 C1 = vInt x := hx
  have exi : x = i := by
    have q := VR_H hBI.2.1 hBI.2.2.1.2.2.1
    rw [hx] at q
    have q : VR ρ (vInt x) (H c) := q
    rw [hH] at q
    exact q
  subst exi
  have hf := hBI.2.2.2.2.1
  intro J hJ
  have key1 : ∀ y : Int32, y = nI c → ∀ F : Nat, mj_sg (mj_Mt gT cst gnw (m + 4)) cst gnw (mj_hd (mj_off kO_R_step) kH_R_step) kC_R_step J Q (F + 300) false 4 [some (.ref 27), none, none, none, none] [.int y] (cW s (rW r tl), b0, b1, op) := by
    rintro y rfl F
    refine And.intro (vp_in_nI hc (by decide)) ?_
    rw [ek, eh]
    refine r_free hz ?_
    refine r_needs ?_
    refine And.intro (fun (g : rnd x ≤ nI (fz r)) => ?_) (fun (g : ¬ rnd x ≤ nI (fz r)) => ?_)
    · rw [en] at g
      have hle := (nI_leI (by omega) (by have := hfz r hz; omega)).mp g
      rcases hCS with ⟨hn, hA⟩ | ⟨hn, -⟩
      · refine R_actE hX hT hst hmk hsh (fun r' H' T' ro' S' E' C' D' k' n' b' e' p1 p2 p3 p4 p5 p6 p7 => ?_) hle hw0 hH _
        obtain ⟨w1, U', ρ', w2, w3⟩ := BIS_act hBI hK hx h19 hn p1.1 hA p7
        exact hQ r' H' T' ro' S' E' C' D' k' n' b' e' U' ρ' p1 p2 p3 p4 p5 p6 w1 w2 w3
      · have hn : f1 < rqN x := hn
        omega
    · rw [en] at g
      rcases hCS with ⟨hn, -⟩ | ⟨hn, mk, hCOL, hCS⟩
      · have hn : rqN x ≤ f1 := hn
        exact absurd (nI_le (show rqN x ≤ fz r by omega) (by have := hfz r hz; omega)) g
      have hCOL : COL z H1 T1 S1 E1 C1 D1 mk := hCOL
      obtain ⟨hI, hBH, ⟨qS, qE, qC, qD, qR⟩, hdom, -, hcR, hSh⟩ := hBI
      have hUz : ∀ a, U a → a < z := hK.2.1
      have cellr : ∀ {v w : Vl}, VR ρ v w → rtM mk v → inU (fun b => ∃ a, a < z ∧ mk a = true ∧ ρ a b) w := by
        intro v w q hm b eb
        rcases v with u | y | y | i | i <;> rcases w with u' | y' | y' | j | j <;> first | exact absurd q id | cases eb
        · exact ⟨i, hUz i (hdom _ _ q).1, hm i rfl, q⟩
        · exact ⟨i, hUz i (hdom _ _ q).1, hm i rfl, q⟩
      obtain ⟨⟨rS, rE, rC, rD, r0⟩, hcl, hmin⟩ := hCOL
      refine R_sweepM (r := clR r (r.collections + Int32.ofInt 1)) (H := H) (T := T) (S := S) (E := E) (C := vPr c) (D := D) (R := R) (M := fun b => ∃ a, a < z ∧ mk a = true ∧ ρ a b) (fun b _ hb => ?_) (cellr qS rS) (cellr qE rE) (cellr qC rC) (cellr qD rD) (cellr qR r0) hX hmk (fun nn r' hnn q1 q2 q3 q4 q5 q6 q7 q8 q9 q10 => ?_)
      · obtain ⟨a, a1, a2, a3⟩ := hb
        obtain ⟨c1, c2⟩ := hcl a a1 a2
        exact ⟨cellr (hBH a b a3).1 c1, cellr (hBH a b a3).2 c2⟩
      obtain ⟨p1, p2, p3, p4, p5⟩ := q10
      have hT' : TI H T ro (Ur r') S E (vPr c) D R k n b e := TI_sub hT (fun a ha => (q8 a ha).1) q9 p1 p2 p3 p4 p5
      have hst' : r'.state = 1 := q3.trans hst
      have hsh' : shOK r' := by
        obtain ⟨j, hj, ej⟩ := hsh
        exact ⟨j, hj, q5.2.2.2.1.trans ej⟩
      have hkc : kc r r' := kc_tr (r' := clR r (r.collections + Int32.ofInt 1)) ⟨rfl, rfl, rfl, rfl, rfl⟩ q1
      have hz' := q7.1.1.2
      obtain ⟨ρ2, hB2⟩ := BIS_col (r' := r') (fr := fr) ⟨hI, hBH, ⟨qS, qE, qC, qD, qR⟩, hdom, hf, hcR, hSh⟩ hK hCD ⟨⟨rS, rE, rC, rD, r0⟩, hcl, hmin⟩ hkc.1 hst' hzz (fun b ub => ⟨(q8 b ub).1, (q8 b ub).2⟩) q9 p1 p2 p3 p4 p5
      obtain ⟨hK2, -⟩ := KT_col hK hCD (mk := mk) ⟨⟨rS, rE, rC, rD, r0⟩, hcl, hmin⟩
      have key2 : ∀ y0 y1 : Int32, ∀ F : Nat, mj_sg (mj_Mt gT cst gnw (m + 4)) cst gnw (mj_hd (mj_off kO_R_step) kH_R_step) kC_R_step J Q (F + 200) false 26 [some (.ref 27), some (.int (nI c)), some (.int x), none, none] [.int y1, .int y0, .ref 27] (cW s (rW r' tl), b0, b1, op) := by
        intro y0 y1 F
        have hX2 : RX (tbR r' (y0 + y1)) H T S E (vPr c) D R := q7
        have hT2 : TI H T ro (Ur (tbR r' (y0 + y1))) S E (vPr c) D R k n b e := hT'
        have hkc2 : kc r (tbR r' (y0 + y1)) := hkc
        have hst2 : (tbR r' (y0 + y1)).state = 1 := hst'
        have hmk2 : mkOK (tbR r' (y0 + y1)) := q2
        have hsh2 : shOK (tbR r' (y0 + y1)) := hsh'
        have hz2 : (tbR r' (y0 + y1)).z ≤ 250 := hz'
        have hB3 : BIS cc H1 T1 S1 E1 C1 D1 (fuN mk z 0 (fr, 0)).2 (fun a => a < z ∧ mk a = true) (tbR r' (y0 + y1)) H T S E (vPr c) D R ρ2 := hB2
        have hf3 := hB3.2.2.2.2.1
        refine r_free (r := tbR r' (y0 + y1)) hz2 ?_
        refine r_needs ?_
        refine And.intro (fun (g : rnd x ≤ nI (fz (tbR r' (y0 + y1)))) => ?_) (fun (g : ¬ rnd x ≤ nI (fz (tbR r' (y0 + y1)))) => ?_)
        · rw [en] at g
          have hle := (nI_leI (by omega) (by have := hfz (tbR r' (y0 + y1)) hz2; omega)).mp g
          rcases hCS with ⟨hn2, hA⟩ | ⟨hn2, -⟩
          · refine R_actE hX2 hT2 hst2 hmk2 hsh2 (fun r3 H' T' ro' S' E' C' D' k' n' b' e' w1 w2 w3 w4 w5 w6 w7 => ?_) hle hw0 hH _
            obtain ⟨v1, U', ρ', v2, v3⟩ := BIS_act hB3 hK2 hx h19 hn2 w1.1 hA w7
            exact hQ r3 H' T' ro' S' E' C' D' k' n' b' e' U' ρ' (kc_tr hkc2 w1) w2 w3 w4 w5 w6 v1 v2 v3
          · have hn2 : (fuN mk z 0 (fr, 0)).2 < rqN x := hn2
            omega
        · rw [en] at g
          rcases hCS with ⟨hn2, -⟩ | ⟨hn2, rfl⟩
          · have hn2 : rqN x ≤ (fuN mk z 0 (fr, 0)).2 := hn2
            exact absurd (nI_le (show rqN x ≤ fz (tbR r' (y0 + y1)) by omega) (by have := hfz (tbR r' (y0 + y1)) hz2; omega)) g
          · refine R_stop (fun r3 c1 c2 c3 c4 c5 c6 => ?_)
            obtain ⟨hB2', x0, x1, x2, x3, x4⟩ := hX2
            obtain ⟨t1, t2, t3, t4, t5, t6, -⟩ := hB3
            refine hQ r3 H T ro S E (vPr c) D k n b e _ ρ2 (kc_tr hkc2 (kp_kc c1)) (kp_mk c1 hmk2) (Or.inr (Or.inr (Or.inr c2))) (kp_sh c1 hsh2) ⟨c6 H T hB2', by rw [c5]; exact rg_up c3 x0, by rw [c5]; exact rg_up c3 x1, by rw [c5]; exact rg_up c3 x2, by rw [c5]; exact rg_up c3 x3, by rw [c5]; exact rg_up c3 x4⟩ ?_ c2 hK2 ⟨t1, t2, t3, fun a b q => ⟨(t4 a b q).1, by rw [c4]; exact (t4 a b q).2⟩, ?_, t6, fun w => absurd (c2.symm.trans w) (by decide)⟩
            · rw [c4]
              exact hT2
            · show (fuN mk z 0 (fr, 0)).2 = fz r3
              rw [t5, fz_cu, fz_cu, c4, c1.1.1]
      exact key2 _ _ _
  refine hJ _ _ _ _ ?_
  refine And.intro i52 ?_
  exact key1 _ h2 _
end RSQ
end
section
def F2P (Tf : Nat → Vl) : List Nat → List Vl → Prop
  | [], [] => True
  | q :: st, P :: pl => Tf q = P ∧ F2P Tf st pl
  | [], _ :: _ => False
  | _ :: _, [] => False
def prdN : Nat → Option Nat
  | 0 => none
  | h + 1 => some h
theorem htT_c (t : Int32 × Int32) (L : TL) : htT (t :: L) = match htT L with | none => none | some h => if t.1 = 5 then some (h + 1) else if t.1 = 4 then prdN h else some h := by
  have e : htT (t :: L) = (match htT L with | none => none | some h => if t.1 = 5 then some (h + 1) else if t.1 = 4 then (match h with | 0 => none | h + 1 => some h) else some h) := rfl
  rw [e]
  cases htT L with
  | none => rfl
  | some h => cases h <;> rfl
theorem htT_5 {t : Int32 × Int32} {L : TL} {h : Nat} (h5 : t.1 = 5) (e : htT (t :: L) = some h) : ∃ h', htT L = some h' ∧ h = h' + 1 := by
  rw [htT_c] at e
  cases hL : htT L with
  | none => rw [hL] at e; cases e
  | some h' =>
    rw [hL] at e
    have e : (if t.1 = 5 then some (h' + 1) else if t.1 = 4 then prdN h' else some h') = some h := e
    rw [if_pos h5] at e
    exact ⟨h', rfl, (Option.some.inj e).symm⟩
theorem htT_4 {t : Int32 × Int32} {L : TL} {h : Nat} (h5 : ¬ t.1 = 5) (h4 : t.1 = 4) (e : htT (t :: L) = some h) : htT L = some (h + 1) := by
  rw [htT_c] at e
  cases hL : htT L with
  | none => rw [hL] at e; cases e
  | some h' =>
    rw [hL] at e
    have e : (if t.1 = 5 then some (h' + 1) else if t.1 = 4 then prdN h' else some h') = some h := e
    rw [if_neg h5, if_pos h4] at e
    cases h' with
    | zero => cases e
    | succ h' =>
      have e : some h' = some h := e
      rw [Option.some.inj e]
theorem htT_o {t : Int32 × Int32} {L : TL} {h : Nat} (h5 : ¬ t.1 = 5) (h4 : ¬ t.1 = 4) (e : htT (t :: L) = some h) : htT L = some h := by
  rw [htT_c] at e
  cases hL : htT L with
  | none => rw [hL] at e; cases e
  | some h' =>
    rw [hL] at e
    have e : (if t.1 = 5 then some (h' + 1) else if t.1 = 4 then prdN h' else some h') = some h := e
    rw [if_neg h5, if_neg h4] at e
    exact e
theorem cAp_e {z n : Nat} {H T : Nat → Vl} {l : Option Nat} {b : Bool} {v : Vl} (hn : n < z) (hl : ∀ k, l = some k → k < n) : ∃ Hn Tn, cAp z (H, T, n, l, b) v = (Hn, Tn, n + 1, some n, false) ∧ Hn n = v ∧ Tn n = vNil ∧ (∀ i, i < n → (¬ (b = true ∧ l = some i) → Hn i = H i) ∧ (¬ (b = false ∧ l = some i) → Tn i = T i)) ∧ (∀ k, l = some k → (b = true → Hn k = vPr n) ∧ (b = false → Tn k = vPr n)) := by
  have e : cAp z (H, T, n, l, b) v = ((cLk z (upW H n v) (upW T n vNil) l b (vPr n)).1, (cLk z (upW H n v) (upW T n vNil) l b (vPr n)).2, n + 1, some n, false) := if_pos hn
  refine ⟨_, _, e, ?_⟩
  cases l with
  | none =>
    refine ⟨if_pos rfl, if_pos rfl, fun i hi => ⟨fun _ => if_neg (by omega), fun _ => if_neg (by omega)⟩, fun k e => by cases e⟩
  | some k =>
    have hk := hl k rfl
    have e2 : cLk z (upW H n v) (upW T n vNil) (some k) b (vPr n) = if b then (upW (upW H n v) k (vPr n), upW T n vNil) else (upW H n v, upW (upW T n vNil) k (vPr n)) := if_pos (by omega)
    rw [e2]
    cases b with
    | true =>
      refine ⟨(if_neg (by omega)).trans (if_pos rfl), if_pos rfl, fun i hi => ⟨fun q => ?_, fun _ => if_neg (by omega)⟩, fun j ej => ⟨fun _ => ?_, fun q => by cases q⟩⟩
      · have ne : ¬ i = k := fun e => q ⟨rfl, by rw [e]⟩
        exact (if_neg ne).trans (if_neg (by omega))
      · cases ej
        exact if_pos rfl
    | false =>
      refine ⟨if_pos rfl, (if_neg (by omega)).trans (if_pos rfl), fun i hi => ⟨fun _ => if_neg (by omega), fun q => ?_⟩, fun j ej => ⟨fun q => (by cases q), fun _ => ?_⟩⟩
      · have ne : ¬ i = k := fun e => q ⟨rfl, by rw [e]⟩
        exact (if_neg ne).trans (if_neg (by omega))
      · cases ej
        exact if_pos rfl
theorem upW_same {F : Nat → Vl} {k : Nat} {x : Vl} (h : F k = x) : upW F k x = F := by
  funext i
  show (if i = k then x else F i) = F i
  split
  · next e => rw [e, h]
  · rfl
theorem U_add {n N : Nat} (h : n < N) : addU (fun i => n + 1 ≤ i ∧ i < N) n = fun i => n ≤ i ∧ i < N := by
  funext i
  refine propext ⟨fun q => ?_, fun q => ?_⟩
  · rcases q with q | q
    · exact ⟨by omega, q.2⟩
    · exact ⟨by omega, by omega⟩
  · by_cases e : i = n
    · exact Or.inr e
    · exact Or.inl ⟨by omega, q.2⟩
theorem FW (z : Nat) : ∀ (L : TL) (H T : Nat → Vl) (n : Nat) (l : Option Nat) (b : Bool) (st : List Nat), htT L = some st.length → n + cnt L ≤ z → (∀ q, q ∈ st → q < n ∧ T q = vNil) → st.Nodup → (∀ k, l = some k → k < n ∧ T k = vNil ∧ (b = true → H k = vNil ∧ ∃ st', st = k :: st') ∧ (b = false → ¬ k ∈ st)) → (l = none → b = false) → ∀ Hf Tf N lf bf stf, lyS z L ((H, T, n, l, b), st) = ((Hf, Tf, N, lf, bf), stf) →
    ∃ cu pl, LY L (Hf, Tf, fun _ => False, vNil, []) (Hf, Tf, (fun i => n ≤ i ∧ i < N), cu, pl) ∧ (∀ k, l = some k → (b = true → Hf k = cu) ∧ (b = false → Tf k = cu)) ∧ F2P Tf st pl ∧ N = n + cnt L ∧ (∀ i, i < n → (¬ (b = true ∧ l = some i) → Hf i = H i) ∧ (¬ (b = false ∧ l = some i) → ¬ i ∈ st → Tf i = T i)) ∧ (cu = vNil ∨ cu = vPr n)
  | [], H, T, n, l, b, st, hh, hz, hst, hnd, hl, hb, Hf, Tf, N, lf, bf, stf, e => by
    have e : ((H, T, n, l, b), st) = ((Hf, Tf, N, lf, bf), stf) := e
    cases e
    have h0 : st.length = 0 := (Option.some.inj hh).symm
    have hs : st = [] := List.length_eq_zero_iff.mp h0
    subst hs
    refine ⟨vNil, [], ?_, fun k ek => ⟨fun eb => ?_, fun _ => (hl k ek).2.1⟩, trivial, rfl, fun i _ => ⟨fun _ => rfl, fun _ _ => rfl⟩, Or.inl rfl⟩
    · show (H, T, (fun _ => False), vNil, []) = (H, T, (fun i => n ≤ i ∧ i < n), vNil, [])
      have : (fun _ : Nat => False) = fun i => n ≤ i ∧ i < n := by
        funext i
        exact propext ⟨fun q => absurd q id, fun q => by omega⟩
      rw [this]
    · obtain ⟨-, st', q⟩ := (hl k ek).2.2.1 eb
      cases q
  | t :: L, H, T, n, l, b, st, hh, hz, hst, hnd, hl, hb, Hf, Tf, N, lf, bf, stf, e => by
    have e : lyS z L (ly1 z t ((H, T, n, l, b), st)) = ((Hf, Tf, N, lf, bf), stf) := e
    have hz : n + ((if t.1 = 5 then 0 else 1) + cnt L) ≤ z := hz
    have ec : cnt (t :: L) = (if t.1 = 5 then 0 else 1) + cnt L := rfl
    by_cases h5 : t.1 = 5
    · rw [if_pos h5] at hz ec
      obtain ⟨h', hL, hlen⟩ := htT_5 h5 hh
      cases st with
      | nil => cases hlen
      | cons q st =>
        have hlen : st.length + 1 = h' + 1 := hlen
        have e1 : ly1 z t ((H, T, n, l, b), q :: st) = ((H, T, n, some q, false), st) := if_pos h5
        rw [e1] at e
        obtain ⟨hqn, hqT⟩ := hst q List.mem_cons_self
        obtain ⟨hq1, hq2⟩ := List.nodup_cons.mp hnd
        obtain ⟨cu, pl, i1, i2, i3, i4, i5, -⟩ := FW z L H T n (some q) false st (by rw [hL]; congr 1; omega) (by omega) (fun p hp => hst p (List.mem_cons_of_mem _ hp)) hq2 (fun k ek => by cases ek; exact ⟨hqn, hqT, fun w => (by cases w), fun _ => hq1⟩) (fun w => by cases w) Hf Tf N lf bf stf e
        refine ⟨vNil, cu :: pl, ⟨_, i1, Or.inl ⟨h5, rfl⟩⟩, fun k ek => ⟨fun eb => ?_, fun eb => ?_⟩, ⟨(i2 q rfl).2 rfl, i3⟩, by omega, fun i hi => ⟨fun _ => (i5 i hi).1 (fun w => by cases w.1), fun w1 w2 => (i5 i hi).2 (fun w => ?_) (fun w => w2 (List.mem_cons_of_mem _ w))⟩, Or.inl rfl⟩
        · obtain ⟨k1, k2, k3, k4⟩ := hl k ek
          obtain ⟨k5, st', k6⟩ := k3 eb
          rw [(i5 k k1).1 (fun w => by cases w.1)]
          exact k5
        · obtain ⟨k1, k2, k3, k4⟩ := hl k ek
          have hk := k4 eb
          rw [(i5 k k1).2 (fun w => hk (by rw [Option.some.inj w.2]; exact List.mem_cons_self)) (fun w => hk (List.mem_cons_of_mem _ w))]
          exact k2
        · exact w2 (by rw [Option.some.inj w.2]; exact List.mem_cons_self)
    · rw [if_neg h5] at hz ec
      have hn : n < z := by omega
      have hlk : ∀ k, l = some k → k < n := fun k ek => (hl k ek).1
      by_cases h4 : t.1 = 4
      · have hL := htT_4 h5 h4 hh
        obtain ⟨Hn, Tn, a1, a2, a3, a4, a5⟩ := cAp_e (H := H) (T := T) (l := l) (b := b) (v := vNil) hn hlk
        have e1 : ly1 z t ((H, T, n, l, b), st) = ((Hn, Tn, n + 1, some n, true), n :: st) := by
          have : ly1 z t ((H, T, n, l, b), st) = (cBg z (H, T, n, l, b), n :: st) := (if_neg h5).trans (if_pos h4)
          rw [this]
          show ((((cAp z (H, T, n, l, b) vNil).1, (cAp z (H, T, n, l, b) vNil).2.1, (cAp z (H, T, n, l, b) vNil).2.2.1, (cAp z (H, T, n, l, b) vNil).2.2.2.1, true) : cC), n :: st) = _
          rw [a1]
        rw [e1] at e
        have nst : ¬ n ∈ st := fun w => by have := (hst n w).1; omega
        have hT1 : ∀ q, q ∈ st → Tn q = vNil := fun q hq => by
          obtain ⟨q1, q2⟩ := hst q hq
          by_cases eb : b = false ∧ l = some q
          · exact absurd hq ((hl q eb.2).2.2.2 eb.1)
          · rw [(a4 q q1).2 eb]
            exact q2
        obtain ⟨cu, pl, i1, i2, i3, i4, i5, -⟩ := FW z L Hn Tn (n + 1) (some n) true (n :: st) hL (by omega) (fun q hq => by
          rcases List.mem_cons.mp hq with w | w
          · rw [w]
            exact ⟨by omega, a3⟩
          · exact ⟨by have := (hst q w).1; omega, hT1 q w⟩) (List.nodup_cons.mpr ⟨nst, hnd⟩) (fun k ek => by cases ek; exact ⟨by omega, a3, fun _ => ⟨a2, st, rfl⟩, fun w => by cases w⟩) (fun w => by cases w) Hf Tf N lf bf stf e
        cases pl with
        | nil => exact absurd i3 id
        | cons P pl =>
          obtain ⟨j1, j2⟩ := i3
          have hHn := (i2 n rfl).1 rfl
          refine ⟨vPr n, pl, ⟨_, i1, Or.inr (Or.inl ⟨h4, P, pl, n, rfl, fun w => by have : n + 1 ≤ n := w.1; omega, ?_⟩)⟩, fun k ek => ⟨fun eb => ?_, fun eb => ?_⟩, j2, by omega, fun i hi => ⟨fun w1 => ?_, fun w1 w2 => ?_⟩, Or.inr rfl⟩
          · show (Hf, Tf, (fun i => n ≤ i ∧ i < N), vPr n, pl) = (upW Hf n cu, upW Tf n P, addU (fun i => n + 1 ≤ i ∧ i < N) n, vPr n, pl)
            rw [upW_same hHn, upW_same j1, U_add (by omega)]
          · have hk := hlk k ek
            have ne : ¬ k = n := by omega
            rw [(i5 k (by omega)).1 (fun w => ne (Option.some.inj w.2).symm)]
            exact (a5 k ek).1 eb
          · have hk := hlk k ek
            have hks := (hl k ek).2.2.2 eb
            rw [(i5 k (by omega)).2 (fun w => by cases w.1) (fun w => by
              rcases List.mem_cons.mp w with w | w
              · omega
              · exact hks w)]
            exact (a5 k ek).2 eb
          · rw [(i5 i (by omega)).1 (fun w => by have := (Option.some.inj w.2); omega)]
            exact (a4 i hi).1 w1
          · rw [(i5 i (by omega)).2 (fun w => by cases w.1) (fun w => by
              rcases List.mem_cons.mp w with w | w
              · omega
              · exact w2 w)]
            exact (a4 i hi).2 w1
      · have hL := htT_o h5 h4 hh
        obtain ⟨Hn, Tn, a1, a2, a3, a4, a5⟩ := cAp_e (H := H) (T := T) (l := l) (b := b) (v := hvT t) hn hlk
        have e1 : ly1 z t ((H, T, n, l, b), st) = ((Hn, Tn, n + 1, some n, false), st) := by
          have : ly1 z t ((H, T, n, l, b), st) = (cAp z (H, T, n, l, b) (hvT t), st) := by
            unfold ly1 hvT
            rw [if_neg h5, if_neg h4]
            by_cases h0 : t.1 = 0
            · rw [if_pos h0, if_pos h0]
            · rw [if_neg h0, if_neg h0]
              by_cases h2 : t.1 = 2
              · rw [if_pos h2, if_pos h2]
              · rw [if_neg h2, if_neg h2]
          rw [this, a1]
        rw [e1] at e
        have nst : ¬ n ∈ st := fun w => by have := (hst n w).1; omega
        have hT1 : ∀ q, q ∈ st → Tn q = vNil := fun q hq => by
          obtain ⟨q1, q2⟩ := hst q hq
          by_cases eb : b = false ∧ l = some q
          · exact absurd hq ((hl q eb.2).2.2.2 eb.1)
          · rw [(a4 q q1).2 eb]
            exact q2
        obtain ⟨cu, pl, i1, i2, i3, i4, i5, -⟩ := FW z L Hn Tn (n + 1) (some n) false st hL (by omega) (fun q hq => ⟨by have := (hst q hq).1; omega, hT1 q hq⟩) hnd (fun k ek => by cases ek; exact ⟨by omega, a3, fun w => (by cases w), fun _ => nst⟩) (fun w => by cases w) Hf Tf N lf bf stf e
        have hTn := (i2 n rfl).2 rfl
        have hHn : Hf n = hvT t := by
          rw [(i5 n (by omega)).1 (fun w => by cases w.1)]
          exact a2
        refine ⟨vPr n, pl, ⟨_, i1, Or.inr (Or.inr ⟨h5, h4, n, fun w => by have : n + 1 ≤ n := w.1; omega, ?_⟩)⟩, fun k ek => ⟨fun eb => ?_, fun eb => ?_⟩, i3, by omega, fun i hi => ⟨fun w1 => ?_, fun w1 w2 => ?_⟩, Or.inr rfl⟩
        · show (Hf, Tf, (fun i => n ≤ i ∧ i < N), vPr n, pl) = (upW Hf n (hvT t), upW Tf n cu, addU (fun i => n + 1 ≤ i ∧ i < N) n, vPr n, pl)
          rw [upW_same hHn, upW_same hTn, U_add (by omega)]
        · have hk := hlk k ek
          rw [(i5 k (by omega)).1 (fun w => by cases w.1)]
          exact (a5 k ek).1 eb
        · have hk := hlk k ek
          have hks := (hl k ek).2.2.2 eb
          rw [(i5 k (by omega)).2 (fun w => by have := (Option.some.inj w.2); omega) hks]
          exact (a5 k ek).2 eb
        · rw [(i5 i (by omega)).1 (fun w => by cases w.1)]
          exact (a4 i hi).1 w1
        · rw [(i5 i (by omega)).2 (fun w => by have := (Option.some.inj w.2); omega) w2]
          exact (a4 i hi).2 w1
def F2R (ρ : Nat → Nat → Prop) : List Vl → List Vl → Prop
  | [], [] => True
  | v :: l, w :: l' => VR ρ v w ∧ F2R ρ l l'
  | [], _ :: _ => False
  | _ :: _, [] => False
theorem F2R_mono {ρ ρ' : Nat → Nat → Prop} (h : ∀ a b, ρ a b → ρ' a b) : ∀ (l l' : List Vl), F2R ρ l l' → F2R ρ' l l'
  | [], [], _ => trivial
  | v :: l, w :: l', ⟨q1, q2⟩ => ⟨VR_mono h v w q1, F2R_mono h l l' q2⟩
  | [], _ :: _, q => absurd q id
  | _ :: _, [], q => absurd q id
def LR (ρ : Nat → Nat → Prop) (a a' : LSt) : Prop := FI ρ ∧ BH ρ a.1 a.2.1 a'.1 a'.2.1 ∧ (∀ x y, ρ x y → a.2.2.1 x ∧ a'.2.2.1 y) ∧ VR ρ a.2.2.2.1 a'.2.2.2.1 ∧ F2R ρ a.2.2.2.2 a'.2.2.2.2
theorem LR_new {ρ : Nat → Nat → Prop} {a a' : LSt} {k k' : Nat} {h t h' t' : Vl} {ps ps' : List Vl} (hL : LR ρ a a') (hk : ¬ a.2.2.1 k) (hk' : ¬ a'.2.2.1 k') (qh : VR ρ h h') (qt : VR ρ t t') (qp : F2R ρ ps ps') : ∃ ρ', LR ρ' (newL a k h t ps) (newL a' k' h' t' ps') := by
  obtain ⟨l1, l2, l3, l4, l5⟩ := hL
  have hF : FRS ρ (fun _ => k) (fun _ => k') 1 := fun j hj => ⟨⟨fun b q => hk (l3 _ _ q).1, fun x q => hk' (l3 _ _ q).2⟩, fun i hi hne => absurd (by omega) hne⟩
  refine ⟨exR ρ (fun _ => k) (fun _ => k') 1, FI_ex l1 hF, ?_, fun x y q => ?_, Or.inr ⟨0, by decide, rfl, rfl⟩, F2R_mono (fun _ _ => Or.inl) _ _ qp⟩
  · exact BH_al (k := fun _ => k) (k' := fun _ => k') (al := [(h, t)]) (al' := [(h', t')]) l2 hF rfl (fun i x x' e e' => F2V_at i x x' (l := [(h, t)]) (l' := [(h', t')]) ⟨⟨VR_up qh, VR_up qt⟩, trivial⟩ e e')
  · rcases q with q | ⟨j, -, rfl, rfl⟩
    · exact ⟨Or.inl (l3 x y q).1, Or.inl (l3 x y q).2⟩
    · exact ⟨Or.inr rfl, Or.inr rfl⟩
theorem VR_hv {ρ : Nat → Nat → Prop} (t : Int32 × Int32) : VR ρ (hvT t) (hvT t) := by
  unfold hvT
  split
  · exact trivial
  · split
    · exact rfl
    · exact rfl
theorem LY_bis : ∀ (L : TL) (ρ : Nat → Nat → Prop) (a a' b b' : LSt), LR ρ a a' → LY L a b → LY L a' b' → ∃ ρ', LR ρ' b b'
  | [], ρ, a, a', b, b', hR, h, h' => by
    have h : a = b := h
    have h' : a' = b' := h'
    rw [← h, ← h']
    exact ⟨ρ, hR⟩
  | t :: L, ρ, a, a', b, b', hR, ⟨c, h1, h2⟩, ⟨c', h1', h2'⟩ => by
    obtain ⟨ρ1, hR1⟩ := LY_bis L ρ a a' c c' hR h1 h1'
    have hR1' := hR1
    obtain ⟨l1, l2, l3, l4, l5⟩ := hR1
    rcases h2 with ⟨e5, rfl⟩ | ⟨e4, P, ps, k, ep, hk, rfl⟩ | ⟨n5, n4, k, hk, rfl⟩
    · rcases h2' with ⟨-, rfl⟩ | ⟨e4, -⟩ | ⟨n5, -⟩
      · exact ⟨ρ1, l1, l2, l3, trivial, l4, l5⟩
      · rw [e5] at e4
        exact absurd e4 (by decide)
      · exact absurd e5 n5
    · rcases h2' with ⟨e5, -⟩ | ⟨-, P', ps', k', ep', hk', rfl⟩ | ⟨-, n4, -⟩
      · rw [e4] at e5
        exact absurd e5 (by decide)
      · rw [ep, ep'] at l5
        exact LR_new hR1' hk hk' l4 l5.1 l5.2
      · exact absurd e4 n4
    · rcases h2' with ⟨e5, -⟩ | ⟨e4, -⟩ | ⟨-, -, k', hk', rfl⟩
      · exact absurd e5 n5
      · exact absurd e4 n4
      · exact LR_new hR1' hk hk' (VR_hv t) l4 l5
end
section
def CJ (z len : Nat) (tx : Nat → Nat) (mode : Int32) (c : Nat) (err : Int32) (H T : Nat → Vl) (S E C D : Vl) (fr : Nat → Nat) (f n : Nat) (fb : Nat → Nat) (tl W : List mj_O) : Prop := ∃ (t : tS) (X : Nat → Int32) (a : Nat) (s : cD_) (colls taken steps : Int32) (g : gS) (k : Int32) (R : Nat → Vl),
  W = WC z err t X len a s S E C D mode colls taken steps H T fr g f c k n fb R tl ∧ z ≤ 250 ∧ tOK t ∧ txOK X len tx ∧ (∀ i j, dF s i = some j → j < 1000) ∧ OC z s ∧ mOK z S E C D H T ∧ (∀ j, j < z → fr j < z) ∧ f ≤ z ∧ c ≤ z ∧ dOK z n fb R
def CY (z len : Nat) (tx : Nat → Nat) (mode : Int32) (c : Nat) (err : Int32) (H T : Nat → Vl) (S E C D : Vl) (fr : Nat → Nat) (f n : Nat) (fb : Nat → Nat) (s : cS) : Prop := ∀ tl, CJ z len tx mode c err H T S E C D fr f n fb tl (cW s tl)
theorem CJ_CY {z len : Nat} {tx : Nat → Nat} {mode : Int32} {c : Nat} {err : Int32} {H T : Nat → Vl} {S E C D : Vl} {fr : Nat → Nat} {f n : Nat} {fb : Nat → Nat} {tl W : List mj_O} (h : CJ z len tx mode c err H T S E C D fr f n fb tl W) : ∃ s, W = cW s tl ∧ CY z len tx mode c err H T S E C D fr f n fb s := by
  obtain ⟨t, X, a, s, colls, taken, steps, g, k, R, e, h⟩ := h
  refine ⟨cSo z err t X len a s S E C D mode colls taken steps H T fr g f c k n fb R, e, fun tl' => ?_⟩
  exact ⟨t, X, a, s, colls, taken, steps, g, k, R, rfl, h⟩
def CRUN (z : Nat) : Nat → KS → Nat → KS → Prop
  | 0, σ, k, σ' => k = 0 ∧ σ' = σ
  | N + 1, σ, k, σ' => (¬ σ.2.2.2.2.2 = 1 ∧ k = 0 ∧ σ' = σ) ∨ (σ.2.2.2.2.2 = 1 ∧ ∃ σ1 k1, CSTEP z σ σ1 ∧ k = k1 + 1 ∧ CRUN z N σ1 k1 σ')
section ZKM
variable {m b0 b1 : Nat} {op : Bool} {tl W : List mj_O} {Q : mj_R → Prop} {xs : List Int32} {z len c : Nat} {tx : Nat → Nat} {mode err : Int32} {H T : Nat → Vl} {S E C D : Vl} {fr : Nat → Nat} {f n : Nat} {fb : Nat → Nat}
set_option maxRecDepth 10000
theorem J_write {w : Int64} (h : CJ z len tx mode c err H T S E C D fr f n fb tl W) (h1 : wR w len = none → Q (.inl (some (.int 0)), (W, b0, b1, op))) (h2 : ∀ k W', wR w len = some k → CJ z k (txW w len k tx) mode c err H T S E C D fr f n fb tl W' → Q (.inl (some (.int 1)), (W', b0, b1, op))) : mj_Mt gT (law_cst xs) gnw (m + 4) y_P_write [.ref 0, .long w] (W, b0, b1, op) Q := by
  obtain ⟨t, X, a, s, colls, taken, steps, g, k, R, rfl, hz, ht, hx, hF, hO, hM, hfr, hf, hc, hd⟩ := h
  refine c_write (s := cSo z err t X len a s S E C D mode colls taken steps H T fr g f c k n fb R) (n := len) hx.1 rfl (fun e => h1 e) (fun k2 e => ?_)
  exact h2 k2 _ e ⟨t, wT w 8 len X, a, s, colls, taken, steps, g, k, R, rfl, hz, ht, txW_ok hx e, hF, hO, hM, hfr, hf, hc, hd⟩
theorem J_position (h : CJ z len tx mode c err H T S E C D fr f n fb tl W) (hQ : Q (.inl (some (.int err)), (W, b0, b1, op))) : mj_Mt gT (law_cst xs) gnw (m + 1) y_P_position [.ref 0] (W, b0, b1, op) Q := by
  obtain ⟨t, X, a, s, colls, taken, steps, g, k, R, rfl, -⟩ := h
  intro J hJ
  refine hJ _ _ _ _ ?_
  exact hQ
theorem J_state (h : CJ z len tx mode c err H T S E C D fr f n fb tl W) (hQ : Q (.inl (some (.int mode)), (W, b0, b1, op))) : mj_Mt gT (law_cst xs) gnw (m + 2) y_P_state [.ref 0] (W, b0, b1, op) Q := by
  obtain ⟨t, X, a, s, colls, taken, steps, g, k, R, rfl, -⟩ := h
  intro J hJ
  refine hJ _ _ _ _ ?_
  refine M_mode ?_
  exact hQ
theorem J_start (h : CJ z len tx mode c err H T S E C D fr f n fb tl W) (h0 : c = 0 → Q (.inl (some (.int 0)), (W, b0, b1, op))) (h1 : ∀ W', 0 < c → CJ z len tx 1 c err H T vNil vNil (vPr 0) vNil (faN (z - c) c (fr, 0)).1 (z - c) n fb tl W' → Q (.inl (some (.int 1)), (W', b0, b1, op))) : mj_Mt gT (law_cst xs) gnw (m + 4) y_P_start [.ref 0] (W, b0, b1, op) Q := by
  obtain ⟨t, X, a, s, colls, taken, steps, g, k, R, rfl, hz, ht, hx, hF, hO, hM, hfr, hf, hc, hd⟩ := h
  have hfa := faN_fr (z := z) (z - c) c (fr, 0) (by omega) hfr
  have hf2 : (faN (z - c) c (fr, 0)).2 = z - c := by
    have : (faN (z - c) c (fr, 0)).2 = 0 + (z - c) := hfa.2
    omega
  intro J hJ
  refine hJ _ _ _ _ ?_
  refine k_beginW hz hc hfr (fun e => ?_) (fun e => ?_)
  · exact And.intro (Or.inl rfl) (h0 e)
  · rw [hf2]
    refine And.intro (Or.inr rfl) (h1 _ e ⟨t, X, a, s, 0, 0, 0, g, k, R, rfl, hz, ht, hx, hF, hO, ⟨hM.1, hM.2.1, trivial, trivial, ?_, trivial⟩, hfa.1, by omega, hc, hd⟩)
    show 0 < z
    omega
theorem J_next (h : CJ z len tx mode c err H T S E C D fr f n fb tl W) (h0 : ¬ mode = 1 → Q (.inl (some (.int (-1))), (W, b0, b1, op))) (h1 : mode = 1 → Q (.inl (some (.int (encV (ofV H C)).toInt32)), (W, b0, b1, op))) : mj_Mt gT (law_cst xs) gnw (m + 4) y_P_next [.ref 0] (W, b0, b1, op) Q := by
  obtain ⟨t, X, a, s, colls, taken, steps, g, k, R, rfl, hz, ht, hx, hF, hO, ⟨hA, hB, hS, hE, hC, hD⟩, hfr, hf, hc, hd⟩ := h
  intro J hJ
  refine hJ _ _ _ _ ?_
  refine M_mode ?_
  refine And.intro (fun w => ?_) (fun w => ?_)
  · exact h0 w
  · refine k_instruction hz hA hB hfr hS hE hC hD ?_
    exact h1 w
theorem J_count {x : Int32} (h : CJ z len tx mode c err H T S E C D fr f n fb tl W) (hQ : ∀ y W', CJ z len tx mode c err H T S E C D fr f n fb tl W' → Q (.inl (some (.int y)), (W', b0, b1, op))) : mj_Mt gT (law_cst xs) gnw (m + 6) y_P_count [.ref 0, .int x] (W, b0, b1, op) Q := by
  have hI0 := h
  obtain ⟨t, X, a, s, colls, taken, steps, g, k, R, rfl, hz, ht, hx, hF, hO, hM, hfr, hf, hc, hd⟩ := h
  have key : ∀ y, Q (.inl (some (.int y)), (WC z err t X len a s S E C D mode colls taken steps H T fr g f c k n fb R tl, b0, b1, op)) := fun y => hQ y _ hI0
  obtain ⟨hA, hB, hS, hE, hC, hD⟩ := hM
  intro J hJ
  refine hJ _ _ _ _ ?_
  refine And.intro (fun w => ?_) (fun g0 => And.intro (fun w => ?_) (fun g1 => And.intro (fun w => ?_) (fun g2 => And.intro (fun w => ?_) (fun g3 => And.intro (fun w => ?_) (fun g4 => And.intro (fun w => ?_) (fun g5 => And.intro (fun w => ?_) (fun g6 => ?_)))))))
  · intro J1 hJ1
    refine hJ1 _ _ _ _ ?_
    intro J2 hJ2
    refine hJ2 _ _ _ _ ?_
    exact key _
  · intro J1 hJ1
    refine hJ1 _ _ _ _ ?_
    refine s_mark hz hc hA hB hS hE hC hD ?_
    exact hQ _ _ ⟨t, X, a, s, colls, taken, steps, mrk z H T S E C D (if c = 0 then vNil else vPr 0) g, k, R, rfl, hz, ht, hx, hF, hO, ⟨hA, hB, hS, hE, hC, hD⟩, hfr, hf, hc, hd⟩
  · intro J1 hJ1
    refine hJ1 _ _ _ _ ?_
    exact key _
  · intro J1 hJ1
    refine hJ1 _ _ _ _ ?_
    exact key _
  · intro J1 hJ1
    refine hJ1 _ _ _ _ ?_
    exact key _
  · intro J1 hJ1
    refine hJ1 _ _ _ _ ?_
    refine s_length hz hB hS ?_
    exact key _
  · intro J1 hJ1
    refine hJ1 _ _ _ _ ?_
    refine s_length hz hB hD ?_
    exact key _
  · exact key _
def KRN (z c : Nat) (mode : Int32) (H T : Nat → Vl) (S E C D : Vl) (fr : Nat → Nat) (f : Nat) : Prop := mode = 1 → 0 < c ∧ CDE c H T ∧ ∃ U, KT z c H T S E C D fr f U
theorem J_run {x : Int32} (h : CJ z len tx mode c err H T S E C D fr f n fb tl W) (hK : KRN z c mode H T S E C D fr f) (hD0 : DSP H T S mode n fb) (hb0 : 1 ≤ b0) (hb1 : 6 ≤ b1) (hb2 : mode = 1 → 200 ≤ b0 ∧ 20000 ≤ b1)
    (h1 : ∀ b0' b1', (x < 0 ∨ 200 < x) → b0 ≤ b0' + 1 → b1 ≤ b1' + 6 → Q (.inr 0, (W, b0', b1', false)))
    (h2 : ∀ N k mode' W' H' T' S' E' C' D' fr' f' n' fb' b0' b1' op', x = nI N → N ≤ 200 → k ≤ N → CRUN z N (H, T, (S, E, C, D), fr, f, mode) k (H', T', (S', E', C', D'), fr', f', mode') → CJ z len tx mode' c err H' T' S' E' C' D' fr' f' n' fb' tl W' → KRN z c mode' H' T' S' E' C' D' fr' f' → DSP H' T' S' mode' n' fb' → (b0' = b0 ∧ b1' = b1 ∧ (mode = 1 ∨ mode' = mode)) ∨ (¬ mode' = 1 ∧ mode = 1 ∧ b0 ≤ b0' + 140 ∧ b1 ≤ b1' + 19740) → Q (.inl (some (.int (nI k))), (W', b0', b1', op'))) :
    mj_Mt gT (law_cst xs) gnw (m + 13) y_P_run [.ref 0, .int x] (W, b0, b1, op) Q := by
  obtain ⟨b0, rfl⟩ : ∃ b, b0 = b + 1 := ⟨b0 - 1, by omega⟩
  intro J hJ
  refine hJ _ _ _ _ ?_
  refine And.intro (fun (q : x < 0) => ?_) (fun (q : ¬ x < 0) => ?_)
  · exact And.intro hb1 (h1 b0 (b1 - 6) (Or.inl q) (by omega) (by omega))
  · refine And.intro (fun (q2 : x ≤ 200) => ?_) (fun (q2 : ¬ x ≤ 200) => ?_)
    · obtain ⟨N, hN, ex⟩ := nI_of2 (M := 200) (n := 200) (by decide) q q2
      have loop : ∀ (j i : Nat) (mode' : Int32) (W' : List mj_O) (H' T' : Nat → Vl) (S' E' C' D' : Vl) (fr' : Nat → Nat) (f' n' : Nat) (fb' : Nat → Nat) (b0' b1' : Nat) (op' : Bool), i + j = N → (∀ σ2 k2, CRUN z j (H', T', (S', E', C', D'), fr', f', mode') k2 σ2 → CRUN z N (H, T, (S, E, C, D), fr, f, mode) (i + k2) σ2) → CJ z len tx mode' c err H' T' S' E' C' D' fr' f' n' fb' tl W' → KRN z c mode' H' T' S' E' C' D' fr' f' → DSP H' T' S' mode' n' fb' → ((b0' = b0 + 1 ∧ b1' = b1 ∧ (mode = 1 ∨ mode' = mode)) ∨ (¬ mode' = 1 ∧ mode = 1 ∧ b0 + 1 ≤ b0' + 140 ∧ b1 ≤ b1' + 19740)) → J 8 [some (.ref 0), some (.int x), some (.int (nI i))] [] (W', b0', b1', op') := by
        intro j
        induction j with
        | zero =>
          intro i mode' W' H' T' S' E' C' D' fr' f' n' fb' b0' b1' op' hi hR hI hKp hDs hm
          refine hJ _ _ _ _ ?_
          refine And.intro (fun _ => ?_) (fun (w : ¬ x ≤ nI i) => absurd (by rw [ex]; exact nI_le (by omega) (by omega)) w)
          exact h2 N i mode' W' H' T' S' E' C' D' fr' f' n' fb' b0' b1' op' ex hN (by omega) (hR _ 0 ⟨rfl, rfl⟩) hI hKp hDs hm
        | succ j ih =>
          intro i mode' W' H' T' S' E' C' D' fr' f' n' fb' b0' b1' op' hi hR hI hKp hDs hm
          refine hJ _ _ _ _ ?_
          refine And.intro (fun (w : x ≤ nI i) => absurd w (by rw [ex]; exact nI_ge (by omega) (by omega))) (fun _ => ?_)
          have hI0 := hI
          obtain ⟨t, X, a, s, colls, taken, steps, g, k, R, rfl, hz, ht, hx, hF, hO, hM, hfr, hf, hc, hd⟩ := hI
          refine M_mode ?_
          refine And.intro (fun (w2 : ¬ mode' = 1) => ?_) (fun (w2 : mode' = 1) => ?_)
          · exact h2 N i mode' _ H' T' S' E' C' D' fr' f' n' fb' b0' b1' op' ex hN (by omega) (hR _ 0 (Or.inl ⟨w2, rfl, rfl⟩)) hI0 hKp hDs hm
          · subst w2
            obtain ⟨e1, e2, e3⟩ : b0' = b0 + 1 ∧ b1' = b1 ∧ mode = 1 := by
              rcases hm with ⟨p1, p2, p3⟩ | ⟨p1, -⟩
              · exact ⟨p1, p2, p3.elim id Eq.symm⟩
              · exact absurd rfl p1
            subst e1 e2 e3
            obtain ⟨r1, r2⟩ := hb2 rfl
            obtain ⟨hc0, hCD, U, hKT⟩ := hKp rfl
            refine k_stepE hz hc0 hc hKT hCD hM hfr hd r1 r2 (fun S2 E2 C2 D2 mode2 colls2 taken2 H2 T2 fr2 g2 f2 k2 n2 fb2 R2 b02 b12 op2 U2 vC v1 v2 v3 v3c v4 v4d v5 => ?_)
            have hstep : ∀ y : Int32, y = nI (i + 1) → J 8 [some (.ref 0), some (.int x), some (.int y)] [] (WC z err t X len a s S2 E2 C2 D2 mode2 colls2 taken2 (steps + 1) H2 T2 fr2 g2 f2 c k2 n2 fb2 R2 tl, b02, b12, op2) := by
              rintro y rfl
              refine ih (i + 1) mode2 _ H2 T2 S2 E2 C2 D2 fr2 f2 n2 fb2 b02 b12 op2 (by omega) (fun σ2 k3 hk3 => ?_) ⟨t, X, a, s, colls2, taken2, steps + 1, g2, k2, R2, rfl, hz, ht, hx, hF, hO, v1, v2, v3.2.2.2.2, hc, v4⟩ (fun _ => ⟨hc0, CDE_ag hCD v3c, U2, v3⟩) v4d ?_
              · rw [show i + 1 + k3 = i + (k3 + 1) by omega]
                exact hR σ2 (k3 + 1) (Or.inr ⟨rfl, _, k3, vC, rfl, hk3⟩)
              · rcases v5 with ⟨w1, w2, w3⟩ | ⟨w1, w2, w3⟩
                · exact Or.inl ⟨w1, w2, Or.inl rfl⟩
                · subst w1
                  exact Or.inr ⟨by decide, rfl, w2, w3⟩
            exact hstep _ (nI_succ i).symm
      exact loop N 0 mode W H T S E C D fr f n fb (b0 + 1) b1 op (by omega) (fun σ2 k2 hk2 => by rw [Nat.zero_add]; exact hk2) h hK hD0 (Or.inl ⟨rfl, rfl, Or.inr rfl⟩)
    · exact And.intro hb1 (h1 b0 (b1 - 6) (Or.inr (Int32.not_le.mp q2)) (by omega) (by omega))
end ZKM
end
section
theorem cu_bij {ρ : Nat → Nat → Prop} {z : Nat} {mk mk' : Nat → Bool} (h1 : ∀ a, a < z → mk a = true → ∃ b, b < z ∧ mk' b = true ∧ ρ a b) (h2 : ∀ b, b < z → mk' b = true → ∃ a, a < z ∧ mk a = true ∧ ρ a b) (hI : FI ρ) : cu mk z = cu mk' z := by
  have neg : ∀ (g : Nat → Bool) (n : Nat), cu g n + cu (fun a => !g a) n = n := by
    intro g n
    induction n with
    | zero => rfl
    | succ n ih =>
      rw [cu_s, cu_s]
      cases hg : g n with
      | true =>
        rw [if_pos rfl, if_neg (by simp [hg])]
        omega
      | false =>
        rw [if_neg (by decide), if_pos (by simp [hg])]
        omega
  have tr : ∀ (g : Nat → Bool) (a : Nat), (!g a) = false → g a = true := fun g a h => by
    cases hg : g a with
    | true => rfl
    | false => rw [hg] at h; cases h
  have l1 : cu (fun a => !mk a) z ≤ cu (fun a => !mk' a) z := cu_inj (ρ := ρ) (z := z) (z' := z) z _ _ (fun a ha hm => by
    obtain ⟨b, b1, b2, b3⟩ := h1 a ha (tr mk a hm)
    exact ⟨b, b1, by show (!mk' b) = false; rw [b2]; rfl, b3⟩) hI.2
  have l2 : cu (fun a => !mk' a) z ≤ cu (fun a => !mk a) z := cu_inj (ρ := fun b a => ρ a b) (z := z) (z' := z) z _ _ (fun b hb hm => by
    obtain ⟨a, a1, a2, a3⟩ := h2 b hb (tr mk' b hm)
    exact ⟨a, a1, by show (!mk a) = false; rw [a2]; rfl, a3⟩) (fun b b' a q q' => hI.1 a b b' q q')
  have n1 := neg mk z
  have n2 := neg mk' z
  omega
theorem cu_lt (c : Nat) : ∀ n, cu (fun a => decide (a < c)) n = n - c
  | 0 => (Nat.zero_sub c).symm
  | n + 1 => by
    rw [cu_s, cu_lt c n]
    by_cases h : n < c
    · rw [if_pos (decide_eq_true h)]
      omega
    · rw [if_neg (by simp [h])]
      omega
def COD (c : Nat) (H T : Nat → Vl) (r : rM) (H' T' : Nat → Vl) (R' : Vl) (ρ : Nat → Nat → Prop) : Prop := (∃ ro, TS H T ro (fun a => a < c) (vPr 0) ∧ ∀ i, i < c → ro i = false) ∧ CDE c H T ∧ FI ρ ∧ BH ρ H T H' T' ∧ VR ρ (vPr 0) R' ∧ (∀ a b, ρ a b → a < c ∧ Ur r b) ∧ ∀ i, i < c → ∃ b, ρ i b
def JNT (z c : Nat) (σ : KS) (r : rM) : Prop := r.state = σ.2.2.2.2.2 ∧
    ((c = 0 ∧ r.program = 0 ∧ σ.2.2.2.2.2 = 0)
  ∨ (0 < c ∧ ¬ r.program = 0 ∧ σ.2.2.2.2.2 = 0 ∧ ∃ R' H' T' ro' ρ, RX r H' T' vNil vNil vNil vNil R' ∧ TS H' T' ro' (Ur r) R' ∧ COD c σ.1 σ.2.1 r H' T' R' ρ)
  ∨ (0 < c ∧ ¬ r.program = 0 ∧ rnS r ∧ CDE c σ.1 σ.2.1 ∧ ∃ R' H' T' S' E' C' D' ro' k n b e U ρ, RX r H' T' S' E' C' D' R' ∧ TI H' T' ro' (Ur r) S' E' C' D' R' k n b e ∧ KT z c σ.1 σ.2.1 σ.2.2.1.1 σ.2.2.1.2.1 σ.2.2.1.2.2.1 σ.2.2.1.2.2.2 σ.2.2.2.1 σ.2.2.2.2.1 U ∧ BIS c σ.1 σ.2.1 σ.2.2.1.1 σ.2.2.1.2.1 σ.2.2.1.2.2.1 σ.2.2.1.2.2.2 σ.2.2.2.2.1 U r H' T' S' E' C' D' R' ρ))
section ZKN
variable {z c : Nat} {H T : Nat → Vl} {S E C D : Vl} {fr : Nat → Nat} {f : Nat} {mode : Int32} {r : rM}
theorem cellV {ρ : Nat → Nat → Prop} {v w : Vl} {a : Nat} (q : VR ρ v w) (e : ceV v = some a) : ∃ b, ceV w = some b ∧ ρ a b := by
  rcases v with u | y | y | i | i <;> rcases w with u' | y' | y' | j | j <;> first | exact absurd q id | cases e
  · exact ⟨j, rfl, q⟩
  · exact ⟨j, rfl, q⟩
theorem cellW {ρ : Nat → Nat → Prop} {v w : Vl} {b : Nat} (q : VR ρ v w) (e : ceV w = some b) : ∃ a, ceV v = some a ∧ ρ a b := by
  rcases v with u | y | y | i | i <;> rcases w with u' | y' | y' | j | j <;> first | exact absurd q id | cases e
  · exact ⟨i, rfl, q⟩
  · exact ⟨i, rfl, q⟩
theorem VR_sub {ρ : Nat → Nat → Prop} {P : Nat → Nat → Prop} {v w : Vl} (q : VR ρ v w) (h : ∀ a b, ceV v = some a → ceV w = some b → ρ a b → P a b) : VR P v w := by
  rcases v with u | y | y | i | i <;> rcases w with u' | y' | y' | j | j <;> first | exact absurd q id | exact q | exact h _ _ rfl rfl q
theorem JNT_COD (h : JNT z c (H, T, (S, E, C, D), fr, f, mode) r) (hc : 0 < c) : ∃ R' H' T' S' E' C' D' ro' ρ, RX r H' T' S' E' C' D' R' ∧ TS H' T' ro' (Ur r) R' ∧ COD c H T r H' T' R' ρ := by
  rcases h.2 with ⟨w, -⟩ | ⟨-, -, -, R', H', T', ro', ρ, h1, h2, h3⟩ | ⟨-, -, -, hCD, R', H', T', S', E', C', D', ro', k, n, b, e, U, ρ, h1, h2, h3, h4⟩
  · omega
  · exact ⟨R', H', T', _, _, _, _, ro', ρ, h1, h2, h3⟩
  · have hCD : CDE c H T := hCD
    obtain ⟨⟨ro, k1, n1, b1, e1, hT, hcU⟩, g2, -⟩ := h3
    obtain ⟨hI, hB, ⟨-, -, -, -, qR⟩, hdom, -, hcR, -⟩ := h4
    have hB : BH ρ H T H' T' := hB
    refine ⟨R', H', T', S', E', C', D', ro', fun a b => ρ a b ∧ a < c, h1, h2.1, ⟨ro, ⟨SI_sub hT.1.1 (fun a ha => (hcU a ha).1) hCD.1, pr_inU hc, hT.1.2.2⟩, fun i hi => (hcU i hi).2⟩, hCD, ⟨fun a b b' q q' => hI.1 a b b' q.1 q'.1, fun a a' b q q' => hI.2 a a' b q.1 q'.1⟩, fun a b q => ?_, VR_sub qR (fun a b ea eb q => ⟨q, by cases ea; exact hc⟩), fun a b q => ⟨q.2, (hdom a b q.1).2⟩, fun i hi => (hcR i hi).imp (fun b q => ⟨q, hi⟩)⟩
    obtain ⟨q1, q2⟩ := hB a b q.1
    exact ⟨VR_sub q1 (fun x y ex ey w => ⟨w, (hCD.1 a q.2).1 x ex⟩), VR_sub q2 (fun x y ex ey w => ⟨w, (hCD.1 a q.2).2 x ex⟩)⟩
end ZKN
section ZKO
variable {cst : Nat → Option (Nat × (Nat → Int32))} {m b0 b1 : Nat} {op : Bool} {tl : List mj_O} {Q : mj_R → Prop} {s : cS} {r : rM} {z c : Nat} {H T : Nat → Vl} {S E C D : Vl} {fr : Nat → Nat} {f : Nat} {mode : Int32}
set_option maxRecDepth 10000
theorem R_startE (hI : RMI r) (hJN : JNT z c (H, T, (S, E, C, D), fr, f, mode) r) (hc : 0 < c) (hcz : c ≤ z) (hzz : r.z = z) (h1 : ∀ r', ke r r' → RMI r' → JNT z c (H, T, (vNil, vNil, vPr 0, vNil), (faN (z - c) c (fr, 0)).1, z - c, 1) r' → Q (.inl (some (.int 1)), (cW s (rW r' tl), b0, b1, op))) : mj_Mt gT cst gnw (m + 4) y_R_start [.ref 27] (cW s (rW r tl), b0, b1, op) Q := by
  have hp : ¬ r.program = 0 := by
    rcases hJN.2 with ⟨w, -⟩ | ⟨-, w, -⟩ | ⟨-, w, -⟩
    · omega
    · exact w
    · exact w
  obtain ⟨R, H', T', S', E', C', D', ro, ρ, hX, hT, ⟨roC, hTC, hroC⟩, hCD, hFI, hBH, qR, hdom, hcR⟩ := JNT_COD hJN hc
  obtain ⟨hB, -, -, -, -, x4⟩ := hX
  intro J hJ
  refine hJ _ _ _ _ ?_
  refine And.intro (fun (g : ¬ r.program = 0) => ?_) (fun (g : r.program = 0) => absurd g hp)
  have loop : ∀ (j k : Nat) (fg : Nat → Int32), j + k = 4 → (∀ i, i < k → fg i = -1) → fg 4 = r.reg 4 → J 10 [some (.ref 27), some (.int (nI k))] [] (cW s (rW (sR (thR r 0) fg) tl), b0, b1, op) := by
    intro j
    induction j with
    | zero =>
      intro k fg hk hf h4
      obtain rfl : k = 4 := by omega
      refine hJ _ _ _ _ ?_
      refine And.intro (fun _ => ?_) (fun (w : ¬ (4 : Int32) ≤ nI 4) => absurd (by decide) w)
      have nn0 : ∀ i, i < 4 → rg (sR (thR r 0) fg) vNil ((sR (thR r 0) fg).reg i) := fun i hi => Or.inl ⟨rfl, hf i hi⟩
      have hX1 : RX (sR (thR r 0) fg) H' T' vNil vNil vNil vNil R := ⟨hB, nn0 0 (by decide), nn0 1 (by decide), nn0 2 (by decide), nn0 3 (by decide), by
        show rg _ R (fg 4)
        rw [h4]
        exact x4⟩
      have nilM : inU (fun b => ∃ a, a < c ∧ ρ a b) vNil := nil_inU
      refine R_sweepM (M := fun b => ∃ a, a < c ∧ ρ a b) (fun b _ hb => ?_) nilM nilM nilM nilM (fun b eb => ?_) hX1 hI.1.1 (fun nn r' hnn q1 q2 q3 q4 q5 q6 q7 q8 q9 q10 => ?_)
      · obtain ⟨a, a1, a2⟩ := hb
        obtain ⟨w1, w2⟩ := hBH a b a2
        refine ⟨fun b2 e2 => ?_, fun b2 e2 => ?_⟩
        · obtain ⟨a3, e3, w3⟩ := cellW w1 e2
          exact ⟨a3, (hdom a3 b2 w3).1, w3⟩
        · obtain ⟨a3, e3, w3⟩ := cellW w2 e2
          exact ⟨a3, (hdom a3 b2 w3).1, w3⟩
      · obtain ⟨a3, e3, w3⟩ := cellW qR eb
        exact ⟨a3, (hdom a3 b w3).1, w3⟩
      have hke := kc_ke q1
      have i54 : vp_in 4 5 := vp_in_nI (show 4 < 5 by decide) (by decide)
      refine And.intro i54 ?_
      refine And.intro i52 ?_
      have hT' : TS H' T' ro (Ur r') R := ⟨SI_sub hT.1 (fun a ha => (q8 a ha).1) q9, q10.2.2.2.2, hT.2.2⟩
      have uR : inU (Ur r') R := q10.2.2.2.2
      obtain ⟨hB', y0, y1, y2, y3, y4⟩ := q7
      have hX2 : RX (s1R (sR r' (upd r'.reg 2 (r'.reg 4)))) H' T' vNil vNil R vNil R := ⟨hB', y0, y1, y4, y3, y4⟩
      have h3 : RMI (s1R (sR r' (upd r'.reg 2 (r'.reg 4)))) := by
        refine ⟨⟨q2, ?_⟩, Or.inr ⟨?_, R, Or.inr ⟨Or.inl rfl, H', T', ro, vNil, vNil, R, vNil, [], 0, false, eStop, hX2, TI_start hT'⟩⟩⟩
        · obtain ⟨n, hn, en⟩ := hI.1.2
          exact ⟨n, hn, q5.2.2.2.1.trans en⟩
        · show ¬ r'.program = 0
          rw [hke.2.2.2.2]
          exact g
      have mkd_ : ∀ i, i < c → ∃ b, Ur r' b ∧ ρ i b := by
        refine hCD.2 (fun a => ∃ b, Ur r' b ∧ ρ a b) ?_ (fun i hi hm => ?_)
        · obtain ⟨b, eb, w⟩ := cellV qR (show ceV (vPr 0) = some 0 from rfl)
          exact ⟨b, uR b eb, w⟩
        · obtain ⟨b, ub, w⟩ := hm
          obtain ⟨w1, w2⟩ := hBH i b w
          refine ⟨fun a2 e2 => ?_, fun a2 e2 => ?_⟩
          · obtain ⟨b2, e3, w3⟩ := cellV w1 e2
            exact ⟨b2, (q9 b ub).1 b2 e3, w3⟩
          · obtain ⟨b2, e3, w3⟩ := cellV w2 e2
            exact ⟨b2, (q9 b ub).2 b2 e3, w3⟩
      have hrz : r'.z = z := hke.1.trans hzz
      have cnt : z - c = fz (s1R (sR r' (upd r'.reg 2 (r'.reg 4)))) := by
        have e1 : fz (s1R (sR r' (upd r'.reg 2 (r'.reg 4)))) = cu (dP (Ur r')) z := by
          have : fz (s1R (sR r' (upd r'.reg 2 (r'.reg 4)))) = fz r' := rfl
          rw [this, fz_cu, hrz]
        rw [e1, ← cu_lt c z]
        refine cu_bij (ρ := ρ) (fun a ha hm => ?_) (fun b hb hm => ?_) hFI
        · obtain ⟨b, ub, w⟩ := mkd_ a (of_decide_eq_true hm)
          exact ⟨b, by have := ub.1; omega, dP_t.mpr ub, w⟩
        · obtain ⟨-, a, a1, a2⟩ := q8 b (dP_t.mp hm)
          exact ⟨a, by omega, decide_eq_true a1, a2⟩
      obtain ⟨f1, f2, f3⟩ := faN_ok (z - c) c (fr, 0)
      have f3 : ∀ j, j < z - c → (faN (z - c) c (fr, 0)).1 j = c + j := fun j hj => by
        have := f3 j hj
        have this : (faN (z - c) c (fr, 0)).1 (0 + j) = c + j := this
        rwa [Nat.zero_add] at this
      have hKT : KT z c H T vNil vNil (vPr 0) vNil (faN (z - c) c (fr, 0)).1 (z - c) (fun a => a < c) := ⟨⟨roC, [], 0, false, eStop, TI_start hTC, fun i hi => ⟨hi, hroC i hi⟩⟩, fun a ha => (by have ha : a < c := ha; omega), fun j hj => by
        rw [f3 j hj]
        exact ⟨by omega, fun (w : c + j < c) => by omega⟩, fun i j hij hj => by
        rw [f3 i (by omega), f3 j hj]
        omega, by omega⟩
      have hBI : BIS c H T vNil vNil (vPr 0) vNil (z - c) (fun a => a < c) (s1R (sR r' (upd r'.reg 2 (r'.reg 4)))) H' T' vNil vNil R vNil R (fun a b => ρ a b ∧ Ur r' b) := by
        have vR : VR (fun a b => ρ a b ∧ Ur r' b) (vPr 0) R := VR_sub qR (fun a b ea eb w => ⟨w, uR b eb⟩)
        refine ⟨⟨fun a b b' q q' => hFI.1 a b b' q.1 q'.1, fun a a' b q q' => hFI.2 a a' b q.1 q'.1⟩, fun a b q => ?_, ⟨trivial, trivial, vR, trivial, vR⟩, fun a b q => ⟨(hdom a b q.1).1, q.2⟩, cnt, fun i hi => (mkd_ i hi).imp (fun b w => ⟨w.2, w.1⟩), fun w => absurd (show (1 : Int32) = 2 from w) (by decide)⟩
        obtain ⟨w1, w2⟩ := hBH a b q.1
        exact ⟨VR_sub w1 (fun x y ex ey w => ⟨w, (q9 b q.2).1 y ey⟩), VR_sub w2 (fun x y ex ey w => ⟨w, (q9 b q.2).2 y ey⟩)⟩
      refine And.intro (fun (w : nI nn < 0) => absurd w (nI_pos (by omega))) (fun _ => ?_)
      refine And.intro (Or.inr rfl) (h1 (s1R (sR r' (upd r'.reg 2 (r'.reg 4)))) hke h3 ⟨rfl, Or.inr (Or.inr ⟨hc, ?_, Or.inl rfl, hCD, R, H', T', vNil, vNil, R, vNil, ro, [], 0, false, eStop, _, _, hX2, TI_start hT', hKT, hBI⟩)⟩)
      show ¬ r'.program = 0
      rw [hke.2.2.2.2]
      exact g
    | succ j ih =>
      intro k fg hk hf h4
      refine hJ _ _ _ _ ?_
      refine And.intro (fun (w : (4 : Int32) ≤ nI k) => absurd w (nI_ge (b := 4) (by omega) (by decide))) (fun _ => ?_)
      refine And.intro (vp_in_nI (show k < 5 by omega) (by decide)) ?_
      have key : ∀ (i : Nat) (y : Int32), i = k → y = nI (k + 1) → J 10 [some (.ref 27), some (.int y)] [] (cW s (rW (sR (thR r 0) (upd fg i (-1))) tl), b0, b1, op) := by
        rintro i y rfl rfl
        refine ih (i + 1) _ (by omega) (fun a ha => ?_) ?_
        · unfold upd
          split
          · rfl
          · exact hf a (by omega)
        · unfold upd
          rw [if_neg (by omega)]
          exact h4
      exact key _ _ (nI_clamp (by omega)) (nI_succ k).symm
  exact loop 4 0 r.reg (by omega) (fun i hi => absurd hi (Nat.not_lt_zero i)) rfl
theorem R_runE {x : Int32} {N k : Nat} {σ σ' : KS} (hI : RMI r) (hJN : JNT z c σ r) (hzz : r.z = z) (ex : x = nI N) (hN : N ≤ 200) (hC : CRUN z N σ k σ') (hQ : ∀ r', ke r r' → RMI r' → r'.thrown = 0 → JNT z c σ' r' → Q (.inl (some (.int (nI k))), (cW s (rW r' tl), b0, b1, op))) : mj_Mt gT cst gnw (m + 6) y_R_run [.ref 27, .int x] (cW s (rW r tl), b0, b1, op) Q := by
  intro J hJ
  have loop : ∀ (j i : Nat) (σ1 : KS) (k1 : Nat) (r1 : rM), j + i = N → CRUN z j σ1 k1 σ' → k = i + k1 → ke r r1 → RMI r1 → r1.thrown = 0 → JNT z c σ1 r1 → J 12 [some (.ref 27), some (.int x), some (.int (nI i))] [] (cW s (rW r1 tl), b0, b1, op) := by
    intro j
    induction j with
    | zero =>
      intro i σ1 k1 r1 hi hC1 hk h1 h2 ht hj
      obtain ⟨rfl, rfl⟩ := hC1
      have fin : Q (.inl (some (.int (nI i))), (cW s (rW r1 tl), b0, b1, op)) := by
        have := hQ r1 h1 h2 ht hj
        rw [hk, Nat.add_zero] at this
        exact this
      refine hJ _ _ _ _ ?_
      refine And.intro (fun _ => fin) (fun _ => ?_)
      refine And.intro (fun _ => fin) (fun (g : ¬ x ≤ nI i) => absurd (by rw [ex]; exact nI_le (by omega) (by omega)) g)
    | succ j ih =>
      intro i σ1 k1 r1 hi hC1 hk h1 h2 ht hj
      refine hJ _ _ _ _ ?_
      refine And.intro (fun (g : ¬ r1.thrown = 0) => absurd ht g) (fun _ => ?_)
      refine And.intro (fun (g : x ≤ nI i) => absurd g (by rw [ex]; exact nI_ge (by omega) (by omega))) (fun _ => ?_)
      rcases hC1 with ⟨c1, rfl, rfl⟩ | ⟨c1, σ2, k2, c2, rfl, c4⟩
      · refine And.intro (fun _ => ?_) (fun (g : r1.state = 1) => absurd (hj.1.symm.trans g) c1)
        have := hQ r1 h1 h2 ht hj
        rw [hk, Nat.add_zero] at this
        exact this
      · refine And.intro (fun (g : ¬ r1.state = 1) => absurd (hj.1.trans c1) g) (fun (g : r1.state = 1) => ?_)
        obtain ⟨H1, T1, ⟨S1, E1, C1, D1⟩, fr1, f1, mode1⟩ := σ1
        have c1 : mode1 = 1 := c1
        subst c1
        rcases hj.2 with ⟨-, -, w⟩ | ⟨-, -, w, -⟩ | ⟨hc, hp, -, hCD, R', H', T', S', E', C', D', ro', k0, n0, b0', e0, U, ρ, hX, hT, hK, hB⟩
        · exact absurd (show (1 : Int32) = 0 from w) (by decide)
        · exact absurd (show (1 : Int32) = 0 from w) (by decide)
        · refine R_stepE hX hT g h2.1.1 h2.1.2 (h1.1.trans hzz) hK hCD hB c2 (fun r' H2 T2 ro2 S2 E2 C2 D2 k2' n2 b2 e2 U2 ρ2 q1 q2 q3 q4 q5 q6 q7 q8 q9 => ?_)
          have hke := kc_ke q1
          have hp' : ¬ r'.program = 0 := by rw [hke.2.2.2.2]; exact hp
          have h3 : RMI r' := ⟨⟨q2, q4⟩, Or.inr ⟨hp', R', Or.inr ⟨q3, H2, T2, ro2, S2, E2, C2, D2, k2', n2, b2, e2, q5, q6⟩⟩⟩
          have hth : r'.thrown = 0 := (congrArg Prod.snd q1.2.2.2.2).trans ht
          have hJ2 : JNT z c σ2 r' := ⟨q7, Or.inr (Or.inr ⟨hc, hp', q3, CSTEP_cde hCD hK c2, R', H2, T2, S2, E2, C2, D2, ro2, k2', n2, b2, e2, U2, ρ2, q5, q6, q8, q9⟩)⟩
          have key : ∀ y w : Int32, y = nI (i + 1) → J 12 [some (.ref 27), some (.int x), some (.int y)] [] (cW s (rW (spR r' w) tl), b0, b1, op) := by
            rintro y w rfl
            exact ih (i + 1) σ2 k2 (spR r' w) (by omega) c4 (by omega) (ke_tr h1 hke) (RMI_sp h3) hth hJ2
          exact key _ (r'.steps + Int32.ofInt 1) (nI_succ i).symm
  refine hJ _ _ _ _ ?_
  refine And.intro (fun (g : x < 0) => absurd g (by rw [ex]; exact nI_pos (by omega))) (fun _ => ?_)
  refine And.intro (fun _ => ?_) (fun (g : ¬ x ≤ 200) => absurd (by rw [ex]; exact nI_le (b := 200) hN (by decide)) g)
  exact loop N 0 σ k (thR r 0) (by omega) hC (by omega) ⟨rfl, rfl, rfl, rfl, rfl⟩ hI rfl hJN
theorem R_runX {x : Int32} (hx : x < 0 ∨ 200 < x) (hQ : Q (.inl (some (.int 0)), (cW s (rW (thR r 1) tl), b0, b1, op))) : mj_Mt gT cst gnw (m + 6) y_R_run [.ref 27, .int x] (cW s (rW r tl), b0, b1, op) Q := by
  intro J hJ
  have out : J 12 [some (.ref 27), some (.int x), some (.int (nI 0))] [] (cW s (rW (thR r 1) tl), b0, b1, op) := by
    refine hJ _ _ _ _ ?_
    refine And.intro (fun _ => hQ) (fun (g : (1 : Int32) = 0) => absurd g (by decide))
  refine hJ _ _ _ _ ?_
  refine And.intro (fun _ => out) (fun (g : ¬ x < 0) => ?_)
  refine And.intro (fun (g2 : x ≤ 200) => ?_) (fun _ => out)
  rcases hx with w | w
  · exact absurd w g
  · exact absurd g2 (Int32.not_le.mpr w)
end ZKO
end
