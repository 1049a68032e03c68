abbrev KS : Type := (Nat → Vl) × (Nat → Vl) × (Vl × Vl × Vl × Vl) × (Nat → Nat) × Nat × Int32
def CA (σ σ' : KS) (x : Int32) : Prop :=
    (x = 19 ∧ σ' = (σ.1, σ.2.1, σ.2.2.1, σ.2.2.2.1, σ.2.2.2.2.1, 2))
  ∨ (¬ x = 19 ∧ stp (fun j => σ.2.2.2.1 (σ.2.2.2.2.1 - 1 - j)) σ.1 σ.2.1 σ.2.2.1.1 σ.2.2.1.2.1 σ.2.2.1.2.2.1 σ.2.2.1.2.2.2 x = none ∧ σ' = (σ.1, σ.2.1, σ.2.2.1, σ.2.2.2.1, σ.2.2.2.2.1, 3))
  ∨ (¬ x = 19 ∧ ∃ al sh S' E' C' D' f', stp (fun j => σ.2.2.2.1 (σ.2.2.2.2.1 - 1 - j)) σ.1 σ.2.1 σ.2.2.1.1 σ.2.2.1.2.1 σ.2.2.1.2.2.1 σ.2.2.1.2.2.2 x = some (al, sh, S', E', C', D') ∧ f' + rqN x = σ.2.2.2.2.1 ∧ σ' = (stH sh (alH (fun j => σ.2.2.2.1 (σ.2.2.2.2.1 - 1 - j)) 0 al σ.1), alT (fun j => σ.2.2.2.1 (σ.2.2.2.2.1 - 1 - j)) 0 al σ.2.1, (S', E', C', D'), σ.2.2.2.1, f', 1))
def COL (z : Nat) (H T : Nat → Vl) (S E C D : Vl) (mk : Nat → Bool) : Prop := (rtM mk S ∧ rtM mk E ∧ rtM mk C ∧ rtM mk D ∧ rtM mk (vPr 0)) ∧ (∀ a, a < z → mk a = true → rtM mk (H a) ∧ rtM mk (T a)) ∧ ∀ M : Nat → Prop, clo M H T → inU M S → inU M E → inU M C → inU M D → M 0 → ∀ a, a < z → mk a = true → M a
def CSTEP (z : Nat) (σ σ' : KS) : Prop := ∃ x, ofV σ.1 σ.2.2.1.2.2.1 = vInt x ∧
    ((rqN x ≤ σ.2.2.2.2.1 ∧ CA σ σ' x)
  ∨ (σ.2.2.2.2.1 < rqN x ∧ ∃ mk, COL z σ.1 σ.2.1 σ.2.2.1.1 σ.2.2.1.2.1 σ.2.2.1.2.2.1 σ.2.2.1.2.2.2 mk ∧
      ((rqN x ≤ (fuN mk z 0 (σ.2.2.2.1, 0)).2 ∧ CA (σ.1, σ.2.1, σ.2.2.1, (fuN mk z 0 (σ.2.2.2.1, 0)).1, (fuN mk z 0 (σ.2.2.2.1, 0)).2, σ.2.2.2.2.2) σ' x)
      ∨ ((fuN mk z 0 (σ.2.2.2.1, 0)).2 < rqN x ∧ σ' = (σ.1, σ.2.1, σ.2.2.1, (fuN mk z 0 (σ.2.2.2.1, 0)).1, (fuN mk z 0 (σ.2.2.2.1, 0)).2, 4)))))
def KT (z c : Nat) (H T : Nat → Vl) (S E C D : Vl) (fr : Nat → Nat) (f : Nat) (U : Nat → Prop) : Prop := (∃ ro k n b e, TI H T ro U S E C D (vPr 0) k n b e ∧ ∀ i, i < c → U i ∧ ro i = false) ∧ (∀ a, U a → a < z) ∧ (∀ j, j < f → fr j < z ∧ ¬ U (fr j)) ∧ (∀ i j, i < j → j < f → ¬ fr i = fr j) ∧ f ≤ z
theorem need_rq {x : Int32} (h : 1 ≤ x ∧ x ≤ 19) : needX x = rqN x := by
  obtain ⟨h1, h2⟩ := h
  obtain ⟨j, hj, rfl⟩ := nI_of (Int32.not_lt.mpr (Int32.le_trans (by decide : (0 : Int32) ≤ 1) h1))
  have g1 : 1 ≤ j := (nI_leI (a := 1) (by decide) hj).mp h1
  have g2 : j ≤ 19 := (nI_leI (b := 19) hj (by decide)).mp h2
  exact (by decide : ∀ j, j < 20 → 1 ≤ j → needX (nI j) = rqN (nI j)) j (by omega) g1
def CDE (c : Nat) (H T : Nat → Vl) : Prop := (∀ i, i < c → inU (fun a => a < c) (H i) ∧ inU (fun a => a < c) (T i)) ∧ ∀ M : Nat → Prop, M 0 → (∀ i, i < c → M i → inU M (H i) ∧ inU M (T i)) → ∀ i, i < c → M i
theorem CDE_ag {c : Nat} {H T H' T' : Nat → Vl} (h : CDE c H T) (hH : ∀ i, i < c → H' i = H i ∧ T' i = T i) : CDE c H' T' := by
  refine ⟨fun i hi => ?_, fun M m0 hM => h.2 M m0 (fun i hi mi => ?_)⟩
  · rw [(hH i hi).1, (hH i hi).2]
    exact h.1 i hi
  · rw [← (hH i hi).1, ← (hH i hi).2]
    exact hM i hi mi
section ZKI
variable {z c : Nat} {H T : Nat → Vl} {S E C D : Vl} {fr : Nat → Nat} {f : Nat} {U : Nat → Prop} {x : Int32} {g : gS}
theorem KT_fr (h : KT z c H T S E C D fr f U) {n : Nat} (hn : n ≤ f) : frN U (fun j => fr (f - 1 - j)) n := by
  obtain ⟨-, -, h3, h4, -⟩ := h
  intro j hj
  refine ⟨(h3 (f - 1 - j) (by omega)).2, fun l hl hne e => ?_⟩
  have e : fr (f - 1 - l) = fr (f - 1 - j) := e
  rcases Nat.lt_or_ge (f - 1 - l) (f - 1 - j) with w | w
  · exact h4 _ _ w (by omega) e
  · exact h4 (f - 1 - j) (f - 1 - l) (by omega) (by omega) e.symm
theorem KT_act (h : KT z c H T S E C D fr f U) (hx : ofV H C = vInt x) (h19 : ¬ x = 19) (hn : rqN x ≤ f) {al : List (Vl × Vl)} {sh : Option (Vl × Vl)} {S' E' C' D' : Vl} {f' : Nat} (hs : stp (fun j => fr (f - 1 - j)) H T S E C D x = some (al, sh, S', E', C', D')) (hf : f' + rqN x = f) : KT z c (stH sh (alH (fun j => fr (f - 1 - j)) 0 al H)) (alT (fun j => fr (f - 1 - j)) 0 al T) S' E' C' D' fr f' (nwU U (fun j => fr (f - 1 - j)) (rqN x)) ∧ ∀ i, i < c → stH sh (alH (fun j => fr (f - 1 - j)) 0 al H) i = H i ∧ alT (fun j => fr (f - 1 - j)) 0 al T i = T i := by
  have hfr := KT_fr h hn
  obtain ⟨⟨ro, k, n, b, e, hT, hcd⟩, h2, h3, h4, h5⟩ := h
  obtain ⟨ro', k', n', b', e', hT', hEx⟩ := stp_TI hT hx hfr h19 hs
  refine ⟨⟨⟨ro', k', n', b', e', hT', fun i hi => ⟨Or.inl (hcd i hi).1, (hEx i (hcd i hi).1).2.1.trans (hcd i hi).2⟩⟩, fun a ha => ?_, fun j hj => ⟨(h3 j (by omega)).1, ?_⟩, fun i j hij hj => h4 i j hij (by omega), by omega⟩, fun i hi => ⟨(hEx i (hcd i hi).1).2.2 (hcd i hi).2, (hEx i (hcd i hi).1).1⟩⟩
  · rcases ha with q | ⟨j, hj, rfl⟩
    · exact h2 a q
    · exact (h3 _ (by omega)).1
  · rintro (q | ⟨l, hl, q⟩)
    · exact (h3 j (by omega)).2 q
    · exact h4 j (f - 1 - l) (by omega) (by omega) q
theorem KT_col (h : KT z c H T S E C D fr f U) (hcd : CDE c H T) {mk : Nat → Bool} (hc : COL z H T S E C D mk) : KT z c H T S E C D (fuN mk z 0 (fr, 0)).1 (fuN mk z 0 (fr, 0)).2 (fun a => a < z ∧ mk a = true) ∧ (∀ a, a < z → mk a = true → U a) ∧ (∀ i, i < c → mk i = true) := by
  obtain ⟨⟨ro, k, n, b, e, hT, hcU⟩, h2, h3, h4, h5⟩ := h
  obtain ⟨⟨rS, rE, rC, rD, r0⟩, hcl, hmin⟩ := hc
  have hU : ∀ a, a < z → mk a = true → U a := hmin U (fun a ua => ⟨SI_h hT.1.1 ua, SI_t hT.1.1 ua⟩) hT.2.1.1 hT.2.2.1.1 hT.2.2.2.1.1 hT.2.2.2.2.1.1 (inU_pr hT.1.2.1)
  have hmc : ∀ i, i < c → mk i = true := hcd.2 (fun a => mk a = true) (r0 0 rfl) (fun i hi mi => hcl i (h2 i (hcU i hi).1) mi)
  have tr : ∀ v, inU U v → rtM mk v → inU (fun a => a < z ∧ mk a = true) v := fun v q1 q2 a ea => ⟨h2 a (q1 a ea), q2 a ea⟩
  obtain ⟨f1, f2, f3⟩ := fuN_ok mk z 0 (fr, 0) (fun j hj => absurd hj (Nat.not_lt_zero j)) (fun i j _ hj => absurd hj (Nat.not_lt_zero j))
  rw [Nat.zero_add] at f1 f2
  refine ⟨⟨⟨ro, k, n, b, e, TI_sub hT (fun a ha => hU a ha.1 ha.2) (fun a ha => ?_) (tr S hT.2.1.1 rS) (tr E hT.2.2.1.1 rE) (tr C hT.2.2.2.1.1 rC) (tr D hT.2.2.2.2.1.1 rD) (tr _ hT.1.2.1 r0), fun i hi => ⟨⟨h2 i (hcU i hi).1, hmc i hi⟩, (hcU i hi).2⟩⟩, fun a ha => ha.1, fun j hj => ?_, fun i j hij hj => by have := f3 i j hij hj; omega, ?_⟩, hU, hmc⟩
  · have ua := hU a ha.1 ha.2
    obtain ⟨q1, q2⟩ := hcl a ha.1 ha.2
    exact ⟨tr _ (SI_h hT.1.1 ua) q1, tr _ (SI_t hT.1.1 ua) q2⟩
  · obtain ⟨q1, q2⟩ := f2 j hj
    refine ⟨q1, fun q => ?_⟩
    rw [q.2] at q2
    cases q2
  · have := cu_le mk z
    have e9 : 0 + z = z := Nat.zero_add z
    rw [e9] at f1
    have e0 : cu mk 0 = 0 := rfl
    omega
theorem mrk_COL (hM : mOK z S E C D H T) (hz0 : 0 < z) : COL z H T S E C D (mrk z H T S E C D (vPr 0) g).1 := by
  obtain ⟨hA, hB, hS, hE, hC, hD⟩ := hM
  have triv : ∀ v : Vl, inU (fun _ => True) v := fun v a _ => trivial
  have h1 := mrk_ok (g := g) (M := fun _ => True) (K := vPr 0) hA hB hS hE hC hD hz0 (fun a _ => ⟨triv _, triv _⟩) (triv S) (triv E) (triv C) (triv D) (triv _)
  refine ⟨h1.2, fun a ha hm => (h1.1 a ha hm).2, fun M c1 m1 m2 m3 m4 m5 a ha hm => ?_⟩
  exact ((mrk_ok (g := g) (M := M) (K := vPr 0) hA hB hS hE hC hD hz0 c1 m1 m2 m3 m4 (pr_inU m5)).1 a ha hm).1
end ZKI
section ZKJ
variable {m b0 b1 : Nat} {op : Bool} {tl : List mj_O} {Q : mj_R → Prop} {xs : List Int32} {o0 o1 o2 o3 o4 o5 o6 o7 o8 o9 o10 o11 o12 o13 o14 o15 : mj_O} {S E C D : Vl} {mode colls taken steps : Int32} {z : Nat} {H T : Nat → Vl} {fr : Nat → Nat} {g : gS} {f c : Nat} {k : Int32} {n : Nat} {fb : Nat → Nat} {R : Nat → Vl} {U : Nat → Prop}
set_option maxRecDepth 10000
theorem k_stopX (hz : z ≤ 250) (hM : mOK z S E C D H T) (hd : dOK z n fb R) (hc0 : 200 ≤ b0) (hc1 : 20000 ≤ b1) (hQ : ∀ k' fb' R' b0' b1' op', dOK z (shw H T 120 [] R 0 (ofV H S)).1.length fb' R' → agr (shw H T 120 [] R 0 (ofV H S)).1 fb' → b0 ≤ b0' + 140 → b1 ≤ b1' + 19740 → Q (.inl (some (.int 1)), (fW o0 o1 o2 o3 o4 o5 o6 o7 o8 o9 o10 o11 o12 o13 o14 o15 S E C D 2 colls taken steps z H T fr g f c k' (shw H T 120 [] R 0 (ofV H S)).1.length fb' R' tl, b0', b1', op'))) : mj_Mt gT (law_cst xs) gnw (m + 9) y_Machine_stop [.ref 16] (fW o0 o1 o2 o3 o4 o5 o6 o7 o8 o9 o10 o11 o12 o13 o14 o15 S E C D mode colls taken steps z H T fr g f c k n fb R tl, b0, b1, op) Q := by
  obtain ⟨hA, hB, hS, hE, hC, hD⟩ := hM
  obtain ⟨hd1, hd2⟩ := hd
  intro J hJ
  refine hJ _ _ _ _ ?_
  refine s_head hz hS ?_
  have hs := shw_ok hA hB 120 [] R 0 (ofV H S) (Nat.zero_le _) (by decide) (okV_of hA hS) hd2
  refine d_show hz hA hB hc0 hc1 (okV_of hA hS) hd2 (fun f' b0' b1' q1 q2 q3 => ?_)
  refine And.intro (Or.inr rfl) ?_
  have hp := pot_le (n := (shw H T 120 [] R 0 (ofV H S)).1.length) (by omega)
  exact hQ _ _ _ _ _ _ ⟨⟨_, rfl, hs.1, q1⟩, hs.2⟩ q1 (by omega) (by omega)
theorem k_actE {x : Int32} (hx : ofV H C = vInt x) (hn : rqN x ≤ f) (hz : z ≤ 250) (hK : KT z c H T S E C D fr f U) (hM : mOK z S E C D H T) (hfr : ∀ j, j < z → fr j < z) (hd : dOK z n fb R) (hc0 : 200 ≤ b0) (hc1 : 20000 ≤ b1)
    (h0 : CA (H, T, (S, E, C, D), fr, f, 1) (H, T, (S, E, C, D), fr, f, 3) x → Q (.inl (some (.int 0)), (fW o0 o1 o2 o3 o4 o5 o6 o7 o8 o9 o10 o11 o12 o13 o14 o15 S E C D mode colls taken steps z H T fr g f c k n fb R tl, b0, b1, op)))
    (h1 : ∀ H' T' S' E' C' D' f' U', CA (H, T, (S, E, C, D), fr, f, 1) (H', T', (S', E', C', D'), fr, f', 1) x → mOK z S' E' C' D' H' T' → KT z c H' T' S' E' C' D' fr f' U' → (∀ i, i < c → H' i = H i ∧ T' i = T i) → Q (.inl (some (.int 1)), (fW o0 o1 o2 o3 o4 o5 o6 o7 o8 o9 o10 o11 o12 o13 o14 o15 S' E' C' D' mode colls taken steps z H' T' fr g f' c k n fb R tl, b0, b1, op)))
    (h2 : ∀ k' fb' R' b0' b1' op', CA (H, T, (S, E, C, D), fr, f, 1) (H, T, (S, E, C, D), fr, f, 2) x → dOK z (shw H T 120 [] R 0 (ofV H S)).1.length fb' R' → agr (shw H T 120 [] R 0 (ofV H S)).1 fb' → b0 ≤ b0' + 140 → b1 ≤ b1' + 19740 → Q (.inl (some (.int 1)), (fW o0 o1 o2 o3 o4 o5 o6 o7 o8 o9 o10 o11 o12 o13 o14 o15 S E C D 2 colls taken steps z H T fr g f c k' (shw H T 120 [] R 0 (ofV H S)).1.length fb' R' tl, b0', b1', op'))) :
    mj_Mt gT (law_cst xs) gnw (m + 10) y_Machine_act [.ref 16, .int x] (fW o0 o1 o2 o3 o4 o5 o6 o7 o8 o9 o10 o11 o12 o13 o14 o15 S E C D mode colls taken steps z H T fr g f c k n fb R tl, b0, b1, op) Q := by
  have hK0 := hK
  obtain ⟨⟨ro, kq, nq, bq, eq, hT, hcU⟩, g2, g3, g4, g5⟩ := hK
  obtain ⟨c0, i, rfl, uc, hi, hr, hAX⟩ := TI_AX hT
  have hx0 : H c0 = vInt x := hx
  rw [hi] at hx0
  cases hx0
  by_cases h19 : x = 19
  · subst h19
    intro J hJ
    refine hJ _ _ _ _ ?_
    refine And.intro (fun q => absurd (show (19 : Int32) = 1 from q) (by decide)) (fun _ => ?_)
    refine And.intro (fun q => absurd (show (19 : Int32) = 2 from q) (by decide)) (fun _ => ?_)
    refine And.intro (fun q => absurd (show (19 : Int32) = 3 from q) (by decide)) (fun _ => ?_)
    refine And.intro (fun q => absurd (show (19 : Int32) = 4 from q) (by decide)) (fun _ => ?_)
    refine And.intro (fun q => absurd (show (19 : Int32) = 5 from q) (by decide)) (fun _ => ?_)
    refine And.intro (fun q => absurd (show (19 : Int32) = 6 from q) (by decide)) (fun _ => ?_)
    refine And.intro (fun q => absurd (show (19 : Int32) = 7 from q) (by decide)) (fun _ => ?_)
    refine And.intro (fun q => absurd (show (19 : Int32) = 8 from q) (by decide)) (fun _ => ?_)
    refine And.intro (fun q => absurd (show (19 : Int32) = 9 from q) (by decide)) (fun _ => ?_)
    refine And.intro (fun q => absurd (show (19 : Int32) = 10 from q) (by decide)) (fun _ => ?_)
    refine And.intro (fun q => absurd (show (19 : Int32) = 11 from q) (by decide)) (fun _ => ?_)
    refine And.intro (fun q => absurd (show (19 : Int32) = 12 from q) (by decide)) (fun _ => ?_)
    refine And.intro (fun q => absurd (show (19 : Int32) = 13 from q) (by decide)) (fun _ => ?_)
    refine And.intro (fun q => absurd (show (19 : Int32) = 14 from q) (by decide)) (fun _ => ?_)
    refine And.intro (fun q => absurd (show (19 : Int32) = 15 from q) (by decide)) (fun _ => ?_)
    refine And.intro (fun q => absurd (show (19 : Int32) = 16 from q) (by decide)) (fun _ => ?_)
    refine And.intro (fun q => absurd (show (19 : Int32) = 17 from q) (by decide)) (fun _ => ?_)
    refine And.intro (fun q => absurd (show (19 : Int32) = 18 from q) (by decide)) (fun _ => ?_)
    refine And.intro (fun _ => ?_) (fun q => absurd (show (19 : Int32) = 19 from rfl) q)
    refine k_stopX hz hM hd hc0 hc1 (fun k' fb' R' b0' b1' op' q1 q2 q3 q4 => ?_)
    exact And.intro (Or.inr rfl) (h2 k' fb' R' b0' b1' op' (Or.inl ⟨rfl, rfl⟩) q1 q2 q3 q4)
  · have h18 : 1 ≤ x ∧ x ≤ 18 := by
      refine ⟨hr.1, ?_⟩
      obtain ⟨j, hj, rfl⟩ := nI_of (Int32.not_lt.mpr (Int32.le_trans (by decide : (0 : Int32) ≤ 1) hr.1))
      have w2 : j ≤ 19 := (nI_leI (b := 19) hj (by decide)).mp hr.2
      have w3 : ¬ j = 19 := fun e => h19 (by rw [e]; rfl)
      exact nI_le (b := 18) (by omega) (by decide)
    have hfrn := KT_fr hK0 hn
    refine k_actX (kk := fun j => fr (f - 1 - j)) h18 hAX (fun j hj => ⟨rfl, (hfrn j hj).1⟩) hn hz hM hfr g5 (fun q => h0 (Or.inr (Or.inl ⟨h19, q, rfl⟩))) (fun al sh S' E' C' D' f' q qf => ?_)
    have hOK : al.length = rqN x ∧ mOK z S' E' C' D' (stH sh (alH (fun j => fr (f - 1 - j)) 0 al H)) (alT (fun j => fr (f - 1 - j)) 0 al T) := OK_all h18 hM (fun j hj => (g3 _ (by omega)).1) q
    exact h1 _ _ _ _ _ _ f' _ (Or.inr (Or.inr ⟨h19, al, sh, S', E', C', D', f', q, qf, rfl⟩)) hOK.2 (KT_act hK0 hx h19 hn q qf).1 (KT_act hK0 hx h19 hn q qf).2
end ZKJ
