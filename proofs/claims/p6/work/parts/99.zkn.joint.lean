theorem cu_bij {ρ : Nat → Nat → Prop} {z : Nat} {mk mk' : Nat → Bool} (h1 : ∀ a, a < z → mk a = true → ∃ b, b < z ∧ mk' b = true ∧ ρ a b) (h2 : ∀ b, b < z → mk' b = true → ∃ a, a < z ∧ mk a = true ∧ ρ a b) (hI : FI ρ) : cu mk z = cu mk' z := by
  have neg : ∀ (g : Nat → Bool) (n : Nat), cu g n + cu (fun a => !g a) n = n := by
    intro g n
    induction n with
    | zero => rfl
    | succ n ih =>
      rw [cu_s, cu_s]
      cases hg : g n with
      | true =>
        rw [if_pos rfl, if_neg (by simp [hg])]
        omega
      | false =>
        rw [if_neg (by decide), if_pos (by simp [hg])]
        omega
  have tr : ∀ (g : Nat → Bool) (a : Nat), (!g a) = false → g a = true := fun g a h => by
    cases hg : g a with
    | true => rfl
    | false => rw [hg] at h; cases h
  have l1 : cu (fun a => !mk a) z ≤ cu (fun a => !mk' a) z := cu_inj (ρ := ρ) (z := z) (z' := z) z _ _ (fun a ha hm => by
    obtain ⟨b, b1, b2, b3⟩ := h1 a ha (tr mk a hm)
    exact ⟨b, b1, by show (!mk' b) = false; rw [b2]; rfl, b3⟩) hI.2
  have l2 : cu (fun a => !mk' a) z ≤ cu (fun a => !mk a) z := cu_inj (ρ := fun b a => ρ a b) (z := z) (z' := z) z _ _ (fun b hb hm => by
    obtain ⟨a, a1, a2, a3⟩ := h2 b hb (tr mk' b hm)
    exact ⟨a, a1, by show (!mk a) = false; rw [a2]; rfl, a3⟩) (fun b b' a q q' => hI.1 a b b' q q')
  have n1 := neg mk z
  have n2 := neg mk' z
  omega
theorem cu_lt (c : Nat) : ∀ n, cu (fun a => decide (a < c)) n = n - c
  | 0 => (Nat.zero_sub c).symm
  | n + 1 => by
    rw [cu_s, cu_lt c n]
    by_cases h : n < c
    · rw [if_pos (decide_eq_true h)]
      omega
    · rw [if_neg (by simp [h])]
      omega
def COD (c : Nat) (H T : Nat → Vl) (r : rM) (H' T' : Nat → Vl) (R' : Vl) (ρ : Nat → Nat → Prop) : Prop := (∃ ro, TS H T ro (fun a => a < c) (vPr 0) ∧ ∀ i, i < c → ro i = false) ∧ CDE c H T ∧ FI ρ ∧ BH ρ H T H' T' ∧ VR ρ (vPr 0) R' ∧ (∀ a b, ρ a b → a < c ∧ Ur r b) ∧ ∀ i, i < c → ∃ b, ρ i b
def JNT (z c : Nat) (σ : KS) (r : rM) : Prop := r.state = σ.2.2.2.2.2 ∧
    ((c = 0 ∧ r.program = 0 ∧ σ.2.2.2.2.2 = 0)
  ∨ (0 < c ∧ ¬ r.program = 0 ∧ σ.2.2.2.2.2 = 0 ∧ ∃ R' H' T' ro' ρ, RX r H' T' vNil vNil vNil vNil R' ∧ TS H' T' ro' (Ur r) R' ∧ COD c σ.1 σ.2.1 r H' T' R' ρ)
  ∨ (0 < c ∧ ¬ r.program = 0 ∧ rnS r ∧ CDE c σ.1 σ.2.1 ∧ ∃ R' H' T' S' E' C' D' ro' k n b e U ρ, RX r H' T' S' E' C' D' R' ∧ TI H' T' ro' (Ur r) S' E' C' D' R' k n b e ∧ KT z c σ.1 σ.2.1 σ.2.2.1.1 σ.2.2.1.2.1 σ.2.2.1.2.2.1 σ.2.2.1.2.2.2 σ.2.2.2.1 σ.2.2.2.2.1 U ∧ BIS c σ.1 σ.2.1 σ.2.2.1.1 σ.2.2.1.2.1 σ.2.2.1.2.2.1 σ.2.2.1.2.2.2 σ.2.2.2.2.1 U r H' T' S' E' C' D' R' ρ))
section ZKN
variable {z c : Nat} {H T : Nat → Vl} {S E C D : Vl} {fr : Nat → Nat} {f : Nat} {mode : Int32} {r : rM}
theorem cellV {ρ : Nat → Nat → Prop} {v w : Vl} {a : Nat} (q : VR ρ v w) (e : ceV v = some a) : ∃ b, ceV w = some b ∧ ρ a b := by
  rcases v with u | y | y | i | i <;> rcases w with u' | y' | y' | j | j <;> first | exact absurd q id | cases e
  · exact ⟨j, rfl, q⟩
  · exact ⟨j, rfl, q⟩
theorem cellW {ρ : Nat → Nat → Prop} {v w : Vl} {b : Nat} (q : VR ρ v w) (e : ceV w = some b) : ∃ a, ceV v = some a ∧ ρ a b := by
  rcases v with u | y | y | i | i <;> rcases w with u' | y' | y' | j | j <;> first | exact absurd q id | cases e
  · exact ⟨i, rfl, q⟩
  · exact ⟨i, rfl, q⟩
theorem VR_sub {ρ : Nat → Nat → Prop} {P : Nat → Nat → Prop} {v w : Vl} (q : VR ρ v w) (h : ∀ a b, ceV v = some a → ceV w = some b → ρ a b → P a b) : VR P v w := by
  rcases v with u | y | y | i | i <;> rcases w with u' | y' | y' | j | j <;> first | exact absurd q id | exact q | exact h _ _ rfl rfl q
theorem JNT_COD (h : JNT z c (H, T, (S, E, C, D), fr, f, mode) r) (hc : 0 < c) : ∃ R' H' T' S' E' C' D' ro' ρ, RX r H' T' S' E' C' D' R' ∧ TS H' T' ro' (Ur r) R' ∧ COD c H T r H' T' R' ρ := by
  rcases h.2 with ⟨w, -⟩ | ⟨-, -, -, R', H', T', ro', ρ, h1, h2, h3⟩ | ⟨-, -, -, hCD, R', H', T', S', E', C', D', ro', k, n, b, e, U, ρ, h1, h2, h3, h4⟩
  · omega
  · exact ⟨R', H', T', _, _, _, _, ro', ρ, h1, h2, h3⟩
  · have hCD : CDE c H T := hCD
    obtain ⟨⟨ro, k1, n1, b1, e1, hT, hcU⟩, g2, -⟩ := h3
    obtain ⟨hI, hB, ⟨-, -, -, -, qR⟩, hdom, -, hcR, -⟩ := h4
    have hB : BH ρ H T H' T' := hB
    refine ⟨R', H', T', S', E', C', D', ro', fun a b => ρ a b ∧ a < c, h1, h2.1, ⟨ro, ⟨SI_sub hT.1.1 (fun a ha => (hcU a ha).1) hCD.1, pr_inU hc, hT.1.2.2⟩, fun i hi => (hcU i hi).2⟩, hCD, ⟨fun a b b' q q' => hI.1 a b b' q.1 q'.1, fun a a' b q q' => hI.2 a a' b q.1 q'.1⟩, fun a b q => ?_, VR_sub qR (fun a b ea eb q => ⟨q, by cases ea; exact hc⟩), fun a b q => ⟨q.2, (hdom a b q.1).2⟩, fun i hi => (hcR i hi).imp (fun b q => ⟨q, hi⟩)⟩
    obtain ⟨q1, q2⟩ := hB a b q.1
    exact ⟨VR_sub q1 (fun x y ex ey w => ⟨w, (hCD.1 a q.2).1 x ex⟩), VR_sub q2 (fun x y ex ey w => ⟨w, (hCD.1 a q.2).2 x ex⟩)⟩
end ZKN
section ZKO
variable {cst : Nat → Option (Nat × (Nat → Int32))} {m b0 b1 : Nat} {op : Bool} {tl : List mj_O} {Q : mj_R → Prop} {s : cS} {r : rM} {z c : Nat} {H T : Nat → Vl} {S E C D : Vl} {fr : Nat → Nat} {f : Nat} {mode : Int32}
set_option maxRecDepth 10000
theorem R_startE (hI : RMI r) (hJN : JNT z c (H, T, (S, E, C, D), fr, f, mode) r) (hc : 0 < c) (hcz : c ≤ z) (hzz : r.z = z) (h1 : ∀ r', ke r r' → RMI r' → JNT z c (H, T, (vNil, vNil, vPr 0, vNil), (faN (z - c) c (fr, 0)).1, z - c, 1) r' → Q (.inl (some (.int 1)), (cW s (rW r' tl), b0, b1, op))) : mj_Mt gT cst gnw (m + 4) y_R_start [.ref 27] (cW s (rW r tl), b0, b1, op) Q := by
  have hp : ¬ r.program = 0 := by
    rcases hJN.2 with ⟨w, -⟩ | ⟨-, w, -⟩ | ⟨-, w, -⟩
    · omega
    · exact w
    · exact w
  obtain ⟨R, H', T', S', E', C', D', ro, ρ, hX, hT, ⟨roC, hTC, hroC⟩, hCD, hFI, hBH, qR, hdom, hcR⟩ := JNT_COD hJN hc
  obtain ⟨hB, -, -, -, -, x4⟩ := hX
  intro J hJ
  refine hJ _ _ _ _ ?_
  refine And.intro (fun (g : ¬ r.program = 0) => ?_) (fun (g : r.program = 0) => absurd g hp)
  have loop : ∀ (j k : Nat) (fg : Nat → Int32), j + k = 4 → (∀ i, i < k → fg i = -1) → fg 4 = r.reg 4 → J 10 [some (.ref 27), some (.int (nI k))] [] (cW s (rW (sR (thR r 0) fg) tl), b0, b1, op) := by
    intro j
    induction j with
    | zero =>
      intro k fg hk hf h4
      obtain rfl : k = 4 := by omega
      refine hJ _ _ _ _ ?_
      refine And.intro (fun _ => ?_) (fun (w : ¬ (4 : Int32) ≤ nI 4) => absurd (by decide) w)
      have nn0 : ∀ i, i < 4 → rg (sR (thR r 0) fg) vNil ((sR (thR r 0) fg).reg i) := fun i hi => Or.inl ⟨rfl, hf i hi⟩
      have hX1 : RX (sR (thR r 0) fg) H' T' vNil vNil vNil vNil R := ⟨hB, nn0 0 (by decide), nn0 1 (by decide), nn0 2 (by decide), nn0 3 (by decide), by
        show rg _ R (fg 4)
        rw [h4]
        exact x4⟩
      have nilM : inU (fun b => ∃ a, a < c ∧ ρ a b) vNil := nil_inU
      refine R_sweepM (M := fun b => ∃ a, a < c ∧ ρ a b) (fun b _ hb => ?_) nilM nilM nilM nilM (fun b eb => ?_) hX1 hI.1.1 (fun nn r' hnn q1 q2 q3 q4 q5 q6 q7 q8 q9 q10 => ?_)
      · obtain ⟨a, a1, a2⟩ := hb
        obtain ⟨w1, w2⟩ := hBH a b a2
        refine ⟨fun b2 e2 => ?_, fun b2 e2 => ?_⟩
        · obtain ⟨a3, e3, w3⟩ := cellW w1 e2
          exact ⟨a3, (hdom a3 b2 w3).1, w3⟩
        · obtain ⟨a3, e3, w3⟩ := cellW w2 e2
          exact ⟨a3, (hdom a3 b2 w3).1, w3⟩
      · obtain ⟨a3, e3, w3⟩ := cellW qR eb
        exact ⟨a3, (hdom a3 b w3).1, w3⟩
      have hke := kc_ke q1
      have i54 : vp_in 4 5 := vp_in_nI (show 4 < 5 by decide) (by decide)
      refine And.intro i54 ?_
      refine And.intro i52 ?_
      have hT' : TS H' T' ro (Ur r') R := ⟨SI_sub hT.1 (fun a ha => (q8 a ha).1) q9, q10.2.2.2.2, hT.2.2⟩
      have uR : inU (Ur r') R := q10.2.2.2.2
      obtain ⟨hB', y0, y1, y2, y3, y4⟩ := q7
      have hX2 : RX (s1R (sR r' (upd r'.reg 2 (r'.reg 4)))) H' T' vNil vNil R vNil R := ⟨hB', y0, y1, y4, y3, y4⟩
      have h3 : RMI (s1R (sR r' (upd r'.reg 2 (r'.reg 4)))) := by
        refine ⟨⟨q2, ?_⟩, Or.inr ⟨?_, R, Or.inr ⟨Or.inl rfl, H', T', ro, vNil, vNil, R, vNil, [], 0, false, eStop, hX2, TI_start hT'⟩⟩⟩
        · obtain ⟨n, hn, en⟩ := hI.1.2
          exact ⟨n, hn, q5.2.2.2.1.trans en⟩
        · show ¬ r'.program = 0
          rw [hke.2.2.2.2]
          exact g
      have mkd_ : ∀ i, i < c → ∃ b, Ur r' b ∧ ρ i b := by
        refine hCD.2 (fun a => ∃ b, Ur r' b ∧ ρ a b) ?_ (fun i hi hm => ?_)
        · obtain ⟨b, eb, w⟩ := cellV qR (show ceV (vPr 0) = some 0 from rfl)
          exact ⟨b, uR b eb, w⟩
        · obtain ⟨b, ub, w⟩ := hm
          obtain ⟨w1, w2⟩ := hBH i b w
          refine ⟨fun a2 e2 => ?_, fun a2 e2 => ?_⟩
          · obtain ⟨b2, e3, w3⟩ := cellV w1 e2
            exact ⟨b2, (q9 b ub).1 b2 e3, w3⟩
          · obtain ⟨b2, e3, w3⟩ := cellV w2 e2
            exact ⟨b2, (q9 b ub).2 b2 e3, w3⟩
      have hrz : r'.z = z := hke.1.trans hzz
      have cnt : z - c = fz (s1R (sR r' (upd r'.reg 2 (r'.reg 4)))) := by
        have e1 : fz (s1R (sR r' (upd r'.reg 2 (r'.reg 4)))) = cu (dP (Ur r')) z := by
          have : fz (s1R (sR r' (upd r'.reg 2 (r'.reg 4)))) = fz r' := rfl
          rw [this, fz_cu, hrz]
        rw [e1, ← cu_lt c z]
        refine cu_bij (ρ := ρ) (fun a ha hm => ?_) (fun b hb hm => ?_) hFI
        · obtain ⟨b, ub, w⟩ := mkd_ a (of_decide_eq_true hm)
          exact ⟨b, by have := ub.1; omega, dP_t.mpr ub, w⟩
        · obtain ⟨-, a, a1, a2⟩ := q8 b (dP_t.mp hm)
          exact ⟨a, by omega, decide_eq_true a1, a2⟩
      obtain ⟨f1, f2, f3⟩ := faN_ok (z - c) c (fr, 0)
      have f3 : ∀ j, j < z - c → (faN (z - c) c (fr, 0)).1 j = c + j := fun j hj => by
        have := f3 j hj
        have this : (faN (z - c) c (fr, 0)).1 (0 + j) = c + j := this
        rwa [Nat.zero_add] at this
      have hKT : KT z c H T vNil vNil (vPr 0) vNil (faN (z - c) c (fr, 0)).1 (z - c) (fun a => a < c) := ⟨⟨roC, [], 0, false, eStop, TI_start hTC, fun i hi => ⟨hi, hroC i hi⟩⟩, fun a ha => (by have ha : a < c := ha; omega), fun j hj => by
        rw [f3 j hj]
        exact ⟨by omega, fun (w : c + j < c) => by omega⟩, fun i j hij hj => by
        rw [f3 i (by omega), f3 j hj]
        omega, by omega⟩
      have hBI : BIS c H T vNil vNil (vPr 0) vNil (z - c) (fun a => a < c) (s1R (sR r' (upd r'.reg 2 (r'.reg 4)))) H' T' vNil vNil R vNil R (fun a b => ρ a b ∧ Ur r' b) := by
        have vR : VR (fun a b => ρ a b ∧ Ur r' b) (vPr 0) R := VR_sub qR (fun a b ea eb w => ⟨w, uR b eb⟩)
        refine ⟨⟨fun a b b' q q' => hFI.1 a b b' q.1 q'.1, fun a a' b q q' => hFI.2 a a' b q.1 q'.1⟩, fun a b q => ?_, ⟨trivial, trivial, vR, trivial, vR⟩, fun a b q => ⟨(hdom a b q.1).1, q.2⟩, cnt, fun i hi => (mkd_ i hi).imp (fun b w => ⟨w.2, w.1⟩), fun w => absurd (show (1 : Int32) = 2 from w) (by decide)⟩
        obtain ⟨w1, w2⟩ := hBH a b q.1
        exact ⟨VR_sub w1 (fun x y ex ey w => ⟨w, (q9 b q.2).1 y ey⟩), VR_sub w2 (fun x y ex ey w => ⟨w, (q9 b q.2).2 y ey⟩)⟩
      refine And.intro (fun (w : nI nn < 0) => absurd w (nI_pos (by omega))) (fun _ => ?_)
      refine And.intro (Or.inr rfl) (h1 (s1R (sR r' (upd r'.reg 2 (r'.reg 4)))) hke h3 ⟨rfl, Or.inr (Or.inr ⟨hc, ?_, Or.inl rfl, hCD, R, H', T', vNil, vNil, R, vNil, ro, [], 0, false, eStop, _, _, hX2, TI_start hT', hKT, hBI⟩)⟩)
      show ¬ r'.program = 0
      rw [hke.2.2.2.2]
      exact g
    | succ j ih =>
      intro k fg hk hf h4
      refine hJ _ _ _ _ ?_
      refine And.intro (fun (w : (4 : Int32) ≤ nI k) => absurd w (nI_ge (b := 4) (by omega) (by decide))) (fun _ => ?_)
      refine And.intro (vp_in_nI (show k < 5 by omega) (by decide)) ?_
      have key : ∀ (i : Nat) (y : Int32), i = k → y = nI (k + 1) → J 10 [some (.ref 27), some (.int y)] [] (cW s (rW (sR (thR r 0) (upd fg i (-1))) tl), b0, b1, op) := by
        rintro i y rfl rfl
        refine ih (i + 1) _ (by omega) (fun a ha => ?_) ?_
        · unfold upd
          split
          · rfl
          · exact hf a (by omega)
        · unfold upd
          rw [if_neg (by omega)]
          exact h4
      exact key _ _ (nI_clamp (by omega)) (nI_succ k).symm
  exact loop 4 0 r.reg (by omega) (fun i hi => absurd hi (Nat.not_lt_zero i)) rfl
theorem R_runE {x : Int32} {N k : Nat} {σ σ' : KS} (hI : RMI r) (hJN : JNT z c σ r) (hzz : r.z = z) (ex : x = nI N) (hN : N ≤ 200) (hC : CRUN z N σ k σ') (hQ : ∀ r', ke r r' → RMI r' → r'.thrown = 0 → JNT z c σ' r' → Q (.inl (some (.int (nI k))), (cW s (rW r' tl), b0, b1, op))) : mj_Mt gT cst gnw (m + 6) y_R_run [.ref 27, .int x] (cW s (rW r tl), b0, b1, op) Q := by
  intro J hJ
  have loop : ∀ (j i : Nat) (σ1 : KS) (k1 : Nat) (r1 : rM), j + i = N → CRUN z j σ1 k1 σ' → k = i + k1 → ke r r1 → RMI r1 → r1.thrown = 0 → JNT z c σ1 r1 → J 12 [some (.ref 27), some (.int x), some (.int (nI i))] [] (cW s (rW r1 tl), b0, b1, op) := by
    intro j
    induction j with
    | zero =>
      intro i σ1 k1 r1 hi hC1 hk h1 h2 ht hj
      obtain ⟨rfl, rfl⟩ := hC1
      have fin : Q (.inl (some (.int (nI i))), (cW s (rW r1 tl), b0, b1, op)) := by
        have := hQ r1 h1 h2 ht hj
        rw [hk, Nat.add_zero] at this
        exact this
      refine hJ _ _ _ _ ?_
      refine And.intro (fun _ => fin) (fun _ => ?_)
      refine And.intro (fun _ => fin) (fun (g : ¬ x ≤ nI i) => absurd (by rw [ex]; exact nI_le (by omega) (by omega)) g)
    | succ j ih =>
      intro i σ1 k1 r1 hi hC1 hk h1 h2 ht hj
      refine hJ _ _ _ _ ?_
      refine And.intro (fun (g : ¬ r1.thrown = 0) => absurd ht g) (fun _ => ?_)
      refine And.intro (fun (g : x ≤ nI i) => absurd g (by rw [ex]; exact nI_ge (by omega) (by omega))) (fun _ => ?_)
      rcases hC1 with ⟨c1, rfl, rfl⟩ | ⟨c1, σ2, k2, c2, rfl, c4⟩
      · refine And.intro (fun _ => ?_) (fun (g : r1.state = 1) => absurd (hj.1.symm.trans g) c1)
        have := hQ r1 h1 h2 ht hj
        rw [hk, Nat.add_zero] at this
        exact this
      · refine And.intro (fun (g : ¬ r1.state = 1) => absurd (hj.1.trans c1) g) (fun (g : r1.state = 1) => ?_)
        obtain ⟨H1, T1, ⟨S1, E1, C1, D1⟩, fr1, f1, mode1⟩ := σ1
        have c1 : mode1 = 1 := c1
        subst c1
        rcases hj.2 with ⟨-, -, w⟩ | ⟨-, -, w, -⟩ | ⟨hc, hp, -, hCD, R', H', T', S', E', C', D', ro', k0, n0, b0', e0, U, ρ, hX, hT, hK, hB⟩
        · exact absurd (show (1 : Int32) = 0 from w) (by decide)
        · exact absurd (show (1 : Int32) = 0 from w) (by decide)
        · refine R_stepE hX hT g h2.1.1 h2.1.2 (h1.1.trans hzz) hK hCD hB c2 (fun r' H2 T2 ro2 S2 E2 C2 D2 k2' n2 b2 e2 U2 ρ2 q1 q2 q3 q4 q5 q6 q7 q8 q9 => ?_)
          have hke := kc_ke q1
          have hp' : ¬ r'.program = 0 := by rw [hke.2.2.2.2]; exact hp
          have h3 : RMI r' := ⟨⟨q2, q4⟩, Or.inr ⟨hp', R', Or.inr ⟨q3, H2, T2, ro2, S2, E2, C2, D2, k2', n2, b2, e2, q5, q6⟩⟩⟩
          have hth : r'.thrown = 0 := (congrArg Prod.snd q1.2.2.2.2).trans ht
          have hJ2 : JNT z c σ2 r' := ⟨q7, Or.inr (Or.inr ⟨hc, hp', q3, CSTEP_cde hCD hK c2, R', H2, T2, S2, E2, C2, D2, ro2, k2', n2, b2, e2, U2, ρ2, q5, q6, q8, q9⟩)⟩
          have key : ∀ y w : Int32, y = nI (i + 1) → J 12 [some (.ref 27), some (.int x), some (.int y)] [] (cW s (rW (spR r' w) tl), b0, b1, op) := by
            rintro y w rfl
            exact ih (i + 1) σ2 k2 (spR r' w) (by omega) c4 (by omega) (ke_tr h1 hke) (RMI_sp h3) hth hJ2
          exact key _ (r'.steps + Int32.ofInt 1) (nI_succ i).symm
  refine hJ _ _ _ _ ?_
  refine And.intro (fun (g : x < 0) => absurd g (by rw [ex]; exact nI_pos (by omega))) (fun _ => ?_)
  refine And.intro (fun _ => ?_) (fun (g : ¬ x ≤ 200) => absurd (by rw [ex]; exact nI_le (b := 200) hN (by decide)) g)
  exact loop N 0 σ k (thR r 0) (by omega) hC (by omega) ⟨rfl, rfl, rfl, rfl, rfl⟩ hI rfl hJN
theorem R_runX {x : Int32} (hx : x < 0 ∨ 200 < x) (hQ : Q (.inl (some (.int 0)), (cW s (rW (thR r 1) tl), b0, b1, op))) : mj_Mt gT cst gnw (m + 6) y_R_run [.ref 27, .int x] (cW s (rW r tl), b0, b1, op) Q := by
  intro J hJ
  have out : J 12 [some (.ref 27), some (.int x), some (.int (nI 0))] [] (cW s (rW (thR r 1) tl), b0, b1, op) := by
    refine hJ _ _ _ _ ?_
    refine And.intro (fun _ => hQ) (fun (g : (1 : Int32) = 0) => absurd g (by decide))
  refine hJ _ _ _ _ ?_
  refine And.intro (fun _ => out) (fun (g : ¬ x < 0) => ?_)
  refine And.intro (fun (g2 : x ≤ 200) => ?_) (fun _ => out)
  rcases hx with w | w
  · exact absurd w g
  · exact absurd g2 (Int32.not_le.mpr w)
end ZKO
