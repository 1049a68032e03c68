noncomputable def dP (P : Nat → Prop) : Nat → Bool := fun b => @decide (P b) (Classical.propDecidable (P b))
theorem dP_t {P : Nat → Prop} {b : Nat} : dP P b = true ↔ P b := by
  unfold dP
  exact @decide_eq_true_iff (P b) (Classical.propDecidable (P b))
theorem dP_f {P : Nat → Prop} {b : Nat} : dP P b = false ↔ ¬ P b := by
  unfold dP
  exact @decide_eq_false_iff_not (P b) (Classical.propDecidable (P b))
theorem dP_add {P : Nat → Prop} {k : Nat} : upW (dP P) k true = dP (addU P k) := by
  funext b
  show (if b = k then true else dP P b) = dP (addU P k) b
  by_cases e : b = k
  · rw [if_pos e]
    exact (dP_t.mpr (Or.inr e)).symm
  · rw [if_neg e]
    by_cases h : P b
    · rw [dP_t.mpr h, dP_t.mpr (show addU P k b from Or.inl h)]
    · rw [dP_f.mpr h, dP_f.mpr (fun (q : addU P k b) => q.elim h e)]
theorem czN_cu (r : rM) : ∀ (n k a : Nat), k + n ≤ r.z → czN r.used n k a + cu (dP (Ur r)) k = a + cu (dP (Ur r)) (k + n)
  | 0, k, a, _ => rfl
  | n + 1, k, a, h => by
    have e : czN r.used (n + 1) k a = czN r.used n (k + 1) (if r.used k = 0 then a + 1 else a) := rfl
    have hcu := cu_s (dP (Ur r)) k
    have ih := czN_cu r n (k + 1) (if r.used k = 0 then a + 1 else a) (by omega)
    rw [show k + 1 + n = k + (n + 1) by omega] at ih
    rw [e]
    by_cases hu : r.used k = 0
    · rw [if_pos hu] at ih ⊢
      rw [if_neg (by rw [dP_f.mpr (fun (q : Ur r k) => q.2 hu)]; decide)] at hcu
      omega
    · rw [if_neg hu] at ih ⊢
      rw [if_pos (dP_t.mpr (show Ur r k from ⟨by omega, hu⟩))] at hcu
      omega
theorem fz_cu (r : rM) : fz r = cu (dP (Ur r)) r.z := by
  have := czN_cu r r.z 0 0 (by omega)
  unfold fz
  have e0 : cu (dP (Ur r)) 0 = 0 := rfl
  rw [e0, Nat.add_zero, Nat.zero_add, Nat.zero_add] at this
  exact this
theorem cu_nw {U : Nat → Prop} {kk : Nat → Nat} {z : Nat} : ∀ (n : Nat), frN U kk n → (∀ j, j < n → kk j < z) → cu (dP (nwU U kk n)) z + n = cu (dP U) z
  | 0, _, _ => by rw [nw_0]; rfl
  | n + 1, h, hz => by
    have ih := cu_nw n (fun j hj => ⟨(h j (by omega)).1, fun l hl hne => (h j (by omega)).2 l (by omega) hne⟩) (fun j hj => hz j (by omega))
    have hk : ¬ nwU U kk n (kk n) := fr_n h (Nat.lt_succ_self n)
    have := cu_upd (dP (nwU U kk n)) (kk n) (dP_f.mpr hk) z (hz n (Nat.lt_succ_self n))
    rw [dP_add, ← nw_s] at this
    omega
def BIS (c : Nat) (H T : Nat → Vl) (S E C D : Vl) (f : Nat) (U : Nat → Prop) (r : rM) (H' T' : Nat → Vl) (S' E' C' D' R' : Vl) (ρ : Nat → Nat → Prop) : Prop := FI ρ ∧ BH ρ H T H' T' ∧ (VR ρ S S' ∧ VR ρ E E' ∧ VR ρ C C' ∧ VR ρ D D' ∧ VR ρ (vPr 0) R') ∧ (∀ a b, ρ a b → U a ∧ Ur r b) ∧ f = fz r ∧ (∀ i, i < c → ∃ b, ρ i b) ∧ (r.state = 2 → RSH r H' T' S')
section ZKL
variable {z cc : Nat} {H T H' T' H2 T2 : Nat → Vl} {S E C D S' E' C' D' R' S2 E2 C2 D2 : Vl} {fr : Nat → Nat} {f : Nat} {U : Nat → Prop} {r r' : rM} {ρ : Nat → Nat → Prop} {x : Int32} {σ' : KS}
theorem BIS_act (hB : BIS cc H T S E C D f U r H' T' S' E' C' D' R' ρ) (hK : KT z cc H T S E C D fr f U) (hx : ofV H C = vInt x) (hr : 1 ≤ x ∧ x ≤ 19) (hn : rqN x ≤ f) (hz : r'.z = r.z) (hA : CA (H, T, (S, E, C, D), fr, f, 1) σ' x) (hE : EXA r H' T' S' E' C' D' x r' H2 T2 S2 E2 C2 D2) : r'.state = σ'.2.2.2.2.2 ∧ ∃ U' ρ', KT z cc σ'.1 σ'.2.1 σ'.2.2.1.1 σ'.2.2.1.2.1 σ'.2.2.1.2.2.1 σ'.2.2.1.2.2.2 σ'.2.2.2.1 σ'.2.2.2.2.1 U' ∧ BIS cc σ'.1 σ'.2.1 σ'.2.2.1.1 σ'.2.2.1.2.1 σ'.2.2.1.2.2.1 σ'.2.2.1.2.2.2 σ'.2.2.2.2.1 U' r' H2 T2 S2 E2 C2 D2 R' ρ' := by
  have hB0 := hB
  obtain ⟨hI, hH, ⟨qS, qE, qC, qD, qR⟩, hdom, hf, hcR, -⟩ := hB
  have same : ∀ (hs : Ur r' = Ur r) (hS : r'.state = 2 → RSH r' H' T' S'), BIS cc H T S E C D f U r' H' T' S' E' C' D' R' ρ := fun hs hS => ⟨hI, hH, ⟨qS, qE, qC, qD, qR⟩, fun a b q => ⟨(hdom a b q).1, by rw [hs]; exact (hdom a b q).2⟩, by rw [hf, fz_cu, fz_cu, hs, hz], hcR, hS⟩
  have h18 : ¬ x = 19 → 1 ≤ x ∧ x ≤ 18 := fun h19 => by
    refine ⟨hr.1, ?_⟩
    obtain ⟨j, hj, rfl⟩ := nI_of (Int32.not_lt.mpr (Int32.le_trans (by decide : (0 : Int32) ≤ 1) hr.1))
    have w2 : j ≤ 19 := (nI_leI (b := 19) hj (by decide)).mp hr.2
    have w3 : ¬ j = 19 := fun e => h19 (by rw [e]; rfl)
    exact nI_le (b := 18) (by omega) (by decide)
  rcases hE with ⟨e1, ⟨rfl, rfl⟩, ⟨rfl, rfl, rfl, rfl⟩, e4, e5, e6⟩ | ⟨e1, n19, kk, al, sh, e2, rfl, rfl, e5, e6⟩
  · rcases hA with ⟨rfl, rfl⟩ | ⟨h19, hN, rfl⟩ | ⟨h19, al, sh, S1, E1, C1, D1, f', hs, hf', rfl⟩
    · rcases e1 with e1 | e1
      · exact absurd rfl (e5 e1).1
      · exact ⟨e1, U, ρ, hK, same e4 (fun w => (e6 w).2)⟩
    · rcases e1 with e1 | e1
      · exact ⟨e1, U, ρ, hK, same e4 (fun w => absurd (e1.symm.trans w) (by decide))⟩
      · exact absurd (e6 e1).1 h19
    · rcases e1 with e1 | e1
      · have hN := (e5 e1).2 (fun _ => 0)
        have := (SN_all (k := fun j => fr (f - 1 - j)) (k' := fun _ => 0) (h18 h19) hI hH qS qE qC qD).mpr hN
        have hs : stp (fun j => fr (f - 1 - j)) H T S E C D x = some (al, sh, S1, E1, C1, D1) := hs
        rw [this] at hs
        cases hs
      · exact absurd (e6 e1).1 h19
  · have hX := h18 n19
    rcases hA with ⟨rfl, rfl⟩ | ⟨h19, hN, rfl⟩ | ⟨h19, al1, sh1, S1, E1, C1, D1, f', hs, hf', rfl⟩
    · exact absurd rfl n19
    · have hN : stp (fun j => fr (f - 1 - j)) H T S E C D x = none := hN
      have := (SN_all (k := fun j => fr (f - 1 - j)) (k' := kk) hX hI hH qS qE qC qD).mp hN
      rw [this] at e2
      cases e2
    · have hs : stp (fun j => fr (f - 1 - j)) H T S E C D x = some (al1, sh1, S1, E1, C1, D1) := hs
      have hf' : f' + rqN x = f := hf'
      have hfr := KT_fr hK hn
      have hFRS : FRS ρ (fun j => fr (f - 1 - j)) kk (rqN x) := fun j hj => ⟨⟨fun b q => (hfr j hj).1 (hdom _ _ q).1, fun a q => (e5 j hj).1 (hdom _ _ q).2⟩, fun i hi hne => ⟨(hfr j hj).2 i hi hne, (e5 j hj).2 i hi hne⟩⟩
      have hSB := SB_all (k := fun j => fr (f - 1 - j)) (k' := kk) hX hI hH qS qE qC qD hFRS
      rw [hs, e2] at hSB
      obtain ⟨-, s2, s3, s4, s5, s6⟩ := hSB
      refine ⟨e1, _, exR ρ (fun j => fr (f - 1 - j)) kk (rqN x), (KT_act hK hx h19 hn hs hf').1, FI_ex hI hFRS, s2, ⟨s3, s4, s5, s6, VR_up qR⟩, fun a b q => ?_, ?_, fun i hi => (hcR i hi).imp (fun b q => Or.inl q), fun w => absurd (e1.symm.trans w) (by decide)⟩
      · rcases q with q | ⟨j, hj, rfl, rfl⟩
        · exact ⟨Or.inl (hdom a b q).1, by rw [e6]; exact Or.inl (hdom a b q).2⟩
        · exact ⟨Or.inr ⟨j, hj, rfl⟩, by rw [e6]; exact Or.inr ⟨j, hj, rfl⟩⟩
      · have e6' : Ur r' = nwU (Ur r) kk (rqN x) := e6
        have hkz : ∀ j, j < rqN x → kk j < r.z := fun j hj => by
          have : Ur r' (kk j) := by rw [e6]; exact Or.inr ⟨j, hj, rfl⟩
          rw [← hz]
          exact this.1
        have := cu_nw (rqN x) e5 hkz
        show f' = fz r'
        rw [fz_cu, e6', hz]
        rw [fz_cu] at hf
        omega
theorem BIS_col {mk : Nat → Bool} (hB : BIS cc H T S E C D f U r H' T' S' E' C' D' R' ρ) (hK : KT z cc H T S E C D fr f U) (hCD : CDE cc H T) (hc : COL z H T S E C D mk) (hz : r'.z = r.z) (hst : r'.state = 1) (hzz : r.z = z) (u1 : ∀ b, Ur r' b → Ur r b ∧ ∃ a, a < z ∧ mk a = true ∧ ρ a b) (u2 : ∀ b, Ur r' b → inU (Ur r') (H' b) ∧ inU (Ur r') (T' b)) (uS : inU (Ur r') S') (uE : inU (Ur r') E') (uC : inU (Ur r') C') (uD : inU (Ur r') D') (uR : inU (Ur r') R') : ∃ ρ', BIS cc H T S E C D (fuN mk z 0 (fr, 0)).2 (fun a => a < z ∧ mk a = true) r' H' T' S' E' C' D' R' ρ' := by
  obtain ⟨hI, hH, ⟨qS, qE, qC, qD, qR⟩, hdom, hf, hcR, -⟩ := hB
  obtain ⟨hK2, hU, hmc⟩ := KT_col hK hCD hc
  obtain ⟨⟨rS, rE, rC, rD, r0⟩, hcl, hmin⟩ := hc
  have hUz : ∀ a, U a → a < z := hK.2.1
  have cell : ∀ {v w : Vl} {a : Nat}, VR ρ v w → ceV v = some a → ∃ b, ceV w = some b ∧ ρ a b := by
    intro v w a q e
    rcases v with u | y | y | i | i <;> rcases w with u' | y' | y' | j | j <;> first | exact absurd q id | cases e
    · exact ⟨j, rfl, q⟩
    · exact ⟨j, rfl, q⟩
  have mkd_ : ∀ a, a < z → mk a = true → ∃ b, Ur r' b ∧ ρ a b := by
    refine hmin (fun a => ∃ b, Ur r' b ∧ ρ a b) (fun a ha => ?_) ?_ ?_ ?_ ?_ ?_
    · obtain ⟨b, ub, q⟩ := ha
      refine ⟨fun a2 e => ?_, fun a2 e => ?_⟩
      · obtain ⟨b2, e2, q2⟩ := cell (hH a b q).1 e
        exact ⟨b2, (u2 b ub).1 b2 e2, q2⟩
      · obtain ⟨b2, e2, q2⟩ := cell (hH a b q).2 e
        exact ⟨b2, (u2 b ub).2 b2 e2, q2⟩
    · intro a2 e
      obtain ⟨b2, e2, q2⟩ := cell qS e
      exact ⟨b2, uS b2 e2, q2⟩
    · intro a2 e
      obtain ⟨b2, e2, q2⟩ := cell qE e
      exact ⟨b2, uE b2 e2, q2⟩
    · intro a2 e
      obtain ⟨b2, e2, q2⟩ := cell qC e
      exact ⟨b2, uC b2 e2, q2⟩
    · intro a2 e
      obtain ⟨b2, e2, q2⟩ := cell qD e
      exact ⟨b2, uD b2 e2, q2⟩
    · obtain ⟨b2, e2, q2⟩ := cell qR (show ceV (vPr 0) = some 0 from rfl)
      exact ⟨b2, uR b2 e2, q2⟩
  have up : ∀ {v w : Vl}, VR ρ v w → rtM mk v → inU (Ur r') w → VR (fun a b => ρ a b ∧ (a < z ∧ mk a = true) ∧ Ur r' b) v w := by
    intro v w q h1 h2
    rcases v with u | y | y | i | i <;> rcases w with u' | y' | y' | j | j <;> first | exact absurd q id | exact q | skip
    · exact ⟨q, ⟨hUz i (hdom i j q).1, h1 i rfl⟩, h2 j rfl⟩
    · exact ⟨q, ⟨hUz i (hdom i j q).1, h1 i rfl⟩, h2 j rfl⟩
  refine ⟨fun a b => ρ a b ∧ (a < z ∧ mk a = true) ∧ Ur r' b, ⟨fun a b b' q q' => hI.1 a b b' q.1 q'.1, fun a a' b q q' => hI.2 a a' b q.1 q'.1⟩, fun a b q => ?_, ⟨up qS rS uS, up qE rE uE, up qC rC uC, up qD rD uD, up qR r0 uR⟩, fun a b q => ⟨q.2.1, q.2.2⟩, ?_, fun i hi => ?_, fun w => absurd (hst.symm.trans w) (by decide)⟩
  · obtain ⟨q1, q2, q3⟩ := q
    obtain ⟨c1, c2⟩ := hcl a q2.1 q2.2
    exact ⟨up (hH a b q1).1 c1 (u2 b q3).1, up (hH a b q1).2 c2 (u2 b q3).2⟩
  · -- as many
    have f1 := (fuN_ok mk z 0 (fr, 0) (fun j hj => absurd hj (Nat.not_lt_zero j)) (fun i j _ hj => absurd hj (Nat.not_lt_zero j))).1
    have f1 : (fuN mk z 0 (fr, 0)).2 + cu mk 0 = 0 + cu mk (0 + z) := f1
    have e0 : cu mk 0 = 0 := rfl
    rw [Nat.zero_add, Nat.zero_add, e0, Nat.add_zero] at f1
    rw [f1, fz_cu, hz, hzz]
    have neg : ∀ (g : Nat → Bool) (n : Nat), cu g n + cu (fun a => !g a) n = n := by
      intro g n
      induction n with
      | zero => rfl
      | succ n ih =>
        rw [cu_s, cu_s]
        cases hg : g n with
        | true =>
          rw [if_pos rfl, if_neg (by simp [hg])]
          omega
        | false =>
          rw [if_neg (by decide), if_pos (by simp [hg])]
          omega
    have l1 : cu (fun a => !mk a) z ≤ cu (fun a => !dP (Ur r') a) z := cu_inj (ρ := ρ) (z := z) (z' := z) z _ _ (fun a ha hm => by
      have hm : mk a = true := by
        cases h : mk a with
        | true => rfl
        | false => simp [h] at hm
      obtain ⟨b, ub, q⟩ := mkd_ a ha hm
      exact ⟨b, by have := ub.1; omega, by show (!dP (Ur r') b) = false; rw [dP_t.mpr ub]; rfl, q⟩) hI.2
    have l2 : cu (fun a => !dP (Ur r') a) z ≤ cu (fun a => !mk a) z := cu_inj (ρ := fun b a => ρ a b) (z := z) (z' := z) z _ _ (fun b hb hm => by
      have hm : dP (Ur r') b = true := by
        cases h : dP (Ur r') b with
        | true => rfl
        | false => simp [h] at hm
      obtain ⟨-, a, a1, a2, q⟩ := u1 b (dP_t.mp hm)
      exact ⟨a, a1, by show (!mk a) = false; rw [a2]; rfl, q⟩) (fun b b' a q q' => hI.1 a b b' q q')
    have n1 := neg mk z
    have n2 := neg (dP (Ur r')) z
    omega
  · have hiz : i < z := by
      obtain ⟨b, q⟩ := hcR i hi
      exact hUz i (hdom i b q).1
    obtain ⟨b, ub, q⟩ := mkd_ i hiz (hmc i hi)
    exact ⟨b, q, ⟨hiz, hmc i hi⟩, ub⟩
end ZKL
