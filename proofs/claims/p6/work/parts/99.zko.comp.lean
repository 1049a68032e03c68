theorem LY_rch : ∀ (L : TL) (a b : LSt), LY L a b → ∀ M : Nat → Prop, inU M b.2.2.2.1 → (∀ P ∈ b.2.2.2.2, inU M P) → (∀ x, b.2.2.1 x → M x → inU M (b.1 x) ∧ inU M (b.2.1 x)) → (∀ x, b.2.2.1 x → a.2.2.1 x ∨ M x) ∧ inU M a.2.2.2.1 ∧ (∀ P ∈ a.2.2.2.2, inU M P) ∧ (∀ x, a.2.2.1 x → M x → inU M (a.1 x) ∧ inU M (a.2.1 x))
  | [], a, b, h, M, h1, h2, h3 => by
    have h : a = b := h
    subst h
    exact ⟨fun x hx => Or.inl hx, h1, h2, h3⟩
  | t :: L, a, b, ⟨c, h, q⟩, M, h1, h2, h3 => by
    have cell : ∀ (k : Nat) (hd tl' : Vl) (ps : List Vl), ¬ c.2.2.1 k → b = newL c k hd tl' ps → (M k → inU M hd → inU M tl' → inU M c.2.2.2.1 ∧ ∀ P ∈ c.2.2.2.2, inU M P) → (∀ x, b.2.2.1 x → a.2.2.1 x ∨ M x) ∧ inU M a.2.2.2.1 ∧ (∀ P ∈ a.2.2.2.2, inU M P) ∧ (∀ x, a.2.2.1 x → M x → inU M (a.1 x) ∧ inU M (a.2.1 x)) := by
      rintro k hd tl' ps hk rfl hn
      have mk : M k := h1 k rfl
      have uk : (newL c k hd tl' ps).2.2.1 k := Or.inr rfl
      obtain ⟨w1, w2⟩ := h3 k uk mk
      have e1 : (newL c k hd tl' ps).1 k = hd := if_pos rfl
      have e2 : (newL c k hd tl' ps).2.1 k = tl' := if_pos rfl
      rw [e1] at w1
      rw [e2] at w2
      obtain ⟨n1, n2⟩ := hn mk w1 w2
      obtain ⟨r1, r2, r3, r4⟩ := LY_rch L a c h M n1 n2 (fun x hx mx => by
        have ne : ¬ x = k := fun e => hk (e ▸ hx)
        obtain ⟨v1, v2⟩ := h3 x (Or.inl hx) mx
        have e3 : (newL c k hd tl' ps).1 x = c.1 x := if_neg ne
        have e4 : (newL c k hd tl' ps).2.1 x = c.2.1 x := if_neg ne
        rw [e3] at v1
        rw [e4] at v2
        exact ⟨v1, v2⟩)
      refine ⟨fun x hx => ?_, r2, r3, r4⟩
      rcases hx with hx | hx
      · exact r1 x hx
      · rw [hx]
        exact Or.inr mk
    rcases q with ⟨-, rfl⟩ | ⟨-, P, ps, k, ep, hk, e⟩ | ⟨-, -, k, hk, e⟩
    · exact LY_rch L a c h M (h2 _ List.mem_cons_self) (fun P hP => h2 P (List.mem_cons_of_mem _ hP)) h3
    · refine cell k _ _ _ hk e (fun _ w1 w2 => ⟨w1, fun P' hP' => ?_⟩)
      rw [ep] at hP'
      rcases List.mem_cons.mp hP' with w | w
      · rw [w]
        exact w2
      · rw [e] at h2
        exact h2 P' w
    · refine cell k _ _ _ hk e (fun _ w1 w2 => ⟨w2, fun P' hP' => ?_⟩)
      rw [e] at h2
      exact h2 P' hP'
def LTYP (L : TL) : Prop := ∀ st : LSt, ∀ H T : Nat → Vl, LY L (H, T, fun _ => False, vNil, []) st → TS st.1 st.2.1 ro0 st.2.2.1 st.2.2.2.1
theorem GD_0 (H T : Nat → Vl) : GDl (H, T, fun _ => False, vNil, []) := ⟨fun a ha => absurd ha id, ⟨nil_inU, Or.inl rfl⟩, fun P hP => by cases hP⟩
theorem TS_ag {H T H2 T2 : Nat → Vl} {ro : Nat → Bool} {U : Nat → Prop} {R : Vl} (h : TS H T ro U R) (hH : ∀ a, U a → H2 a = H a ∧ T2 a = T a) : TS H2 T2 ro U R := by
  have hx : Ext U H T ro H2 T2 ro := fun a ha => ⟨(hH a ha).2, rfl, fun _ => (hH a ha).1⟩
  refine ⟨fun a ha => ?_, h.2.1, wtx_ext h.1 hx h.2.1 h.2.2⟩
  obtain ⟨⟨a1, a2⟩, ⟨a3, a4⟩, a5⟩ := h.1 a ha
  rw [(hH a ha).1, (hH a ha).2]
  refine ⟨⟨a1, a2⟩, ⟨gF_ext h.1 hx a1 a3, gF_ext h.1 hx a2 a4⟩, fun w => ⟨(a5 w).1, lst_ext h.1 hx a1 (a5 w).2⟩⟩
theorem code_joint {z N : Nat} {L : TL} {H0 T0 Hf Tf H2 T2 : Nat → Vl} {lf : Option Nat} {bf : Bool} {stf : List Nat} {r : rM} {Hi Ti : Nat → Vl} {st : LSt} (hht : htT L = some 0) (hz : cnt L ≤ z) (hpos : 0 < N) (hl : lyS z L ((H0, T0, 0, none, false), []) = ((Hf, Tf, N, lf, bf), stf)) (h2 : ∀ i, i < N → H2 i = Hf i ∧ T2 i = Tf i) (hty : LTYP L) (hY : LY L (Hi, Ti, fun _ => False, vNil, []) st) (hU : Ur r = st.2.2.1) : ∃ ρ, COD N H2 T2 r st.1 st.2.1 st.2.2.2.1 ρ := by
  obtain ⟨cu, pl, f1, -, f3, f4, -, f6⟩ := FW z L H0 T0 0 none false [] hht (by omega) (fun q hq => by cases hq) List.nodup_nil (fun k e => by cases e) (fun _ => rfl) Hf Tf N lf bf stf hl
  have hpl : pl = [] := by
    cases pl with
    | nil => rfl
    | cons P pl => exact absurd f3 id
  subst hpl
  have eU : (fun i => 0 ≤ i ∧ i < N) = fun i => i < N := by
    funext i
    exact propext ⟨fun q => q.2, fun q => ⟨Nat.zero_le _, q⟩⟩
  rw [eU] at f1
  have hTS := hty _ Hf Tf f1
  obtain ⟨gd, -⟩ := LY_gd L _ _ (GD_0 Hf Tf) f1
  have hcu : cu = vPr 0 := by
    rcases f6 with e | e
    · exfalso
      have := (LY_rch L _ _ f1 (fun _ => False) (by rw [show ((Hf, Tf, (fun i => i < N), cu, ([] : List Vl)) : LSt).2.2.2.1 = cu from rfl, e]; exact nil_inU) (fun P hP => by cases hP) (fun x _ q => absurd q id)).1 0 hpos
      rcases this with q | q <;> exact q
    · exact e
  subst hcu
  have hR : LR (fun _ _ => False) ((Hf, Tf, fun _ => False, vNil, []) : LSt) ((Hi, Ti, fun _ => False, vNil, []) : LSt) := ⟨⟨fun a b b' q => absurd q id, fun a a' b q => absurd q id⟩, fun a b q => absurd q id, fun x y q => absurd q id, trivial, trivial⟩
  obtain ⟨ρ, l1, l2, l3, l4, -⟩ := LY_bis L _ _ _ _ _ hR f1 hY
  have hcl : ∀ i, i < N → inU (fun a => a < N) (Hf i) ∧ inU (fun a => a < N) (Tf i) := fun i hi => ⟨SI_h gd.1 hi, SI_t gd.1 hi⟩
  have hrc : ∀ M : Nat → Prop, M 0 → (∀ i, i < N → M i → inU M (Hf i) ∧ inU M (Tf i)) → ∀ i, i < N → M i := fun M m0 hM i hi => by
    have := (LY_rch L _ _ f1 M (pr_inU m0) (fun P hP => by cases hP) (fun x hx mx => hM x hx mx)).1 i hi
    rcases this with q | q
    · exact absurd q id
    · exact q
  have l2 : BH ρ Hf Tf st.1 st.2.1 := l2
  have l4 : VR ρ (vPr 0) st.2.2.2.1 := l4
  have l3 : ∀ x y, ρ x y → x < N ∧ st.2.2.1 y := l3
  refine ⟨ρ, ⟨ro0, TS_ag hTS h2, fun _ _ => rfl⟩, ⟨fun i hi => ?_, fun M m0 hM => hrc M m0 (fun i hi mi => ?_)⟩, l1, fun a b q => ?_, l4, fun a b q => ⟨(l3 a b q).1, by rw [hU]; exact (l3 a b q).2⟩, ?_⟩
  · rw [(h2 i hi).1, (h2 i hi).2]
    exact hcl i hi
  · rw [← (h2 i hi).1, ← (h2 i hi).2]
    exact hM i hi mi
  · obtain ⟨w1, w2⟩ := h2 a (l3 a b q).1
    rw [w1, w2]
    exact l2 a b q
  · refine hrc (fun a => ∃ b, ρ a b) ?_ (fun i hi mi => ?_)
    · obtain ⟨b, -, w⟩ := cellV l4 (show ceV (vPr 0) = some 0 from rfl)
      exact ⟨b, w⟩
    · obtain ⟨b, q⟩ := mi
      obtain ⟨w1, w2⟩ := l2 i b q
      refine ⟨fun a e => ?_, fun a e => ?_⟩
      · obtain ⟨b2, -, w⟩ := cellV w1 e
        exact ⟨b2, w⟩
      · obtain ⟨b2, -, w⟩ := cellV w2 e
        exact ⟨b2, w⟩
