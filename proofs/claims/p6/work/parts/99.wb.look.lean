theorem beh_step {T : Nat → Vl} {k : Nat} {v : Vl} : ∀ {a : Nat}, behV T k v = vPr a → behV T (k + 1) v = T a := by
  induction k generalizing v with
  | zero =>
    intro a h
    have h : v = vPr a := h
    subst h
    rfl
  | succ k ih =>
    intro a h
    rcases v with u | x | x | i | i
    · cases h
    · cases h
    · cases h
    · exact ih (v := T i) h
    · cases h
theorem beh_nil {T : Nat → Vl} {v : Vl} : ∀ (k j : Nat), behV T k v = vNil → k ≤ j → behV T j v = vNil := by
  intro k
  induction k generalizing v with
  | zero =>
    intro j h _
    have h : v = vNil := h
    subst h
    exact behV_stop (by decide) j
  | succ k ih =>
    intro j h hj
    obtain ⟨j, rfl⟩ : ∃ i, j = i + 1 := ⟨j - 1, by omega⟩
    rcases v with u | x | x | i | i
    · rfl
    · cases h
    · cases h
    · exact ih (v := T i) j h (by omega)
    · cases h
section RL
variable {cst : Nat → Option (Nat × (Nat → Int32))} {m b0 b1 : Nat} {op : Bool} {tl : List mj_O} {Q : mj_R → Prop} {s : cS} {r : rM} {H T : Nat → Vl} {S E C D R C' : Vl} {ro : Nat → Bool}
set_option maxRecDepth 10000
theorem R_look {p : Nat} {y : Int32} (hp : p < 10000) (hX : RX r H T S E C D R) (hf : 1 ≤ fz r) (hE : isE ro E) (hro : ∀ a, Ur r a → ro a = true → isE ro (T a) ∧ lst T (H a)) (hC : rg r C' y)
    (h1 : ∀ r', kp r r' → r'.state = 3 → RX r' H T S E C D R → Ur r' = Ur r → (¬ kV (behV T (p / 16) E) = 3 ∨ ¬ kV (behV T (p % 16) (ofV H (behV T (p / 16) E))) = 3) → Q (.inl none, (cW s (rW r' tl), b0, b1, op)))
    (h2 : ∀ k r', ¬ Ur r k → kp r r' → r'.state = r.state → kV (behV T (p / 16) E) = 3 → kV (behV T (p % 16) (ofV H (behV T (p / 16) E))) = 3 → RX r' (upW H k (ofV H (behV T (p % 16) (ofV H (behV T (p / 16) E))))) (upW T k S) (vPr k) E C' D R → Ur r' = addU (Ur r) k → Q (.inl none, (cW s (rW r' tl), b0, b1, op))) :
    mj_Mt gT cst gnw (m + 3) y_R_look [.ref 27, .int (nI p), .int y] (cW s (rW r tl), b0, b1, op) Q := by
  obtain ⟨hB, x0, x1, x2, x3, x4⟩ := hX
  have hz := hB.1.2
  have d1 := (nI_16 (n := p) (by omega)).1
  have d2 := (nI_16 (n := p) (by omega)).2
  have wrong : ∀ r', kp r r' → r'.state = 3 → upR r r' → Ur r' = Ur r → r'.reg = r.reg → (∀ H T, RB r H T → RB r' H T) → RX r' H T S E C D R := by
    intro r' _ _ c3 c4 c5 c6
    exact ⟨c6 H T hB, by rw [c5]; exact rg_up c3 x0, by rw [c5]; exact rg_up c3 x1, by rw [c5]; exact rg_up c3 x2, by rw [c5]; exact rg_up c3 x3, by rw [c5]; exact rg_up c3 x4⟩
  intro J hJ
  have fin : ∀ (x e4 e5 : Int32) (V : Vl), isL_ V → rg r V e4 → (V = vNil → ¬ kV (behV T (p / 16) E) = 3 ∨ ¬ kV (behV T (p % 16) (ofV H (behV T (p / 16) E))) = 3) → (∀ a, V = vPr a → kV (behV T (p / 16) E) = 3 ∧ behV T (p % 16) (ofV H (behV T (p / 16) E)) = vPr a) → ∀ F : Nat, mj_sg (mj_Mt gT cst gnw (m + 2)) cst gnw (mj_hd (mj_off kO_R_look) kH_R_look) kC_R_look J Q (F + 60) false 43 [some (.ref 27), some (.int (nI p)), some (.int y), some (.int x), some (.int e4), some (.int e5)] [] (cW s (rW r tl), b0, b1, op) := by
    intro x e4 e5 V hL hV hn hs F
    rcases rg_neg hV hz with ⟨q1, q2, q3⟩ | ⟨a, q1, q2, q3, q4, q5, q6⟩
    · refine And.intro (fun (g : 0 ≤ e4) => absurd q2 (Int32.not_lt.mpr g)) (fun _ => ?_)
      refine R_stop (fun r' c1 c2 c3 c4 c5 c6 => ?_)
      exact h1 r' c1 c2 (wrong r' c1 c2 c3 c4 c5 c6) c4 (hn q1)
    · obtain ⟨s1, s2⟩ := hs a q1
      subst q2
      have ek : (nI a).toNatClampNeg = a := nI_clamp (by omega)
      refine And.intro (fun _ => ?_) (fun (g : ¬ 0 ≤ nI a) => absurd (Int32.not_lt.mp q3) g)
      refine And.intro (vp_in_nI q6 (by decide)) ?_
      rw [ek]
      refine And.intro (vp_in_nI q6 (by decide)) ?_
      rw [ek]
      refine R_push (S := S) (h := H a) hB hf (hB.2.1 a q4).1 x0 (fun k r3 hm g4 => ?_)
      obtain ⟨⟨m1, -⟩, ⟨m2, m3, m4⟩, m5, m6, m7, m8⟩ := hm
      refine And.intro i52 ?_
      have e9 : ofV H (behV T (p % 16) (ofV H (behV T (p / 16) E))) = H a := by rw [s2]; rfl
      have h9 := h2 k (sR r3 (upd r3.reg 2 y)) m1 (kp_tr m2 kp_sR) m3 s1 (by rw [s2]; rfl)
      rw [e9] at h9
      refine h9 ?_ (by rw [← m6]; exact sm_Ur sm_sR)
      exact RX_up (r := r) (x0 := nI k) (x1 := r.reg 1) (x2 := y) (x3 := r.reg 3) (x4 := r.reg 4) (sm_RB sm_sR m5) (up_tr m4 (sm_up sm_sR)) (sm_rg sm_sR m8) x1 hC x3 x4 (by show upd r3.reg 2 y 0 = nI k; rw [g4]; rfl) (by show upd r3.reg 2 y 1 = _; rw [g4]; rfl) rfl (by show upd r3.reg 2 y 3 = _; rw [g4]; rfl) (by show upd r3.reg 2 y 4 = _; rw [g4]; rfl)
  have loop2 : ∀ (j k : Nat) (x e4 : Int32) (V : Vl), j + k = p % 16 → ((kV (behV T (p / 16) E) = 3 ∧ V = behV T k (ofV H (behV T (p / 16) E)) ∧ lst T V) ∨ (¬ kV (behV T (p / 16) E) = 3 ∧ V = vNil)) → rg r V e4 → J 30 [some (.ref 27), some (.int (nI p)), some (.int y), some (.int x), some (.int e4), some (.int (nI k))] [] (cW s (rW r tl), b0, b1, op) := by
    intro j
    induction j with
    | zero =>
      intro k x e4 V hk hV hg
      refine hJ _ _ _ _ ?_
      refine And.intro (by decide) ?_
      rw [d2]
      refine And.intro (fun _ => ?_) (fun (g : ¬ nI (p % 16) ≤ nI k) => absurd (nI_le (by omega) (by omega)) g)
      refine fin x e4 _ V ?_ hg ?_ ?_ _
      · rcases hg with ⟨q, -⟩ | ⟨a, q, -⟩
        · exact Or.inl q
        · exact Or.inr ⟨a, q⟩
      · intro e
        rcases hV with ⟨c1, c2, -⟩ | ⟨c1, -⟩
        · refine Or.inr ?_
          rw [show p % 16 = k by omega, ← c2, e]
          decide
        · exact Or.inl c1
      · intro a e
        rcases hV with ⟨c1, c2, -⟩ | ⟨c1, c2⟩
        · refine ⟨c1, ?_⟩
          rw [show p % 16 = k by omega, ← c2, e]
        · rw [c2] at e
          cases e
    | succ j ih =>
      intro k x e4 V hk hV hg
      refine hJ _ _ _ _ ?_
      refine And.intro (by decide) ?_
      rw [d2]
      refine And.intro (fun (g : nI (p % 16) ≤ nI k) => absurd g (nI_ge (by omega) (by omega))) (fun _ => ?_)
      rcases rg_neg hg hz with ⟨q1, q2, q3⟩ | ⟨a, q1, q2, q3, q4, q5, q6⟩
      · refine And.intro (fun _ => ?_) (fun (g : ¬ e4 < 0) => absurd q2 g)
        refine fin x e4 _ V (Or.inl q1) hg (fun _ => ?_) (fun a e => ?_) _
        · rcases hV with ⟨c1, c2, -⟩ | ⟨c1, -⟩
          · refine Or.inr ?_
            rw [beh_nil k (p % 16) (c2.symm.trans q1) (by omega)]
            decide
          · exact Or.inl c1
        · rw [q1] at e
          cases e
      · refine And.intro (fun (g : e4 < 0) => absurd g q3) (fun _ => ?_)
        refine R_rest q2 q6 ?_
        rcases hV with ⟨c1, c2, c3⟩ | ⟨c1, c2⟩
        · have l1 : lst T (T a) := by
            obtain ⟨mm, c3⟩ := c3
            rw [q1] at c3
            cases mm with
            | zero => cases c3
            | succ mm =>
              obtain ⟨a', c4, c5⟩ := c3
              cases c4
              exact ⟨mm, c5⟩
          have l2 : isL_ (T a) := by
            obtain ⟨mm, l1⟩ := l1
            cases mm with
            | zero => exact Or.inl l1
            | succ mm =>
              obtain ⟨a', c4, c5⟩ := l1
              exact Or.inr ⟨a', c4⟩
          have key : ∀ z : Int32, z = nI (k + 1) → J 30 [some (.ref 27), some (.int (nI p)), some (.int y), some (.int x), some (.int (rsN r a)), some (.int z)] [] (cW s (rW r tl), b0, b1, op) := by
            rintro z rfl
            exact ih (k + 1) x (rsN r a) (T a) (by omega) (Or.inl ⟨c1, (beh_step (c2.symm.trans q1)).symm, l1⟩) (rs_rg hB q4 l2)
          exact key _ (nI_succ k).symm
        · rw [q1] at c2
          cases c2
  have mid : ∀ (e3 : Int32) (e4 : Option Value) (V : Vl), V = behV T (p / 16) E → isE ro V → rg r V e3 → (∃ k, e4 = some (.int k)) → ∀ F : Nat, mj_sg (mj_Mt gT cst gnw (m + 2)) cst gnw (mj_hd (mj_off kO_R_look) kH_R_look) kC_R_look J Q (F + 60) false 20 [some (.ref 27), some (.int (nI p)), some (.int y), some (.int e3), e4, none] [] (cW s (rW r tl), b0, b1, op) := by
    rintro e3 e4 V hV hE hg ⟨k, rfl⟩ F
    rcases rg_neg hg hz with ⟨q1, q2, q3⟩ | ⟨a, q1, q2, q3, q4, q5, q6⟩
    · refine And.intro (fun (g : 0 ≤ e3) => absurd q2 (Int32.not_lt.mpr g)) (fun _ => ?_)
      exact loop2 (p % 16) 0 e3 (-1) vNil (by omega) (Or.inr ⟨by rw [← hV, q1]; decide, rfl⟩) (Or.inl ⟨rfl, rfl⟩)
    · refine And.intro (fun _ => ?_) (fun (g : ¬ 0 ≤ e3) => absurd (Int32.not_lt.mp q3) g)
      refine R_headList q2 q6 ?_
      have hra : ro a = true := by
        rcases hE with h | ⟨b, h, hb⟩
        · rw [q1] at h
          cases h
        · rw [q1] at h
          cases h
          exact hb
      have l1 := (hro a q4 hra).2
      have l2 : isL_ (H a) := by
        obtain ⟨mm, l1⟩ := l1
        cases mm with
        | zero => exact Or.inl l1
        | succ mm =>
          obtain ⟨a', c4, c5⟩ := l1
          exact Or.inr ⟨a', c4⟩
      exact loop2 (p % 16) 0 e3 (hlN r a) (H a) (by omega) (Or.inl ⟨by rw [← hV, q1]; rfl, by rw [← hV, q1]; rfl, l1⟩) (hl_rg hB q4 l2)
  have loop1 : ∀ (j k : Nat) (e3 : Int32) (V : Vl), j + k = p / 16 → V = behV T k E → isE ro V → rg r V e3 → J 7 [some (.ref 27), some (.int (nI p)), some (.int y), some (.int e3), some (.int (nI k)), none] [] (cW s (rW r tl), b0, b1, op) := by
    intro j
    induction j with
    | zero =>
      intro k e3 V hk hV hE hg
      refine hJ _ _ _ _ ?_
      refine And.intro (by decide) ?_
      rw [d1]
      refine And.intro (fun _ => ?_) (fun (g : ¬ nI (p / 16) ≤ nI k) => absurd (nI_le (by omega) (by omega)) g)
      exact mid e3 _ V (by rw [hV, show k = p / 16 by omega]) hE hg ⟨_, rfl⟩ _
    | succ j ih =>
      intro k e3 V hk hV hE hg
      refine hJ _ _ _ _ ?_
      refine And.intro (by decide) ?_
      rw [d1]
      refine And.intro (fun (g : nI (p / 16) ≤ nI k) => absurd g (nI_ge (by omega) (by omega))) (fun _ => ?_)
      rcases rg_neg hg hz with ⟨q1, q2, q3⟩ | ⟨a, q1, q2, q3, q4, q5, q6⟩
      · refine And.intro (fun _ => ?_) (fun (g : ¬ e3 < 0) => absurd q2 g)
        exact mid e3 _ V (by rw [q1, beh_nil k (p / 16) (hV.symm.trans q1) (by omega)]) hE hg ⟨_, rfl⟩ _
      · refine And.intro (fun (g : e3 < 0) => absurd g q3) (fun _ => ?_)
        refine R_rest q2 q6 ?_
        have hra : ro a = true := by
          rcases hE with h | ⟨b, h, hb⟩
          · rw [q1] at h
            cases h
          · rw [q1] at h
            cases h
            exact hb
        have l1 := (hro a q4 hra).1
        have key : ∀ z : Int32, z = nI (k + 1) → J 7 [some (.ref 27), some (.int (nI p)), some (.int y), some (.int (rsN r a)), some (.int z), none] [] (cW s (rW r tl), b0, b1, op) := by
          rintro z rfl
          exact ih (k + 1) (rsN r a) (T a) (by omega) (beh_step (hV.symm.trans q1)).symm l1 (rs_rg hB q4 (isL_isE l1))
        exact key _ (nI_succ k).symm
  refine hJ _ _ _ _ ?_
  refine And.intro i51 ?_
  exact loop1 (p / 16) 0 (r.reg 1) E (by omega) rfl hE x1
end RL
