section RSM
variable {cst : Nat → Option (Nat × (Nat → Int32))} {m b0 b1 : Nat} {op : Bool} {tl : List mj_O} {Q : mj_R → Prop} {s : cS} {r : rM} {H T : Nat → Vl} {S E C D R : Vl}
set_option maxRecDepth 10000
theorem rg_ofM {M : Nat → Prop} {v : Vl} {x : Int32} (h : rg r v x) (hM : inU M v) (hz : r.z ≤ 250) (hn : ¬ x < 0) : ∃ j, j < r.z ∧ x = nI j ∧ (Ur r j ∧ M j) := by
  rcases rg_neg h hz with ⟨-, h2, -⟩ | ⟨a, rfl, h2, -, h3, -⟩
  · exact absurd h2 hn
  · exact ⟨a, h3.1, h2, h3, hM a rfl⟩
theorem swU_mk {mk : Nat → Bool} {pl : Nat → Nat} {n a : Nat} (u : Ur (swR r mk pl n) a) : mk a = true := by
  have h1 : a < r.z := u.1
  have h2 : ¬ swU r.z r.used mk a = 0 := u.2
  have e : swU r.z r.used mk a = bI (mk a) := if_pos h1
  rw [e] at h2
  cases hm : mk a with
  | true => rfl
  | false =>
    rw [hm] at h2
    exact absurd rfl h2
theorem R_reachM {M : Nat → Prop} (hMc : ∀ a, Ur r a → M a → inU M (H a) ∧ inU M (T a)) (mS : inU M S) (mE : inU M E) (mC : inU M C) (mD : inU M D) (mR : inU M R) (hX : RX r H T S E C D R) (hm : mkOK r) (hQ : ∀ c mk pl n, c ≤ 600 → (∀ a, a < r.z → mk a = true → M a) → clM r H T mk → rtM mk S → rtM mk E → rtM mk C → rtM mk D → rtM mk R → Q (.inl (some (.int (nI c))), (cW s (rW (mpR r mk pl n) tl), b0, b1, op))) : mj_Mt gT cst gnw (m + 2) y_R_reach [.ref 27] (cW s (rW r tl), b0, b1, op) Q := by
  obtain ⟨hB, x0, x1, x2, x3, x4⟩ := hX
  have hz := hB.1.2
  obtain ⟨mk, em⟩ := hm
  obtain ⟨pl, ep⟩ := eN_sur r.pile
  obtain ⟨n, en⟩ := nI_sur r.piled
  have raw2 := hB.2.2
  have hreg : ∀ i, i < 5 → ¬ r.reg i < 0 → ∃ j, j < r.z ∧ r.reg i = nI j ∧ (Ur r j ∧ M j) := by
    intro i hi hn
    match i, hi with
    | 0, _ => exact rg_ofM x0 mS hz hn
    | 1, _ => exact rg_ofM x1 mE hz hn
    | 2, _ => exact rg_ofM x2 mC hz hn
    | 3, _ => exact rg_ofM x3 mD hz hn
    | 4, _ => exact rg_ofM x4 mR hz hn
  obtain ⟨c, g', e1, e2, e3, e4⟩ := dfs_all (hk := r.headKind) (hd := r.head) (tk := r.tailKind) (tv := r.tail) (reg := r.reg) (mk := mk) (pl := pl) (M := fun a => Ur r a ∧ M a) hz (fun a ha => raw2 a (by omega)) (fun a ha ua => by
    constructor
    · intro j h3 ej hj
      obtain ⟨i, i1, i2, i4⟩ := rv_3 (hB.2.1 a ua.1).1 h3
      have : j = i := nIj (by omega) (by have := i2.1; omega) (ej.symm.trans i1)
      rw [this]
      exact ⟨i2, (hMc a ua.1 ua.2).1 i i4⟩
    · intro j h3 ej hj
      obtain ⟨i, i1, i2, i4⟩ := rv_3 (hB.2.1 a ua.1).2 h3
      have : j = i := nIj (by omega) (by have := i2.1; omega) (ej.symm.trans i1)
      rw [this]
      exact ⟨i2, (hMc a ua.1 ua.2).2 i i4⟩) hreg
  have root : ∀ (v : Vl) (i : Nat), i < 5 → rg r v (r.reg i) → rtM g'.1 v := by
    intro v i hi hv b eb
    rcases hv with ⟨rfl, -⟩ | ⟨a, rfl, h2, h3, -⟩
    · cases eb
    · cases eb
      exact e4 i b hi h2 h3.1
  have h9 := hQ c g'.1 g'.2.1 g'.2.2 e2 (fun a ha hb => (e3 a ha hb).1.2) (fun a ha hb => by
    obtain ⟨⟨ua, -⟩, d1, d2⟩ := e3 a ha hb
    refine ⟨ua, fun b eb => ?_, fun b eb => ?_⟩
    · obtain ⟨q1, q2, q3⟩ := rv_ce (hB.2.1 a ua).1 eb
      have := d1 q1
      rw [q2, nI_clamp (by have := q3.1; omega)] at this
      exact this
    · obtain ⟨q1, q2, q3⟩ := rv_ce (hB.2.1 a ua).2 eb
      have := d2 q1
      rw [q2, nI_clamp (by have := q3.1; omega)] at this
      exact this) (root S 0 (by decide) x0) (root E 1 (by decide) x1) (root C 2 (by decide) x2) (root D 3 (by decide) x3) (root R 4 (by decide) x4)
  have er : r = mpR r mk pl n := by
    have e : r = (((r.s_marked r.marked).s_pile r.pile).s_piled r.piled) := rfl
    rw [em, ep, en] at e
    exact e
  have main : mj_Mt gT cst gnw (m + 2) y_R_reach [.ref 27] (cW s (rW (mpR r mk pl n) tl), b0, b1, op) Q := by
    refine r_reach (g := (mk, pl, n)) (c := c) (g' := g') hz (fun k hk hn => ?_) (fun k hk h3 => ?_) (fun k hk h3 => ?_) e1 h9
    · obtain ⟨j, j1, j2, -⟩ := hreg k hk hn
      exact ⟨j, by omega, j2⟩
    · obtain ⟨j, j1, j2⟩ := (raw2 k hk).1 h3
      exact ⟨j, by omega, j2⟩
    · obtain ⟨j, j1, j2⟩ := (raw2 k hk).2 h3
      exact ⟨j, by omega, j2⟩
  rw [← er] at main
  exact main
theorem R_sweepM {M : Nat → Prop} (hMc : ∀ a, Ur r a → M a → inU M (H a) ∧ inU M (T a)) (mS : inU M S) (mE : inU M E) (mC : inU M C) (mD : inU M D) (mR : inU M R) (hX : RX r H T S E C D R) (hm : mkOK r) (hQ : ∀ n r', n ≤ 250 → kc r r' → mkOK r' → r'.state = r.state → r'.reg = r.reg → (r'.collections = r.collections ∧ r'.takenBack = r.takenBack ∧ r'.steps = r.steps ∧ r'.shown = r.shown ∧ r'.show_ = r.show_) → (r'.head = r.head ∧ r'.headKind = r.headKind) → RX r' H T S E C D R → (∀ a, Ur r' a → Ur r a ∧ M a) → (∀ a, Ur r' a → inU (Ur r') (H a) ∧ inU (Ur r') (T a)) → (inU (Ur r') S ∧ inU (Ur r') E ∧ inU (Ur r') C ∧ inU (Ur r') D ∧ inU (Ur r') R) → Q (.inl (some (.int (nI n))), (cW s (rW r' tl), b0, b1, op))) : mj_Mt gT cst gnw (m + 3) y_R_sweep [.ref 27] (cW s (rW r tl), b0, b1, op) Q := by
  intro J hJ
  refine hJ _ _ _ _ ?_
  refine R_reachM hMc mS mE mC mD mR hX hm (fun c mk pl n hc cM c1 t1 t2 t3 t4 t5 => ?_)
  have hz := hX.1.1.2
  obtain ⟨w1, w2, w3, w4⟩ := sw_ok (pl := pl) (n := n) hX c1 t1 t2 t3 t4 t5
  have h9 := hQ (swN r.used mk r.z 0 0) (swR r mk pl n) (by have := swN_le r.used mk r.z 0 0; omega) ⟨rfl, rfl, rfl, rfl, rfl⟩ ⟨mk, rfl⟩ rfl rfl ⟨rfl, rfl, rfl, rfl, rfl⟩ ⟨rfl, rfl⟩ w1 (fun a ua => ⟨w2 a ua, cM a ua.1 (swU_mk ua)⟩) w3 w4
  have loop := r_sweepLoop (cst := cst) (m := m + 2) (b0 := b0) (b1 := b1) (op := op) (tl := tl) (s := s) (c := c) (mk := mk) (J := J) (Q := Q) (r := mpR r mk pl n) (by omega) hz hJ h9 r.z 0 0 (by show r.z + 0 = r.z; omega) rfl
  have e0 : swU 0 (mpR r mk pl n).used mk = r.used := swU_0 _ _
  rw [e0] at loop
  exact loop
end RSM
