def mkOK (r : rM) : Prop := ∃ mk, r.marked = eB mk
def kc (r r' : rM) : Prop := r'.z = r.z ∧ r'.typed = r.typed ∧ r'.text = r.text ∧ r'.error = r.error ∧ (r'.program, r'.thrown) = (r.program, r.thrown)
theorem kc_tr {r r' r2 : rM} (h1 : kc r r') (h2 : kc r' r2) : kc r r2 := by
  obtain ⟨a1, a2, a3, a4, a5⟩ := h1
  obtain ⟨b1, b2, b3, b4, b5⟩ := h2
  exact ⟨b1.trans a1, b2.trans a2, b3.trans a3, b4.trans a4, b5.trans a5⟩
theorem kp_kc {r r' : rM} (h : kp r r') : kc r r' := h.1
theorem kp_mk {r r' : rM} (h : kp r r') (hm : mkOK r) : mkOK r' := by
  obtain ⟨mk, e⟩ := hm
  have := congrArg Prod.snd h.2.2.2.2.2
  exact ⟨mk, this.trans e⟩
theorem nI_sur (x : Int32) : ∃ n, x = nI n := by
  refine ⟨x.toBitVec.toNat, i32_ext ?_⟩
  show x.toBitVec.toNat = (BitVec.ofNat 32 x.toBitVec.toNat).toNat
  rw [BitVec.toNat_ofNat, Nat.mod_eq_of_lt x.toBitVec.isLt]
theorem eN_sur (p : Nat → Int32) : ∃ f, p = eN f := by
  refine ⟨fun i => (p i).toBitVec.toNat, funext (fun i => i32_ext ?_)⟩
  show (p i).toBitVec.toNat = (BitVec.ofNat 32 (p i).toBitVec.toNat).toNat
  rw [BitVec.toNat_ofNat, Nat.mod_eq_of_lt (p i).toBitVec.isLt]
theorem rv_ce {r : rM} {v : Vl} {kd x : Int32} {b : Nat} (h : rv r v kd x) (e : ceV v = some b) : kd = 3 ∧ x = nI b ∧ Ur r b := by
  rcases v with u | y | y | i | i
  · cases e
  · cases e
  · cases e
  · cases e
    exact ⟨h.1, h.2.1, h.2.2.1⟩
  · cases e
    exact ⟨h.1, h.2.1, h.2.2.1⟩
theorem rv_3 {r : rM} {v : Vl} {kd x : Int32} (h : rv r v kd x) (e : kd = 3) : ∃ j, x = nI j ∧ Ur r j ∧ ceV v = some j := by
  rcases v with u | y | y | i | i
  · obtain ⟨h1, -⟩ := h
    rw [e] at h1
    exact absurd h1 (by decide)
  · obtain ⟨h1, -⟩ := h
    rw [e] at h1
    exact absurd h1 (by decide)
  · obtain ⟨h1, -⟩ := h
    rw [e] at h1
    exact absurd h1 (by decide)
  · exact ⟨i, h.2.1, h.2.2.1, rfl⟩
  · exact ⟨i, h.2.1, h.2.2.1, rfl⟩
def clM (r : rM) (H T : Nat → Vl) (mk : Nat → Bool) : Prop := ∀ a, a < r.z → mk a = true → Ur r a ∧ (∀ b, ceV (H a) = some b → mk b = true) ∧ (∀ b, ceV (T a) = some b → mk b = true)
def rtM (mk : Nat → Bool) (v : Vl) : Prop := ∀ b, ceV v = some b → mk b = true
section RS
variable {cst : Nat → Option (Nat × (Nat → Int32))} {m b0 b1 : Nat} {op : Bool} {tl : List mj_O} {Q : mj_R → Prop} {s : cS} {r : rM} {H T : Nat → Vl} {S E C D R : Vl}
set_option maxRecDepth 10000
theorem rg_of {v : Vl} {x : Int32} (h : rg r v x) (hz : r.z ≤ 250) (hn : ¬ x < 0) : ∃ j, j < r.z ∧ x = nI j ∧ Ur r j := by
  rcases rg_neg h hz with ⟨-, h2, -⟩ | ⟨a, -, h2, -, h3, -⟩
  · exact absurd h2 hn
  · exact ⟨a, h3.1, h2, h3⟩
def mpR (r : rM) (mk : Nat → Bool) (pl : Nat → Nat) (n : Nat) : rM := (((r.s_marked (eB mk)).s_pile (eN pl)).s_piled (nI n))
theorem R_reach (hX : RX r H T S E C D R) (hm : mkOK r) (hQ : ∀ c mk pl n, c ≤ 600 → clM r H T mk → rtM mk S → rtM mk E → rtM mk C → rtM mk D → rtM mk R → Q (.inl (some (.int (nI c))), (cW s (rW (mpR r mk pl n) tl), b0, b1, op))) : mj_Mt gT cst gnw (m + 2) y_R_reach [.ref 27] (cW s (rW r tl), b0, b1, op) Q := by
  obtain ⟨hB, x0, x1, x2, x3, x4⟩ := hX
  have hz := hB.1.2
  obtain ⟨mk, em⟩ := hm
  obtain ⟨pl, ep⟩ := eN_sur r.pile
  obtain ⟨n, en⟩ := nI_sur r.piled
  have raw2 := hB.2.2
  have hreg : ∀ i, i < 5 → ¬ r.reg i < 0 → ∃ j, j < r.z ∧ r.reg i = nI j ∧ Ur r j := by
    intro i hi hn
    match i, hi with
    | 0, _ => exact rg_of x0 hz hn
    | 1, _ => exact rg_of x1 hz hn
    | 2, _ => exact rg_of x2 hz hn
    | 3, _ => exact rg_of x3 hz hn
    | 4, _ => exact rg_of x4 hz hn
  obtain ⟨c, g', e1, e2, e3, e4⟩ := dfs_all (hk := r.headKind) (hd := r.head) (tk := r.tailKind) (tv := r.tail) (reg := r.reg) (mk := mk) (pl := pl) (M := Ur r) hz (fun a ha => raw2 a (by omega)) (fun a ha ua => by
    constructor
    · intro j h3 ej hj
      obtain ⟨i, i1, i2, -⟩ := rv_3 (hB.2.1 a ua).1 h3
      have : j = i := nIj (by omega) (by have := i2.1; omega) (ej.symm.trans i1)
      rw [this]
      exact i2
    · intro j h3 ej hj
      obtain ⟨i, i1, i2, -⟩ := rv_3 (hB.2.1 a ua).2 h3
      have : j = i := nIj (by omega) (by have := i2.1; omega) (ej.symm.trans i1)
      rw [this]
      exact i2) hreg
  have root : ∀ (v : Vl) (i : Nat), i < 5 → rg r v (r.reg i) → rtM g'.1 v := by
    intro v i hi hv b eb
    rcases hv with ⟨rfl, -⟩ | ⟨a, rfl, h2, h3, -⟩
    · cases eb
    · cases eb
      exact e4 i b hi h2 h3.1
  have h9 := hQ c g'.1 g'.2.1 g'.2.2 e2 (fun a ha hb => by
    obtain ⟨ua, d1, d2⟩ := e3 a ha hb
    refine ⟨ua, fun b eb => ?_, fun b eb => ?_⟩
    · obtain ⟨q1, q2, q3⟩ := rv_ce (hB.2.1 a ua).1 eb
      have := d1 q1
      rw [q2, nI_clamp (by have := q3.1; omega)] at this
      exact this
    · obtain ⟨q1, q2, q3⟩ := rv_ce (hB.2.1 a ua).2 eb
      have := d2 q1
      rw [q2, nI_clamp (by have := q3.1; omega)] at this
      exact this) (root S 0 (by decide) x0) (root E 1 (by decide) x1) (root C 2 (by decide) x2) (root D 3 (by decide) x3) (root R 4 (by decide) x4)
  have er : r = mpR r mk pl n := by
    have e : r = (((r.s_marked r.marked).s_pile r.pile).s_piled r.piled) := rfl
    rw [em, ep, en] at e
    exact e
  have main : mj_Mt gT cst gnw (m + 2) y_R_reach [.ref 27] (cW s (rW (mpR r mk pl n) tl), b0, b1, op) Q := by
    refine r_reach (g := (mk, pl, n)) (c := c) (g' := g') hz (fun k hk hn => ?_) (fun k hk h3 => ?_) (fun k hk h3 => ?_) e1 h9
    · obtain ⟨j, j1, j2, -⟩ := hreg k hk hn
      exact ⟨j, by omega, j2⟩
    · obtain ⟨j, j1, j2⟩ := (raw2 k hk).1 h3
      exact ⟨j, by omega, j2⟩
    · obtain ⟨j, j1, j2⟩ := (raw2 k hk).2 h3
      exact ⟨j, by omega, j2⟩
  rw [← er] at main
  exact main
theorem swN_le (u : Nat → Int32) (mk : Nat → Bool) : ∀ n k a, swN u mk n k a ≤ a + n
  | 0, k, a => Nat.le_refl _
  | n + 1, k, a => by
    have e : swN u mk (n + 1) k a = swN u mk n (k + 1) (if ¬ u k = 0 ∧ mk k = false then a + 1 else a) := rfl
    rw [e]
    split
    · have := swN_le u mk n (k + 1) (a + 1)
      omega
    · have := swN_le u mk n (k + 1) a
      omega
def swR (r : rM) (mk : Nat → Bool) (pl : Nat → Nat) (n : Nat) : rM := ((((r.s_used (swU r.z r.used mk)).s_marked (eB mk)).s_pile (eN pl)).s_piled (nI n))
theorem sw_ok {mk : Nat → Bool} {pl : Nat → Nat} {n : Nat} (hX : RX r H T S E C D R) (hc : clM r H T mk) (t1 : rtM mk S) (t2 : rtM mk E) (t3 : rtM mk C) (t4 : rtM mk D) (t5 : rtM mk R) :
    RX (swR r mk pl n) H T S E C D R ∧ (∀ a, Ur (swR r mk pl n) a → Ur r a) ∧ (∀ a, Ur (swR r mk pl n) a → inU (Ur (swR r mk pl n)) (H a) ∧ inU (Ur (swR r mk pl n)) (T a)) ∧ inU (Ur (swR r mk pl n)) S ∧ inU (Ur (swR r mk pl n)) E ∧ inU (Ur (swR r mk pl n)) C ∧ inU (Ur (swR r mk pl n)) D ∧ inU (Ur (swR r mk pl n)) R := by
  obtain ⟨hB, x0, x1, x2, x3, x4⟩ := hX
  have hz := hB.1.2
  have hU : ∀ a, Ur (swR r mk pl n) a ↔ (a < r.z ∧ mk a = true) := by
    intro a
    show (a < r.z ∧ ¬ swU r.z r.used mk a = 0) ↔ _
    unfold swU
    constructor
    · rintro ⟨h1, h2⟩
      rw [if_pos h1] at h2
      refine ⟨h1, ?_⟩
      cases h : mk a with
      | true => rfl
      | false => rw [h] at h2; exact absurd rfl h2
    · rintro ⟨h1, h2⟩
      rw [if_pos h1, h2]
      exact ⟨h1, by decide⟩
  have hsub : ∀ a, Ur (swR r mk pl n) a → Ur r a := fun a ha => (hc a ((hU a).mp ha).1 ((hU a).mp ha).2).1
  have kv : ∀ v kd x, rv r v kd x → rtM mk v → rv (swR r mk pl n) v kd x := by
    intro v kd x h ht
    rcases v with u | y | y | i | i
    · exact h
    · exact h
    · exact h
    · exact ⟨h.1, h.2.1, (hU i).mpr ⟨h.2.2.1.1, ht i rfl⟩, h.2.2.2⟩
    · exact ⟨h.1, h.2.1, (hU i).mpr ⟨h.2.2.1.1, ht i rfl⟩, h.2.2.2⟩
  have kg : ∀ v x, rg r v x → rtM mk v → rg (swR r mk pl n) v x := by
    intro v x h ht
    rcases h with h | ⟨a, rfl, h2, h3, h4⟩
    · exact Or.inl h
    · exact Or.inr ⟨a, rfl, h2, (hU a).mpr ⟨h3.1, ht a rfl⟩, h4⟩
  have gi : ∀ v x, rg r v x → rtM mk v → inU (Ur (swR r mk pl n)) v := by
    intro v x h ht b eb
    rcases h with ⟨rfl, -⟩ | ⟨a, rfl, h2, h3, h4⟩
    · cases eb
    · cases eb
      exact (hU b).mpr ⟨h3.1, ht b rfl⟩
  refine ⟨⟨⟨hB.1, fun a ha => ?_, hB.2.2⟩, kg _ _ x0 t1, kg _ _ x1 t2, kg _ _ x2 t3, kg _ _ x3 t4, kg _ _ x4 t5⟩, hsub, fun a ha => ?_, gi _ _ x0 t1, gi _ _ x1 t2, gi _ _ x2 t3, gi _ _ x3 t4, gi _ _ x4 t5⟩
  · obtain ⟨c1, c2, c3⟩ := hc a ((hU a).mp ha).1 ((hU a).mp ha).2
    exact ⟨kv _ _ _ (hB.2.1 a c1).1 c2, kv _ _ _ (hB.2.1 a c1).2 c3⟩
  · obtain ⟨c1, c2, c3⟩ := hc a ((hU a).mp ha).1 ((hU a).mp ha).2
    refine ⟨fun b eb => ?_, fun b eb => ?_⟩
    · exact (hU b).mpr ⟨(rv_ce (hB.2.1 a c1).1 eb).2.2.1, c2 b eb⟩
    · exact (hU b).mpr ⟨(rv_ce (hB.2.1 a c1).2 eb).2.2.1, c3 b eb⟩
theorem R_sweep (hX : RX r H T S E C D R) (hm : mkOK r) (hQ : ∀ n r', n ≤ 250 → kc r r' → mkOK r' → r'.state = r.state → r'.reg = r.reg → (r'.collections = r.collections ∧ r'.takenBack = r.takenBack ∧ r'.steps = r.steps ∧ r'.shown = r.shown ∧ r'.show_ = r.show_) → (r'.head = r.head ∧ r'.headKind = r.headKind) → RX r' H T S E C D R → (∀ a, Ur r' a → Ur r a) → (∀ a, Ur r' a → inU (Ur r') (H a) ∧ inU (Ur r') (T a)) → (inU (Ur r') S ∧ inU (Ur r') E ∧ inU (Ur r') C ∧ inU (Ur r') D ∧ inU (Ur r') R) → Q (.inl (some (.int (nI n))), (cW s (rW r' tl), b0, b1, op))) : mj_Mt gT cst gnw (m + 3) y_R_sweep [.ref 27] (cW s (rW r tl), b0, b1, op) Q := by
  intro J hJ
  refine hJ _ _ _ _ ?_
  refine R_reach hX hm (fun c mk pl n hc c1 t1 t2 t3 t4 t5 => ?_)
  have hz := hX.1.1.2
  obtain ⟨w1, w2, w3, w4⟩ := sw_ok (pl := pl) (n := n) hX c1 t1 t2 t3 t4 t5
  have h9 := hQ (swN r.used mk r.z 0 0) (swR r mk pl n) (by have := swN_le r.used mk r.z 0 0; omega) ⟨rfl, rfl, rfl, rfl, rfl⟩ ⟨mk, rfl⟩ rfl rfl ⟨rfl, rfl, rfl, rfl, rfl⟩ ⟨rfl, rfl⟩ w1 w2 w3 w4
  have loop := r_sweepLoop (cst := cst) (m := m + 2) (b0 := b0) (b1 := b1) (op := op) (tl := tl) (s := s) (c := c) (mk := mk) (J := J) (Q := Q) (r := mpR r mk pl n) (by omega) hz hJ h9 r.z 0 0 (by show r.z + 0 = r.z; omega) rfl
  have e0 : swU 0 (mpR r mk pl n).used mk = r.used := swU_0 _ _
  rw [e0] at loop
  exact loop
end RS
