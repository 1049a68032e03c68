def rmk (kd x : Int32) (g : gS) : gS := if kd = 3 ∧ g.1 x.toNatClampNeg = false then (upW g.1 x.toNatClampNeg true, upW g.2.1 g.2.2 x.toNatClampNeg, g.2.2 + 1) else g
def dfs (hk hd tk tv : Nat → Int32) : Nat → Nat → gS → Option (Nat × gS)
  | 0, _, _ => none
  | f + 1, c, g => match g.2.2 with
    | 0 => some (c, g)
    | n + 1 => if n < 250 ∧ g.2.1 n < 250 then dfs hk hd tk tv f (c + 1) (rmk (tk (g.2.1 n)) (tv (g.2.1 n)) (rmk (hk (g.2.1 n)) (hd (g.2.1 n)) (g.1, g.2.1, n))) else none
def rgs (reg : Nat → Int32) : Nat → Nat → gS → gS
  | 0, _, g => g
  | n + 1, k, g => rgs reg n (k + 1) (rmk (if reg k < 0 then 0 else 3) (reg k) g)
theorem rmk_len (kd x : Int32) (g : gS) : (rmk kd x g).2.2 ≤ g.2.2 + 1 ∧ g.2.2 ≤ (rmk kd x g).2.2 := by
  unfold rmk
  split
  · exact ⟨Nat.le_refl _, Nat.le_succ _⟩
  · exact ⟨Nat.le_succ _, Nat.le_refl _⟩
section P2h
variable {cst : Nat → Option (Nat × (Nat → Int32))} {m b0 b1 : Nat} {op : Bool} {tl : List mj_O} {Q : mj_R → Prop} {s : cS} {r : rM} {g : gS}
set_option maxRecDepth 10000
theorem r_mark {kd x : Int32} (hv : kd = 3 → ∃ j, j < 250 ∧ x = nI j) (hn : g.2.2 < 260) (hQ : Q (.inl none, (cW s (rW (((r.s_marked (eB (rmk kd x g).1)).s_pile (eN (rmk kd x g).2.1)).s_piled (nI (rmk kd x g).2.2)) tl), b0, b1, op))) : mj_Mt gT cst gnw (m + 1) y_R_mark [.ref 27, .int kd, .int x] (cW s (rW (((r.s_marked (eB g.1)).s_pile (eN g.2.1)).s_piled (nI g.2.2)) tl), b0, b1, op) Q := by
  obtain ⟨mk, pl, n⟩ := g
  have hn : n < 260 := hn
  have e0 : rmk kd x (mk, pl, n) = if kd = 3 ∧ mk x.toNatClampNeg = false then (upW mk x.toNatClampNeg true, upW pl n x.toNatClampNeg, n + 1) else (mk, pl, n) := rfl
  rw [e0] at hQ
  intro J hJ
  refine hJ _ _ _ _ ?_
  refine And.intro (fun (q : ¬ kd = 3) => ?_) (fun (q : kd = 3) => ?_)
  · rw [if_neg (fun h => q h.1)] at hQ
    exact hQ
  · obtain ⟨j, hj, rfl⟩ := hv q
    have ej : (nI j).toNatClampNeg = j := nI_clamp (by omega)
    rw [ej] at hQ
    refine And.intro (vp_in_nI hj (by decide)) ?_
    rw [ej]
    refine And.intro (fun (q2 : ¬ bI (mk j) = 0) => ?_) (fun (q2 : bI (mk j) = 0) => ?_)
    · have hm : ¬ mk j = false := fun h => q2 (by rw [h]; rfl)
      rw [if_neg (fun h => hm h.2)] at hQ
      exact hQ
    · have hm : mk j = false := by
        cases h : mk j with
        | false => rfl
        | true => rw [h] at q2; exact absurd q2 (by decide)
      rw [if_pos ⟨q, hm⟩] at hQ
      refine And.intro (vp_in_nI hj (by decide)) ?_
      refine And.intro (vp_in_nI (show n < 260 from hn) (by decide)) ?_
      have key : ∀ (a b : Nat) (y : Int32), a = j → b = n → y = nI (n + 1) → Q (.inl none, (cW s (rW (((r.s_marked (upd (eB mk) a (vp_nar .boolean (bI true)))).s_pile (upd (eN pl) b (nI j))).s_piled y) tl), b0, b1, op)) := by
        rintro a b y rfl rfl rfl
        rw [upd_bI, upd_nI]
        exact hQ
      exact key _ _ _ ej (nI_clamp (by omega)) (nI_succ n).symm
theorem r_reach {c : Nat} {g' : gS} (hz : r.z ≤ 250) (hreg : ∀ k, k < 5 → ¬ r.reg k < 0 → ∃ j, j < 250 ∧ r.reg k = nI j) (hh : ∀ k, k < 250 → r.headKind k = 3 → ∃ j, j < 250 ∧ r.head k = nI j) (ht : ∀ k, k < 250 → r.tailKind k = 3 → ∃ j, j < 250 ∧ r.tail k = nI j)
    (hd : dfs r.headKind r.head r.tailKind r.tail 600 0 (rgs r.reg 5 0 (clr r.z g.1, g.2.1, 0)) = some (c, g')) (hQ : Q (.inl (some (.int (nI c))), (cW s (rW (((r.s_marked (eB g'.1)).s_pile (eN g'.2.1)).s_piled (nI g'.2.2)) tl), b0, b1, op))) : mj_Mt gT cst gnw (m + 2) y_R_reach [.ref 27] (cW s (rW (((r.s_marked (eB g.1)).s_pile (eN g.2.1)).s_piled (nI g.2.2)) tl), b0, b1, op) Q := by
  obtain ⟨mk, pl, n0⟩ := g
  intro J hJ
  have loop3 : ∀ (f a : Nat) (g : gS) (x2 : Option Value), dfs r.headKind r.head r.tailKind r.tail f a g = some (c, g') → J 39 [some (.ref 27), some (.int (nI a)), x2] [] (cW s (rW (((r.s_marked (eB g.1)).s_pile (eN g.2.1)).s_piled (nI g.2.2)) tl), b0, b1, op) := by
    intro f
    induction f with
    | zero => intro a g x2 e; cases e
    | succ f ih =>
      intro a g x2 e
      obtain ⟨mk, pl, n⟩ := g
      cases n with
      | zero =>
        cases e
        refine hJ _ _ _ _ ?_
        exact And.intro (fun _ => hQ) (fun (q : ¬ nI 0 ≤ 0) => absurd (by decide) q)
      | succ n =>
        have e2 : dfs r.headKind r.head r.tailKind r.tail (f + 1) a (mk, pl, n + 1) = if n < 250 ∧ pl n < 250 then dfs r.headKind r.head r.tailKind r.tail f (a + 1) (rmk (r.tailKind (pl n)) (r.tail (pl n)) (rmk (r.headKind (pl n)) (r.head (pl n)) (mk, pl, n))) else none := rfl
        rw [e2] at e
        by_cases hc : n < 250 ∧ pl n < 250
        · rw [if_pos hc] at e
          obtain ⟨hn, hp⟩ := hc
          refine hJ _ _ _ _ ?_
          refine And.intro (fun (q : nI (n + 1) ≤ 0) => absurd q (nI_nle (by omega) (by omega))) (fun _ => ?_)
          have e1 : nI (n + 1) - Int32.ofInt 1 = nI n := nI_pred n
          have e3 : (nI (n + 1) - Int32.ofInt 1).toNatClampNeg = n := by rw [e1]; exact nI_clamp (by omega)
          refine And.intro (show vp_in (nI (n + 1) - Int32.ofInt 1) 260 by rw [e1]; exact vp_in_nI (by omega) (by decide)) ?_
          have key1 : ∀ (i : Nat) (y : Int32), i = n → y = nI n → mj_sg (mj_Mt gT cst gnw (m + 1)) cst gnw (mj_hd (mj_off kO_R_reach) kH_R_reach) kC_R_reach J Q 386 false 53 [some (.ref 27), some (.int (nI a)), x2] [.int (nI (pl i))] (cW s (rW (((r.s_marked (eB mk)).s_pile (eN pl)).s_piled y) tl), b0, b1, op) := by
            rintro i y rfl rfl
            have ep : (nI (pl i)).toNatClampNeg = pl i := nI_clamp (by omega)
            refine And.intro (vp_in_nI hp (by decide)) ?_
            rw [ep]
            refine And.intro (vp_in_nI hp (by decide)) ?_
            rw [ep]
            refine r_mark (r := r) (g := (mk, pl, i)) (hh _ hp) (show i < 260 by omega) ?_
            refine And.intro (vp_in_nI hp (by decide)) ?_
            rw [ep]
            refine And.intro (vp_in_nI hp (by decide)) ?_
            rw [ep]
            have hl := (rmk_len (r.headKind (pl i)) (r.head (pl i)) (mk, pl, i)).1
            have hl2 : (mk, pl, i).2.2 = i := rfl
            refine r_mark (r := r) (g := rmk (r.headKind (pl i)) (r.head (pl i)) (mk, pl, i)) (ht _ hp) (by omega) ?_
            have key : ∀ y : Int32, y = nI (a + 1) → J 39 [some (.ref 27), some (.int y), some (.int (nI (pl i)))] [] (cW s (rW (((r.s_marked (eB (rmk (r.tailKind (pl i)) (r.tail (pl i)) (rmk (r.headKind (pl i)) (r.head (pl i)) (mk, pl, i))).1)).s_pile (eN (rmk (r.tailKind (pl i)) (r.tail (pl i)) (rmk (r.headKind (pl i)) (r.head (pl i)) (mk, pl, i))).2.1)).s_piled (nI (rmk (r.tailKind (pl i)) (r.tail (pl i)) (rmk (r.headKind (pl i)) (r.head (pl i)) (mk, pl, i))).2.2)) tl), b0, b1, op) := by
              rintro y rfl
              exact ih (a + 1) _ _ e
            exact key _ (nI_succ a).symm
          exact key1 _ _ e3 e1
        · rw [if_neg hc] at e
          cases e
  have loop2 : ∀ (n k : Nat) (g : gS) (x2 : Option Value), n + k = 5 → g.2.2 ≤ k → dfs r.headKind r.head r.tailKind r.tail 600 0 (rgs r.reg n k g) = some (c, g') → (∀ g x2, dfs r.headKind r.head r.tailKind r.tail 600 0 g = some (c, g') → J 39 [some (.ref 27), some (.int 0), x2] [] (cW s (rW (((r.s_marked (eB g.1)).s_pile (eN g.2.1)).s_piled (nI g.2.2)) tl), b0, b1, op)) → J 18 [some (.ref 27), some (.int (nI k)), x2] [] (cW s (rW (((r.s_marked (eB g.1)).s_pile (eN g.2.1)).s_piled (nI g.2.2)) tl), b0, b1, op) := by
    intro n
    induction n with
    | zero =>
      intro k g x2 hk hg e h39
      have ek : k = 5 := by omega
      subst ek
      refine hJ _ _ _ _ ?_
      refine And.intro (fun _ => ?_) (fun (q : ¬ nI 5 ≤ nI 5) => absurd (by decide) q)
      exact h39 g x2 e
    | succ n ih =>
      intro k g x2 hk hg e h39
      have e2 : rgs r.reg (n + 1) k g = rgs r.reg n (k + 1) (rmk (if r.reg k < 0 then 0 else 3) (r.reg k) g) := rfl
      rw [e2] at e
      have ek : (nI k).toNatClampNeg = k := nI_clamp (by omega)
      have hl := (rmk_len (if r.reg k < 0 then 0 else 3) (r.reg k) g).1
      have fin : ∀ y : Int32, y = nI (k + 1) → J 18 [some (.ref 27), some (.int y), x2] [] (cW s (rW (((r.s_marked (eB (rmk (if r.reg k < 0 then 0 else 3) (r.reg k) g).1)).s_pile (eN (rmk (if r.reg k < 0 then 0 else 3) (r.reg k) g).2.1)).s_piled (nI (rmk (if r.reg k < 0 then 0 else 3) (r.reg k) g).2.2)) tl), b0, b1, op) := by
        rintro y rfl
        exact ih (k + 1) _ x2 (by omega) (by omega) e h39
      refine hJ _ _ _ _ ?_
      refine And.intro (fun (q : nI 5 ≤ nI k) => absurd q (nI_ge (by omega) (by omega))) (fun _ => ?_)
      refine And.intro (vp_in_nI (show k < 5 by omega) (by decide)) ?_
      rw [ek]
      by_cases hn : r.reg k < 0
      · rw [if_pos hn] at fin
        refine And.intro (fun (q : 0 ≤ r.reg k) => absurd hn (Int32.not_lt.mpr q)) (fun _ => ?_)
        refine And.intro (vp_in_nI (show k < 5 by omega) (by decide)) ?_
        rw [ek]
        refine r_mark (r := r) (g := g) (fun q => absurd q (by decide)) (by omega) ?_
        exact fin _ (nI_succ k).symm
      · rw [if_neg hn] at fin
        refine And.intro (fun _ => ?_) (fun (q : ¬ 0 ≤ r.reg k) => absurd (Int32.not_lt.mp hn) q)
        refine And.intro (vp_in_nI (show k < 5 by omega) (by decide)) ?_
        rw [ek]
        refine r_mark (r := r) (g := g) (fun _ => hreg k (by omega) hn) (by omega) ?_
        exact fin _ (nI_succ k).symm
  have loop1 : ∀ (n k : Nat), n + k = r.z → J 2 [some (.ref 27), some (.int (nI k)), none] [] (cW s (rW (((r.s_marked (eB (clr k mk))).s_pile (eN pl)).s_piled (nI n0)) tl), b0, b1, op) := by
    intro n
    induction n with
    | zero =>
      intro k hk
      have ek : k = r.z := by omega
      subst ek
      refine hJ _ _ _ _ ?_
      refine And.intro (fun _ => ?_) (fun (q : ¬ nI r.z ≤ nI r.z) => absurd (nI_le (by omega) (by omega)) q)
      exact loop2 5 0 (clr r.z mk, pl, 0) none rfl (Nat.le_refl _) hd (fun g x2 e => loop3 600 0 g x2 e)
    | succ n ih =>
      intro k hk
      refine hJ _ _ _ _ ?_
      refine And.intro (fun (q : nI r.z ≤ nI k) => absurd q (nI_ge (by omega) (by omega))) (fun _ => ?_)
      refine And.intro (vp_in_nI (show k < 250 by omega) (by decide)) ?_
      have key : ∀ (i : Nat) (x : Int32), i = k → x = nI (k + 1) → J 2 [some (.ref 27), some (.int x), none] [] (cW s (rW (((r.s_marked (upd (eB (clr k mk)) i (vp_nar .boolean 0))).s_pile (eN pl)).s_piled (nI n0)) tl), b0, b1, op) := by
        rintro i x rfl rfl
        rw [clr_step]
        exact ih (i + 1) (by omega)
      exact key _ _ (nI_clamp (by omega)) (nI_succ k).symm
  refine hJ _ _ _ _ ?_
  have h0 := loop1 r.z 0 (by omega)
  rw [clr_0] at h0
  exact h0
end P2h
