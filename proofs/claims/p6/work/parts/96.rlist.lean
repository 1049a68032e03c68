def chN (r : rM) : Nat → Int32 → Prop
  | 0, x => x < 0
  | n + 1, x => ∃ k, k < 250 ∧ x = nI k ∧ chN r n (rsN r k)
def czN (u : Nat → Int32) : Nat → Nat → Nat → Nat
  | 0, _, a => a
  | n + 1, k, a => czN u n (k + 1) (if u k = 0 then a + 1 else a)
theorem czN_le (u : Nat → Int32) : ∀ n k a, czN u n k a ≤ a + n := by
  intro n
  induction n with
  | zero => intro k a; exact Nat.le_refl _
  | succ n ih =>
    intro k a
    have e : czN u (n + 1) k a = czN u n (k + 1) (if u k = 0 then a + 1 else a) := rfl
    rw [e]
    split
    · have := ih (k + 1) (a + 1)
      omega
    · have := ih (k + 1) a
      omega
section P2g
variable {cst : Nat → Option (Nat × (Nat → Int32))} {m b0 b1 : Nat} {op : Bool} {tl : List mj_O} {Q : mj_R → Prop} {s : cS} {r : rM}
set_option maxRecDepth 10000
theorem r_lengthOf {n : Nat} {x : Int32} (hn : n < 2 ^ 31) (hc : chN r n x) (hQ : Q (.inl (some (.int (nI n))), (cW s (rW r tl), b0, b1, op))) : mj_Mt gT cst gnw (m + 2) y_R_lengthOf [.ref 27, .int x] (cW s (rW r tl), b0, b1, op) Q := by
  intro J hJ
  have loop : ∀ (j a : Nat) (y : Int32), j + a = n → chN r j y → J 4 [some (.ref 27), some (.int x), some (.int (nI a)), some (.int y)] [] (cW s (rW r tl), b0, b1, op) := by
    intro j
    induction j with
    | zero =>
      intro a y ha hy
      have e : a = n := by omega
      subst e
      refine hJ _ _ _ _ ?_
      exact And.intro (fun _ => hQ) (fun g => absurd hy g)
    | succ j ih =>
      intro a y ha hy
      obtain ⟨k, hk, rfl, h2⟩ := hy
      refine hJ _ _ _ _ ?_
      refine And.intro (fun (g : nI k < 0) => absurd g (nI_pos (by omega))) (fun _ => ?_)
      refine r_rest hk ?_
      have key : ∀ z : Int32, z = nI (a + 1) → J 4 [some (.ref 27), some (.int x), some (.int z), some (.int (rsN r k))] [] (cW s (rW r tl), b0, b1, op) := by
        rintro z rfl
        exact ih (a + 1) _ (by omega) h2
      exact key _ (nI_succ a).symm
  refine hJ _ _ _ _ ?_
  exact loop n 0 x (by omega) hc
theorem r_free (hz : r.z ≤ 250) (hQ : Q (.inl (some (.int (nI (czN r.used r.z 0 0)))), (cW s (rW r tl), b0, b1, op))) : mj_Mt gT cst gnw (m + 1) y_R_free [.ref 27] (cW s (rW r tl), b0, b1, op) Q := by
  intro J hJ
  have loop : ∀ (n k a : Nat), n + k = r.z → czN r.used n k a = czN r.used r.z 0 0 → J 4 [some (.ref 27), some (.int (nI a)), some (.int (nI k))] [] (cW s (rW r tl), b0, b1, op) := by
    intro n
    induction n with
    | zero =>
      intro k a hk e
      change a = _ at e
      rw [← e] at hQ
      refine hJ _ _ _ _ ?_
      exact And.intro (fun _ => hQ) (fun (g : ¬ nI r.z ≤ nI k) => absurd (nI_le (by omega) (by omega)) g)
    | succ n ih =>
      intro k a hk e
      have e2 : czN r.used (n + 1) k a = czN r.used n (k + 1) (if r.used k = 0 then a + 1 else a) := rfl
      rw [e2] at e
      have ek : (nI k).toNatClampNeg = k := nI_clamp (by omega)
      refine hJ _ _ _ _ ?_
      refine And.intro (fun (g : nI r.z ≤ nI k) => absurd g (nI_ge (by omega) (by omega))) (fun _ => ?_)
      refine And.intro (vp_in_nI (show k < 250 by omega) (by decide)) ?_
      rw [ek]
      refine And.intro (fun (g : r.used k = 0) => ?_) (fun (g : ¬ r.used k = 0) => ?_)
      · rw [if_pos g] at e
        have key : ∀ x y : Int32, x = nI (a + 1) → y = nI (k + 1) → J 4 [some (.ref 27), some (.int x), some (.int y)] [] (cW s (rW r tl), b0, b1, op) := by
          rintro x y rfl rfl
          exact ih (k + 1) (a + 1) (by omega) e
        exact key _ _ (nI_succ a).symm (nI_succ k).symm
      · rw [if_neg g] at e
        have key : ∀ y : Int32, y = nI (k + 1) → J 4 [some (.ref 27), some (.int (nI a)), some (.int y)] [] (cW s (rW r tl), b0, b1, op) := by
          rintro y rfl
          exact ih (k + 1) a (by omega) e
        exact key _ (nI_succ k).symm
  refine hJ _ _ _ _ ?_
  exact loop r.z 0 0 (by omega) rfl
theorem r_isFunction (hg : r.gotKind = 3 → ∃ k, k < 250 ∧ r.got = nI k) (h1 : ∀ k, r.gotKind = 3 → r.got = nI k → k < 250 → ¬ r.function k = 0 → Q (.inl (some (.int 1)), (cW s (rW r tl), b0, b1, op))) (h0 : (¬ r.gotKind = 3 ∨ ∃ k, k < 250 ∧ r.got = nI k ∧ r.function k = 0) → Q (.inl (some (.int 0)), (cW s (rW r tl), b0, b1, op))) : mj_Mt gT cst gnw (m + 1) y_R_isFunction [.ref 27] (cW s (rW r tl), b0, b1, op) Q := by
  intro J hJ
  refine hJ _ _ _ _ ?_
  refine And.intro (fun (g : ¬ r.gotKind = 3) => And.intro (Or.inl rfl) (h0 (Or.inl g))) (fun (g : r.gotKind = 3) => ?_)
  obtain ⟨k, hk, e⟩ := hg g
  have ek : r.got.toNatClampNeg = k := by rw [e]; exact nI_clamp (by omega)
  refine And.intro (show vp_in r.got 250 by rw [e]; exact vp_in_nI hk (by decide)) ?_
  rw [ek]
  refine And.intro (fun (g2 : r.function k = 0) => ?_) (fun (g2 : ¬ r.function k = 0) => ?_)
  · exact And.intro (Or.inl rfl) (h0 (Or.inr ⟨k, hk, e, g2⟩))
  · exact And.intro (Or.inr rfl) (h1 k g e hk g2)
theorem r_isPair (hg : r.gotKind = 3 → ∃ k, k < 250 ∧ r.got = nI k) (h1 : ∀ k, r.gotKind = 3 → r.got = nI k → k < 250 → r.function k = 0 → Q (.inl (some (.int 1)), (cW s (rW r tl), b0, b1, op))) (h0 : (¬ r.gotKind = 3 ∨ ∃ k, k < 250 ∧ r.got = nI k ∧ ¬ r.function k = 0) → Q (.inl (some (.int 0)), (cW s (rW r tl), b0, b1, op))) : mj_Mt gT cst gnw (m + 1) y_R_isPair [.ref 27] (cW s (rW r tl), b0, b1, op) Q := by
  intro J hJ
  refine hJ _ _ _ _ ?_
  refine And.intro (fun (g : ¬ r.gotKind = 3) => And.intro (Or.inl rfl) (h0 (Or.inl g))) (fun (g : r.gotKind = 3) => ?_)
  obtain ⟨k, hk, e⟩ := hg g
  have ek : r.got.toNatClampNeg = k := by rw [e]; exact nI_clamp (by omega)
  refine And.intro (show vp_in r.got 250 by rw [e]; exact vp_in_nI hk (by decide)) ?_
  rw [ek]
  refine And.intro (fun (g2 : ¬ r.function k = 0) => ?_) (fun (g2 : r.function k = 0) => ?_)
  · exact And.intro (Or.inl rfl) (h0 (Or.inr ⟨k, hk, e, g2⟩))
  · exact And.intro (Or.inr rfl) (h1 k g e hk g2)
end P2g
