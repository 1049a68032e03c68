section P1d
variable {cst : Nat → Option (Nat × (Nat → Int32))} {m b0 b1 : Nat} {op : Bool} {tl : List mj_O} {Q : mj_R → Prop}
set_option maxRecDepth 10000
theorem c_write {s : cS} {w : Int64} {n : Nat} (hn : n ≤ 96) (hs : s.len = nI n)
    (h1 : wR w n = none → Q (.inl (some (.int 0)), (cW s tl, b0, b1, op)))
    (h2 : ∀ k, wR w n = some k → Q (.inl (some (.int 1)), (cW ((s.s_len (nI k)).s_txt (wT w 8 n s.txt)) tl, b0, b1, op))) :
    mj_Mt gT cst gnw (m + 4) y_P_write [.ref 0, .long w] (cW s tl, b0, b1, op) Q := by
  intro J hJ
  refine hJ _ _ _ _ ?_
  refine c_append hn hs (fun h => ?_) (fun k h => ?_)
  · exact And.intro (Or.inl rfl) (h1 h)
  · exact And.intro (Or.inr rfl) (h2 k h)
theorem and255 (x : Int64) : (x &&& Int64.ofNat 255).toInt32 = x.toInt32 &&& 255 := by
  rw [Int64.toInt32_and]
  rfl
theorem r_write {s : cS} {r : rM} {w : Int64} {n : Nat} (hn : n ≤ 96) (hs : r.typed = nI n)
    (h1 : wR w n = none → Q (.inl (some (.int 0)), (cW s (rW (r.s_thrown 0) tl), b0, b1, op)))
    (h2 : ∀ k, wR w n = some k → Q (.inl (some (.int 1)), (cW s (rW (((r.s_thrown 0).s_typed (nI k)).s_text (wT w 8 n r.text)) tl), b0, b1, op))) :
    mj_Mt gT cst gnw (m + 1) y_R_write [.ref 27, .long w] (cW s (rW r tl), b0, b1, op) Q := by
  intro J hJ
  have bw : ∀ j, ((w.toUInt64 >>> ((shI (j + 1)).toInt64.toUInt64 &&& Int64.toUInt64 63)).toInt64 &&& Int64.ofNat 255).toInt32 = wB w j := fun j => and255 _
  have loop2 : ∀ (k j a : Nat) (t : Nat → Int32) (x0 : Int32) (x : Option Value), wR w n = some k → j ≤ 8 → wC w j a = some k → wT w j a t = wT w 8 n r.text → J 49 [some (.ref 27), some (.long w), none, some (.int x0), some (.int (shI j)), x] [] (cW s (rW (((r.s_thrown 0).s_typed (nI a)).s_text t) tl), b0, b1, op) := by
    intro k j
    induction j with
    | zero =>
      intro a t x0 x hk hj e et
      have e' : a = k := Option.some.inj e
      subst e'
      change t = _ at et
      subst et
      refine hJ _ _ _ _ ?_
      refine And.intro (fun _ => ?_) (fun g => absurd shI_0 g)
      exact And.intro (Or.inr rfl) (h2 a hk)
    | succ j ih =>
      intro a t x0 x hk hj e et
      have hle := wC_le w (j + 1) a k e
      have hk96 : k ≤ 96 := by
        unfold wR at hk
        split at hk
        · cases hk
        · split at hk
          · cases hk
            assumption
          · cases hk
      refine hJ _ _ _ _ ?_
      refine And.intro (fun g => absurd g (shI_lt (by omega))) (fun _ => ?_)
      rw [wC_succ w j a] at e
      rw [wT_succ w j a t] at et
      have key : ∀ (i : Nat) (c x y : Int32), i = a → c = wB w j → x = shI j → y = nI (a + 1) → ¬ wB w j = 0 → J 49 [some (.ref 27), some (.long w), none, some (.int x0), some (.int x), some (.int c)] [] (cW s (rW (((r.s_thrown 0).s_typed y).s_text (upd t i (vp_nar .char (c.toUInt32 % 65536).toInt32))) tl), b0, b1, op) := by
        rintro i c x y rfl rfl rfl rfl g
        rw [if_neg g] at e et
        by_cases g4 : wB w j < 32 ∨ 126 < wB w j
        · rw [if_pos g4] at e
          cases e
        · rw [if_neg g4] at e
          exact ih (i + 1) _ x0 _ hk (by omega) e et
      have key0 : ∀ (c x : Int32), c = wB w j → x = shI j → wB w j = 0 → J 49 [some (.ref 27), some (.long w), none, some (.int x0), some (.int x), some (.int c)] [] (cW s (rW (((r.s_thrown 0).s_typed (nI a)).s_text t) tl), b0, b1, op) := by
        rintro c x rfl rfl g
        rw [if_pos g] at e et
        exact ih a t x0 _ hk (by omega) e et
      refine And.intro (fun g => ?_) (fun g => ?_)
      · exact key0 _ _ (bw j) (shI_sub' j) ((bw j).symm.trans g)
      · have g' : ¬ wB w j = 0 := fun q => g ((bw j).trans q)
        have hlt : a < 96 := by
          rw [if_neg g'] at e
          by_cases g4 : wB w j < 32 ∨ 126 < wB w j
          · rw [if_pos g4] at e
            cases e
          · rw [if_neg g4] at e
            have := wC_le w j (a + 1) k e
            omega
        refine And.intro (vp_in_nI hlt (by decide)) ?_
        exact key _ _ _ _ (nI_clamp (by omega)) (bw j) (shI_sub' j) (nI_succ a).symm g'
  have loop1 : ∀ (j a : Nat) (x : Option Value), j ≤ 8 → a + j ≤ 8 → wC w j a = wC w 8 0 → J 7 [some (.ref 27), some (.long w), none, some (.int (nI a)), some (.int (shI j)), x] [] (cW s (rW (r.s_thrown 0) tl), b0, b1, op) := by
    intro j
    induction j with
    | zero =>
      intro a x hj ha e
      have hc : wC w 8 0 = some a := e.symm
      have hr : wR w n = if n + a ≤ 96 then some (n + a) else none := by
        unfold wR
        rw [hc]
      refine hJ _ _ _ _ ?_
      refine And.intro (fun _ => ?_) (fun g => absurd shI_0 g)
      by_cases h96 : n + a ≤ 96
      · rw [if_pos h96] at hr
        have hle : r.typed + nI a ≤ nI 96 := by
          rw [hs, nI_add]
          exact nI_le h96 (by decide)
        refine And.intro (fun _ => ?_) (fun g => absurd hle g)
        have key : ∀ (x : Option Value) (y z : Int32), y = shI 8 → z = nI n → J 49 [some (.ref 27), some (.long w), none, some (.int (nI a)), some (.int y), x] [] (cW s (rW ((r.s_thrown 0).s_typed z) tl), b0, b1, op) := by
          rintro x y z rfl rfl
          exact loop2 (n + a) 8 n r.text _ _ hr (by omega) (wC_add hc n) rfl
        exact key _ _ _ shI_8.symm hs
      · rw [if_neg h96] at hr
        have hle : ¬ r.typed + nI a ≤ nI 96 := by
          rw [hs, nI_add]
          exact nI_ge (by omega) (by omega)
        refine And.intro (fun g => absurd g hle) (fun _ => ?_)
        exact And.intro (Or.inl rfl) (h1 hr)
    | succ j ih =>
      intro a x hj ha e
      refine hJ _ _ _ _ ?_
      refine And.intro (fun g => absurd g (shI_lt (by omega))) (fun _ => ?_)
      rw [wC_succ w j a] at e
      have key0 : ∀ (c x : Int32), c = wB w j → x = shI j → wB w j = 0 → J 7 [some (.ref 27), some (.long w), none, some (.int (nI a)), some (.int x), some (.int c)] [] (cW s (rW (r.s_thrown 0) tl), b0, b1, op) := by
        rintro c x rfl rfl g
        rw [if_pos g] at e
        exact ih a _ (by omega) (by omega) e
      have key1 : ∀ (c x y : Int32), c = wB w j → x = shI j → y = nI (a + 1) → ¬ wB w j = 0 → ¬ (wB w j < 32 ∨ 126 < wB w j) → J 7 [some (.ref 27), some (.long w), none, some (.int y), some (.int x), some (.int c)] [] (cW s (rW (r.s_thrown 0) tl), b0, b1, op) := by
        rintro c x y rfl rfl rfl g g4
        rw [if_neg g, if_neg g4] at e
        exact ih (a + 1) _ (by omega) (by omega) e
      have key2 : ¬ wB w j = 0 → (wB w j < 32 ∨ 126 < wB w j) → wR w n = none := by
        intro g g4
        rw [if_neg g, if_pos g4] at e
        unfold wR
        rw [← e]
      refine And.intro (fun g => ?_) (fun g => ?_)
      · refine And.intro (fun _ => ?_) (fun q => absurd g q)
        exact key0 _ _ (bw j) (shI_sub' j) ((bw j).symm.trans g)
      · have g' : ¬ wB w j = 0 := fun q => g ((bw j).trans q)
        refine And.intro (fun g2 => ?_) (fun g2 => ?_)
        · exact And.intro (Or.inl rfl) (h1 (key2 g' (Or.inl (by rw [← bw j]; exact g2))))
        · refine And.intro (fun g3 => ?_) (fun g3 => ?_)
          · refine And.intro (fun q => absurd q g) (fun _ => ?_)
            exact key1 _ _ _ (bw j) (shI_sub' j) (nI_succ a).symm g' (by rw [← bw j]; exact fun q => q.elim g2 (fun q => (Int32.not_lt.mpr g3) q))
          · exact And.intro (Or.inl rfl) (h1 (key2 g' (Or.inr (by rw [← bw j]; exact Int32.not_le.mp g3))))
  refine hJ _ _ _ _ ?_
  have key : ∀ x : Int32, x = shI 8 → J 7 [some (.ref 27), some (.long w), none, some (.int 0), some (.int x), none] [] (cW s (rW (r.s_thrown 0) tl), b0, b1, op) := by
    rintro x rfl
    exact loop1 8 0 none (by omega) (by omega) rfl
  exact key _ shI_8.symm
end P1d
