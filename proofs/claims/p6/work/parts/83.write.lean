section P1c
variable {cst : Nat → Option (Nat × (Nat → Int32))} {m b0 b1 : Nat} {op : Bool} {tl : List mj_O} {Q : mj_R → Prop}
set_option maxRecDepth 10000
def shI (j : Nat) : Int32 := nI (8 * j) - 8
def wB (w : Int64) (j : Nat) : Int32 := (w.toUInt64 >>> ((shI (j + 1)).toInt64.toUInt64 &&& Int64.toUInt64 63)).toInt64.toInt32 &&& 255
def wC (w : Int64) : Nat → Nat → Option Nat
  | 0, a => some a
  | j + 1, a => if wB w j = 0 then wC w j a else if wB w j < 32 ∨ 126 < wB w j then none else wC w j (a + 1)
def wT (w : Int64) : Nat → Nat → (Nat → Int32) → Nat → Int32
  | 0, _, t => t
  | j + 1, n, t => if wB w j = 0 then wT w j n t else wT w j (n + 1) (upd t n (vp_nar .char ((wB w j).toUInt32 % 65536).toInt32))
theorem wC_succ (w : Int64) (j a : Nat) : wC w (j + 1) a = if wB w j = 0 then wC w j a else if wB w j < 32 ∨ 126 < wB w j then none else wC w j (a + 1) := rfl
theorem wT_succ (w : Int64) (j n : Nat) (t : Nat → Int32) : wT w (j + 1) n t = if wB w j = 0 then wT w j n t else wT w j (n + 1) (upd t n (vp_nar .char ((wB w j).toUInt32 % 65536).toInt32)) := rfl
def wO : Option Nat → Int32
  | none => -1
  | some n => nI n
theorem shI_8 : shI 8 = Int32.ofInt 56 := by decide
theorem shI_sub (j : Nat) : shI (j + 1) + Int32.ofInt (-8) = shI j := by
  unfold shI
  rw [show 8 * (j + 1) = 8 * j + 8 by omega, ← nI_add]
  have e : nI 8 = 8 := by decide
  have e2 : Int32.ofInt (-8) = -8 := by decide
  rw [e, e2, Int32.add_sub_cancel, ← Int32.sub_eq_add_neg]
theorem shI_sub' (j : Nat) : shI (j + 1) - 8 = shI j := by
  have h := shI_sub j
  rw [show Int32.ofInt (-8) = -8 by decide, ← Int32.sub_eq_add_neg] at h
  exact h
theorem shI_lt {j : Nat} (h : j < 8) : ¬ shI (j + 1) < 0 := by
  match j, h with
  | 0, _ => decide
  | 1, _ => decide
  | 2, _ => decide
  | 3, _ => decide
  | 4, _ => decide
  | 5, _ => decide
  | 6, _ => decide
  | 7, _ => decide
theorem shI_0 : shI 0 < 0 := by decide
theorem wC_le (w : Int64) : ∀ (j a n : Nat), wC w j a = some n → a ≤ n ∧ n ≤ a + j := by
  intro j
  induction j with
  | zero =>
    intro a n h
    cases h
    omega
  | succ j ih =>
    intro a n h
    unfold wC at h
    split at h
    · have := ih a n h
      omega
    · split at h
      · cases h
      · have := ih (a + 1) n h
        omega
theorem wC_shift (w : Int64) : ∀ (j a n k : Nat), wC w j a = some k → wC w j (n + a) = some (n + k) := by
  intro j
  induction j with
  | zero =>
    intro a n k h
    cases h
    rfl
  | succ j ih =>
    intro a n k h
    rw [wC_succ] at h ⊢
    split
    · rename_i g
      rw [if_pos g] at h
      exact ih a n k h
    · rename_i g
      rw [if_neg g] at h
      split
      · rename_i g2
        rw [if_pos g2] at h
        cases h
      · rename_i g2
        rw [if_neg g2] at h
        exact ih (a + 1) n k h
theorem wC_add {w : Int64} {k : Nat} (h : wC w 8 0 = some k) (n : Nat) : wC w 8 n = some (n + k) := wC_shift w 8 0 n k h
theorem c_codeIn {h : mj_H} {x : Int64} {y : Int32} (hQ : Q (.inl (some (.int ((x.toUInt64 >>> (y.toInt64.toUInt64 &&& Int64.toUInt64 63)).toInt64.toInt32 &&& 255))), h)) : mj_Mt gT cst gnw (m + 1) y_Text_codeIn [.long x, .int y] h Q := by
  intro J hJ
  refine hJ _ _ _ _ ?_
  exact hQ
theorem c_charactersIn {h : mj_H} {w : Int64} (hQ : Q (.inl (some (.int (wO (wC w 8 0)))), h)) : mj_Mt gT cst gnw (m + 2) y_Text_charactersIn [.long w] h Q := by
  intro J hJ
  have loop : ∀ (j a : Nat) (x : Option Value), j ≤ 8 → wC w j a = wC w 8 0 → J 4 [some (.long w), none, some (.int (nI a)), some (.int (shI j)), x] [] h := by
    intro j
    induction j with
    | zero =>
      intro a x hj e
      refine hJ _ _ _ _ ?_
      refine And.intro (fun _ => ?_) (fun g => absurd shI_0 g)
      rw [← e] at hQ
      exact hQ
    | succ j ih =>
      intro a x hj e
      refine hJ _ _ _ _ ?_
      refine And.intro (fun g => absurd g (shI_lt (by omega))) (fun _ => ?_)
      refine c_codeIn ?_
      rw [wC_succ w j a] at e
      refine And.intro (fun (g : wB w j = 0) => ?_) (fun (g : ¬ wB w j = 0) => ?_)
      · rw [if_pos g] at e
        have key : ∀ x : Int32, x = shI j → J 4 [some (.long w), none, some (.int (nI a)), some (.int x), some (.int (wB w j))] [] h := by
          rintro x rfl
          exact ih a _ (by omega) e
        exact key _ (shI_sub j)
      · rw [if_neg g] at e
        refine And.intro (fun (g2 : wB w j < 32) => ?_) (fun (g2 : ¬ wB w j < 32) => ?_)
        · rw [if_pos (Or.inl g2)] at e
          rw [← e] at hQ
          exact hQ
        · refine And.intro (fun (g3 : wB w j ≤ 126) => ?_) (fun (g3 : ¬ wB w j ≤ 126) => ?_)
          · have g4 : ¬ (wB w j < 32 ∨ 126 < wB w j) := fun g => g.elim g2 (fun q => (Int32.not_lt.mpr g3) q)
            rw [if_neg g4] at e
            have key : ∀ x y : Int32, x = shI j → y = nI (a + 1) → J 4 [some (.long w), none, some (.int y), some (.int x), some (.int (wB w j))] [] h := by
              rintro x y rfl rfl
              exact ih (a + 1) _ (by omega) e
            exact key _ _ (shI_sub j) (nI_succ a).symm
          · rw [if_pos (Or.inr (Int32.not_le.mp g3))] at e
            rw [← e] at hQ
            exact hQ
  refine hJ _ _ _ _ ?_
  have key : ∀ x : Int32, x = shI 8 → J 4 [some (.long w), none, some (.int 0), some (.int x), none] [] h := by
    rintro x rfl
    exact loop 8 0 none (by omega) rfl
  exact key _ shI_8.symm
theorem nI_ne_1 {k : Nat} (h : k < 2 ^ 31) : ¬ nI k = -1 := by
  intro e
  have := nI_toInt h
  rw [e, show (-1 : Int32).toInt = -1 by decide] at this
  omega
def wR (w : Int64) (n : Nat) : Option Nat := match wC w 8 0 with
  | none => none
  | some k => if n + k ≤ 96 then some (n + k) else none
theorem c_append {s : cS} {w : Int64} {n : Nat} (hn : n ≤ 96) (hs : s.len = nI n)
    (h1 : wR w n = none → Q (.inl (some (.int 0)), (cW s tl, b0, b1, op)))
    (h2 : ∀ k, wR w n = some k → Q (.inl (some (.int 1)), (cW ((s.s_len (nI k)).s_txt (wT w 8 n s.txt)) tl, b0, b1, op))) :
    mj_Mt gT cst gnw (m + 3) y_Text_append [.ref 8, .long w] (cW s tl, b0, b1, op) Q := by
  intro J hJ
  have loop : ∀ (k j a : Nat) (t : Nat → Int32) (x0 : Int32) (x : Option Value), wR w n = some k → j ≤ 8 → wC w j a = some k → wT w j a t = wT w 8 n s.txt → J 16 [some (.ref 8), some (.long w), none, some (.int x0), some (.int (shI j)), x] [] (cW ((s.s_len (nI a)).s_txt t) tl, b0, b1, op) := by
    intro k j
    induction j with
    | zero =>
      intro a t x0 x hk hj e et
      have e' : a = k := Option.some.inj e
      subst e'
      change t = _ at et
      subst et
      refine hJ _ _ _ _ ?_
      refine And.intro (fun _ => ?_) (fun g => absurd shI_0 g)
      exact And.intro (Or.inr rfl) (h2 a hk)
    | succ j ih =>
      intro a t x0 x hk hj e et
      have hle := wC_le w (j + 1) a k e
      have hk96 : k ≤ 96 := by
        unfold wR at hk
        split at hk
        · cases hk
        · split at hk
          · cases hk
            assumption
          · cases hk
      refine hJ _ _ _ _ ?_
      refine And.intro (fun g => absurd g (shI_lt (by omega))) (fun _ => ?_)
      refine c_codeIn ?_
      rw [wC_succ w j a] at e
      rw [wT_succ w j a t] at et
      refine And.intro (fun (g : wB w j = 0) => ?_) (fun (g : ¬ wB w j = 0) => ?_)
      · rw [if_pos g] at e et
        have key : ∀ x : Int32, x = shI j → J 16 [some (.ref 8), some (.long w), none, some (.int x0), some (.int x), some (.int (wB w j))] [] (cW ((s.s_len (nI a)).s_txt t) tl, b0, b1, op) := by
          rintro x rfl
          exact ih a t x0 _ hk (by omega) e et
        exact key _ (shI_sub j)
      · rw [if_neg g] at e et
        by_cases g4 : wB w j < 32 ∨ 126 < wB w j
        · rw [if_pos g4] at e
          cases e
        · rw [if_neg g4] at e
          have hle2 := wC_le w j (a + 1) k e
          refine And.intro (fun g5 => absurd g5 (nI_ge (b := 96) (by omega) (by decide))) (fun _ => ?_)
          refine And.intro (vp_in_nI (by omega) (by decide)) ?_
          have key : ∀ (i : Nat) (x y : Int32), i = a → x = shI j → y = nI (a + 1) → J 16 [some (.ref 8), some (.long w), none, some (.int x0), some (.int x), some (.int (wB w j))] [] (cW ((s.s_len y).s_txt (upd t i (vp_nar .char ((wB w j).toUInt32 % 65536).toInt32))) tl, b0, b1, op) := by
            rintro i x y rfl rfl rfl
            exact ih (i + 1) _ x0 _ hk (by omega) e et
          exact key _ _ _ (nI_clamp (by omega)) (shI_sub j) (nI_succ a).symm
  refine hJ _ _ _ _ ?_
  refine c_charactersIn ?_
  cases hc : wC w 8 0 with
  | none =>
    have hr : wR w n = none := by
      unfold wR
      rw [hc]
    refine And.intro (fun _ => ?_) (fun g => absurd rfl g)
    exact And.intro (Or.inl rfl) (h1 hr)
  | some k =>
    have hk := wC_le w 8 0 k hc
    refine And.intro (fun g => absurd g (nI_ne_1 (by omega))) (fun _ => ?_)
    have hr : wR w n = if n + k ≤ 96 then some (n + k) else none := by
      unfold wR
      rw [hc]
    by_cases h96 : n + k ≤ 96
    · rw [if_pos h96] at hr
      have hle : s.len + nI k ≤ nI 96 := by
        rw [hs, nI_add]
        exact nI_le h96 (by decide)
      refine And.intro (fun _ => ?_) (fun g => absurd hle g)
      have key : ∀ (x : Int32) (y : Int32), x = shI 8 → y = nI n → J 16 [some (.ref 8), some (.long w), none, some (.int (nI k)), some (.int x), none] [] (cW (s.s_len y) tl, b0, b1, op) := by
        rintro x y rfl rfl
        exact loop (n + k) 8 n s.txt _ none hr (by omega) (wC_add hc n) rfl
      exact key _ _ shI_8.symm hs
    · rw [if_neg h96] at hr
      have hle : ¬ s.len + nI k ≤ nI 96 := by
        rw [hs, nI_add]
        exact nI_ge (by omega) (by omega)
      refine And.intro (fun g => absurd g hle) (fun _ => ?_)
      exact And.intro (Or.inl rfl) (h1 hr)
end P1c
