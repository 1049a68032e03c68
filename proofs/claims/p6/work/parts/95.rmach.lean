def ffN (u : Nat → Int32) : Nat → Nat → Nat
  | 0, k => k
  | n + 1, k => if u k = 0 then k else ffN u n (k + 1)
theorem ffN_le (u : Nat → Int32) : ∀ n k, ffN u n k ≤ k + n := by
  intro n
  induction n with
  | zero => intro k; exact Nat.le_refl _
  | succ n ih =>
    intro k
    have e : ffN u (n + 1) k = if u k = 0 then k else ffN u n (k + 1) := rfl
    rw [e]
    split
    · omega
    · have := ih (k + 1)
      omega
def rsN (r : rM) (k : Nat) : Int32 := if r.tailKind k = 3 then r.tail k else -1
def hlN (r : rM) (k : Nat) : Int32 := if r.headKind k = 3 then r.head k else -1
section P2f
variable {cst : Nat → Option (Nat × (Nat → Int32))} {m b0 b1 : Nat} {op : Bool} {tl : List mj_O} {Q : mj_R → Prop} {s : cS} {r : rM}
set_option maxRecDepth 10000
theorem r_rest {k : Nat} (hk : k < 250) (hQ : Q (.inl (some (.int (rsN r k))), (cW s (rW r tl), b0, b1, op))) : mj_Mt gT cst gnw (m + 1) y_R_rest [.ref 27, .int (nI k)] (cW s (rW r tl), b0, b1, op) Q := by
  have ek : (nI k).toNatClampNeg = k := nI_clamp (by omega)
  unfold rsN at hQ
  intro J hJ
  refine hJ _ _ _ _ ?_
  refine And.intro (vp_in_nI hk (by decide)) ?_
  rw [ek]
  refine And.intro (fun (g : ¬ r.tailKind k = 3) => ?_) (fun (g : r.tailKind k = 3) => ?_)
  · rw [if_neg g] at hQ
    exact hQ
  · rw [if_pos g] at hQ
    refine And.intro (vp_in_nI hk (by decide)) ?_
    rw [ek]
    exact hQ
theorem r_headList {k : Nat} (hk : k < 250) (hQ : Q (.inl (some (.int (hlN r k))), (cW s (rW r tl), b0, b1, op))) : mj_Mt gT cst gnw (m + 1) y_R_headList [.ref 27, .int (nI k)] (cW s (rW r tl), b0, b1, op) Q := by
  have ek : (nI k).toNatClampNeg = k := nI_clamp (by omega)
  unfold hlN at hQ
  intro J hJ
  refine hJ _ _ _ _ ?_
  refine And.intro (vp_in_nI hk (by decide)) ?_
  rw [ek]
  refine And.intro (fun (g : ¬ r.headKind k = 3) => ?_) (fun (g : r.headKind k = 3) => ?_)
  · rw [if_neg g] at hQ
    exact hQ
  · rw [if_pos g] at hQ
    refine And.intro (vp_in_nI hk (by decide)) ?_
    rw [ek]
    exact hQ
theorem r_make {a b c : Int32} (hz : r.z ≤ 250) (hz1 : 1 ≤ r.z) (hQ : ∀ k, k = ffN r.used (r.z - 1) 0 → Q (.inl (some (.int (nI k))), (cW s (rW ((((((r.s_used (upd r.used k 1)).s_function (upd r.function k 0)).s_headKind (upd r.headKind k a)).s_head (upd r.head k b)).s_tailKind (upd r.tailKind k (if c < 0 then 0 else 3))).s_tail (upd r.tail k (if c < 0 then 0 else c))) tl), b0, b1, op))) : mj_Mt gT cst gnw (m + 1) y_R_make [.ref 27, .int a, .int b, .int c] (cW s (rW r tl), b0, b1, op) Q := by
  intro J hJ
  have fin : ∀ k, k = ffN r.used (r.z - 1) 0 → k < 250 → ∀ F : Nat, mj_sg (mj_Mt gT cst gnw m) cst gnw (mj_hd (mj_off kO_R_make) kH_R_make) kC_R_make J Q (F + 60) false 15 [some (.ref 27), some (.int a), some (.int b), some (.int c), some (.int (nI k))] [] (cW s (rW r tl), b0, b1, op) := by
    intro k hk hlt F
    have ek : (nI k).toNatClampNeg = k := nI_clamp (by omega)
    have h9 := hQ k hk
    have hin : vp_in (nI k) 250 := vp_in_nI hlt (by decide)
    refine And.intro hin ?_
    rw [ek]
    change mj_sg _ _ _ _ _ _ _ _ _ 20 [some (.ref 27), some (.int a), some (.int b), some (.int c), some (.int (nI k))] [] (cW s (rW (r.s_used (upd r.used k 1)) tl), b0, b1, op)
    refine And.intro hin ?_
    rw [ek]
    change mj_sg _ _ _ _ _ _ _ _ _ 25 [some (.ref 27), some (.int a), some (.int b), some (.int c), some (.int (nI k))] [] (cW s (rW ((r.s_used (upd r.used k 1)).s_function (upd r.function k 0)) tl), b0, b1, op)
    refine And.intro hin ?_
    rw [ek]
    change mj_sg _ _ _ _ _ _ _ _ _ 30 [some (.ref 27), some (.int a), some (.int b), some (.int c), some (.int (nI k))] [] (cW s (rW (((r.s_used (upd r.used k 1)).s_function (upd r.function k 0)).s_headKind (upd r.headKind k a)) tl), b0, b1, op)
    refine And.intro hin ?_
    rw [ek]
    change mj_sg _ _ _ _ _ _ _ _ _ 35 [some (.ref 27), some (.int a), some (.int b), some (.int c), some (.int (nI k))] [] (cW s (rW ((((r.s_used (upd r.used k 1)).s_function (upd r.function k 0)).s_headKind (upd r.headKind k a)).s_head (upd r.head k b)) tl), b0, b1, op)
    by_cases hc : c < 0
    · rw [if_pos hc, if_pos hc] at h9
      refine And.intro (fun (g : 0 ≤ c) => absurd hc (Int32.not_lt.mpr g)) (fun _ => ?_)
      refine And.intro hin ?_
      rw [ek]
      change mj_sg _ _ _ _ _ _ _ _ _ 44 [some (.ref 27), some (.int a), some (.int b), some (.int c), some (.int (nI k))] [] (cW s (rW (((((r.s_used (upd r.used k 1)).s_function (upd r.function k 0)).s_headKind (upd r.headKind k a)).s_head (upd r.head k b)).s_tailKind (upd r.tailKind k 0)) tl), b0, b1, op)
      refine And.intro (fun (g : 0 ≤ c) => absurd hc (Int32.not_lt.mpr g)) (fun _ => ?_)
      refine And.intro hin ?_
      rw [ek]
      exact h9
    · rw [if_neg hc, if_neg hc] at h9
      refine And.intro (fun _ => ?_) (fun (g : ¬ 0 ≤ c) => absurd (Int32.not_lt.mp hc) g)
      refine And.intro hin ?_
      rw [ek]
      change mj_sg _ _ _ _ _ _ _ _ _ 44 [some (.ref 27), some (.int a), some (.int b), some (.int c), some (.int (nI k))] [] (cW s (rW (((((r.s_used (upd r.used k 1)).s_function (upd r.function k 0)).s_headKind (upd r.headKind k a)).s_head (upd r.head k b)).s_tailKind (upd r.tailKind k 3)) tl), b0, b1, op)
      refine And.intro (fun _ => ?_) (fun (g : ¬ 0 ≤ c) => absurd (Int32.not_lt.mp hc) g)
      refine And.intro hin ?_
      rw [ek]
      exact h9
  have e1 : nI r.z - Int32.ofInt 1 = nI (r.z - 1) := by
    have := nI_pred (r.z - 1)
    rw [show r.z - 1 + 1 = r.z by omega] at this
    exact this
  have loop : ∀ (n k : Nat), n + k = r.z - 1 → ffN r.used n k = ffN r.used (r.z - 1) 0 → J 2 [some (.ref 27), some (.int a), some (.int b), some (.int c), some (.int (nI k))] [] (cW s (rW r tl), b0, b1, op) := by
    intro n
    induction n with
    | zero =>
      intro k hk e
      refine hJ _ _ _ _ ?_
      refine And.intro (fun _ => ?_) (fun (g : ¬ nI r.z - Int32.ofInt 1 ≤ nI k) => absurd (by rw [e1]; exact nI_le (by omega) (by omega)) g)
      exact fin k e (by omega) _
    | succ n ih =>
      intro k hk e
      have e2 : ffN r.used (n + 1) k = if r.used k = 0 then k else ffN r.used n (k + 1) := rfl
      rw [e2] at e
      have ek : (nI k).toNatClampNeg = k := nI_clamp (by omega)
      refine hJ _ _ _ _ ?_
      refine And.intro (fun (g : nI r.z - Int32.ofInt 1 ≤ nI k) => absurd g (by rw [e1]; exact nI_ge (by omega) (by omega))) (fun _ => ?_)
      refine And.intro (vp_in_nI (show k < 250 by omega) (by decide)) ?_
      rw [ek]
      refine And.intro (fun (g : r.used k = 0) => ?_) (fun (g : ¬ r.used k = 0) => ?_)
      · rw [if_pos g] at e
        exact fin k e (by omega) _
      · rw [if_neg g] at e
        have key : ∀ x : Int32, x = nI (k + 1) → J 2 [some (.ref 27), some (.int a), some (.int b), some (.int c), some (.int x)] [] (cW s (rW r tl), b0, b1, op) := by
          rintro x rfl
          exact ih (k + 1) (by omega) e
        exact key _ (nI_succ k).symm
  refine hJ _ _ _ _ ?_
  exact loop (r.z - 1) 0 (by omega) rfl
theorem r_makeOf {b c : Int32} (hz : r.z ≤ 250) (hz1 : 1 ≤ r.z) (hQ : ∀ k, k = ffN r.used (r.z - 1) 0 → Q (.inl (some (.int (nI k))), (cW s (rW ((((((r.s_used (upd r.used k 1)).s_function (upd r.function k 0)).s_headKind (upd r.headKind k (if b < 0 then 0 else 3))).s_head (upd r.head k (if b < 0 then 0 else b))).s_tailKind (upd r.tailKind k (if c < 0 then 0 else 3))).s_tail (upd r.tail k (if c < 0 then 0 else c))) tl), b0, b1, op))) : mj_Mt gT cst gnw (m + 2) y_R_makeOf [.ref 27, .int b, .int c] (cW s (rW r tl), b0, b1, op) Q := by
  intro J hJ
  refine hJ _ _ _ _ ?_
  by_cases hb : b < 0
  · rw [if_pos hb, if_pos hb] at hQ
    refine And.intro (fun (g : 0 ≤ b) => absurd hb (Int32.not_lt.mpr g)) (fun _ => ?_)
    refine And.intro (fun (g : 0 ≤ b) => absurd hb (Int32.not_lt.mpr g)) (fun _ => ?_)
    exact r_make hz hz1 hQ
  · rw [if_neg hb, if_neg hb] at hQ
    refine And.intro (fun _ => ?_) (fun (g : ¬ 0 ≤ b) => absurd (Int32.not_lt.mp hb) g)
    refine And.intro (fun _ => ?_) (fun (g : ¬ 0 ≤ b) => absurd (Int32.not_lt.mp hb) g)
    exact r_make hz hz1 hQ
theorem r_stop {x : Int32} (hQ : Q (.inl none, (cW s (rW (r.s_state x) tl), b0, b1, op))) : mj_Mt gT cst gnw (m + 1) y_R_stop [.ref 27, .int x] (cW s (rW r tl), b0, b1, op) Q := by
  intro J hJ
  refine hJ _ _ _ _ ?_
  exact hQ
theorem r_peek0 {k : Nat} (hk : k < 250) (h0 : r.reg 0 = nI k) (hQ : Q (.inl none, (cW s (rW ((r.s_gotKind (r.headKind k)).s_got (r.head k)) tl), b0, b1, op))) : mj_Mt gT cst gnw (m + 2) y_R_peek [.ref 27, .int 0] (cW s (rW r tl), b0, b1, op) Q := by
  have ek : (nI k).toNatClampNeg = k := nI_clamp (by omega)
  intro J hJ
  have key : ∀ x : Int32, x = nI k → J 7 [some (.ref 27), some (.int 0), some (.int x), some (.int 0)] [] (cW s (rW r tl), b0, b1, op) := by
    rintro x rfl
    refine hJ _ _ _ _ ?_
    refine And.intro (fun _ => ?_) (fun (g : ¬ (0 : Int32) ≤ 0) => absurd (by decide) g)
    refine And.intro (vp_in_nI hk (by decide)) ?_
    rw [ek]
    refine And.intro (vp_in_nI hk (by decide)) ?_
    rw [ek]
    exact hQ
  refine hJ _ _ _ _ ?_
  refine And.intro (in0 (by decide)) ?_
  exact key _ h0
theorem r_peek1 {k j : Nat} (hk : k < 250) (hj : j < 250) (h0 : r.reg 0 = nI j) (h1 : rsN r j = nI k) (hQ : Q (.inl none, (cW s (rW ((r.s_gotKind (r.headKind k)).s_got (r.head k)) tl), b0, b1, op))) : mj_Mt gT cst gnw (m + 2) y_R_peek [.ref 27, .int 1] (cW s (rW r tl), b0, b1, op) Q := by
  have ek : (nI k).toNatClampNeg = k := nI_clamp (by omega)
  intro J hJ
  have key2 : ∀ x : Int32, x = nI k → J 7 [some (.ref 27), some (.int 1), some (.int x), some (.int 1)] [] (cW s (rW r tl), b0, b1, op) := by
    rintro x rfl
    refine hJ _ _ _ _ ?_
    refine And.intro (fun _ => ?_) (fun (g : ¬ (1 : Int32) ≤ 1) => absurd (by decide) g)
    refine And.intro (vp_in_nI hk (by decide)) ?_
    rw [ek]
    refine And.intro (vp_in_nI hk (by decide)) ?_
    rw [ek]
    exact hQ
  have key : ∀ x : Int32, x = nI j → J 7 [some (.ref 27), some (.int 1), some (.int x), some (.int 0)] [] (cW s (rW r tl), b0, b1, op) := by
    rintro x rfl
    refine hJ _ _ _ _ ?_
    refine And.intro (fun (g : (1 : Int32) ≤ 0) => absurd g (by decide)) (fun _ => ?_)
    refine r_rest hj ?_
    exact key2 _ h1
  refine hJ _ _ _ _ ?_
  refine And.intro (in0 (by decide)) ?_
  exact key _ h0
theorem r_drop {j : Nat} (hj : j < 250) (h0 : r.reg 0 = nI j) (hQ : Q (.inl none, (cW s (rW (r.s_reg (upd r.reg 0 (rsN r j))) tl), b0, b1, op))) : mj_Mt gT cst gnw (m + 2) y_R_drop [.ref 27] (cW s (rW r tl), b0, b1, op) Q := by
  intro J hJ
  refine hJ _ _ _ _ ?_
  refine And.intro (in0 (by decide)) ?_
  have key : ∀ x : Int32, x = nI j → ∀ Q' : mj_R → Prop, Q' (.inl (some (.int (rsN r j))), (cW s (rW r tl), b0, b1, op)) → mj_Mt gT cst gnw (m + 1) y_R_rest [.ref 27, .int x] (cW s (rW r tl), b0, b1, op) Q' := by
    rintro x rfl Q' hQ'
    exact r_rest hj hQ'
  refine key _ h0 _ ?_
  exact And.intro (in0 (by decide)) hQ
theorem r_push {a b : Int32} (hz : r.z ≤ 250) (hz1 : 1 ≤ r.z) (hQ : ∀ k, k = ffN r.used (r.z - 1) 0 → Q (.inl none, (cW s (rW (((((((r.s_used (upd r.used k 1)).s_function (upd r.function k 0)).s_headKind (upd r.headKind k a)).s_head (upd r.head k b)).s_tailKind (upd r.tailKind k (if (r.reg 0) < 0 then 0 else 3))).s_tail (upd r.tail k (if (r.reg 0) < 0 then 0 else (r.reg 0)))).s_reg (upd r.reg 0 (nI k))) tl), b0, b1, op))) : mj_Mt gT cst gnw (m + 2) y_R_push [.ref 27, .int a, .int b] (cW s (rW r tl), b0, b1, op) Q := by
  intro J hJ
  refine hJ _ _ _ _ ?_
  refine And.intro (in0 (by decide)) ?_
  refine r_make hz hz1 (fun k hk => ?_)
  exact And.intro (in0 (by decide)) (hQ k hk)
def rnd (i : Int32) : Int32 := if i = 4 then 4 else if i = 7 then 3 else if i = 3 ∨ i = 13 then 2 else if i = 9 ∨ i = 19 then 0 else 1
theorem r_needs {h : mj_H} {i : Int32} (hQ : Q (.inl (some (.int (rnd i))), h)) : mj_Mt gT cst gnw (m + 1) y_R_needs [.int i] h Q := by
  unfold rnd at hQ
  intro J hJ
  refine hJ _ _ _ _ ?_
  refine And.intro (fun (g : ¬ i = 4) => ?_) (fun (g : i = 4) => ?_)
  · rw [if_neg g] at hQ
    refine And.intro (fun (g2 : ¬ i = 7) => ?_) (fun (g2 : i = 7) => ?_)
    · rw [if_neg g2] at hQ
      refine And.intro (fun (g3 : i = 3) => ?_) (fun (g3 : ¬ i = 3) => ?_)
      · rw [if_pos (Or.inl g3)] at hQ
        exact hQ
      · refine And.intro (fun (g4 : ¬ i = 13) => ?_) (fun (g4 : i = 13) => ?_)
        · rw [if_neg (fun q => q.elim g3 g4)] at hQ
          refine And.intro (fun (g5 : i = 9) => ?_) (fun (g5 : ¬ i = 9) => ?_)
          · rw [if_pos (Or.inl g5)] at hQ
            exact hQ
          · refine And.intro (fun (g6 : ¬ i = 19) => ?_) (fun (g6 : i = 19) => ?_)
            · rw [if_neg (fun q => q.elim g5 g6)] at hQ
              exact hQ
            · rw [if_pos (Or.inr g6)] at hQ
              exact hQ
        · rw [if_pos (Or.inr g4)] at hQ
          exact hQ
    · rw [if_pos g2] at hQ
      exact hQ
  · rw [if_pos g] at hQ
    exact hQ
end P2f
