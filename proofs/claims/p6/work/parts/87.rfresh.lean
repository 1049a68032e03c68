section P1g
variable {cst : Nat → Option (Nat × (Nat → Int32))} {m b0 b1 : Nat} {op : Bool} {tl : List mj_O} {Q : mj_R → Prop} {s : cS} {r : rM}
set_option maxRecDepth 10000
theorem r_here0 (hp : r.p = 0) (ht : r.typed = 0) (hQ : Q (.inl (some (.int 0)), (cW s (rW r tl), b0, b1, op))) : mj_Mt gT cst gnw (m + 1) y_R_here [.ref 27, .int 0] (cW s (rW r tl), b0, b1, op) Q := by
  intro J hJ
  refine hJ _ _ _ _ ?_
  refine And.intro (fun _ => ?_) (fun (g : ¬ r.typed ≤ r.p + 0) => absurd (by rw [hp, ht]; decide) g)
  exact And.intro rfl hQ
theorem r_takes0 {c : Int32} (hp : r.p = 0) (ht : r.typed = 0) (hc : ¬ 0 = c) (hQ : Q (.inl (some (.int 0)), (cW s (rW r tl), b0, b1, op))) : mj_Mt gT cst gnw (m + 2) y_R_takes [.ref 27, .int c] (cW s (rW r tl), b0, b1, op) Q := by
  intro J hJ
  refine hJ _ _ _ _ ?_
  refine r_here0 hp ht ?_
  refine And.intro (fun _ => ?_) (fun (g : 0 = c) => absurd g hc)
  refine And.intro (fun _ => ?_) (fun g => absurd rfl g)
  exact And.intro (Or.inl rfl) hQ
theorem r_isDigit {h : mj_H} {c : Int32} (hQ : Q (.inl (some (.int (bI (isD c)))), h)) : mj_Mt gT cst gnw (m + 1) y_R_isDigit [.int c] h Q := by
  intro J hJ
  refine hJ _ _ _ _ ?_
  refine And.intro (fun (g : c < 48) => ?_) (fun (g : ¬ c < 48) => ?_)
  · have e : isD c = false := by simp [isD, Int32.not_le.mpr g]
    rw [e] at hQ
    exact And.intro (Or.inl rfl) hQ
  · refine And.intro (fun (g2 : 57 < c) => ?_) (fun (g2 : ¬ 57 < c) => ?_)
    · have e : isD c = false := by simp [isD, Int32.not_le.mpr g2]
      rw [e] at hQ
      exact And.intro (Or.inl rfl) hQ
    · have e : isD c = true := by simp [isD, Int32.not_lt.mp g, Int32.not_lt.mp g2]
      rw [e] at hQ
      exact And.intro (Or.inr rfl) hQ
theorem r_isLetter {h : mj_H} {c : Int32} (hQ : Q (.inl (some (.int (bI (isL c)))), h)) : mj_Mt gT cst gnw (m + 1) y_R_isLetter [.int c] h Q := by
  intro J hJ
  refine hJ _ _ _ _ ?_
  refine And.intro (fun (g : c < 97) => ?_) (fun (g : ¬ c < 97) => ?_)
  · have e : isL c = false := by simp [isL, Int32.not_le.mpr g]
    rw [e] at hQ
    exact And.intro (Or.inl rfl) hQ
  · refine And.intro (fun (g2 : 122 < c) => ?_) (fun (g2 : ¬ 122 < c) => ?_)
    · have e : isL c = false := by simp [isL, Int32.not_le.mpr g2]
      rw [e] at hQ
      exact And.intro (Or.inl rfl) hQ
    · have e : isL c = true := by simp [isL, Int32.not_lt.mp g, Int32.not_lt.mp g2]
      rw [e] at hQ
      exact And.intro (Or.inr rfl) hQ
theorem r_number0 (hp : r.p = 0) (ht : r.typed = 0) (hQ : Q (.inl (some (.int 0)), (cW s (rW r tl), b0, b1, op))) : mj_Mt gT cst gnw (m + 3) y_R_number [.ref 27] (cW s (rW r tl), b0, b1, op) Q := by
  intro J hJ
  refine hJ _ _ _ _ ?_
  refine r_takes0 hp ht (by decide) ?_
  refine hJ _ _ _ _ ?_
  refine And.intro (fun g => absurd g (by decide)) (fun _ => ?_)
  refine r_here0 hp ht ?_
  refine r_isDigit ?_
  refine And.intro (fun _ => ?_) (fun g => absurd rfl g)
  refine And.intro (fun _ => ?_) (fun g => absurd (by decide) g)
  exact And.intro (Or.inl rfl) hQ
theorem in0 {n : Nat} (h : 0 < n) : vp_in 0 n := by
  rintro (g | g)
  · exact absurd g (by decide)
  · exact absurd g (by rw [show (0 : Int32).toNatClampNeg = 0 by decide]; omega)
theorem r_part0 {a : Int32} (hp : r.parts = 0) (hQ : Q (.inl (some (.int 0)), (cW s (rW (((((((((((r.s_parts 1).s_kind (upd r.kind 0 a)).s_at_ (upd r.at_ 0 r.p)).s_until_ (upd r.until_ 0 r.p)).s_value (upd r.value 0 0)).s_parent (upd r.parent 0 (-1))).s_first (upd r.first 0 (-1))).s_last (upd r.last 0 (-1))).s_next (upd r.next 0 (-1))).s_many (upd r.many 0 0)).s_bound (upd r.bound 0 0)) tl), b0, b1, op))) : mj_Mt gT cst gnw (m + 1) y_R_part [.ref 27, .int a, .int (-1)] (cW s (rW r tl), b0, b1, op) Q := by
  have e : r = (r.s_parts r.parts) := rfl
  rw [hp] at e
  rw [e]
  intro J hJ
  refine hJ _ _ _ _ ?_
  refine And.intro (in0 (by decide)) ?_
  change mj_sg _ _ _ _ _ _ _ _ _ 14 [some (.ref 27), some (.int a), some (.int (-1)), some (.int 0)] [] (cW s (rW ((r.s_parts 1).s_kind (upd r.kind 0 a)) tl), b0, b1, op)
  refine And.intro (in0 (by decide)) ?_
  change mj_sg _ _ _ _ _ _ _ _ _ 20 [some (.ref 27), some (.int a), some (.int (-1)), some (.int 0)] [] (cW s (rW (((r.s_parts 1).s_kind (upd r.kind 0 a)).s_at_ (upd r.at_ 0 r.p)) tl), b0, b1, op)
  refine And.intro (in0 (by decide)) ?_
  change mj_sg _ _ _ _ _ _ _ _ _ 26 [some (.ref 27), some (.int a), some (.int (-1)), some (.int 0)] [] (cW s (rW ((((r.s_parts 1).s_kind (upd r.kind 0 a)).s_at_ (upd r.at_ 0 r.p)).s_until_ (upd r.until_ 0 r.p)) tl), b0, b1, op)
  refine And.intro (in0 (by decide)) ?_
  change mj_sg _ _ _ _ _ _ _ _ _ 31 [some (.ref 27), some (.int a), some (.int (-1)), some (.int 0)] [] (cW s (rW (((((r.s_parts 1).s_kind (upd r.kind 0 a)).s_at_ (upd r.at_ 0 r.p)).s_until_ (upd r.until_ 0 r.p)).s_value (upd r.value 0 0)) tl), b0, b1, op)
  refine And.intro (in0 (by decide)) ?_
  change mj_sg _ _ _ _ _ _ _ _ _ 36 [some (.ref 27), some (.int a), some (.int (-1)), some (.int 0)] [] (cW s (rW ((((((r.s_parts 1).s_kind (upd r.kind 0 a)).s_at_ (upd r.at_ 0 r.p)).s_until_ (upd r.until_ 0 r.p)).s_value (upd r.value 0 0)).s_parent (upd r.parent 0 (-1))) tl), b0, b1, op)
  refine And.intro (in0 (by decide)) ?_
  change mj_sg _ _ _ _ _ _ _ _ _ 41 [some (.ref 27), some (.int a), some (.int (-1)), some (.int 0)] [] (cW s (rW (((((((r.s_parts 1).s_kind (upd r.kind 0 a)).s_at_ (upd r.at_ 0 r.p)).s_until_ (upd r.until_ 0 r.p)).s_value (upd r.value 0 0)).s_parent (upd r.parent 0 (-1))).s_first (upd r.first 0 (-1))) tl), b0, b1, op)
  refine And.intro (in0 (by decide)) ?_
  change mj_sg _ _ _ _ _ _ _ _ _ 46 [some (.ref 27), some (.int a), some (.int (-1)), some (.int 0)] [] (cW s (rW ((((((((r.s_parts 1).s_kind (upd r.kind 0 a)).s_at_ (upd r.at_ 0 r.p)).s_until_ (upd r.until_ 0 r.p)).s_value (upd r.value 0 0)).s_parent (upd r.parent 0 (-1))).s_first (upd r.first 0 (-1))).s_last (upd r.last 0 (-1))) tl), b0, b1, op)
  refine And.intro (in0 (by decide)) ?_
  change mj_sg _ _ _ _ _ _ _ _ _ 51 [some (.ref 27), some (.int a), some (.int (-1)), some (.int 0)] [] (cW s (rW (((((((((r.s_parts 1).s_kind (upd r.kind 0 a)).s_at_ (upd r.at_ 0 r.p)).s_until_ (upd r.until_ 0 r.p)).s_value (upd r.value 0 0)).s_parent (upd r.parent 0 (-1))).s_first (upd r.first 0 (-1))).s_last (upd r.last 0 (-1))).s_next (upd r.next 0 (-1))) tl), b0, b1, op)
  refine And.intro (in0 (by decide)) ?_
  change mj_sg _ _ _ _ _ _ _ _ _ 56 [some (.ref 27), some (.int a), some (.int (-1)), some (.int 0)] [] (cW s (rW ((((((((((r.s_parts 1).s_kind (upd r.kind 0 a)).s_at_ (upd r.at_ 0 r.p)).s_until_ (upd r.until_ 0 r.p)).s_value (upd r.value 0 0)).s_parent (upd r.parent 0 (-1))).s_first (upd r.first 0 (-1))).s_last (upd r.last 0 (-1))).s_next (upd r.next 0 (-1))).s_many (upd r.many 0 0)) tl), b0, b1, op)
  refine And.intro (in0 (by decide)) ?_
  change mj_sg _ _ _ _ _ _ _ _ _ 61 [some (.ref 27), some (.int a), some (.int (-1)), some (.int 0)] [] (cW s (rW (((((((((((r.s_parts 1).s_kind (upd r.kind 0 a)).s_at_ (upd r.at_ 0 r.p)).s_until_ (upd r.until_ 0 r.p)).s_value (upd r.value 0 0)).s_parent (upd r.parent 0 (-1))).s_first (upd r.first 0 (-1))).s_last (upd r.last 0 (-1))).s_next (upd r.next 0 (-1))).s_many (upd r.many 0 0)).s_bound (upd r.bound 0 0)) tl), b0, b1, op)
  refine And.intro (fun _ => ?_) (fun g => absurd (by decide) g)
  exact hQ
theorem r_begin0 (hp : r.p = 0) (ht : r.typed = 0) (hn : r.parts = 0) (hQ : ∀ r' : rM, r'.p = 0 → Q (.inl (some (.int (-1))), (cW s (rW r' tl), b0, b1, op))) : mj_Mt gT cst gnw (m + 4) y_R_begin [.ref 27, .int (-1)] (cW s (rW r tl), b0, b1, op) Q := by
  intro J hJ
  refine hJ _ _ _ _ ?_
  refine r_part0 hn ?_
  refine r_here0 hp ht ?_
  refine r_isLetter ?_
  refine And.intro (fun _ => ?_) (fun g => absurd rfl g)
  refine And.intro (fun _ => ?_) (fun g => absurd g (by decide))
  refine And.intro (fun g => absurd g (by decide)) (fun _ => ?_)
  refine r_number0 hp ht ?_
  refine And.intro (fun _ => ?_) (fun g => absurd rfl g)
  refine And.intro (in0 (by decide)) ?_
  refine And.intro (fun _ => ?_) (fun g => absurd rfl g)
  exact hQ (((((((((((r.s_parts 1).s_kind (upd r.kind 0 0)).s_at_ (upd r.at_ 0 r.p)).s_until_ (upd r.until_ 0 r.p)).s_value (upd (upd r.value 0 0) 0 0)).s_parent (upd r.parent 0 (-1))).s_first (upd r.first 0 (-1))).s_last (upd r.last 0 (-1))).s_next (upd r.next 0 (-1))).s_many (upd r.many 0 0)).s_bound (upd r.bound 0 0)) hp
theorem r_read0 (ht : r.typed = 0) (hQ : ∀ r' : rM, r'.p = 0 → Q (.inl (some (.int 0)), (cW s (rW r' tl), b0, b1, op))) : mj_Mt gT cst gnw (m + 5) y_R_read [.ref 27] (cW s (rW r tl), b0, b1, op) Q := by
  intro J hJ
  refine hJ _ _ _ _ ?_
  refine hJ _ _ _ _ ?_
  refine And.intro (fun g => absurd g (by decide)) (fun _ => ?_)
  refine r_begin0 (r := (((r.s_p 0).s_parts 0).s_depth 0)) rfl ht rfl (fun r' hr => ?_)
  refine And.intro (fun g => absurd g (by decide)) (fun _ => ?_)
  exact And.intro (Or.inl rfl) (hQ r' hr)
theorem r_compile0 (ht : r.typed = 0) (hQ : ∀ r' : rM, r'.thrown = 1 → Q (.inl (some (.int 0)), (cW s (rW r' tl), b0, b1, op))) : mj_Mt gT cst gnw (m + 6) y_R_compile [.ref 27] (cW s (rW r tl), b0, b1, op) Q := by
  intro J hJ
  refine hJ _ _ _ _ ?_
  refine r_read0 ht (fun r' hr => ?_)
  refine And.intro (fun _ => ?_) (fun g => absurd rfl g)
  refine And.intro (fun (g : r'.p < 0) => absurd g (by rw [hr]; decide)) (fun _ => ?_)
  refine And.intro (fun _ => ?_) (fun (g : (1 : Int32) = 0) => absurd g (by decide))
  refine And.intro (fun (g : (1 : Int32) ≤ 0) => absurd g (by decide)) (fun _ => ?_)
  exact hQ (((r'.s_error r'.p).s_thrown 1).s_typed 0) rfl
theorem r_position (hQ : Q (.inl (some (.int r.error)), (cW s (rW (r.s_thrown 0) tl), b0, b1, op))) : mj_Mt gT cst gnw (m + 1) y_R_position [.ref 27] (cW s (rW r tl), b0, b1, op) Q := by
  intro J hJ
  refine hJ _ _ _ _ ?_
  exact hQ
theorem r_start0 (hs : r.program = 0) (hQ : Q (.inl (some (.int 0)), (cW s (rW (r.s_thrown 0) tl), b0, b1, op))) : mj_Mt gT cst gnw (m + 1) y_R_start [.ref 27] (cW s (rW r tl), b0, b1, op) Q := by
  intro J hJ
  refine hJ _ _ _ _ ?_
  refine And.intro (fun (g : ¬ r.program = 0) => absurd hs g) (fun _ => ?_)
  exact And.intro (Or.inl rfl) hQ
theorem r_state (hQ : Q (.inl (some (.int r.state)), (cW s (rW (r.s_thrown 0) tl), b0, b1, op))) : mj_Mt gT cst gnw (m + 1) y_R_state [.ref 27] (cW s (rW r tl), b0, b1, op) Q := by
  intro J hJ
  refine hJ _ _ _ _ ?_
  exact hQ
theorem r_next0 (hs : r.state = 0) (hQ : Q (.inl (some (.int (-1))), (cW s (rW (r.s_thrown 0) tl), b0, b1, op))) : mj_Mt gT cst gnw (m + 1) y_R_next [.ref 27] (cW s (rW r tl), b0, b1, op) Q := by
  intro J hJ
  refine hJ _ _ _ _ ?_
  exact And.intro (fun _ => hQ) (fun (g : r.state = 1) => absurd (hs.symm.trans g) (by decide))
theorem r_shown0 {k : Int32} (hs : r.state = 0) (hQ : Q (.inl (some (.int (-1))), (cW s (rW (r.s_thrown 0) tl), b0, b1, op))) : mj_Mt gT cst gnw (m + 1) y_R_shown [.ref 27, .int k] (cW s (rW r tl), b0, b1, op) Q := by
  intro J hJ
  refine hJ _ _ _ _ ?_
  exact And.intro (fun _ => hQ) (fun (g : r.state = 2) => absurd (hs.symm.trans g) (by decide))
theorem r_run0 {n : Int32} (hs : r.state = 0) (h1 : n < 0 ∨ 200 < n → Q (.inl (some (.int 0)), (cW s (rW (r.s_thrown 1) tl), b0, b1, op))) (h2 : ¬ (n < 0 ∨ 200 < n) → Q (.inl (some (.int 0)), (cW s (rW (r.s_thrown 0) tl), b0, b1, op))) : mj_Mt gT cst gnw (m + 1) y_R_run [.ref 27, .int n] (cW s (rW r tl), b0, b1, op) Q := by
  intro J hJ
  have bad : n < 0 ∨ 200 < n → J 12 [some (.ref 27), some (.int n), some (.int 0)] [] (cW s (rW (r.s_thrown 1) tl), b0, b1, op) := by
    intro g
    refine hJ _ _ _ _ ?_
    exact And.intro (fun _ => h1 g) (fun (g : (1 : Int32) = 0) => absurd g (by decide))
  refine hJ _ _ _ _ ?_
  refine And.intro (fun (g : n < 0) => bad (Or.inl g)) (fun (g : ¬ n < 0) => ?_)
  refine And.intro (fun (g2 : n ≤ 200) => ?_) (fun (g2 : ¬ n ≤ 200) => bad (Or.inr (Int32.not_le.mp g2)))
  have h3 := h2 (fun q => q.elim g (fun q => Int32.not_lt.mpr g2 q))
  refine hJ _ _ _ _ ?_
  refine And.intro (fun (g : ¬ (0 : Int32) = 0) => absurd rfl g) (fun _ => ?_)
  refine And.intro (fun _ => h3) (fun _ => ?_)
  exact And.intro (fun _ => h3) (fun (g : r.state = 1) => absurd (hs.symm.trans g) (by decide))
theorem r_free0 (hz : r.z ≤ 250) (hu : r.used = z0) (hQ : Q (.inl (some (.int (nI r.z))), (cW s (rW r tl), b0, b1, op))) : mj_Mt gT cst gnw (m + 1) y_R_free [.ref 27] (cW s (rW r tl), b0, b1, op) Q := by
  intro J hJ
  have loop : ∀ (n k : Nat), n = r.z - k → k ≤ r.z → J 4 [some (.ref 27), some (.int (nI k)), some (.int (nI k))] [] (cW s (rW r tl), b0, b1, op) := by
    intro n
    induction n with
    | zero =>
      intro k hn hk
      have e : k = r.z := by omega
      subst e
      refine hJ _ _ _ _ ?_
      refine And.intro (fun _ => hQ) (fun (g : ¬ nI r.z ≤ nI r.z) => absurd (nI_le (by omega) (by omega)) g)
    | succ n ih =>
      intro k hn hk
      refine hJ _ _ _ _ ?_
      refine And.intro (fun (g : nI r.z ≤ nI k) => absurd g (nI_ge (by omega) (by omega))) (fun _ => ?_)
      refine And.intro (vp_in_nI (show k < 250 by omega) (by decide)) ?_
      refine And.intro (fun _ => ?_) (fun g => absurd (by rw [hu]) g)
      have key : ∀ x : Int32, x = nI (k + 1) → J 4 [some (.ref 27), some (.int x), some (.int x)] [] (cW s (rW r tl), b0, b1, op) := by
        rintro x rfl
        exact ih (k + 1) (by omega) (by omega)
      exact key _ (nI_succ k).symm
  refine hJ _ _ _ _ ?_
  exact loop r.z 0 (by omega) (by omega)
theorem r_mark0 {k : Int32} (hQ : Q (.inl none, (cW s (rW r tl), b0, b1, op))) : mj_Mt gT cst gnw (m + 1) y_R_mark [.ref 27, .int 0, .int k] (cW s (rW r tl), b0, b1, op) Q := by
  intro J hJ
  refine hJ _ _ _ _ ?_
  exact And.intro (fun _ => hQ) (fun g => absurd g (by decide))
theorem r_reach0 (hz : r.z ≤ 250) (hr : ∀ k, k < 5 → r.reg k = -1) (hQ : ∀ r' : rM, Q (.inl (some (.int 0)), (cW s (rW r' tl), b0, b1, op))) : mj_Mt gT cst gnw (m + 2) y_R_reach [.ref 27] (cW s (rW r tl), b0, b1, op) Q := by
  intro J hJ
  have loop2 : ∀ (f : Nat → Int32) (n k : Nat), n = 5 - k → k ≤ 5 → J 18 [some (.ref 27), some (.int (nI k)), none] [] (cW s (rW ((r.s_marked f).s_piled 0) tl), b0, b1, op) := by
    intro f n
    induction n with
    | zero =>
      intro k hn hk
      have e : k = 5 := by omega
      subst e
      refine hJ _ _ _ _ ?_
      refine And.intro (fun _ => ?_) (fun (g : ¬ nI 5 ≤ nI 5) => absurd (by decide) g)
      refine hJ _ _ _ _ ?_
      exact And.intro (fun _ => hQ _) (fun (g : ¬ (0 : Int32) ≤ 0) => absurd (by decide) g)
    | succ n ih =>
      intro k hn hk
      refine hJ _ _ _ _ ?_
      refine And.intro (fun (g : nI 5 ≤ nI k) => absurd g (nI_ge (by omega) (by omega))) (fun _ => ?_)
      refine And.intro (vp_in_nI (show k < 5 by omega) (by decide)) ?_
      have ek : (nI k).toNatClampNeg = k := nI_clamp (by omega)
      refine And.intro (fun (g : 0 ≤ r.reg (nI k).toNatClampNeg) => absurd g (by rw [ek, hr k (by omega)]; decide)) (fun _ => ?_)
      refine And.intro (vp_in_nI (show k < 5 by omega) (by decide)) ?_
      refine r_mark0 (r := ((r.s_marked f).s_piled 0)) ?_
      have key : ∀ x : Int32, x = nI (k + 1) → J 18 [some (.ref 27), some (.int x), none] [] (cW s (rW ((r.s_marked f).s_piled 0) tl), b0, b1, op) := by
        rintro x rfl
        exact ih (k + 1) (by omega) (by omega)
      exact key _ (nI_succ k).symm
  have loop : ∀ (n k : Nat) (f : Nat → Int32), n = r.z - k → k ≤ r.z → J 2 [some (.ref 27), some (.int (nI k)), none] [] (cW s (rW (r.s_marked f) tl), b0, b1, op) := by
    intro n
    induction n with
    | zero =>
      intro k f hn hk
      refine hJ _ _ _ _ ?_
      refine And.intro (fun _ => ?_) (fun (g : ¬ nI r.z ≤ nI k) => absurd (nI_le (by omega) (by omega)) g)
      exact loop2 f 5 0 rfl (by omega)
    | succ n ih =>
      intro k f hn hk
      refine hJ _ _ _ _ ?_
      refine And.intro (fun (g : nI r.z ≤ nI k) => absurd g (nI_ge (by omega) (by omega))) (fun _ => ?_)
      refine And.intro (vp_in_nI (show k < 250 by omega) (by decide)) ?_
      have key : ∀ (f : Nat → Int32) (x : Int32), x = nI (k + 1) → J 2 [some (.ref 27), some (.int x), none] [] (cW s (rW (r.s_marked f) tl), b0, b1, op) := by
        rintro f x rfl
        exact ih (k + 1) f (by omega) (by omega)
      exact key (upd f (nI k).toNatClampNeg (vp_nar .boolean (Int32.ofInt 0))) _ (nI_succ k).symm
  refine hJ _ _ _ _ ?_
  exact loop r.z 0 r.marked (by omega) (by omega)
theorem r_lengthOf0 {x : Int32} (hx : x = -1) (hQ : Q (.inl (some (.int 0)), (cW s (rW r tl), b0, b1, op))) : mj_Mt gT cst gnw (m + 1) y_R_lengthOf [.ref 27, .int x] (cW s (rW r tl), b0, b1, op) Q := by
  subst hx
  intro J hJ
  refine hJ _ _ _ _ ?_
  refine hJ _ _ _ _ ?_
  exact And.intro (fun _ => hQ) (fun g => absurd (by decide) g)
theorem r_count0 {w : Int32} (hz : r.z ≤ 250) (hu : r.used = z0) (hr : ∀ k, k < 5 → r.reg k = -1) (h5 : r.collections = 0) (h6 : r.takenBack = 0) (h7 : r.steps = 0)
    (hQ : ∀ r' : rM, Q (.inl (some (.int (cnt0 w))), (cW s (rW r' tl), b0, b1, op))) : mj_Mt gT cst gnw (m + 3) y_R_count [.ref 27, .int w] (cW s (rW r tl), b0, b1, op) Q := by
  intro J hJ
  refine hJ _ _ _ _ ?_
  have key : ∀ x : Int32, x = cnt0 w → Q (.inl (some (.int x)), (cW s (rW (r.s_thrown 0) tl), b0, b1, op)) := by
    rintro x rfl
    exact hQ _
  refine And.intro (fun g => ?_) (fun g0 => And.intro (fun g => ?_) (fun g1 => And.intro (fun g => ?_) (fun g2 => And.intro (fun g => ?_) (fun g3 => And.intro (fun g => ?_) (fun g4 => And.intro (fun g => ?_) (fun g5 => And.intro (fun g => ?_) (fun g6 => ?_)))))))
  · subst g
    refine r_free0 (r := (r.s_thrown 0)) hz hu ?_
    exact key _ (Int32.sub_self _)
  · subst g
    exact r_reach0 (r := (r.s_thrown 0)) hz hr (fun r' => hQ r')
  · subst g
    exact key _ h5
  · subst g
    exact key _ h6
  · subst g
    exact key _ h7
  · subst g
    refine And.intro (in0 (by decide)) ?_
    exact r_lengthOf0 (r := (r.s_thrown 0)) (hr 0 (by decide)) (hQ _)
  · subst g
    refine And.intro (vp_in_nI (show 3 < 5 by decide) (by decide)) ?_
    exact r_lengthOf0 (r := (r.s_thrown 0)) (hr 3 (by decide)) (hQ _)
  · refine key _ ?_
    unfold cnt0
    rw [if_neg]
    · rfl
    · rintro (g | g | g | g | g | g | g)
      · exact g0 g
      · exact g1 g
      · exact g2 g
      · exact g3 g
      · exact g4 g
      · exact g5 g
      · exact g6 g
end P1g
