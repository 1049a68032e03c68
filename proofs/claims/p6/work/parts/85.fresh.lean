section P1e
variable {cst : Nat → Option (Nat × (Nat → Int32))} {m b0 b1 : Nat} {op : Bool} {tl : List mj_O} {Q : mj_R → Prop} {s : cS}
set_option maxRecDepth 10000
theorem c_treeClear (hQ : Q (.inl none, (cW (s.s_nodes 0) tl, b0, b1, op))) : mj_Mt gT cst gnw (m + 1) y_Tree_clear [.ref 1] (cW s tl, b0, b1, op) Q := by
  intro J hJ
  refine hJ _ _ _ _ ?_
  exact hQ
theorem c_textClear (hQ : Q (.inl none, (cW (s.s_len 0) tl, b0, b1, op))) : mj_Mt gT cst gnw (m + 1) y_Text_clear [.ref 8] (cW s tl, b0, b1, op) Q := by
  intro J hJ
  refine hJ _ _ _ _ ?_
  exact hQ
theorem c_textLength (hQ : Q (.inl (some (.int s.len)), (cW s tl, b0, b1, op))) : mj_Mt gT cst gnw (m + 1) y_Text_length [.ref 8] (cW s tl, b0, b1, op) Q := by
  intro J hJ
  refine hJ _ _ _ _ ?_
  exact hQ
def cAt (s : cS) (i : Int32) : Int32 := if ¬ i < 0 ∧ i < s.len then s.txt i.toNatClampNeg else 0
theorem c_codeAt {i : Int32} {n : Nat} (hn : n ≤ 96) (hs : s.len = nI n) (hQ : Q (.inl (some (.int (cAt s i))), (cW s tl, b0, b1, op))) : mj_Mt gT cst gnw (m + 1) y_Text_codeAt [.ref 8, .int i] (cW s tl, b0, b1, op) Q := by
  intro J hJ
  refine hJ _ _ _ _ ?_
  refine And.intro (fun (g : i < 0) => ?_) (fun (g : ¬ i < 0) => ?_)
  · unfold cAt at hQ
    rw [if_neg (fun q => q.1 g)] at hQ
    exact hQ
  · refine And.intro (fun (g2 : s.len ≤ i) => ?_) (fun (g2 : ¬ s.len ≤ i) => ?_)
    · unfold cAt at hQ
      rw [if_neg (fun q => Int32.not_le.mpr q.2 g2)] at hQ
      exact hQ
    · unfold cAt at hQ
      have g3 := Int32.not_le.mp g2
      rw [if_pos ⟨g, g3⟩] at hQ
      refine And.intro ?_ hQ
      rw [hs] at g3
      obtain ⟨j, hj, rfl⟩ := nI_of g
      exact vp_in_nI (by have := (nI_ltI hj (by omega)).mp g3; omega) (by decide)
def isL (c : Int32) : Bool := decide (97 ≤ c) && decide (c ≤ 122)
def isD (c : Int32) : Bool := decide (48 ≤ c) && decide (c ≤ 57)
def bI (b : Bool) : Int32 := if b then 1 else 0
theorem bI_01 (b : Bool) : bI b = 0 ∨ bI b = 1 := by cases b <;> simp [bI]
theorem c_isLetter {h : mj_H} {c : Int32} (hQ : Q (.inl (some (.int (bI (isL c)))), h)) : mj_Mt gT cst gnw (m + 1) y_Reader_isLetter [.int c] h Q := by
  intro J hJ
  refine hJ _ _ _ _ ?_
  refine And.intro (fun (g : c < 97) => ?_) (fun (g : ¬ c < 97) => ?_)
  · have e : isL c = false := by simp [isL, Int32.not_le.mpr g]
    rw [e] at hQ
    exact And.intro (Or.inl rfl) hQ
  · refine And.intro (fun (g2 : 122 < c) => ?_) (fun (g2 : ¬ 122 < c) => ?_)
    · have e : isL c = false := by simp [isL, Int32.not_le.mpr g2]
      rw [e] at hQ
      exact And.intro (Or.inl rfl) hQ
    · have e : isL c = true := by simp [isL, Int32.not_lt.mp g, Int32.not_lt.mp g2]
      rw [e] at hQ
      exact And.intro (Or.inr rfl) hQ
theorem c_isDigit {h : mj_H} {c : Int32} (hQ : Q (.inl (some (.int (bI (isD c)))), h)) : mj_Mt gT cst gnw (m + 1) y_Reader_isDigit [.int c] h Q := by
  intro J hJ
  refine hJ _ _ _ _ ?_
  refine And.intro (fun (g : c < 48) => ?_) (fun (g : ¬ c < 48) => ?_)
  · have e : isD c = false := by simp [isD, Int32.not_le.mpr g]
    rw [e] at hQ
    exact And.intro (Or.inl rfl) hQ
  · refine And.intro (fun (g2 : 57 < c) => ?_) (fun (g2 : ¬ 57 < c) => ?_)
    · have e : isD c = false := by simp [isD, Int32.not_le.mpr g2]
      rw [e] at hQ
      exact And.intro (Or.inl rfl) hQ
    · have e : isD c = true := by simp [isD, Int32.not_lt.mp g, Int32.not_lt.mp g2]
      rw [e] at hQ
      exact And.intro (Or.inr rfl) hQ
theorem c_fail {os : List mj_O} (hb : 6 ≤ b1) (hQ : Q (.inr 0, (os, b0, b1 - 6, false))) : mj_Mt gT cst gnw (m + 1) y_Reader_fail [] (os, b0 + 1, b1, op) Q := by
  intro J hJ
  refine hJ _ _ _ _ ?_
  exact And.intro hb hQ
theorem cAt_0 {i : Int32} (hs : s.len = 0) : cAt s i = 0 := by
  unfold cAt
  rw [if_neg]
  rw [hs]
  exact fun q => q.1 q.2
theorem c_number0 (hs : s.len = 0) (hb : 6 ≤ b1) (hQ : Q (.inr 0, (cW s tl, b0, b1 - 6, false))) : mj_Mt gT cst gnw (m + 2) y_Reader_number [.ref 10] (cW s tl, b0 + 1, b1, op) Q := by
  intro J hJ
  refine hJ _ _ _ _ ?_
  refine c_codeAt (n := 0) (by omega) hs ?_
  rw [cAt_0 hs]
  refine And.intro (fun _ => ?_) (fun g => absurd g (by decide))
  refine And.intro (fun _ => ?_) (fun g => absurd rfl g)
  refine c_codeAt (n := 0) (by omega) hs ?_
  rw [cAt_0 hs]
  refine c_isDigit ?_
  refine And.intro (fun g => absurd rfl g) (fun _ => ?_)
  exact c_fail hb hQ
theorem c_atom0 (hs : s.len = 0) (hb : 6 ≤ b1) (hQ : Q (.inr 0, (cW s tl, b0, b1 - 6, false))) : mj_Mt gT cst gnw (m + 3) y_Reader_atom [.ref 10] (cW s tl, b0 + 1, b1, op) Q := by
  intro J hJ
  refine hJ _ _ _ _ ?_
  refine c_codeAt (n := 0) (by omega) hs ?_
  rw [cAt_0 hs]
  refine c_isLetter ?_
  refine And.intro (fun g => absurd rfl g) (fun _ => ?_)
  exact c_number0 hs hb hQ
theorem c_expression0 {d : Int32} (hs : s.len = 0) (hb : 6 ≤ b1) (hQ : Q (.inr 0, (cW s tl, b0, b1 - 6, false))) : mj_Mt gT cst gnw (m + 4) y_Reader_expression [.ref 10, .int d] (cW s tl, b0 + 1, b1, op) Q := by
  intro J hJ
  refine hJ _ _ _ _ ?_
  refine c_codeAt (n := 0) (by omega) hs ?_
  rw [cAt_0 hs]
  refine And.intro (fun _ => ?_) (fun g => absurd g (by decide))
  refine And.intro (fun g => absurd g (by decide)) (fun _ => ?_)
  exact c_atom0 hs hb hQ
theorem c_read0 (hs : s.len = 0) (hb : 6 ≤ b1) (hQ : Q (.inl (some (.int 0)), (cW ((s.s_nodes 0).s_at_ 0) tl, b0, b1 - 6, false))) : mj_Mt gT cst gnw (m + 5) y_Reader_read [.ref 10] (cW s tl, b0 + 1, b1, op) Q := by
  intro J hJ
  refine hJ _ _ _ _ ?_
  refine c_treeClear ?_
  exact c_expression0 (s := ((s.s_nodes 0).s_at_ 0)) hs hb hQ
theorem c_compile0 (hs : s.len = 0) (hb : 12 ≤ b1) (hQ : Q (.inr 0, (cW ((((s.s_nodes 0).s_at_ 0).s_err 0).s_len 0) tl, b0, b1 - 6 - 6, false))) : mj_Mt gT cst gnw (m + 6) y_P_compile [.ref 0] (cW s tl, b0 + 2, b1, op) Q := by
  intro J hJ
  refine hJ _ _ _ _ ?_
  refine c_read0 (b0 := b0 + 1) hs (by omega) ?_
  refine c_textClear (s := (((s.s_nodes 0).s_at_ 0).s_err 0)) ?_
  refine And.intro (fun _ => ?_) (fun (g : (0 : Int32) = -1) => absurd g (by decide))
  refine And.intro (fun (g : (0 : Int32) = -1) => absurd g (by decide)) (fun _ => ?_)
  exact And.intro (by omega) hQ
theorem c_position (hQ : Q (.inl (some (.int s.err)), (cW s tl, b0, b1, op))) : mj_Mt gT cst gnw (m + 1) y_P_position [.ref 0] (cW s tl, b0, b1, op) Q := by
  intro J hJ
  refine hJ _ _ _ _ ?_
  exact hQ
theorem c_storeCode0 (hs : s.codeN = 0) (hQ : Q (.inl (some (.long 0)), (cW s tl, b0, b1, op))) : mj_Mt gT cst gnw (m + 1) y_Store_code [.ref 17] (cW s tl, b0, b1, op) Q := by
  intro J hJ
  refine hJ _ _ _ _ ?_
  refine And.intro (fun _ => ?_) (fun (g : ¬ s.codeN ≤ 0) => absurd (by rw [hs]; decide) g)
  exact hQ
theorem c_begin0 (hs : s.codeN = 0) (hQ : Q (.inl (some (.int 0)), (cW s tl, b0, b1, op))) : mj_Mt gT cst gnw (m + 2) y_Machine_begin [.ref 16] (cW s tl, b0, b1, op) Q := by
  intro J hJ
  refine hJ _ _ _ _ ?_
  refine c_storeCode0 hs ?_
  refine And.intro (fun g => absurd (by decide) g) (fun _ => ?_)
  exact And.intro (Or.inl rfl) hQ
theorem c_start0 (hs : s.codeN = 0) (hQ : Q (.inl (some (.int 0)), (cW s tl, b0, b1, op))) : mj_Mt gT cst gnw (m + 3) y_P_start [.ref 0] (cW s tl, b0, b1, op) Q := by
  intro J hJ
  refine hJ _ _ _ _ ?_
  refine c_begin0 hs ?_
  exact And.intro (Or.inl rfl) hQ
theorem c_mode (hQ : Q (.inl (some (.int s.mode)), (cW s tl, b0, b1, op))) : mj_Mt gT cst gnw (m + 1) y_Machine_mode [.ref 16] (cW s tl, b0, b1, op) Q := by
  intro J hJ
  refine hJ _ _ _ _ ?_
  exact hQ
theorem c_state (hQ : Q (.inl (some (.int s.mode)), (cW s tl, b0, b1, op))) : mj_Mt gT cst gnw (m + 2) y_P_state [.ref 0] (cW s tl, b0, b1, op) Q := by
  intro J hJ
  refine hJ _ _ _ _ ?_
  exact c_mode hQ
theorem c_run0 {n : Int32} (hs : s.mode = 0) (hb : 6 ≤ b1) (h1 : n < 0 ∨ 200 < n → Q (.inr 0, (cW s tl, b0, b1 - 6, false))) (h2 : ¬ (n < 0 ∨ 200 < n) → Q (.inl (some (.int 0)), (cW s tl, b0 + 1, b1, op))) : mj_Mt gT cst gnw (m + 2) y_P_run [.ref 0, .int n] (cW s tl, b0 + 1, b1, op) Q := by
  intro J hJ
  refine hJ _ _ _ _ ?_
  refine And.intro (fun (g : n < 0) => ?_) (fun (g : ¬ n < 0) => ?_)
  · exact And.intro hb (h1 (Or.inl g))
  · refine And.intro (fun (g2 : n ≤ 200) => ?_) (fun (g2 : ¬ n ≤ 200) => ?_)
    · have h3 := h2 (fun q => q.elim g (fun q => Int32.not_lt.mpr g2 q))
      refine hJ _ _ _ _ ?_
      refine And.intro (fun _ => h3) (fun _ => ?_)
      refine c_mode ?_
      rw [hs]
      refine And.intro (fun _ => h3) (fun g => absurd g (by decide))
    · exact And.intro hb (h1 (Or.inr (Int32.not_le.mp g2)))
theorem c_next0 (hs : s.mode = 0) (hQ : Q (.inl (some (.int (-1))), (cW s tl, b0, b1, op))) : mj_Mt gT cst gnw (m + 2) y_P_next [.ref 0] (cW s tl, b0, b1, op) Q := by
  intro J hJ
  refine hJ _ _ _ _ ?_
  refine c_mode ?_
  rw [hs]
  exact And.intro (fun _ => hQ) (fun g => absurd g (by decide))
theorem c_shown0 {k : Int32} (hs : s.mode = 0) (hQ : Q (.inl (some (.int (-1))), (cW s tl, b0, b1, op))) : mj_Mt gT cst gnw (m + 2) y_P_shown [.ref 0, .int k] (cW s tl, b0, b1, op) Q := by
  intro J hJ
  refine hJ _ _ _ _ ?_
  refine c_mode ?_
  rw [hs]
  exact And.intro (fun _ => hQ) (fun g => absurd g (by decide))
theorem c_cell0 {h : mj_H} (hQ : Q (.inl (some (.int (-1))), h)) : mj_Mt gT cst gnw (m + 1) y_Value_cell [.long 0] h Q := by
  intro J hJ
  refine hJ _ _ _ _ ?_
  exact And.intro (fun _ => hQ) (fun g => absurd (by decide) g)
theorem c_isPair0 {h : mj_H} (hQ : Q (.inl (some (.int 0)), h)) : mj_Mt gT cst gnw (m + 1) y_Value_isPair [.long 0] h Q := by
  intro J hJ
  refine hJ _ _ _ _ ?_
  exact And.intro (fun _ => And.intro (Or.inl rfl) hQ) (fun g => absurd g (by decide))
theorem c_length0 (hQ : Q (.inl (some (.int 0)), (cW s tl, b0, b1, op))) : mj_Mt gT cst gnw (m + 2) y_Store_length [.ref 17, .long 0] (cW s tl, b0, b1, op) Q := by
  intro J hJ
  refine hJ _ _ _ _ ?_
  refine hJ _ _ _ _ ?_
  refine c_isPair0 ?_
  exact And.intro (fun _ => hQ) (fun g => absurd rfl g)
theorem c_reach0 (hQ : Q (.inl none, (cW s tl, b0, b1, op))) : mj_Mt gT cst gnw (m + 2) y_Store_reach [.ref 17, .long 0] (cW s tl, b0, b1, op) Q := by
  intro J hJ
  refine hJ _ _ _ _ ?_
  refine c_cell0 ?_
  exact And.intro (fun _ => hQ) (fun g => absurd (by decide) g)
theorem c_mark0 (hz : s.z ≤ 250) (hs : s.codeN = 0) (hQ : ∀ f, Q (.inl (some (.int 0)), (cW ((s.s_marked f).s_reachN 0) tl, b0, b1, op))) : mj_Mt gT cst gnw (m + 3) y_Store_mark [.ref 17, .long 0, .long 0, .long 0, .long 0] (cW s tl, b0, b1, op) Q := by
  intro J hJ
  have loop : ∀ (n k : Nat) (f : Nat → Int32), n = s.z - k → k ≤ s.z → J 2 [some (.ref 17), some (.long 0), none, some (.long 0), none, some (.long 0), none, some (.long 0), none, some (.int (nI k))] [] (cW (s.s_marked f) tl, b0, b1, op) := by
    intro n
    induction n with
    | zero =>
      intro k f hn hk
      refine hJ _ _ _ _ ?_
      refine And.intro (fun _ => ?_) (fun (g : ¬ nI s.z ≤ nI k) => absurd (nI_le (by omega) (by omega)) g)
      refine c_reach0 (s := ((s.s_marked f).s_reachN 0)) ?_
      refine c_reach0 (s := ((s.s_marked f).s_reachN 0)) ?_
      refine c_reach0 (s := ((s.s_marked f).s_reachN 0)) ?_
      refine c_reach0 (s := ((s.s_marked f).s_reachN 0)) ?_
      refine c_storeCode0 (s := ((s.s_marked f).s_reachN 0)) hs ?_
      refine c_reach0 (s := ((s.s_marked f).s_reachN 0)) ?_
      refine hJ _ _ _ _ ?_
      refine And.intro (fun _ => ?_) (fun (g : ¬ (0 : Int32) ≤ 0) => absurd (by decide) g)
      exact hQ f
    | succ n ih =>
      intro k f hn hk
      refine hJ _ _ _ _ ?_
      refine And.intro (fun (g : nI s.z ≤ nI k) => absurd g (nI_ge (by omega) (by omega))) (fun _ => ?_)
      refine And.intro (vp_in_nI (show k < s.z by omega) (show s.z < 2 ^ 31 by omega)) ?_
      have key : ∀ (f : Nat → Int32) (x : Int32), x = nI (k + 1) → J 2 [some (.ref 17), some (.long 0), none, some (.long 0), none, some (.long 0), none, some (.long 0), none, some (.int x)] [] (cW (s.s_marked f) tl, b0, b1, op) := by
        rintro f x rfl
        exact ih (k + 1) f (by omega) (by omega)
      exact key (upd f (nI k).toNatClampNeg (vp_nar .boolean (Int32.ofInt 0))) _ (nI_succ k).symm
  refine hJ _ _ _ _ ?_
  exact loop s.z 0 s.marked (by omega) (by omega)
theorem c_mark0' {a b c d : Int64} (ha : a = 0) (hb : b = 0) (hc : c = 0) (hd : d = 0) (hz : s.z ≤ 250) (hs : s.codeN = 0) (hQ : ∀ f, Q (.inl (some (.int 0)), (cW ((s.s_marked f).s_reachN 0) tl, b0, b1, op))) : mj_Mt gT cst gnw (m + 3) y_Store_mark [.ref 17, .long a, .long b, .long c, .long d] (cW s tl, b0, b1, op) Q := by
  subst ha hb hc hd
  exact c_mark0 hz hs hQ
theorem c_length0' {a : Int64} (ha : a = 0) (hQ : Q (.inl (some (.int 0)), (cW s tl, b0, b1, op))) : mj_Mt gT cst gnw (m + 2) y_Store_length [.ref 17, .long a] (cW s tl, b0, b1, op) Q := by
  subst ha
  exact c_length0 hQ
theorem c_used (hQ : Q (.inl (some (.int (nI s.z - s.freeN))), (cW s tl, b0, b1, op))) : mj_Mt gT cst gnw (m + 2) y_Machine_usedCells [.ref 16] (cW s tl, b0, b1, op) Q := by
  intro J hJ
  refine hJ _ _ _ _ ?_
  intro J2 hJ2
  refine hJ2 _ _ _ _ ?_
  exact hQ
theorem c_colls (hQ : Q (.inl (some (.int s.colls)), (cW s tl, b0, b1, op))) : mj_Mt gT cst gnw (m + 1) y_Machine_collections [.ref 16] (cW s tl, b0, b1, op) Q := by
  intro J hJ
  refine hJ _ _ _ _ ?_
  exact hQ
theorem c_taken (hQ : Q (.inl (some (.int s.taken)), (cW s tl, b0, b1, op))) : mj_Mt gT cst gnw (m + 1) y_Machine_takenBack [.ref 16] (cW s tl, b0, b1, op) Q := by
  intro J hJ
  refine hJ _ _ _ _ ?_
  exact hQ
theorem c_steps (hQ : Q (.inl (some (.int s.steps)), (cW s tl, b0, b1, op))) : mj_Mt gT cst gnw (m + 1) y_Machine_steps [.ref 16] (cW s tl, b0, b1, op) Q := by
  intro J hJ
  refine hJ _ _ _ _ ?_
  exact hQ
def cnt0 (w : Int32) : Int32 := if w = 0 ∨ w = 1 ∨ w = 2 ∨ w = 3 ∨ w = 4 ∨ w = 5 ∨ w = 6 then 0 else -1
theorem c_count0 {w : Int32} (hz : s.z ≤ 250) (hs : s.codeN = 0) (hf : s.freeN = nI s.z) (h1 : s.rS = 0) (h2 : s.rE = 0) (h3 : s.rC = 0) (h4 : s.rD = 0) (h5 : s.colls = 0) (h6 : s.taken = 0) (h7 : s.steps = 0)
    (hQ : ∀ s' : cS, Q (.inl (some (.int (cnt0 w))), (cW s' tl, b0, b1, op))) : mj_Mt gT cst gnw (m + 6) y_P_count [.ref 0, .int w] (cW s tl, b0, b1, op) Q := by
  intro J hJ
  refine hJ _ _ _ _ ?_
  have key : ∀ x : Int32, x = cnt0 w → Q (.inl (some (.int x)), (cW s tl, b0, b1, op)) := by
    rintro x rfl
    exact hQ s
  refine And.intro (fun g => ?_) (fun g0 => And.intro (fun g => ?_) (fun g1 => And.intro (fun g => ?_) (fun g2 => And.intro (fun g => ?_) (fun g3 => And.intro (fun g => ?_) (fun g4 => And.intro (fun g => ?_) (fun g5 => And.intro (fun g => ?_) (fun g6 => ?_)))))))
  · subst g
    exact c_used (key _ (by rw [hf, Int32.sub_self]; rfl))
  · subst g
    intro J1 hJ1
    refine hJ1 _ _ _ _ ?_
    exact c_mark0' h1 h2 h3 h4 hz hs (fun f => hQ _)
  · subst g
    exact c_colls (key _ (by rw [h5]; rfl))
  · subst g
    exact c_taken (key _ (by rw [h6]; rfl))
  · subst g
    exact c_steps (key _ (by rw [h7]; rfl))
  · subst g
    intro J1 hJ1
    refine hJ1 _ _ _ _ ?_
    exact c_length0' h1 (hQ _)
  · subst g
    intro J1 hJ1
    refine hJ1 _ _ _ _ ?_
    exact c_length0' h4 (hQ _)
  · refine key _ ?_
    unfold cnt0
    rw [if_neg]
    · rfl
    · rintro (g | g | g | g | g | g | g)
      · exact g0 g
      · exact g1 g
      · exact g2 g
      · exact g3 g
      · exact g4 g
      · exact g5 g
      · exact g6 g
end P1e
