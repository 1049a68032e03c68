def pdR (r : rM) (a d : Nat) : rM := ((r.s_p (nI a)).s_depth (nI d))
theorem pDg_v (tx : Nat → Nat) : ∀ (k a : Nat) (v w : Int32), (pDg tx k a v).1 = (pDg tx k a w).1
  | 0, a, v, w => rfl
  | k + 1, a, v, w => by
    unfold pDg
    split
    · exact pDg_v tx k (a + 1) _ _
    · rfl
theorem pDg_le (tx : Nat → Nat) : ∀ (k a : Nat) (v : Int32), a ≤ (pDg tx k a v).1 ∧ (pDg tx k a v).1 ≤ a + k
  | 0, a, v => ⟨Nat.le_refl _, Nat.le_refl _⟩
  | k + 1, a, v => by
    unfold pDg
    split
    · have := pDg_le tx k (a + 1) (Int32.ofInt 10 * v + nI (tx a) - Int32.ofInt 48)
      omega
    · exact ⟨Nat.le_refl _, by show a ≤ a + (k + 1); omega⟩
theorem pDg_len {X : Nat → Int32} {len : Nat} {tx : Nat → Nat} (hx : txOK X len tx) : ∀ (k a : Nat) (v : Int32), a ≤ len → (pDg tx k a v).1 ≤ len
  | 0, a, v, h => h
  | k + 1, a, v, h => by
    unfold pDg
    split
    · next hd =>
      refine pDg_len hx k (a + 1) _ ?_
      have := hx.lt (a := a) (fun q => by rw [q] at hd; exact absurd hd (by decide))
      omega
    · exact h
section RD1
variable {cst : Nat → Option (Nat × (Nat → Int32))} {m b0 b1 : Nat} {op : Bool} {tl : List mj_O} {Q : mj_R → Prop} {s : cS} {r : rM} {a d len : Nat} {tx : Nat → Nat}
set_option maxRecDepth 10000
theorem R_here {k : Nat} (hx : txOK r.text len tx) (ht : r.typed = nI len) (ha : a + k ≤ 2000) (hQ : Q (.inl (some (.int (nI (tx (a + k))))), (cW s (rW (pdR r a d) tl), b0, b1, op))) : mj_Mt gT cst gnw (m + 1) y_R_here [.ref 27, .int (nI k)] (cW s (rW (pdR r a d) tl), b0, b1, op) Q := by
  have h96 := hx.1
  have hc := hx.le (a + k)
  have e1 : nI a + nI k = nI (a + k) := nI_add a k
  intro J hJ
  refine hJ _ _ _ _ ?_
  refine And.intro (fun (g : r.typed ≤ nI a + nI k) => ?_) (fun (g : ¬ r.typed ≤ nI a + nI k) => ?_)
  · rw [ht, e1] at g
    have : tx (a + k) = 0 := hx.2.2 _ ((nI_leI (by omega) (by omega)).mp g)
    rw [this] at hQ
    exact And.intro rfl hQ
  · rw [ht, e1] at g
    have hlt : a + k < len := Nat.lt_of_not_le (fun w => g (nI_le w (by omega)))
    obtain ⟨ec, -⟩ := hx.2.1 _ hlt
    refine And.intro (show vp_in (nI a + nI k) 96 by rw [e1]; exact vp_in_nI (by omega) (by decide)) ?_
    have key : ∀ x : Int32, x = nI (tx (a + k)) → narrow .char (.int x) = .int x ∧ Q (.inl (some (.int x)), (cW s (rW (pdR r a d) tl), b0, b1, op)) := by
      rintro x rfl
      exact ⟨(pk_charN (q := tx (a + k)) (by omega)).1, hQ⟩
    refine key _ ?_
    show r.text (nI a + nI k).toNatClampNeg = nI (tx (a + k))
    rw [e1, nI_clamp (by omega), ec]
theorem R_here0 (hx : txOK r.text len tx) (ht : r.typed = nI len) (ha : a ≤ 2000) (hQ : Q (.inl (some (.int (nI (tx a)))), (cW s (rW (pdR r a d) tl), b0, b1, op))) : mj_Mt gT cst gnw (m + 1) y_R_here [.ref 27, .int 0] (cW s (rW (pdR r a d) tl), b0, b1, op) Q := R_here (k := 0) hx ht ha hQ
theorem R_takes {c : Nat} (hx : txOK r.text len tx) (ht : r.typed = nI len) (ha : a ≤ 1000) (hc : c < 2 ^ 31) (h1 : tx a = c → Q (.inl (some (.int 1)), (cW s (rW (pdR r (a + 1) d) tl), b0, b1, op))) (h0 : ¬ tx a = c → Q (.inl (some (.int 0)), (cW s (rW (pdR r a d) tl), b0, b1, op))) : mj_Mt gT cst gnw (m + 2) y_R_takes [.ref 27, .int (nI c)] (cW s (rW (pdR r a d) tl), b0, b1, op) Q := by
  have hcc := hx.le a
  intro J hJ
  refine hJ _ _ _ _ ?_
  refine R_here0 hx ht (by omega) ?_
  refine And.intro (fun (g : ¬ nI (tx a) = nI c) => ?_) (fun (g : nI (tx a) = nI c) => ?_)
  · refine And.intro (fun _ => ?_) (fun g => absurd rfl g)
    exact And.intro (Or.inl rfl) (h0 (fun e => g (by rw [e])))
  · refine And.intro (fun (g : (1 : Int32) = 0) => absurd g (by decide)) (fun _ => ?_)
    have e : tx a = c := nIj (by omega) hc g
    have key : ∀ x : Int32, x = nI (a + 1) → Q (.inl (some (.int 1)), (cW s (rW ((pdR r a d).s_p x) tl), b0, b1, op)) := by
      rintro x rfl
      exact h1 e
    exact And.intro (Or.inr rfl) (key _ (nI_succ a).symm)
theorem R_opens (hx : txOK r.text len tx) (ht : r.typed = nI len) (ha : a ≤ 1000) (hd : d ≤ 9) (h1 : tx a = 40 → d < 9 → Q (.inl (some (.int 1)), (cW s (rW (pdR r (a + 1) (d + 1)) tl), b0, b1, op))) (h0 : ¬ (tx a = 40 ∧ d < 9) → Q (.inl (some (.int 0)), (cW s (rW (pdR r a d) tl), b0, b1, op))) : mj_Mt gT cst gnw (m + 2) y_R_opens [.ref 27] (cW s (rW (pdR r a d) tl), b0, b1, op) Q := by
  have hcc := hx.le a
  intro J hJ
  refine hJ _ _ _ _ ?_
  refine R_here0 hx ht (by omega) ?_
  refine And.intro (fun (g : ¬ nI (tx a) = 40) => ?_) (fun (g : nI (tx a) = 40) => ?_)
  · exact And.intro (Or.inl rfl) (h0 (fun e => g (by rw [e.1]; rfl)))
  · have e : tx a = 40 := nIj (j := 40) (by omega) (by decide) g
    refine And.intro (fun (g2 : ¬ nI d = 9) => ?_) (fun (g2 : nI d = 9) => ?_)
    · have hd9 : d < 9 := by
        rcases Nat.lt_or_ge d 9 with w | w
        · exact w
        · obtain rfl : d = 9 := by omega
          exact absurd rfl g2
      have key : ∀ x y : Int32, x = nI (a + 1) → y = nI (d + 1) → Q (.inl (some (.int 1)), (cW s (rW ((r.s_p x).s_depth y) tl), b0, b1, op)) := by
        rintro x y rfl rfl
        exact h1 e hd9
      exact And.intro (Or.inr rfl) (key _ _ (nI_succ a).symm (nI_succ d).symm)
    · exact And.intro (Or.inl rfl) (h0 (fun w => by
        have := nIj (i := d) (j := 9) (by omega) (by decide) g2
        omega))
theorem R_closes (hx : txOK r.text len tx) (ht : r.typed = nI len) (ha : a ≤ 1000) (h1 : tx a = 41 → Q (.inl (some (.int 1)), (cW s (rW (pdR r (a + 1) d) tl), b0, b1, op))) (h0 : ¬ tx a = 41 → Q (.inl (some (.int 0)), (cW s (rW (pdR r a (d + 1)) tl), b0, b1, op))) : mj_Mt gT cst gnw (m + 3) y_R_closes [.ref 27] (cW s (rW (pdR r a (d + 1)) tl), b0, b1, op) Q := by
  intro J hJ
  refine hJ _ _ _ _ ?_
  refine R_takes (c := 41) hx ht ha (by decide) (fun e => ?_) (fun e => ?_)
  · refine And.intro (fun (g : (1 : Int32) = 0) => absurd g (by decide)) (fun _ => ?_)
    have key : ∀ y : Int32, y = nI d → Q (.inl (some (.int 1)), (cW s (rW ((pdR r (a + 1) (d + 1)).s_depth y) tl), b0, b1, op)) := by
      rintro y rfl
      exact h1 e
    exact And.intro (Or.inr rfl) (key _ (nI_pred d))
  · refine And.intro (fun _ => ?_) (fun g => absurd rfl g)
    exact And.intro (Or.inl rfl) (h0 e)
theorem R_isDigit {h : mj_H} {c : Nat} (hc : c < 2 ^ 31) (h1 : cD c = true → Q (.inl (some (.int 1)), h)) (h0 : cD c = false → Q (.inl (some (.int 0)), h)) : mj_Mt gT cst gnw (m + 1) y_R_isDigit [.int (nI c)] h Q := by
  intro J hJ
  refine hJ _ _ _ _ ?_
  refine And.intro (fun (g : nI c < 48) => ?_) (fun (g : ¬ nI c < 48) => ?_)
  · have w : c < 48 := (nI_ltI (b := 48) hc (by decide)).mp g
    exact And.intro (Or.inl rfl) (h0 (decide_eq_false (by omega)))
  · have w : ¬ c < 48 := fun q => g (nI_lt (b := 48) q (by decide))
    refine And.intro (fun (g2 : 57 < nI c) => ?_) (fun (g2 : ¬ 57 < nI c) => ?_)
    · have w2 : 57 < c := (nI_ltI (a := 57) (by decide) hc).mp g2
      exact And.intro (Or.inl rfl) (h0 (decide_eq_false (by omega)))
    · have w2 : ¬ 57 < c := fun q => g2 (nI_lt (a := 57) q hc)
      exact And.intro (Or.inr rfl) (h1 (decide_eq_true (by omega)))
theorem R_isLetter {h : mj_H} {c : Nat} (hc : c < 2 ^ 31) (h1 : cL c = true → Q (.inl (some (.int 1)), h)) (h0 : cL c = false → Q (.inl (some (.int 0)), h)) : mj_Mt gT cst gnw (m + 1) y_R_isLetter [.int (nI c)] h Q := by
  intro J hJ
  refine hJ _ _ _ _ ?_
  refine And.intro (fun (g : nI c < 97) => ?_) (fun (g : ¬ nI c < 97) => ?_)
  · have w : c < 97 := (nI_ltI (b := 97) hc (by decide)).mp g
    exact And.intro (Or.inl rfl) (h0 (decide_eq_false (by omega)))
  · have w : ¬ c < 97 := fun q => g (nI_lt (b := 97) q (by decide))
    refine And.intro (fun (g2 : 122 < nI c) => ?_) (fun (g2 : ¬ 122 < nI c) => ?_)
    · have w2 : 122 < c := (nI_ltI (a := 122) (by decide) hc).mp g2
      exact And.intro (Or.inl rfl) (h0 (decide_eq_false (by omega)))
    · have w2 : ¬ 122 < c := fun q => g2 (nI_lt (a := 122) q hc)
      exact And.intro (Or.inr rfl) (h1 (decide_eq_true (by omega)))
theorem R_number (hx : txOK r.text len tx) (ht : r.typed = nI len) (ha : a ≤ 500) (h1 : cD (tx (pA1 tx a)) = true → Q (.inl (some (.int 1)), (cW s (rW (pdR r (pDg tx 4 (pA1 tx a) 0).1 d) tl), b0, b1, op))) (h0 : cD (tx (pA1 tx a)) = false → Q (.inl (some (.int 0)), (cW s (rW (pdR r (pA1 tx a) d) tl), b0, b1, op))) : mj_Mt gT cst gnw (m + 3) y_R_number [.ref 27] (cW s (rW (pdR r a d) tl), b0, b1, op) Q := by
  intro J hJ
  have fin : ∀ (n q : Nat) (x : Int32), n ≤ 4 → (0 < n → cD (tx (pA1 tx a)) = true ∧ q = (pDg tx 4 (pA1 tx a) 0).1) → (n = 0 → cD (tx (pA1 tx a)) = false ∧ q = pA1 tx a) → ∀ F : Nat, mj_sg (mj_Mt gT cst gnw (m + 2)) cst gnw (mj_hd (mj_off kO_R_number) kH_R_number) kC_R_number J Q (F + 20) false 22 [some (.ref 27), some (.int x), some (.int (nI n))] [] (cW s (rW (pdR r q d) tl), b0, b1, op) := by
    intro n q x hn hp hz F
    refine And.intro (fun (g : nI n ≤ 0) => ?_) (fun (g : ¬ nI n ≤ 0) => ?_)
    · have : n = 0 := by
        have := (nI_leI (b := 0) (by omega) (by decide)).mp g
        omega
      obtain ⟨e1, e2⟩ := hz this
      subst e2
      exact And.intro (Or.inl rfl) (h0 e1)
    · have : 0 < n := Nat.pos_of_ne_zero (fun e => g (by rw [e]; decide))
      obtain ⟨e1, e2⟩ := hp this
      subst e2
      refine And.intro (fun _ => ?_) (fun _ => ?_)
      · exact And.intro (Or.inr rfl) (h1 e1)
      · exact And.intro (Or.inr rfl) (h1 e1)
  have loop : ∀ (j n q : Nat) (x : Int32), j + n = 4 → q ≤ 501 + n → (pDg tx j q 0).1 = (pDg tx 4 (pA1 tx a) 0).1 → (0 < n → cD (tx (pA1 tx a)) = true) → (n = 0 → q = pA1 tx a) → J 6 [some (.ref 27), some (.int x), some (.int (nI n))] [] (cW s (rW (pdR r q d) tl), b0, b1, op) := by
    intro j
    induction j with
    | zero =>
      intro n q x hn hq e hp hz
      obtain rfl : n = 4 := by omega
      refine hJ _ _ _ _ ?_
      refine And.intro (fun _ => ?_) (fun (g : ¬ (4 : Int32) ≤ nI 4) => absurd (by decide) g)
      exact fin 4 q x (by omega) (fun w => ⟨hp w, e⟩) (fun w => by omega) _
    | succ j ih =>
      intro n q x hn hq e hp hz
      refine hJ _ _ _ _ ?_
      refine And.intro (fun (g : (4 : Int32) ≤ nI n) => absurd g (nI_ge (b := 4) (by omega) (by decide))) (fun _ => ?_)
      refine R_here0 hx ht (by omega) ?_
      have hcc := hx.le q
      have e0 : (pDg tx (j + 1) q 0).1 = if cD (tx q) then (pDg tx j (q + 1) (Int32.ofInt 10 * 0 + nI (tx q) - Int32.ofInt 48)).1 else q := by
        show (if cD (tx q) then pDg tx j (q + 1) (Int32.ofInt 10 * 0 + nI (tx q) - Int32.ofInt 48) else (q, 0)).1 = _
        split <;> rfl
      rw [e0] at e
      refine R_isDigit (by omega) (fun hd => ?_) (fun hd => ?_)
      · rw [if_pos hd, pDg_v tx j (q + 1) _ 0] at e
        refine And.intro (fun (g : (1 : Int32) = 0) => absurd g (by decide)) (fun _ => ?_)
        have key : ∀ y z : Int32, y = nI (q + 1) → z = nI (n + 1) → J 6 [some (.ref 27), some (.int x), some (.int z)] [] (cW s (rW ((pdR r q d).s_p y) tl), b0, b1, op) := by
          rintro y z rfl rfl
          refine ih (n + 1) (q + 1) x (by omega) (by omega) e (fun _ => ?_) (fun w => by omega)
          rcases Nat.eq_zero_or_pos n with w | w
          · rw [← hz w]
            exact hd
          · exact hp w
        exact key _ _ (nI_succ q).symm (nI_succ n).symm
      · rw [if_neg (by rw [hd]; decide)] at e
        refine And.intro (fun _ => ?_) (fun g => absurd rfl g)
        refine fin n q x (by omega) (fun w => ⟨hp w, e⟩) (fun w => ?_) _
        rw [← hz w]
        exact ⟨hd, rfl⟩
  refine hJ _ _ _ _ ?_
  refine R_takes (c := 45) hx ht (by omega) (by decide) (fun e => ?_) (fun e => ?_)
  · have e1 : pA1 tx a = a + 1 := if_pos e
    exact loop 4 0 (a + 1) _ (by omega) (by omega) (by rw [e1]) (fun w => absurd w (Nat.lt_irrefl 0)) (fun _ => e1.symm)
  · have e1 : pA1 tx a = a := if_neg e
    exact loop 4 0 a _ (by omega) (by omega) (by rw [e1]) (fun w => absurd w (Nat.lt_irrefl 0)) (fun _ => e1.symm)
theorem R_numberAt (hx : txOK r.text len tx) (ht : r.typed = nI len) (ha : a < len) (hQ : Q (.inl (some (.int (pVal tx a))), (cW s (rW r tl), b0, b1, op))) : mj_Mt gT cst gnw (m + 2) y_R_numberAt [.ref 27, .int (nI a)] (cW s (rW r tl), b0, b1, op) Q := by
  have h96 := hx.1
  have hca := hx.le a
  obtain ⟨ea, -⟩ := hx.2.1 a ha
  have eka : (nI a).toNatClampNeg = a := nI_clamp (by omega)
  intro J hJ
  have fin : ∀ (v x3 x5 : Int32) (b : Nat), b ≤ 1 → (b = 1 ↔ tx a = 45) → v = (pDg tx 4 (pA1 tx a) 0).2 → ∀ F : Nat, mj_sg (mj_Mt gT cst gnw (m + 1)) cst gnw (mj_hd (mj_off kO_R_numberAt) kH_R_numberAt) kC_R_numberAt J Q (F + 20) false 49 [some (.ref 27), some (.int (nI a)), some (.int (nI b)), some (.int x3), some (.int v), some (.int x5)] [] (cW s (rW r tl), b0, b1, op) := by
    intro v x3 x5 b hb hbt hv F
    subst hv
    have e0 : pVal tx a = if tx a = 45 then -(pDg tx 4 (pA1 tx a) 0).2 else (pDg tx 4 (pA1 tx a) 0).2 := rfl
    rw [e0] at hQ
    refine And.intro (fun (g : nI b = 0) => ?_) (fun (g : ¬ nI b = 0) => ?_)
    · have : b = 0 := nIj (j := 0) (by omega) (by decide) g
      rw [if_neg (fun w => by have := hbt.mpr w; omega)] at hQ
      exact hQ
    · have : b = 1 := by
        rcases Nat.lt_or_ge b 1 with w | w
        · obtain rfl : b = 0 := by omega
          exact absurd rfl g
        · omega
      rw [if_pos (hbt.mp this)] at hQ
      exact hQ
  have loop : ∀ (j n q b : Nat) (v : Int32), j + n = 4 → q ≤ 97 + n → b ≤ 1 → (b = 1 ↔ tx a = 45) → (pDg tx j q v).2 = (pDg tx 4 (pA1 tx a) 0).2 → J 22 [some (.ref 27), some (.int (nI a)), some (.int (nI b)), some (.int (nI q)), some (.int v), some (.int (nI n))] [] (cW s (rW r tl), b0, b1, op) := by
    intro j
    induction j with
    | zero =>
      intro n q b v hn hq hb hbt e
      obtain rfl : n = 4 := by omega
      refine hJ _ _ _ _ ?_
      refine And.intro (fun _ => ?_) (fun (g : ¬ (4 : Int32) ≤ nI 4) => absurd (by decide) g)
      exact fin v _ _ b hb hbt e _
    | succ j ih =>
      intro n q b v hn hq hb hbt e
      have e0 : (pDg tx (j + 1) q v).2 = if cD (tx q) then (pDg tx j (q + 1) (Int32.ofInt 10 * v + nI (tx q) - Int32.ofInt 48)).2 else v := by
        show (if cD (tx q) then pDg tx j (q + 1) (Int32.ofInt 10 * v + nI (tx q) - Int32.ofInt 48) else (q, v)).2 = _
        split <;> rfl
      rw [e0] at e
      refine hJ _ _ _ _ ?_
      refine And.intro (fun (g : (4 : Int32) ≤ nI n) => absurd g (nI_ge (b := 4) (by omega) (by decide))) (fun _ => ?_)
      refine And.intro (fun (g : r.typed ≤ nI q) => ?_) (fun (g : ¬ r.typed ≤ nI q) => ?_)
      · rw [ht] at g
        have : tx q = 0 := hx.2.2 _ ((nI_leI (by omega) (by omega)).mp g)
        rw [this, if_neg (by decide)] at e
        exact fin v _ _ b hb hbt e _
      · rw [ht] at g
        have hlt : q < len := Nat.lt_of_not_le (fun w => g (nI_le w (by omega)))
        obtain ⟨eq, -⟩ := hx.2.1 q hlt
        have hcq := hx.le q
        have ekq : (nI q).toNatClampNeg = q := nI_clamp (by omega)
        have hin : vp_in (nI q) 96 := vp_in_nI (by omega) (by decide)
        refine And.intro hin ?_
        rw [ekq, eq]
        refine R_isDigit (by omega) (fun hd => ?_) (fun hd => ?_)
        · rw [if_pos hd] at e
          refine And.intro (fun (g : (1 : Int32) = 0) => absurd g (by decide)) (fun _ => ?_)
          refine And.intro hin ?_
          rw [ekq, eq]
          have key : ∀ y z : Int32, y = nI (q + 1) → z = nI (n + 1) → J 22 [some (.ref 27), some (.int (nI a)), some (.int (nI b)), some (.int y), some (.int (Int32.ofInt 10 * v + nI (tx q) - Int32.ofInt 48)), some (.int z)] [] (cW s (rW r tl), b0, b1, op) := by
            rintro y z rfl rfl
            exact ih (n + 1) (q + 1) b _ (by omega) (by omega) hb hbt e
          exact key _ _ (nI_succ q).symm (nI_succ n).symm
        · rw [if_neg (by rw [hd]; decide)] at e
          refine And.intro (fun _ => ?_) (fun g => absurd rfl g)
          exact fin v _ _ b hb hbt e _
  refine hJ _ _ _ _ ?_
  refine And.intro (vp_in_nI (show a < 96 by omega) (by decide)) ?_
  rw [eka, ea]
  refine And.intro (fun (g : ¬ nI (tx a) = 45) => ?_) (fun (g : nI (tx a) = 45) => ?_)
  · have hne : ¬ tx a = 45 := fun e => g (by rw [e]; rfl)
    have e1 : pA1 tx a = a := if_neg hne
    refine And.intro (fun _ => ?_) (fun g => absurd rfl g)
    exact loop 4 0 a 0 0 (by omega) (by omega) (by omega) ⟨fun w => by omega, fun w => absurd w hne⟩ (by rw [e1])
  · have he : tx a = 45 := nIj (j := 45) (by omega) (by decide) g
    have e1 : pA1 tx a = a + 1 := if_pos he
    refine And.intro (fun (g : (1 : Int32) = 0) => absurd g (by decide)) (fun _ => ?_)
    have key : ∀ y : Int32, y = nI (a + 1) → J 22 [some (.ref 27), some (.int (nI a)), some (.int (nI 1)), some (.int y), some (.int 0), some (.int (nI 0))] [] (cW s (rW r tl), b0, b1, op) := by
      rintro y rfl
      exact loop 4 0 (a + 1) 1 0 (by omega) (by omega) (by omega) ⟨fun _ => he, fun _ => rfl⟩ (by rw [e1])
    exact key _ (nI_succ a).symm
end RD1
