section RD6
variable {cst : Nat → Option (Nat × (Nat → Int32))} {m b0 b1 : Nat} {op : Bool} {tl : List mj_O} {Q : mj_R → Prop} {s : cS} {r : rM} {a d n len : Nat} {tx : Nat → Nat} {J : Nat → mj_L → List Value → mj_H → Prop}
set_option maxRecDepth 10000
theorem G_108 (hx : txOK r.text len tx) (ht : r.typed = nI len) (ha : a ≤ 900) (h1 : tx a = 41 → Q (.inl (some (.int 0)), (cW s (rW (pdR r (a + 1) d) tl), b0, b1, op))) (h0 : ¬ tx a = 41 → Q (.inl (some (.int (-1))), (cW s (rW (pdR r a (d + 1)) tl), b0, b1, op))) (F : Nat) :
    mj_sg (mj_Mt gT cst gnw (m + 3)) cst gnw (mj_hd (mj_off kO_R_goOn) kH_R_goOn) kC_R_goOn J Q (F + 20) false 108 [some (.ref 27), some (.int (nI n))] [] (cW s (rW (pdR r a (d + 1)) tl), b0, b1, op) := by
  refine R_closes hx ht (by omega) (fun e => ?_) (fun e => ?_)
  · refine And.intro (fun (g : (1 : Int32) = 0) => absurd g (by decide)) (fun _ => ?_)
    exact h1 e
  · refine And.intro (fun _ => ?_) (fun g => absurd rfl g)
    exact h0 e
theorem G_43 (hn : n < 100) (h6 : ¬ r.kind n = 6) (h7 : ¬ r.kind n = 7) (hx : txOK r.text len tx) (ht : r.typed = nI len) (ha : a ≤ 900) (h1 : tx a = 41 → Q (.inl (some (.int 0)), (cW s (rW (pdR r (a + 1) d) tl), b0, b1, op))) (h0 : ¬ tx a = 41 → Q (.inl (some (.int (-1))), (cW s (rW (pdR r a (d + 1)) tl), b0, b1, op))) (F : Nat) :
    mj_sg (mj_Mt gT cst gnw (m + 3)) cst gnw (mj_hd (mj_off kO_R_goOn) kH_R_goOn) kC_R_goOn J Q (F + 60) false 43 [some (.ref 27), some (.int (nI n))] [] (cW s (rW (pdR r a (d + 1)) tl), b0, b1, op) := by
  have hin : vp_in (nI n) 100 := vp_in_nI hn (by decide)
  have ekn : (nI n).toNatClampNeg = n := nI_clamp (by omega)
  refine And.intro hin ?_
  rw [ekn]
  refine And.intro (fun (g : r.kind n = 6) => absurd g h6) (fun _ => ?_)
  refine And.intro hin ?_
  rw [ekn]
  refine And.intro (fun _ => ?_) (fun (g : r.kind n = 7) => absurd g h7)
  exact G_108 hx ht ha h1 h0 _
theorem R_go5 (hn : n < 100) (hk : r.kind n = 5) (hx : txOK r.text len tx) (ht : r.typed = nI len) (ha : a ≤ 900) (h1 : tx a = 41 → Q (.inl (some (.int 0)), (cW s (rW (pdR r (a + 1) d) tl), b0, b1, op))) (h0 : ¬ tx a = 41 → Q (.inl (some (.int (-1))), (cW s (rW (pdR r a (d + 1)) tl), b0, b1, op))) :
    mj_Mt gT cst gnw (m + 4) y_R_goOn [.ref 27, .int (nI n)] (cW s (rW (pdR r a (d + 1)) tl), b0, b1, op) Q := by
  have hin : vp_in (nI n) 100 := vp_in_nI hn (by decide)
  have ekn : (nI n).toNatClampNeg = n := nI_clamp (by omega)
  intro J hJ
  refine hJ _ _ _ _ ?_
  refine And.intro hin ?_
  rw [ekn]
  refine And.intro (fun _ => ?_) (fun (g : r.kind n = 3) => absurd (hk.symm.trans g) (by decide))
  refine And.intro hin ?_
  rw [ekn]
  refine And.intro (fun _ => ?_) (fun (g : r.kind n = 4) => absurd (hk.symm.trans g) (by decide))
  exact G_43 hn (by rw [hk]; decide) (by rw [hk]; decide) hx ht ha h1 h0 _
theorem R_go4 {k : Nat} (hn : n < 100) (hk : r.kind n = 4) (hm : r.many n = nI k) (hk10 : k ≤ 10) (hx : txOK r.text len tx) (ht : r.typed = nI len) (ha : a ≤ 900) (hs : k < 4 → tx a = 32 → Q (.inl (some (.int 1)), (cW s (rW (pdR r (a + 1) (d + 1)) tl), b0, b1, op))) (h1 : ¬ (k < 4 ∧ tx a = 32) → tx a = 41 → Q (.inl (some (.int 0)), (cW s (rW (pdR r (a + 1) d) tl), b0, b1, op))) (h0 : ¬ (k < 4 ∧ tx a = 32) → ¬ tx a = 41 → Q (.inl (some (.int (-1))), (cW s (rW (pdR r a (d + 1)) tl), b0, b1, op))) :
    mj_Mt gT cst gnw (m + 4) y_R_goOn [.ref 27, .int (nI n)] (cW s (rW (pdR r a (d + 1)) tl), b0, b1, op) Q := by
  have hin : vp_in (nI n) 100 := vp_in_nI hn (by decide)
  have ekn : (nI n).toNatClampNeg = n := nI_clamp (by omega)
  intro J hJ
  refine hJ _ _ _ _ ?_
  refine And.intro hin ?_
  rw [ekn]
  refine And.intro (fun _ => ?_) (fun (g : r.kind n = 3) => absurd (hk.symm.trans g) (by decide))
  refine And.intro hin ?_
  rw [ekn]
  refine And.intro (fun (g : ¬ r.kind n = 4) => absurd hk g) (fun _ => ?_)
  refine And.intro hin ?_
  rw [ekn]
  refine And.intro (fun (g : (4 : Int32) ≤ r.many n) => ?_) (fun (g : ¬ (4 : Int32) ≤ r.many n) => ?_)
  · rw [hm] at g
    have hk4 : ¬ k < 4 := fun w => nI_ge (b := 4) w (by decide) g
    exact G_43 hn (by rw [hk]; decide) (by rw [hk]; decide) hx ht ha (h1 (fun w => hk4 w.1)) (h0 (fun w => hk4 w.1)) _
  · rw [hm] at g
    have hk4 : k < 4 := Nat.lt_of_not_le (fun w => g (nI_le (a := 4) w (by omega)))
    refine R_takes (c := 32) hx ht (by omega) (by decide) (fun e => ?_) (fun e => ?_)
    · refine And.intro (fun (g : (1 : Int32) = 0) => absurd g (by decide)) (fun _ => ?_)
      exact hs hk4 e
    · refine And.intro (fun _ => ?_) (fun g => absurd rfl g)
      exact G_43 hn (by rw [hk]; decide) (by rw [hk]; decide) hx ht ha (h1 (fun w => e w.2)) (h0 (fun w => e w.2)) _
theorem R_go3 {k c : Nat} (hn : n < 100) (hk : r.kind n = 3) (hv : r.value n = nI c) (hc : c < 256) (hm : r.many n = nI k) (hk10 : k ≤ 10) (hx : txOK r.text len tx) (ht : r.typed = nI len) (ha : a ≤ 900) (hs : k < ar c → tx a = 32 → Q (.inl (some (.int 1)), (cW s (rW (pdR r (a + 1) (d + 1)) tl), b0, b1, op))) (hs0 : k < ar c → ¬ tx a = 32 → Q (.inl (some (.int (-1))), (cW s (rW (pdR r a (d + 1)) tl), b0, b1, op))) (h1 : ¬ k < ar c → tx a = 41 → Q (.inl (some (.int 0)), (cW s (rW (pdR r (a + 1) d) tl), b0, b1, op))) (h0 : ¬ k < ar c → ¬ tx a = 41 → Q (.inl (some (.int (-1))), (cW s (rW (pdR r a (d + 1)) tl), b0, b1, op))) :
    mj_Mt gT cst gnw (m + 4) y_R_goOn [.ref 27, .int (nI n)] (cW s (rW (pdR r a (d + 1)) tl), b0, b1, op) Q := by
  have hin : vp_in (nI n) 100 := vp_in_nI hn (by decide)
  have ekn : (nI n).toNatClampNeg = n := nI_clamp (by omega)
  have ha3 := ar_le c
  intro J hJ
  refine hJ _ _ _ _ ?_
  refine And.intro hin ?_
  rw [ekn]
  refine And.intro (fun (g : ¬ r.kind n = 3) => absurd hk g) (fun _ => ?_)
  refine And.intro hin ?_
  rw [ekn]
  refine And.intro hin ?_
  have key : ∀ x : Int32, x = nI c → ∀ Q' : mj_R → Prop, Q' (.inl (some (.int (nI (ar c)))), (cW s (rW (pdR r a (d + 1)) tl), b0, b1, op)) → mj_Mt gT cst gnw (m + 3) y_R_arity [.int x] (cW s (rW (pdR r a (d + 1)) tl), b0, b1, op) Q' := by
    rintro x rfl Q' h
    exact R_arity (by omega) h
  refine key _ ?_ _ ?_
  · show ((r.value (nI n).toNatClampNeg).toUInt32 % 65536).toInt32 = nI c
    rw [ekn, hv]
    exact (sb_byte c (by omega)).2.1
  refine And.intro (fun (g : nI (ar c) ≤ r.many n) => ?_) (fun (g : ¬ nI (ar c) ≤ r.many n) => ?_)
  · rw [hm] at g
    have hka : ¬ k < ar c := fun w => nI_ge w (by omega) g
    refine And.intro hin ?_
    rw [ekn]
    refine And.intro (fun _ => ?_) (fun (g : r.kind n = 4) => absurd (hk.symm.trans g) (by decide))
    exact G_43 hn (by rw [hk]; decide) (by rw [hk]; decide) hx ht ha (h1 hka) (h0 hka) _
  · rw [hm] at g
    have hka : k < ar c := Nat.lt_of_not_le (fun w => g (nI_le w (by omega)))
    refine R_takes (c := 32) hx ht (by omega) (by decide) (fun e => ?_) (fun e => ?_)
    · refine And.intro (fun (g : (1 : Int32) = 0) => absurd g (by decide)) (fun _ => ?_)
      exact hs hka e
    · refine And.intro (fun _ => ?_) (fun g => absurd rfl g)
      exact hs0 hka e
theorem G_96 {rc : Bool} {i1 : Nat} {bs : List Nat} (hx : txOK r.text len tx) (ht : r.typed = nI len) (ha : a ≤ len) (hd : d ≤ 9) (hn : n < 100) (hk : r.kind n = if rc = true then 7 else 6) (hf1 : r.first n = nI i1) (hi1 : i1 < 100) (hch : chL r.next r.bound (bs.map nI) (r.next i1)) (hbs : ∀ c ∈ bs, c < 256)
    (h1 : tx a = 32 → gB0 tx rc d (a + 1) bs = none → Q (.inl (some (.int 1)), (cW s (rW (pdR (ltR r (3 * n) (nI (tx (a + 1 + 1)))) (a + 1 + 1 + 1 + 1) (d + 1)) tl), b0, b1, op)))
    (h0 : ∀ a' r' d', tx a = 32 → gB0 tx rc d (a + 1) bs = some a' → a' ≤ len → kr r r' → Q (.inl (some (.int (-1))), (cW s (rW (pdR r' a' d') tl), b0, b1, op)))
    (h2 : ¬ tx a = 32 → Q (.inl (some (.int (-1))), (cW s (rW (pdR r a d) tl), b0, b1, op))) (F : Nat) :
    mj_sg (mj_Mt gT cst gnw (m + 3)) cst gnw (mj_hd (mj_off kO_R_goOn) kH_R_goOn) kC_R_goOn J Q (F + 20) false 96 [some (.ref 27), some (.int (nI n))] [] (cW s (rW (pdR r a d) tl), b0, b1, op) := by
  have h96 := hx.1
  refine R_takes (c := 32) hx ht (by omega) (by decide) (fun e => ?_) (fun e => ?_)
  · have hlt := hx.lt (a := a) (by omega)
    refine And.intro (fun (g : (1 : Int32) = 0) => absurd g (by decide)) (fun _ => ?_)
    refine R_binding (rc := rc) (i1 := i1) (bs := bs) hx ht (by omega) hd hn hk hf1 hi1 hch hbs (fun q => ?_) (fun a' r' d' q1 q2 q3 => ?_)
    · refine And.intro (fun (g : (1 : Int32) = 0) => absurd g (by decide)) (fun _ => ?_)
      exact h1 e q
    · refine And.intro (fun _ => ?_) (fun g => absurd rfl g)
      exact h0 a' r' d' e q1 q2 q3
  · refine And.intro (fun _ => ?_) (fun g => absurd rfl g)
    exact h2 e
theorem R_go6a {rc : Bool} {i1 : Nat} (hx : txOK r.text len tx) (ht : r.typed = nI len) (ha : a ≤ len) (hd : d ≤ 9) (hn : n < 100) (hk : r.kind n = if rc = true then 7 else 6) (hm : r.many n = 1) (hf1 : r.first n = nI i1) (hi1 : i1 < 100) (hch : r.next i1 = -1)
    (h1 : tx a = 32 → gB0 tx rc d (a + 1) [] = none → Q (.inl (some (.int 1)), (cW s (rW (pdR (ltR r (3 * n) (nI (tx (a + 1 + 1)))) (a + 1 + 1 + 1 + 1) (d + 1)) tl), b0, b1, op)))
    (h0 : ∀ a' r' d', tx a = 32 → gB0 tx rc d (a + 1) [] = some a' → a' ≤ len → kr r r' → Q (.inl (some (.int (-1))), (cW s (rW (pdR r' a' d') tl), b0, b1, op)))
    (h2 : ¬ tx a = 32 → Q (.inl (some (.int (-1))), (cW s (rW (pdR r a d) tl), b0, b1, op))) :
    mj_Mt gT cst gnw (m + 4) y_R_goOn [.ref 27, .int (nI n)] (cW s (rW (pdR r a d) tl), b0, b1, op) Q := by
  have hin : vp_in (nI n) 100 := vp_in_nI hn (by decide)
  have ekn : (nI n).toNatClampNeg = n := nI_clamp (by omega)
  have hkk : r.kind n = 6 ∨ r.kind n = 7 := by
    cases rc with
    | false => exact Or.inl hk
    | true => exact Or.inr hk
  have n3 : ¬ r.kind n = 3 := by rcases hkk with e | e <;> rw [e] <;> decide
  have n4 : ¬ r.kind n = 4 := by rcases hkk with e | e <;> rw [e] <;> decide
  intro J hJ
  have go : ∀ F : Nat, mj_sg (mj_Mt gT cst gnw (m + 3)) cst gnw (mj_hd (mj_off kO_R_goOn) kH_R_goOn) kC_R_goOn J Q (F + 100) false 55 [some (.ref 27), some (.int (nI n))] [] (cW s (rW (pdR r a d) tl), b0, b1, op) := by
    intro F
    refine And.intro hin ?_
    rw [ekn]
    refine And.intro (fun _ => ?_) (fun (g : ¬ r.many n ≤ 1) => absurd (by rw [hm]; decide) g)
    refine And.intro hin ?_
    rw [ekn]
    refine And.intro (fun _ => ?_) (fun (g : ¬ r.many n = 1) => absurd hm g)
    exact G_96 (rc := rc) (i1 := i1) (bs := []) hx ht ha hd hn hk hf1 hi1 hch (fun c hc => absurd hc List.not_mem_nil) h1 h0 h2 _
  refine hJ _ _ _ _ ?_
  refine And.intro hin ?_
  rw [ekn]
  refine And.intro (fun _ => ?_) (fun (g : r.kind n = 3) => absurd g n3)
  refine And.intro hin ?_
  rw [ekn]
  refine And.intro (fun _ => ?_) (fun (g : r.kind n = 4) => absurd g n4)
  refine And.intro hin ?_
  rw [ekn]
  refine And.intro (fun _ => go _) (fun (g : ¬ r.kind n = 6) => ?_)
  refine And.intro hin ?_
  rw [ekn]
  exact And.intro (fun (g2 : ¬ r.kind n = 7) => (hkk.elim (fun e => absurd e g) (fun e => absurd e g2))) (fun _ => go _)
theorem R_go6b {rc : Bool} {i1 l k : Nat} {bs : List Nat} (hx : txOK r.text len tx) (ht : r.typed = nI len) (ha : a ≤ len) (hd : d + 1 ≤ 9) (hn : n < 100) (hk : r.kind n = if rc = true then 7 else 6) (hm : r.many n = nI k) (hk2 : 2 ≤ k) (hk10 : k ≤ 10) (hf1 : r.first n = nI i1) (hi1 : i1 < 100) (hl : r.last n = nI l) (hl100 : l < 100) (hch : chL r.next (upd r.bound l (r.letters (3 * n))) (bs.map nI) (r.next i1)) (hbs : ∀ c ∈ bs, c < 256)
    (hc0 : ¬ tx a = 41 → Q (.inl (some (.int (-1))), (cW s (rW (pdR (boR r l (r.letters (3 * n))) a (d + 1 + 1)) tl), b0, b1, op)))
    (h1 : tx a = 41 → k < 4 → tx (a + 1) = 32 → gB0 tx rc (d + 1) (a + 1 + 1) bs = none → Q (.inl (some (.int 1)), (cW s (rW (pdR (ltR (boR r l (r.letters (3 * n))) (3 * n) (nI (tx (a + 1 + 1 + 1)))) (a + 1 + 1 + 1 + 1 + 1) (d + 1 + 1)) tl), b0, b1, op)))
    (h0 : ∀ a' r' d', tx a = 41 → k < 4 → tx (a + 1) = 32 → gB0 tx rc (d + 1) (a + 1 + 1) bs = some a' → a' ≤ len → kr r r' → Q (.inl (some (.int (-1))), (cW s (rW (pdR r' a' d') tl), b0, b1, op)))
    (h3 : tx a = 41 → ¬ (k < 4 ∧ tx (a + 1) = 32) → tx (a + 1) = 41 → Q (.inl (some (.int 0)), (cW s (rW (pdR (boR r l (r.letters (3 * n))) (a + 1 + 1) d) tl), b0, b1, op)))
    (h4 : tx a = 41 → ¬ (k < 4 ∧ tx (a + 1) = 32) → ¬ tx (a + 1) = 41 → Q (.inl (some (.int (-1))), (cW s (rW (pdR (boR r l (r.letters (3 * n))) (a + 1) (d + 1)) tl), b0, b1, op))) :
    mj_Mt gT cst gnw (m + 4) y_R_goOn [.ref 27, .int (nI n)] (cW s (rW (pdR r a (d + 1 + 1)) tl), b0, b1, op) Q := by
  have h96 := hx.1
  have hin : vp_in (nI n) 100 := vp_in_nI hn (by decide)
  have ekn : (nI n).toNatClampNeg = n := nI_clamp (by omega)
  have hkk : r.kind n = 6 ∨ r.kind n = 7 := by
    cases rc with
    | false => exact Or.inl hk
    | true => exact Or.inr hk
  have n3 : ¬ r.kind n = 3 := by rcases hkk with e | e <;> rw [e] <;> decide
  have n4 : ¬ r.kind n = 4 := by rcases hkk with e | e <;> rw [e] <;> decide
  have i3 : Int32.ofInt 3 * nI n = nI (3 * n) := three_n n
  intro J hJ
  have go79 : tx a = 41 → ∀ F : Nat, mj_sg (mj_Mt gT cst gnw (m + 3)) cst gnw (mj_hd (mj_off kO_R_goOn) kH_R_goOn) kC_R_goOn J Q (F + 60) false 79 [some (.ref 27), some (.int (nI n))] [] (cW s (rW (pdR (boR r l (r.letters (3 * n))) (a + 1) (d + 1)) tl), b0, b1, op) := by
    intro e41 F
    have hlt := hx.lt (a := a) (by omega)
    have hc1 := hx.le (a + 1)
    refine And.intro hin ?_
    rw [ekn]
    refine And.intro (fun (g : r.many n = 1) => ?_) (fun _ => ?_)
    · rw [hm] at g
      have := nIj (j := 1) (by omega) (by decide) g
      omega
    refine And.intro hin ?_
    rw [ekn]
    refine And.intro (fun (g : (4 : Int32) ≤ r.many n) => ?_) (fun (g : ¬ (4 : Int32) ≤ r.many n) => ?_)
    · rw [hm] at g
      have hk4 : ¬ k < 4 := fun w => nI_ge (b := 4) w (by decide) g
      exact G_108 (r := boR r l (r.letters (3 * n))) hx ht (by omega) (h3 e41 (fun w => hk4 w.1)) (h4 e41 (fun w => hk4 w.1)) _
    · rw [hm] at g
      have hk4 : k < 4 := Nat.lt_of_not_le (fun w => g (nI_le (a := 4) w (by omega)))
      refine R_here0 (r := boR r l (r.letters (3 * n))) hx ht (by omega) ?_
      refine And.intro (fun (g2 : ¬ nI (tx (a + 1)) = 32) => ?_) (fun (g2 : nI (tx (a + 1)) = 32) => ?_)
      · have n32 : ¬ tx (a + 1) = 32 := fun e => g2 (by rw [e]; rfl)
        exact G_108 (r := boR r l (r.letters (3 * n))) hx ht (by omega) (h3 e41 (fun w => n32 w.2)) (h4 e41 (fun w => n32 w.2)) _
      · have e32 : tx (a + 1) = 32 := nIj (j := 32) (by omega) (by decide) g2
        exact G_96 (r := boR r l (r.letters (3 * n))) (rc := rc) (i1 := i1) (bs := bs) hx ht (by omega) hd hn hk hf1 hi1 hch hbs (fun _ => h1 e41 hk4 e32) (fun a' r' d' _ => h0 a' r' d' e41 hk4 e32) (fun w => absurd e32 w) _
  have go : ∀ F : Nat, mj_sg (mj_Mt gT cst gnw (m + 3)) cst gnw (mj_hd (mj_off kO_R_goOn) kH_R_goOn) kC_R_goOn J Q (F + 100) false 55 [some (.ref 27), some (.int (nI n))] [] (cW s (rW (pdR r a (d + 1 + 1)) tl), b0, b1, op) := by
    intro F
    refine And.intro hin ?_
    rw [ekn]
    refine And.intro (fun (g : r.many n ≤ 1) => ?_) (fun _ => ?_)
    · rw [hm] at g
      have := (nI_leI (b := 1) (by omega) (by decide)).mp g
      omega
    refine And.intro hin ?_
    have el : (pdR r a (d + 1 + 1)).last (nI n).toNatClampNeg = nI l := by
      rw [ekn]
      exact hl
    rw [el]
    refine And.intro (show vp_in (Int32.ofInt 3 * nI n) 300 by rw [i3]; exact vp_in_nI (by omega) (by decide)) ?_
    refine And.intro (vp_in_nI hl100 (by decide)) ?_
    have key : ∀ B : Nat → Int32, B = upd r.bound l (r.letters (3 * n)) → ∀ F : Nat, mj_sg (mj_Mt gT cst gnw (m + 3)) cst gnw (mj_hd (mj_off kO_R_goOn) kH_R_goOn) kC_R_goOn J Q (F + 80) false 74 [some (.ref 27), some (.int (nI n))] [] (cW s (rW ((pdR r a (d + 1 + 1)).s_bound B) tl), b0, b1, op) := by
      rintro B rfl F
      refine R_closes (r := boR r l (r.letters (3 * n))) (a := a) (d := d + 1) hx ht (by omega) (fun e => ?_) (fun e => ?_)
      · refine And.intro (fun _ => go79 e _) (fun (g : (1 : Int32) = 0) => absurd g (by decide))
      · refine And.intro (fun g => absurd rfl g) (fun _ => ?_)
        exact hc0 e
    refine key (upd r.bound (nI l).toNatClampNeg (r.letters (Int32.ofInt 3 * nI n).toNatClampNeg)) ?_ _
    rw [i3, nI_clamp (by omega), nI_clamp (by omega)]
  refine hJ _ _ _ _ ?_
  refine And.intro hin ?_
  rw [ekn]
  refine And.intro (fun _ => ?_) (fun (g : r.kind n = 3) => absurd g n3)
  refine And.intro hin ?_
  rw [ekn]
  refine And.intro (fun _ => ?_) (fun (g : r.kind n = 4) => absurd g n4)
  refine And.intro hin ?_
  rw [ekn]
  refine And.intro (fun _ => go _) (fun (g : ¬ r.kind n = 6) => ?_)
  refine And.intro hin ?_
  rw [ekn]
  exact And.intro (fun (g2 : ¬ r.kind n = 7) => (hkk.elim (fun e => absurd e g) (fun e => absurd e g2))) (fun _ => go _)
end RD6
