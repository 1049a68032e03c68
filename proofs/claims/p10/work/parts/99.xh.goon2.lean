section
section RD6
variable {cst : Nat → Option (Nat × (Nat → Int32))} {m b0 b1 : Nat} {op : Bool} {tl : List mj_O} {Q : mj_R → Prop} {s : cS} {r : rM} {a d n len : Nat} {tx : Nat → Nat} {J : Nat → mj_L → List Value → mj_H → Prop}
set_option maxRecDepth 10000
theorem G_108 (hx : txOK r.text len tx) (ht : r.typed = nI len) (ha : a ≤ 900) (h1 : tx a = 41 → Q (.inl (some (.int 0)), (cW s (rW (pdR r (a + 1) d) tl), b0, b1, op))) (h0 : ¬ tx a = 41 → Q (.inl (some (.int (-1))), (cW s (rW (pdR r a (d + 1)) tl), b0, b1, op))) (F : Nat) :
    mj_sg (mj_Mt gT cst gnw (m + 3)) cst gnw (mj_hd (mj_off kO_R_goOn) kH_R_goOn) kC_R_goOn J Q (F + 20) false 108 [some (.ref 27), some (.int (nI n))] [] (cW s (rW (pdR r a (d + 1)) tl), b0, b1, op) := by
  refine R_closes hx ht (by omega) (fun e => ?_) (fun e => ?_)
  · refine And.intro (fun (g : (1 : Int32) = 0) => absurd g (by decide)) (fun _ => ?_)
    exact h1 e
  · refine And.intro (fun _ => ?_) (fun g => absurd rfl g)
    exact h0 e
theorem G_43 (hn : n < 100) (h6 : ¬ r.kind n = 6) (h7 : ¬ r.kind n = 7) (hx : txOK r.text len tx) (ht : r.typed = nI len) (ha : a ≤ 900) (h1 : tx a = 41 → Q (.inl (some (.int 0)), (cW s (rW (pdR r (a + 1) d) tl), b0, b1, op))) (h0 : ¬ tx a = 41 → Q (.inl (some (.int (-1))), (cW s (rW (pdR r a (d + 1)) tl), b0, b1, op))) (F : Nat) :
    mj_sg (mj_Mt gT cst gnw (m + 3)) cst gnw (mj_hd (mj_off kO_R_goOn) kH_R_goOn) kC_R_goOn J Q (F + 60) false 43 [some (.ref 27), some (.int (nI n))] [] (cW s (rW (pdR r a (d + 1)) tl), b0, b1, op) := by
  have hin : vp_in (nI n) 100 := vp_in_nI hn (by decide)
  have ekn : (nI n).toNatClampNeg = n := nI_clamp (by omega)
  refine And.intro hin ?_
  rw [ekn]
  refine And.intro (fun (g : r.kind n = 6) => absurd g h6) (fun _ => ?_)
  refine And.intro hin ?_
  rw [ekn]
  refine And.intro (fun _ => ?_) (fun (g : r.kind n = 7) => absurd g h7)
  exact G_108 hx ht ha h1 h0 _
theorem R_go5 (hn : n < 100) (hk : r.kind n = 5) (hx : txOK r.text len tx) (ht : r.typed = nI len) (ha : a ≤ 900) (h1 : tx a = 41 → Q (.inl (some (.int 0)), (cW s (rW (pdR r (a + 1) d) tl), b0, b1, op))) (h0 : ¬ tx a = 41 → Q (.inl (some (.int (-1))), (cW s (rW (pdR r a (d + 1)) tl), b0, b1, op))) :
    mj_Mt gT cst gnw (m + 4) y_R_goOn [.ref 27, .int (nI n)] (cW s (rW (pdR r a (d + 1)) tl), b0, b1, op) Q := by
  have hin : vp_in (nI n) 100 := vp_in_nI hn (by decide)
  have ekn : (nI n).toNatClampNeg = n := nI_clamp (by omega)
  intro J hJ
  refine hJ _ _ _ _ ?_
  refine And.intro hin ?_
  rw [ekn]
  refine And.intro (fun _ => ?_) (fun (g : r.kind n = 3) => absurd (hk.symm.trans g) (by decide))
  refine And.intro hin ?_
  rw [ekn]
  refine And.intro (fun _ => ?_) (fun (g : r.kind n = 4) => absurd (hk.symm.trans g) (by decide))
  exact G_43 hn (by rw [hk]; decide) (by rw [hk]; decide) hx ht ha h1 h0 _
theorem R_go4 {k : Nat} (hn : n < 100) (hk : r.kind n = 4) (hm : r.many n = nI k) (hk10 : k ≤ 10) (hx : txOK r.text len tx) (ht : r.typed = nI len) (ha : a ≤ 900) (hs : k < 4 → tx a = 32 → Q (.inl (some (.int 1)), (cW s (rW (pdR r (a + 1) (d + 1)) tl), b0, b1, op))) (h1 : ¬ (k < 4 ∧ tx a = 32) → tx a = 41 → Q (.inl (some (.int 0)), (cW s (rW (pdR r (a + 1) d) tl), b0, b1, op))) (h0 : ¬ (k < 4 ∧ tx a = 32) → ¬ tx a = 41 → Q (.inl (some (.int (-1))), (cW s (rW (pdR r a (d + 1)) tl), b0, b1, op))) :
    mj_Mt gT cst gnw (m + 4) y_R_goOn [.ref 27, .int (nI n)] (cW s (rW (pdR r a (d + 1)) tl), b0, b1, op) Q := by
  have hin : vp_in (nI n) 100 := vp_in_nI hn (by decide)
  have ekn : (nI n).toNatClampNeg = n := nI_clamp (by omega)
  intro J hJ
  refine hJ _ _ _ _ ?_
  refine And.intro hin ?_
  rw [ekn]
  refine And.intro (fun _ => ?_) (fun (g : r.kind n = 3) => absurd (hk.symm.trans g) (by decide))
  refine And.intro hin ?_
  rw [ekn]
  refine And.intro (fun (g : ¬ r.kind n = 4) => absurd hk g) (fun _ => ?_)
  refine And.intro hin ?_
  rw [ekn]
  refine And.intro (fun (g : (4 : Int32) ≤ r.many n) => ?_) (fun (g : ¬ (4 : Int32) ≤ r.many n) => ?_)
  · rw [hm] at g
    have hk4 : ¬ k < 4 := fun w => nI_ge (b := 4) w (by decide) g
    exact G_43 hn (by rw [hk]; decide) (by rw [hk]; decide) hx ht ha (h1 (fun w => hk4 w.1)) (h0 (fun w => hk4 w.1)) _
  · rw [hm] at g
    have hk4 : k < 4 := Nat.lt_of_not_le (fun w => g (nI_le (a := 4) w (by omega)))
    refine R_takes (c := 32) hx ht (by omega) (by decide) (fun e => ?_) (fun e => ?_)
    · refine And.intro (fun (g : (1 : Int32) = 0) => absurd g (by decide)) (fun _ => ?_)
      exact hs hk4 e
    · refine And.intro (fun _ => ?_) (fun g => absurd rfl g)
      exact G_43 hn (by rw [hk]; decide) (by rw [hk]; decide) hx ht ha (h1 (fun w => e w.2)) (h0 (fun w => e w.2)) _
theorem R_go3 {k c : Nat} (hn : n < 100) (hk : r.kind n = 3) (hv : r.value n = nI c) (hc : c < 256) (hm : r.many n = nI k) (hk10 : k ≤ 10) (hx : txOK r.text len tx) (ht : r.typed = nI len) (ha : a ≤ 900) (hs : k < ar c → tx a = 32 → Q (.inl (some (.int 1)), (cW s (rW (pdR r (a + 1) (d + 1)) tl), b0, b1, op))) (hs0 : k < ar c → ¬ tx a = 32 → Q (.inl (some (.int (-1))), (cW s (rW (pdR r a (d + 1)) tl), b0, b1, op))) (h1 : ¬ k < ar c → tx a = 41 → Q (.inl (some (.int 0)), (cW s (rW (pdR r (a + 1) d) tl), b0, b1, op))) (h0 : ¬ k < ar c → ¬ tx a = 41 → Q (.inl (some (.int (-1))), (cW s (rW (pdR r a (d + 1)) tl), b0, b1, op))) :
    mj_Mt gT cst gnw (m + 4) y_R_goOn [.ref 27, .int (nI n)] (cW s (rW (pdR r a (d + 1)) tl), b0, b1, op) Q := by
  have hin : vp_in (nI n) 100 := vp_in_nI hn (by decide)
  have ekn : (nI n).toNatClampNeg = n := nI_clamp (by omega)
  have ha3 := ar_le c
  intro J hJ
  refine hJ _ _ _ _ ?_
  refine And.intro hin ?_
  rw [ekn]
  refine And.intro (fun (g : ¬ r.kind n = 3) => absurd hk g) (fun _ => ?_)
  refine And.intro hin ?_
  rw [ekn]
  refine And.intro hin ?_
  have key : ∀ x : Int32, x = nI c → ∀ Q' : mj_R → Prop, Q' (.inl (some (.int (nI (ar c)))), (cW s (rW (pdR r a (d + 1)) tl), b0, b1, op)) → mj_Mt gT cst gnw (m + 3) y_R_arity [.int x] (cW s (rW (pdR r a (d + 1)) tl), b0, b1, op) Q' := by
    rintro x rfl Q' h
    exact R_arity (by omega) h
  refine key _ ?_ _ ?_
  · show ((r.value (nI n).toNatClampNeg).toUInt32 % 65536).toInt32 = nI c
    rw [ekn, hv]
    exact (sb_byte c (by omega)).2.1
  refine And.intro (fun (g : nI (ar c) ≤ r.many n) => ?_) (fun (g : ¬ nI (ar c) ≤ r.many n) => ?_)
  · rw [hm] at g
    have hka : ¬ k < ar c := fun w => nI_ge w (by omega) g
    refine And.intro hin ?_
    rw [ekn]
    refine And.intro (fun _ => ?_) (fun (g : r.kind n = 4) => absurd (hk.symm.trans g) (by decide))
    exact G_43 hn (by rw [hk]; decide) (by rw [hk]; decide) hx ht ha (h1 hka) (h0 hka) _
  · rw [hm] at g
    have hka : k < ar c := Nat.lt_of_not_le (fun w => g (nI_le w (by omega)))
    refine R_takes (c := 32) hx ht (by omega) (by decide) (fun e => ?_) (fun e => ?_)
    · refine And.intro (fun (g : (1 : Int32) = 0) => absurd g (by decide)) (fun _ => ?_)
      exact hs hka e
    · refine And.intro (fun _ => ?_) (fun g => absurd rfl g)
      exact hs0 hka e
theorem G_96 {rc : Bool} {i1 : Nat} {bs : List Nat} (hx : txOK r.text len tx) (ht : r.typed = nI len) (ha : a ≤ len) (hd : d ≤ 9) (hn : n < 100) (hk : r.kind n = if rc = true then 7 else 6) (hf1 : r.first n = nI i1) (hi1 : i1 < 100) (hch : chL r.next r.bound (bs.map nI) (r.next i1)) (hbs : ∀ c ∈ bs, c < 256)
    (h1 : tx a = 32 → gB0 tx rc d (a + 1) bs = none → Q (.inl (some (.int 1)), (cW s (rW (pdR (ltR r (3 * n) (nI (tx (a + 1 + 1)))) (a + 1 + 1 + 1 + 1) (d + 1)) tl), b0, b1, op)))
    (h0 : ∀ a' r' d', tx a = 32 → gB0 tx rc d (a + 1) bs = some a' → a' ≤ len → kr r r' → Q (.inl (some (.int (-1))), (cW s (rW (pdR r' a' d') tl), b0, b1, op)))
    (h2 : ¬ tx a = 32 → Q (.inl (some (.int (-1))), (cW s (rW (pdR r a d) tl), b0, b1, op))) (F : Nat) :
    mj_sg (mj_Mt gT cst gnw (m + 3)) cst gnw (mj_hd (mj_off kO_R_goOn) kH_R_goOn) kC_R_goOn J Q (F + 20) false 96 [some (.ref 27), some (.int (nI n))] [] (cW s (rW (pdR r a d) tl), b0, b1, op) := by
  have h96 := hx.1
  refine R_takes (c := 32) hx ht (by omega) (by decide) (fun e => ?_) (fun e => ?_)
  · have hlt := hx.lt (a := a) (by omega)
    refine And.intro (fun (g : (1 : Int32) = 0) => absurd g (by decide)) (fun _ => ?_)
    refine R_binding (rc := rc) (i1 := i1) (bs := bs) hx ht (by omega) hd hn hk hf1 hi1 hch hbs (fun q => ?_) (fun a' r' d' q1 q2 q3 => ?_)
    · refine And.intro (fun (g : (1 : Int32) = 0) => absurd g (by decide)) (fun _ => ?_)
      exact h1 e q
    · refine And.intro (fun _ => ?_) (fun g => absurd rfl g)
      exact h0 a' r' d' e q1 q2 q3
  · refine And.intro (fun _ => ?_) (fun g => absurd rfl g)
    exact h2 e
theorem R_go6a {rc : Bool} {i1 : Nat} (hx : txOK r.text len tx) (ht : r.typed = nI len) (ha : a ≤ len) (hd : d ≤ 9) (hn : n < 100) (hk : r.kind n = if rc = true then 7 else 6) (hm : r.many n = 1) (hf1 : r.first n = nI i1) (hi1 : i1 < 100) (hch : r.next i1 = -1)
    (h1 : tx a = 32 → gB0 tx rc d (a + 1) [] = none → Q (.inl (some (.int 1)), (cW s (rW (pdR (ltR r (3 * n) (nI (tx (a + 1 + 1)))) (a + 1 + 1 + 1 + 1) (d + 1)) tl), b0, b1, op)))
    (h0 : ∀ a' r' d', tx a = 32 → gB0 tx rc d (a + 1) [] = some a' → a' ≤ len → kr r r' → Q (.inl (some (.int (-1))), (cW s (rW (pdR r' a' d') tl), b0, b1, op)))
    (h2 : ¬ tx a = 32 → Q (.inl (some (.int (-1))), (cW s (rW (pdR r a d) tl), b0, b1, op))) :
    mj_Mt gT cst gnw (m + 4) y_R_goOn [.ref 27, .int (nI n)] (cW s (rW (pdR r a d) tl), b0, b1, op) Q := by
  have hin : vp_in (nI n) 100 := vp_in_nI hn (by decide)
  have ekn : (nI n).toNatClampNeg = n := nI_clamp (by omega)
  have hkk : r.kind n = 6 ∨ r.kind n = 7 := by
    cases rc with
    | false => exact Or.inl hk
    | true => exact Or.inr hk
  have n3 : ¬ r.kind n = 3 := by rcases hkk with e | e <;> rw [e] <;> decide
  have n4 : ¬ r.kind n = 4 := by rcases hkk with e | e <;> rw [e] <;> decide
  intro J hJ
  have go : ∀ F : Nat, mj_sg (mj_Mt gT cst gnw (m + 3)) cst gnw (mj_hd (mj_off kO_R_goOn) kH_R_goOn) kC_R_goOn J Q (F + 100) false 55 [some (.ref 27), some (.int (nI n))] [] (cW s (rW (pdR r a d) tl), b0, b1, op) := by
    intro F
    refine And.intro hin ?_
    rw [ekn]
    refine And.intro (fun _ => ?_) (fun (g : ¬ r.many n ≤ 1) => absurd (by rw [hm]; decide) g)
    refine And.intro hin ?_
    rw [ekn]
    refine And.intro (fun _ => ?_) (fun (g : ¬ r.many n = 1) => absurd hm g)
    exact G_96 (rc := rc) (i1 := i1) (bs := []) hx ht ha hd hn hk hf1 hi1 hch (fun c hc => absurd hc List.not_mem_nil) h1 h0 h2 _
  refine hJ _ _ _ _ ?_
  refine And.intro hin ?_
  rw [ekn]
  refine And.intro (fun _ => ?_) (fun (g : r.kind n = 3) => absurd g n3)
  refine And.intro hin ?_
  rw [ekn]
  refine And.intro (fun _ => ?_) (fun (g : r.kind n = 4) => absurd g n4)
  refine And.intro hin ?_
  rw [ekn]
  refine And.intro (fun _ => go _) (fun (g : ¬ r.kind n = 6) => ?_)
  refine And.intro hin ?_
  rw [ekn]
  exact And.intro (fun (g2 : ¬ r.kind n = 7) => (hkk.elim (fun e => absurd e g) (fun e => absurd e g2))) (fun _ => go _)
theorem R_go6b {rc : Bool} {i1 l k : Nat} {bs : List Nat} (hx : txOK r.text len tx) (ht : r.typed = nI len) (ha : a ≤ len) (hd : d + 1 ≤ 9) (hn : n < 100) (hk : r.kind n = if rc = true then 7 else 6) (hm : r.many n = nI k) (hk2 : 2 ≤ k) (hk10 : k ≤ 10) (hf1 : r.first n = nI i1) (hi1 : i1 < 100) (hl : r.last n = nI l) (hl100 : l < 100) (hch : chL r.next (upd r.bound l (r.letters (3 * n))) (bs.map nI) (r.next i1)) (hbs : ∀ c ∈ bs, c < 256)
    (hc0 : ¬ tx a = 41 → Q (.inl (some (.int (-1))), (cW s (rW (pdR (boR r l (r.letters (3 * n))) a (d + 1 + 1)) tl), b0, b1, op)))
    (h1 : tx a = 41 → k < 4 → tx (a + 1) = 32 → gB0 tx rc (d + 1) (a + 1 + 1) bs = none → Q (.inl (some (.int 1)), (cW s (rW (pdR (ltR (boR r l (r.letters (3 * n))) (3 * n) (nI (tx (a + 1 + 1 + 1)))) (a + 1 + 1 + 1 + 1 + 1) (d + 1 + 1)) tl), b0, b1, op)))
    (h0 : ∀ a' r' d', tx a = 41 → k < 4 → tx (a + 1) = 32 → gB0 tx rc (d + 1) (a + 1 + 1) bs = some a' → a' ≤ len → kr r r' → Q (.inl (some (.int (-1))), (cW s (rW (pdR r' a' d') tl), b0, b1, op)))
    (h3 : tx a = 41 → ¬ (k < 4 ∧ tx (a + 1) = 32) → tx (a + 1) = 41 → Q (.inl (some (.int 0)), (cW s (rW (pdR (boR r l (r.letters (3 * n))) (a + 1 + 1) d) tl), b0, b1, op)))
    (h4 : tx a = 41 → ¬ (k < 4 ∧ tx (a + 1) = 32) → ¬ tx (a + 1) = 41 → Q (.inl (some (.int (-1))), (cW s (rW (pdR (boR r l (r.letters (3 * n))) (a + 1) (d + 1)) tl), b0, b1, op))) :
    mj_Mt gT cst gnw (m + 4) y_R_goOn [.ref 27, .int (nI n)] (cW s (rW (pdR r a (d + 1 + 1)) tl), b0, b1, op) Q := by
  have h96 := hx.1
  have hin : vp_in (nI n) 100 := vp_in_nI hn (by decide)
  have ekn : (nI n).toNatClampNeg = n := nI_clamp (by omega)
  have hkk : r.kind n = 6 ∨ r.kind n = 7 := by
    cases rc with
    | false => exact Or.inl hk
    | true => exact Or.inr hk
  have n3 : ¬ r.kind n = 3 := by rcases hkk with e | e <;> rw [e] <;> decide
  have n4 : ¬ r.kind n = 4 := by rcases hkk with e | e <;> rw [e] <;> decide
  have i3 : Int32.ofInt 3 * nI n = nI (3 * n) := three_n n
  intro J hJ
  have go79 : tx a = 41 → ∀ F : Nat, mj_sg (mj_Mt gT cst gnw (m + 3)) cst gnw (mj_hd (mj_off kO_R_goOn) kH_R_goOn) kC_R_goOn J Q (F + 60) false 79 [some (.ref 27), some (.int (nI n))] [] (cW s (rW (pdR (boR r l (r.letters (3 * n))) (a + 1) (d + 1)) tl), b0, b1, op) := by
    intro e41 F
    have hlt := hx.lt (a := a) (by omega)
    have hc1 := hx.le (a + 1)
    refine And.intro hin ?_
    rw [ekn]
    refine And.intro (fun (g : r.many n = 1) => ?_) (fun _ => ?_)
    · rw [hm] at g
      have := nIj (j := 1) (by omega) (by decide) g
      omega
    refine And.intro hin ?_
    rw [ekn]
    refine And.intro (fun (g : (4 : Int32) ≤ r.many n) => ?_) (fun (g : ¬ (4 : Int32) ≤ r.many n) => ?_)
    · rw [hm] at g
      have hk4 : ¬ k < 4 := fun w => nI_ge (b := 4) w (by decide) g
      exact G_108 (r := boR r l (r.letters (3 * n))) hx ht (by omega) (h3 e41 (fun w => hk4 w.1)) (h4 e41 (fun w => hk4 w.1)) _
    · rw [hm] at g
      have hk4 : k < 4 := Nat.lt_of_not_le (fun w => g (nI_le (a := 4) w (by omega)))
      refine R_here0 (r := boR r l (r.letters (3 * n))) hx ht (by omega) ?_
      refine And.intro (fun (g2 : ¬ nI (tx (a + 1)) = 32) => ?_) (fun (g2 : nI (tx (a + 1)) = 32) => ?_)
      · have n32 : ¬ tx (a + 1) = 32 := fun e => g2 (by rw [e]; rfl)
        exact G_108 (r := boR r l (r.letters (3 * n))) hx ht (by omega) (h3 e41 (fun w => n32 w.2)) (h4 e41 (fun w => n32 w.2)) _
      · have e32 : tx (a + 1) = 32 := nIj (j := 32) (by omega) (by decide) g2
        exact G_96 (r := boR r l (r.letters (3 * n))) (rc := rc) (i1 := i1) (bs := bs) hx ht (by omega) hd hn hk hf1 hi1 hch hbs (fun _ => h1 e41 hk4 e32) (fun a' r' d' _ => h0 a' r' d' e41 hk4 e32) (fun w => absurd e32 w) _
  have go : ∀ F : Nat, mj_sg (mj_Mt gT cst gnw (m + 3)) cst gnw (mj_hd (mj_off kO_R_goOn) kH_R_goOn) kC_R_goOn J Q (F + 100) false 55 [some (.ref 27), some (.int (nI n))] [] (cW s (rW (pdR r a (d + 1 + 1)) tl), b0, b1, op) := by
    intro F
    refine And.intro hin ?_
    rw [ekn]
    refine And.intro (fun (g : r.many n ≤ 1) => ?_) (fun _ => ?_)
    · rw [hm] at g
      have := (nI_leI (b := 1) (by omega) (by decide)).mp g
      omega
    refine And.intro hin ?_
    have el : (pdR r a (d + 1 + 1)).last (nI n).toNatClampNeg = nI l := by
      rw [ekn]
      exact hl
    rw [el]
    refine And.intro (show vp_in (Int32.ofInt 3 * nI n) 300 by rw [i3]; exact vp_in_nI (by omega) (by decide)) ?_
    refine And.intro (vp_in_nI hl100 (by decide)) ?_
    have key : ∀ B : Nat → Int32, B = upd r.bound l (r.letters (3 * n)) → ∀ F : Nat, mj_sg (mj_Mt gT cst gnw (m + 3)) cst gnw (mj_hd (mj_off kO_R_goOn) kH_R_goOn) kC_R_goOn J Q (F + 80) false 74 [some (.ref 27), some (.int (nI n))] [] (cW s (rW ((pdR r a (d + 1 + 1)).s_bound B) tl), b0, b1, op) := by
      rintro B rfl F
      refine R_closes (r := boR r l (r.letters (3 * n))) (a := a) (d := d + 1) hx ht (by omega) (fun e => ?_) (fun e => ?_)
      · refine And.intro (fun _ => go79 e _) (fun (g : (1 : Int32) = 0) => absurd g (by decide))
      · refine And.intro (fun g => absurd rfl g) (fun _ => ?_)
        exact hc0 e
    refine key (upd r.bound (nI l).toNatClampNeg (r.letters (Int32.ofInt 3 * nI n).toNatClampNeg)) ?_ _
    rw [i3, nI_clamp (by omega), nI_clamp (by omega)]
  refine hJ _ _ _ _ ?_
  refine And.intro hin ?_
  rw [ekn]
  refine And.intro (fun _ => ?_) (fun (g : r.kind n = 3) => absurd g n3)
  refine And.intro hin ?_
  rw [ekn]
  refine And.intro (fun _ => ?_) (fun (g : r.kind n = 4) => absurd g n4)
  refine And.intro hin ?_
  rw [ekn]
  refine And.intro (fun _ => go _) (fun (g : ¬ r.kind n = 6) => ?_)
  refine And.intro hin ?_
  rw [ekn]
  exact And.intro (fun (g2 : ¬ r.kind n = 7) => (hkk.elim (fun e => absurd e g) (fun e => absurd e g2))) (fun _ => go _)
end RD6
end
section
theorem cKL_ag2 {P P' : Nat → Nat → Tau → Prop} {nx bo nx' bo' : Nat → Int32} (hlt : ∀ i m t, P i m t → i < m) : ∀ (ks : List Kd) (i l m : Nat), (∀ a b t, i ≤ a → b ≤ m → (b ≤ l ∨ a = l) → P a b t → P' a b t) → (∀ a, i ≤ a → a < l → nx' a = nx a) → (∀ a, i ≤ a → a ≤ l → bo' a = bo a) → cKL P nx bo ks i l m → cKL P' nx' bo' ks i l m
  | [], _, _, _, _, _, _, h => absurd h id
  | k :: [], i, l, m, hP, hn, hb, h => by
    obtain ⟨rfl, h2, h3⟩ := h
    exact ⟨rfl, hP _ _ _ (Nat.le_refl _) (Nat.le_refl _) (Or.inr rfl) h2, by rw [hb i (Nat.le_refl _) (Nat.le_refl _)]; exact h3⟩
  | k :: k2 :: ks, i, l, m, hP, hn, hb, h => by
    obtain ⟨j, h1, h2, h3, h4⟩ := h
    have c1 := hlt _ _ _ h1
    have c2 := cKL_lt hlt (k2 :: ks) j l m h4
    exact ⟨j, hP _ _ _ (Nat.le_refl _) (by omega) (Or.inl c2.1) h1, by rw [hb i (Nat.le_refl _) (by omega)]; exact h2, by rw [hn i (Nat.le_refl _) (by omega)]; exact h3, cKL_ag2 hlt (k2 :: ks) j l m (fun a b t q => hP a b t (by omega)) (fun a q => hn a (by omega)) (fun a q => hb a (by omega)) h4⟩
theorem cKL_bo {P P' : Nat → Nat → Tau → Prop} {nx bo : Nat → Int32} {t : Tau} {x y : Int32} (hlt : ∀ i m t, P i m t → i < m) : ∀ (ks : List Kd) (i l m : Nat), (∀ a b t, i ≤ a → b ≤ m → (b ≤ l ∨ a = l) → P a b t → P' a b t) → cKL P nx bo (ks ++ [(t, y)]) i l m → cKL P' nx (upd bo l x) (ks ++ [(t, x)]) i l m
  | [], i, l, m, hP, h => by
    obtain ⟨rfl, h2, h3⟩ := h
    exact ⟨rfl, hP _ _ _ (Nat.le_refl _) (Nat.le_refl _) (Or.inr rfl) h2, if_pos rfl⟩
  | k :: ks, i, l, m, hP, h => by
    have e : ∀ z : Int32, ∃ k2 ks2, ks ++ [(t, z)] = k2 :: ks2 := by
      intro z
      cases ks with
      | nil => exact ⟨_, _, rfl⟩
      | cons k2 ks => exact ⟨_, _, rfl⟩
    obtain ⟨k2, ks2, e2⟩ := e y
    obtain ⟨k3, ks3, e3⟩ := e x
    have h : cKL P nx bo (k :: (ks ++ [(t, y)])) i l m := h
    rw [e2] at h
    obtain ⟨j, h1, h2, h3, h4⟩ := h
    have c1 := hlt _ _ _ h1
    have c2 := cKL_lt hlt (k2 :: ks2) j l m h4
    rw [← e2] at h4
    have h5 := cKL_bo (x := x) hlt ks j l m (fun a b t q => hP a b t (by omega)) h4
    show cKL P' nx (upd bo l x) (k :: (ks ++ [(t, x)])) i l m
    rw [e3] at h5 ⊢
    refine ⟨j, hP _ _ _ (Nat.le_refl _) (by omega) (Or.inl c2.1) h1, ?_, h3, h5⟩
    show (if i = l then x else bo i) = k.2
    rw [if_neg (by omega)]
    exact h2
def IN (tx : Nat → Nat) (f : Nat) (r0 r : rM) (n : Nat) (u : Option Nat) (ks : List Kd) (l mm : Nat) (kd : Int32) : Prop := FM r0 r n u ∧ r.parts = nI mm ∧ (cKL (fun i m t => cR tx r f i m t ∧ r.parent i = nI n) r.next r.bound ks (n + 1) l mm ∧ r.next l = -1 ∧ r.first n = nI (n + 1) ∧ r.last n = nI l ∧ r.many n = nI ks.length) ∧ (r.kind n = kd ∧ r.parent n = oV u ∧ r.next n = -1 ∧ r.bound n = 0)
theorem IN_lt {tx : Nat → Nat} {f : Nat} {r0 r : rM} {n : Nat} {u : Option Nat} {ks : List Kd} {l mm : Nat} {kd : Int32} (h : IN tx f r0 r n u ks l mm kd) : n < l ∧ l < mm := by
  have := cKL_lt (fun i m t w => cR_lt (tx := tx) (r := r) f i m t w.1) ks _ _ _ h.2.2.1.1
  omega
theorem IN_first {tx : Nat → Nat} {f : Nat} {r0 r1 r2 : rM} {n a e : Nat} {u : Option Nat} {t : Tau} {kd : Int32} (hn : n < 100) (h1 : BG r0 r1 n a u kd) (h2 : FM r1 r2 (n + 1) (some n)) (hp : r2.parts = nI e) (hk : cR tx r2 f (n + 1) e t) (hpa : r2.parent (n + 1) = nI n) (hx : r2.next (n + 1) = -1) (hb : r2.bound (n + 1) = 0) :
    IN tx f r0 r2 n u [(t, 0)] (n + 1) e kd ∧ r2.value n = r1.value n ∧ (∀ i, i < 3 * n + 3 → r2.letters i = r1.letters i) := by
  obtain ⟨b1, b2, ⟨b3, b4, b5⟩, b6, b7, b8, b9, b10⟩ := h1
  have hneg : r1.first n < 0 := by rw [b6]; decide
  have hbel : AG r1 r2 n := FM_below (l := 0) h2 (by omega) (by omega) (fun w => absurd hneg w)
  obtain ⟨a1, a2, a3, a4, a5, a6⟩ := h2
  obtain ⟨c1, c2, c3, c4⟩ := a6 n rfl (by omega)
  obtain ⟨d1, d2, d3, d4, d5, d6⟩ := a2 n (by omega)
  rw [if_pos hneg] at c1
  refine ⟨⟨FM_AG b1 hbel, hp, ⟨⟨rfl, ⟨hk, hpa⟩, hb⟩, hx, c1, c2, ?_⟩, d1.trans b4, d5.trans b3, ?_, d6.trans b10⟩, d2, fun i hi => a3 i (by omega)⟩
  · rw [c3, b9]
    rfl
  · rw [a5 n (by omega) (fun v hv w => by cases hv; exact absurd hneg w)]
    exact b8
theorem IN_next {tx : Nat → Nat} {f : Nat} {r0 r2 r3 : rM} {n e l mm : Nat} {u : Option Nat} {ks : List Kd} {t : Tau} {kd : Int32} (hm : mm < 100) (h1 : IN tx f r0 r2 n u ks l mm kd) (h2 : FM r2 r3 mm (some n)) (hp : r3.parts = nI e) (hk : cR tx r3 f mm e t) (hpa : r3.parent mm = nI n) (hx : r3.next mm = -1) (hb : r3.bound mm = 0) :
    IN tx f r0 r3 n u (ks ++ [(t, 0)]) mm e kd ∧ r3.value n = r2.value n ∧ (∀ i, i < 3 * mm → r3.letters i = r2.letters i) := by
  have hlt := IN_lt h1
  obtain ⟨b1, b2, ⟨b3, b4, b5, b6, b7⟩, b8, b9, b10, b11⟩ := h1
  have hpos : ¬ r2.first n < 0 := by rw [b5]; exact nI_pos (by omega)
  have hbel : AG r2 r3 n := FM_below (l := l) h2 (by omega) (by omega) (fun _ => ⟨b6, hlt.1, hlt.2⟩)
  obtain ⟨a1, a2, a3, a4, a5, a6⟩ := h2
  obtain ⟨c1, c2, c3, c4⟩ := a6 n rfl (by omega)
  obtain ⟨d1, d2, d3, d4, d5, d6⟩ := a2 n (by omega)
  rw [if_neg hpos] at c1
  have nxt : ∀ i, i < mm → ¬ i = l → r3.next i = r2.next i := by
    intro i hi hne
    refine a5 i hi (fun v hv w1 w2 => ?_)
    cases hv
    rw [b6] at w2
    exact hne (nIj (by omega) (by omega) w2).symm
  have nl : r3.next l = nI mm := c4 l hlt.2 hpos b6
  have old : cKL (fun i m t => cR tx r3 f i m t ∧ r3.parent i = nI n) r3.next r3.bound ks (n + 1) l mm := by
    refine cKL_ag2 (fun i m t w => cR_lt (tx := tx) (r := r2) f i m t w.1) ks _ _ _ (fun a b t q1 q2 q3 q4 => ?_) (fun a q1 q2 => nxt a (by omega) (by omega)) (fun a q1 q2 => (a2 a (by omega)).2.2.2.2.2) b3
    have qlt := cR_lt f a b t q4.1
    refine ⟨cR_ag f a b t ⟨fun i w1 w2 => ?_, fun i w1 w2 => a3 i (by omega), fun i w1 w2 => ⟨nxt i (by omega) (by omega), (a2 i (by omega)).2.2.2.2.2, (a2 i (by omega)).2.2.2.2.1⟩⟩ q4.1, (a2 a (by omega)).2.2.2.2.1.trans q4.2⟩
    obtain ⟨g1, g2, g3, g4, -⟩ := a2 i (by omega)
    exact ⟨g1, g2, g3, g4, (a4 i (by omega) (fun w => by cases w; omega)).1⟩
  refine ⟨⟨FM_AG b1 hbel, hp, ⟨cKL_app ks _ _ _ old nl ⟨hk, hpa⟩ hb, hx, c1.trans b5, c2, ?_⟩, d1.trans b8, d5.trans b9, ?_, d6.trans b11⟩, d2, a3⟩
  · rw [c3, b7, List.length_append]
    exact (nI_succ _).symm
  · rw [nxt n (by omega) (by omega)]
    exact b10
theorem IN_lt3 {tx : Nat → Nat} {f : Nat} {r0 r : rM} {n : Nat} {u : Option Nat} {ks : List Kd} {l mm : Nat} {kd x : Int32} (h : IN tx f r0 r n u ks l mm kd) : IN tx f r0 (ltR r (3 * n) x) n u ks l mm kd := by
  have hlt := IN_lt h
  obtain ⟨b1, b2, ⟨b3, b4⟩, b5⟩ := h
  refine ⟨FM_AG b1 ⟨rfl, fun i hi => ⟨⟨rfl, rfl, rfl, rfl, rfl, rfl⟩, rfl, rfl, rfl, rfl⟩, fun i hi => upd_lt _ _ hi⟩, b2, ⟨?_, b4⟩, b5⟩
  refine cKL_ag2 (fun i m t w => cR_lt (tx := tx) (r := r) f i m t w.1) ks _ _ _ (fun a b t q1 q2 q3 q4 => ?_) (fun a _ _ => rfl) (fun a _ _ => rfl) b3
  refine ⟨cR_ag (r := r) (r' := ltR r (3 * n) x) f a b t ⟨fun i _ _ => ⟨rfl, rfl, rfl, rfl, rfl⟩, fun i w1 w2 => ?_, fun i _ _ => ⟨rfl, rfl, rfl⟩⟩ q4.1, q4.2⟩
  show (if i = 3 * n then x else r.letters i) = r.letters i
  rw [if_neg (by omega)]
theorem IN_bo {tx : Nat → Nat} {f : Nat} {r0 r : rM} {n : Nat} {u : Option Nat} {ks : List Kd} {t : Tau} {l mm : Nat} {kd x y : Int32} (h : IN tx f r0 r n u (ks ++ [(t, y)]) l mm kd) : IN tx f r0 (boR r l x) n u (ks ++ [(t, x)]) l mm kd := by
  have hlt := IN_lt h
  obtain ⟨b1, b2, ⟨b3, b4, b5, b6, b7⟩, b8, b9, b10, b11⟩ := h
  have ub : ∀ i, ¬ i = l → upd r.bound l x i = r.bound i := fun i hi => if_neg hi
  refine ⟨FM_AG b1 ⟨rfl, fun i hi => ⟨⟨rfl, rfl, rfl, rfl, rfl, ub i (by omega)⟩, rfl, rfl, rfl, rfl⟩, fun i hi => rfl⟩, b2, ⟨?_, b4, b5, b6, ?_⟩, b8, b9, b10, (ub n (by omega)).trans b11⟩
  · refine cKL_bo (fun i m t w => cR_lt (tx := tx) (r := r) f i m t w.1) ks _ _ _ (fun a b t q1 q2 q3 q4 => ?_) b3
    exact ⟨cR_ag (r := r) (r' := boR r l x) f a b t ⟨fun i _ _ => ⟨rfl, rfl, rfl, rfl, rfl⟩, fun i w1 w2 => rfl, fun i w1 w2 => ⟨rfl, ub i (by omega), rfl⟩⟩ q4.1, q4.2⟩
  · have e1 : (ks ++ [(t, y)]).length = (ks ++ [(t, x)]).length := by rw [List.length_append, List.length_append]; rfl
    rw [← e1]
    exact b7
theorem IN_cR {tx : Nat → Nat} {f : Nat} {r0 r : rM} {n : Nat} {u : Option Nat} {ks : List Kd} {l mm : Nat} {kd : Int32} {t : Tau} (h : IN tx f r0 r n u ks l mm kd) (ht : cT r n ks t) : cR tx r (f + 1) n mm t := Or.inr (Or.inr (Or.inr ⟨ks, l, h.2.2.1.1, h.2.2.1.2.1, h.2.2.1.2.2.1, ht⟩))
end
section
def EXP (tx : Nat → Nat) (len b0 b1 : Nat) (op : Bool) (tl : List mj_O) (s : cS) (Q : mj_R → Prop) (J : Nat → mj_L → List Value → mj_H → Prop) (f : Nat) : Prop := ∀ (d a n : Nat) (u : Option Nat) (r : rM) (x3 x4 x5 : Option Value), txOK r.text len tx → r.typed = nI len → a ≤ len → d ≤ 9 → 10 ≤ f + d → n ≤ a → r.parts = nI n → (∀ v, u = some v → v < n ∧ (r.first v < 0 ∨ ∃ l, l < n ∧ r.last v = nI l ∧ ¬ r.first v < 0)) →
  (∀ (t : Tau) (a' e : Nat) (r' : rM) (w3 w4 : Int32), gEx tx f d a = .inl (t, a') → FM r r' n u → r'.parts = nI e → r'.parent n = oV u → r'.next n = -1 → r'.bound n = 0 → cR tx r' f n e t → a' ≤ len → e ≤ a' → J 35 [some (.ref 27), some (.int (oV u)), some (.int (nI (e - 1))), some (.int w3), some (.int w4), some (.int 0)] [] (cW s (rW (pdR r' a' d) tl), b0, b1, op)) →
  (∀ (a' d' : Nat) (r' : rM), gEx tx f d a = .inr a' → a' ≤ len → kr r r' → Q (.inl (some (.int 0)), (cW s (rW (pdR r' a' d') tl), b0, b1, op))) →
  J 13 [some (.ref 27), some (.int (oV u)), some (.int (nI n)), x3, x4, x5] [] (cW s (rW (pdR r a d) tl), b0, b1, op)
section RD7
variable {cst : Nat → Option (Nat × (Nat → Int32))} {m b0 b1 : Nat} {op : Bool} {tl : List mj_O} {Q : mj_R → Prop} {s : cS} {r0 r r1 : rM} {a d n len mm l f : Nat} {tx : Nat → Nat} {J : Nat → mj_L → List Value → mj_H → Prop} {u : Option Nat} {ks : List Kd} {kd : Int32}
set_option maxRecDepth 10000
theorem X_1 {W : mj_H} {w3 w4 : Int32} (hJ : ∀ pc ls st h, mj_sg (mj_Mt gT cst gnw (m + 5)) cst gnw (mj_hd (mj_off kO_R_read) kH_R_read) kC_R_read J Q 400 true pc ls st h → J pc ls st h) (hm : 1 ≤ mm) (h : ∀ x3 x4 x5, J 13 [some (.ref 27), some (.int (nI n)), some (.int (nI mm)), x3, x4, x5] [] W) (F : Nat) :
    mj_sg (mj_Mt gT cst gnw (m + 5)) cst gnw (mj_hd (mj_off kO_R_read) kH_R_read) kC_R_read J Q (F + 20) false 51 [some (.ref 27), some (.int (nI n)), some (.int (nI (mm - 1))), some (.int w3), some (.int w4), some (.int 0)] [.int 1] W := by
  refine And.intro (fun _ => ?_) (fun (g : ¬ (0 : Int32) ≤ 1) => absurd (by decide) g)
  refine And.intro (fun _ => ?_) (fun (g : (1 : Int32) = 0) => absurd g (by decide))
  refine hJ _ _ _ _ ?_
  refine And.intro (fun _ => ?_) (fun (g : (1 : Int32) = 0) => absurd g (by decide))
  have key : ∀ x : Int32, x = nI mm → J 13 [some (.ref 27), some (.int (nI n)), some (.int x), some (.int w3), some (.int w4), some (.int 1)] [] W := by
    rintro x rfl
    exact h _ _ _
  refine key _ ?_
  have e := nI_succ (mm - 1)
  rw [show mm - 1 + 1 = mm by omega] at e
  exact e.symm
theorem X_0 {x2 : Int32} {w3 w4 : Int32} (hJ : ∀ pc ls st h, mj_sg (mj_Mt gT cst gnw (m + 5)) cst gnw (mj_hd (mj_off kO_R_read) kH_R_read) kC_R_read J Q 400 true pc ls st h → J pc ls st h) (hn : n < 100) (hp : r.parent n = oV u) (h : J 35 [some (.ref 27), some (.int (oV u)), some (.int x2), some (.int w3), some (.int w4), some (.int 0)] [] (cW s (rW (pdR r a d) tl), b0, b1, op)) (F : Nat) :
    mj_sg (mj_Mt gT cst gnw (m + 5)) cst gnw (mj_hd (mj_off kO_R_read) kH_R_read) kC_R_read J Q (F + 20) false 51 [some (.ref 27), some (.int (nI n)), some (.int x2), some (.int w3), some (.int w4), some (.int 0)] [.int 0] (cW s (rW (pdR r a d) tl), b0, b1, op) := by
  refine And.intro (fun _ => ?_) (fun (g : ¬ (0 : Int32) ≤ 0) => absurd (by decide) g)
  refine And.intro (fun (g : ¬ (0 : Int32) = 0) => absurd rfl g) (fun _ => ?_)
  refine And.intro (vp_in_nI hn (by decide)) ?_
  have key : ∀ x : Int32, x = oV u → J 35 [some (.ref 27), some (.int x), some (.int x2), some (.int w3), some (.int w4), some (.int 0)] [] (cW s (rW (pdR r a d) tl), b0, b1, op) := by
    rintro x rfl
    exact h
  refine key _ ?_
  show r.parent (nI n).toNatClampNeg = oV u
  rw [nI_clamp (by omega)]
  exact hp
theorem X_f {W : mj_H} {x2 : Int32} {w3 w4 : Int32} (h : Q (.inl (some (.int 0)), W)) (F : Nat) :
    mj_sg (mj_Mt gT cst gnw (m + 5)) cst gnw (mj_hd (mj_off kO_R_read) kH_R_read) kC_R_read J Q (F + 20) false 51 [some (.ref 27), some (.int (nI n)), some (.int x2), some (.int w3), some (.int w4), some (.int 0)] [.int (-1)] W := by
  refine And.intro (fun (g : (0 : Int32) ≤ -1) => absurd g (by decide)) (fun _ => ?_)
  exact And.intro (Or.inl rfl) h
theorem X_go {x2 : Int32} {w3 w4 : Int32} (hJ : ∀ pc ls st h, mj_sg (mj_Mt gT cst gnw (m + 5)) cst gnw (mj_hd (mj_off kO_R_read) kH_R_read) kC_R_read J Q 400 true pc ls st h → J pc ls st h) (hn : n < 100) (h : ∀ Q' : mj_R → Prop, (∀ (x : Int32) (W' : mj_H), (∀ F : Nat, mj_sg (mj_Mt gT cst gnw (m + 5)) cst gnw (mj_hd (mj_off kO_R_read) kH_R_read) kC_R_read J Q (F + 20) false 51 [some (.ref 27), some (.int (nI n)), some (.int x2), some (.int w3), some (.int w4), some (.int 0)] [.int x] W') → Q' (.inl (some (.int x)), W')) → mj_Mt gT cst gnw (m + 5) y_R_goOn [.ref 27, .int (nI n)] (cW s (rW (pdR r a d) tl), b0, b1, op) Q') : J 35 [some (.ref 27), some (.int (nI n)), some (.int x2), some (.int w3), some (.int w4), some (.int 0)] [] (cW s (rW (pdR r a d) tl), b0, b1, op) := by
  refine hJ _ _ _ _ ?_
  refine And.intro (fun (g : ¬ (0 : Int32) = 0) => absurd rfl g) (fun _ => ?_)
  refine And.intro (fun _ => ?_) (fun (g : ¬ (0 : Int32) ≤ nI n) => absurd (nI_le (a := 0) (Nat.zero_le _) (by omega)) g)
  refine h _ (fun x W' hh => ?_)
  exact hh _
theorem IN_kr {tx : Nat → Nat} (h : IN tx f r0 r n u ks l mm kd) : kr r0 r := h.1.1
theorem IN_hu {tx : Nat → Nat} (h : IN tx f r0 r n u ks l mm kd) (hm : mm ≤ 100) : ∀ v, (some n) = some v → v < mm ∧ (r.first v < 0 ∨ ∃ l, l < mm ∧ r.last v = nI l ∧ ¬ r.first v < 0) := by
  intro v hv
  cases hv
  have := IN_lt h
  refine ⟨by omega, Or.inr ⟨l, this.2, h.2.2.1.2.2.2.1, ?_⟩⟩
  rw [h.2.2.1.2.2.1]
  exact nI_pos (by omega)
def SUC (tx : Nat → Nat) (f b0 b1 : Nat) (op : Bool) (tl : List mj_O) (s : cS) (J : Nat → mj_L → List Value → mj_H → Prop) (r0 : rM) (n d len : Nat) (u : Option Nat) (t : Tau) (a' : Nat) : Prop := ∀ (e : Nat) (r' : rM) (w3 w4 : Int32), FM r0 r' n u → r'.parts = nI e → r'.parent n = oV u → r'.next n = -1 → r'.bound n = 0 → cR tx r' (f + 1) n e t → a' ≤ len → e ≤ a' → J 35 [some (.ref 27), some (.int (oV u)), some (.int (nI (e - 1))), some (.int w3), some (.int w4), some (.int 0)] [] (cW s (rW (pdR r' a' d) tl), b0, b1, op)
def FAI (b0 b1 : Nat) (op : Bool) (tl : List mj_O) (s : cS) (Q : mj_R → Prop) (r0 : rM) (len a' : Nat) : Prop := ∀ (d' : Nat) (r' : rM), a' ≤ len → kr r0 r' → Q (.inl (some (.int 0)), (cW s (rW (pdR r' a' d') tl), b0, b1, op))
theorem X_sign (hJ : ∀ pc ls st h, mj_sg (mj_Mt gT cst gnw (m + 5)) cst gnw (mj_hd (mj_off kO_R_read) kH_R_read) kC_R_read J Q 400 true pc ls st h → J pc ls st h) (hE : EXP tx len b0 b1 op tl s Q J f) {c : Nat} (hc : c < 256) (hcp : 0 < ar c) (hd : d + 1 ≤ 9) (hfd : 10 ≤ f + (d + 1)) :
    ∀ (j a l mm : Nat) (ks : List Kd) (r : rM) (w3 w4 : Int32), txOK r.text len tx → r.typed = nI len → a ≤ len → mm ≤ a → IN tx f r0 r n u ks l mm 3 → r.value n = nI c → ks.length + j = ar c → (∀ t a', gAr tx (gEx tx f (d + 1)) c j a ks = .inl (t, a') → SUC tx f b0 b1 op tl s J r0 n d len u t a') → (∀ a', gAr tx (gEx tx f (d + 1)) c j a ks = .inr a' → FAI b0 b1 op tl s Q r0 len a') →
      J 35 [some (.ref 27), some (.int (nI n)), some (.int (nI (mm - 1))), some (.int w3), some (.int w4), some (.int 0)] [] (cW s (rW (pdR r a (d + 1)) tl), b0, b1, op) := by
  have ha3 := ar_le c
  intro j
  induction j with
  | zero =>
    intro a l mm ks r w3 w4 hx ht ha hma hI hv hk hs hf
    have h96 := hx.1
    have hlt := IN_lt hI
    refine X_go hJ (by omega) (fun Q' hQ' => ?_)
    have e0 : gAr tx (gEx tx f (d + 1)) c 0 a ks = gCl tx (sgT c ks) a := rfl
    rw [e0] at hs hf
    unfold gCl at hs hf
    refine R_go3 (k := ks.length) (c := c) (by omega) hI.2.2.2.1 hv hc hI.2.2.1.2.2.2.2 (by omega) hx ht (by omega) (fun w => by omega) (fun w => by omega) (fun _ e => ?_) (fun _ e => ?_)
    · rw [if_pos e] at hs
      have hlt2 := hx.lt (a := a) (by omega)
      refine hQ' 0 _ (fun F => X_0 hJ (by omega) hI.2.2.2.2.1 ?_ F)
      exact hs _ _ rfl mm r w3 w4 hI.1 hI.2.1 hI.2.2.2.2.1 hI.2.2.2.2.2.1 hI.2.2.2.2.2.2 (IN_cR hI (Or.inl ⟨hI.2.2.2.1, c, hc, hv, hcp, by omega, rfl⟩)) (by omega) (by omega)
    · rw [if_neg e] at hf
      refine hQ' (-1) _ (fun F => X_f ?_ F)
      exact hf a rfl _ _ ha (IN_kr hI)
  | succ j ih =>
    intro a l mm ks r w3 w4 hx ht ha hma hI hv hk hs hf
    have h96 := hx.1
    have hlt := IN_lt hI
    refine X_go hJ (by omega) (fun Q' hQ' => ?_)
    have e0 : gAr tx (gEx tx f (d + 1)) c (j + 1) a ks = if tx a = 32 then (match gEx tx f (d + 1) (a + 1) with | .inr e => .inr e | .inl (t, a2) => gAr tx (gEx tx f (d + 1)) c j a2 (ks ++ [(t, 0)])) else .inr a := rfl
    rw [e0] at hs hf
    refine R_go3 (k := ks.length) (c := c) (by omega) hI.2.2.2.1 hv hc hI.2.2.1.2.2.2.2 (by omega) hx ht (by omega) (fun _ e => ?_) (fun _ e => ?_) (fun w => absurd (by omega) w) (fun w => absurd (by omega) w)
    · rw [if_pos e] at hs hf
      have hlt2 := hx.lt (a := a) (by omega)
      refine hQ' 1 _ (fun F => X_1 hJ (by omega) (fun x3 x4 x5 => ?_) F)
      refine hE (d + 1) (a + 1) mm (some n) r x3 x4 x5 hx ht (by omega) hd hfd (by omega) hI.2.1 (IN_hu hI (by omega)) (fun t a' e2 r' w3 w4 g1 g2 g3 g4 g5 g6 g7 g9 g10 => ?_) (fun a' d' r' g1 g2 g3 => ?_)
      · rw [g1] at hs hf
        obtain ⟨i1, i2, i3⟩ := IN_next (by omega) hI g2 g3 g7 g4 g5 g6
        have hkx := kr_text g2.1
        exact ih a' mm e2 (ks ++ [(t, 0)]) r' w3 w4 (by rw [hkx.1]; exact hx) (by rw [hkx.2]; exact ht) g9 g10 i1 (i2.trans hv) (by rw [List.length_append, List.length_cons, List.length_nil]; omega) hs hf
      · rw [g1] at hf
        exact hf a' rfl d' r' g2 (kr_tr (IN_kr hI) g3)
    · rw [if_neg e] at hf
      refine hQ' (-1) _ (fun F => X_f ?_ F)
      exact hf a rfl _ _ ha (IN_kr hI)
theorem X_call (hJ : ∀ pc ls st h, mj_sg (mj_Mt gT cst gnw (m + 5)) cst gnw (mj_hd (mj_off kO_R_read) kH_R_read) kC_R_read J Q 400 true pc ls st h → J pc ls st h) (hE : EXP tx len b0 b1 op tl s Q J f) {h : Kd} (hd : d + 1 ≤ 9) (hfd : 10 ≤ f + (d + 1)) :
    ∀ (j a l mm : Nat) (ks : List Kd) (r : rM) (w3 w4 : Int32), txOK r.text len tx → r.typed = nI len → a ≤ len → mm ≤ a → IN tx f r0 r n u (h :: ks) l mm 4 → ks.length + j = 3 → (∀ t a', gMo tx (gEx tx f (d + 1)) h j a ks = .inl (t, a') → SUC tx f b0 b1 op tl s J r0 n d len u t a') → (∀ a', gMo tx (gEx tx f (d + 1)) h j a ks = .inr a' → FAI b0 b1 op tl s Q r0 len a') →
      J 35 [some (.ref 27), some (.int (nI n)), some (.int (nI (mm - 1))), some (.int w3), some (.int w4), some (.int 0)] [] (cW s (rW (pdR r a (d + 1)) tl), b0, b1, op) := by
  intro j
  induction j with
  | zero =>
    intro a l mm ks r w3 w4 hx ht ha hma hI hk hs hf
    have h96 := hx.1
    have hlt := IN_lt hI
    have hkl : (h :: ks).length = ks.length + 1 := rfl
    refine X_go hJ (by omega) (fun Q' hQ' => ?_)
    have e0 : gMo tx (gEx tx f (d + 1)) h 0 a ks = gCl tx (caT h ks) a := rfl
    rw [e0] at hs hf
    unfold gCl at hs hf
    refine R_go4 (k := ks.length + 1) (by omega) hI.2.2.2.1 hI.2.2.1.2.2.2.2 (by omega) hx ht (by omega) (fun w => by omega) (fun _ e => ?_) (fun _ e => ?_)
    · rw [if_pos e] at hs
      have hlt2 := hx.lt (a := a) (by omega)
      refine hQ' 0 _ (fun F => X_0 hJ (by omega) hI.2.2.2.2.1 ?_ F)
      exact hs _ _ rfl mm r w3 w4 hI.1 hI.2.1 hI.2.2.2.2.1 hI.2.2.2.2.2.1 hI.2.2.2.2.2.2 (IN_cR hI (Or.inr (Or.inl ⟨hI.2.2.2.1, h, ks, rfl, by omega, rfl⟩))) (by omega) (by omega)
    · rw [if_neg e] at hf
      refine hQ' (-1) _ (fun F => X_f ?_ F)
      exact hf a rfl _ _ ha (IN_kr hI)
  | succ j ih =>
    intro a l mm ks r w3 w4 hx ht ha hma hI hk hs hf
    have h96 := hx.1
    have hlt := IN_lt hI
    refine X_go hJ (by omega) (fun Q' hQ' => ?_)
    have e0 : gMo tx (gEx tx f (d + 1)) h (j + 1) a ks = if tx a = 32 then (match gEx tx f (d + 1) (a + 1) with | .inr e => .inr e | .inl (t, a2) => gMo tx (gEx tx f (d + 1)) h j a2 (ks ++ [(t, 0)])) else gCl tx (caT h ks) a := rfl
    rw [e0] at hs hf
    refine R_go4 (k := ks.length + 1) (by omega) hI.2.2.2.1 hI.2.2.1.2.2.2.2 (by omega) hx ht (by omega) (fun _ e => ?_) (fun w e => ?_) (fun w e => ?_)
    · rw [if_pos e] at hs hf
      have hlt2 := hx.lt (a := a) (by omega)
      refine hQ' 1 _ (fun F => X_1 hJ (by omega) (fun x3 x4 x5 => ?_) F)
      refine hE (d + 1) (a + 1) mm (some n) r x3 x4 x5 hx ht (by omega) hd hfd (by omega) hI.2.1 (IN_hu hI (by omega)) (fun t a' e2 r' w3 w4 g1 g2 g3 g4 g5 g6 g7 g9 g10 => ?_) (fun a' d' r' g1 g2 g3 => ?_)
      · rw [g1] at hs hf
        obtain ⟨i1, i2, i3⟩ := IN_next (by omega) hI g2 g3 g7 g4 g5 g6
        have hkx := kr_text g2.1
        exact ih a' mm e2 (ks ++ [(t, 0)]) r' w3 w4 (by rw [hkx.1]; exact hx) (by rw [hkx.2]; exact ht) g9 g10 (by have q := i1; rw [List.cons_append] at q; exact q) (by rw [List.length_append, List.length_cons, List.length_nil]; omega) hs hf
      · rw [g1] at hf
        exact hf a' rfl d' r' g2 (kr_tr (IN_kr hI) g3)
    · have n32 : ¬ tx a = 32 := fun q => w ⟨by omega, q⟩
      rw [if_neg n32] at hs
      unfold gCl at hs
      rw [if_pos e] at hs
      have hlt2 := hx.lt (a := a) (by omega)
      refine hQ' 0 _ (fun F => X_0 hJ (by omega) hI.2.2.2.2.1 ?_ F)
      exact hs _ _ rfl mm r w3 w4 hI.1 hI.2.1 hI.2.2.2.2.1 hI.2.2.2.2.2.1 hI.2.2.2.2.2.2 (IN_cR hI (Or.inr (Or.inl ⟨hI.2.2.2.1, h, ks, rfl, by omega, rfl⟩))) (by omega) (by omega)
    · have n32 : ¬ tx a = 32 := fun q => w ⟨by omega, q⟩
      rw [if_neg n32] at hf
      unfold gCl at hf
      rw [if_neg e] at hf
      refine hQ' (-1) _ (fun F => X_f ?_ F)
      exact hf a rfl _ _ ha (IN_kr hI)
end RD7
end
section
def gCT (tx : Nat → Nat) (pe : Nat → GR) (rc : Bool) (d : Nat) (fin : List Kd → List Nat → Tau) (ks : List Kd) (bs : List Nat) (t : Tau) (c : Nat) : Nat → Nat → GR
  | 0, a => gCl tx (fin (ks ++ [(t, nI c)]) (bs ++ [c])) a
  | k + 1, a => if tx a = 32 then gBi tx pe rc d fin k (a + 1) (ks ++ [(t, nI c)]) (bs ++ [c]) else gCl tx (fin (ks ++ [(t, nI c)]) (bs ++ [c])) a
theorem gBi_e (tx : Nat → Nat) (pe : Nat → GR) (rc : Bool) (d : Nat) (fin : List Kd → List Nat → Tau) (k a : Nat) (ks : List Kd) (bs : List Nat) : gBi tx pe rc d fin k a ks bs = gB1 tx pe rc d a bs (fun t a4 => gCT tx pe rc d fin ks bs t (tx (a + 1)) k a4) := by
  cases k <;> rfl
theorem gB0_c {tx : Nat → Nat} {rc : Bool} {d a : Nat} {bs : List Nat} (h : gB0 tx rc d a bs = none) : cL (tx (a + 1)) = true ∧ d < 9 ∧ tx (a + 1 + 1) = 32 := by
  unfold gB0 at h
  split at h
  · next h1 =>
    split at h
    · next h2 =>
      split at h
      · next h3 => exact ⟨h2.1, h1.2, h3⟩
      · cases h
    · cases h
  · cases h
section RD8
variable {cst : Nat → Option (Nat × (Nat → Int32))} {m b0 b1 : Nat} {op : Bool} {tl : List mj_O} {Q : mj_R → Prop} {s : cS} {r0 r r1 : rM} {a d n len mm l f : Nat} {tx : Nat → Nat} {J : Nat → mj_L → List Value → mj_H → Prop} {u : Option Nat} {ks : List Kd} {kd : Int32}
set_option maxRecDepth 10000
def fiN (rc : Bool) (h : Kd) (ks : List Kd) (ls : List Nat) : Tau := if rc = true then reT h ks ls else leT h ks ls
theorem cT_bi {rc : Bool} {h : Kd} {ls : List Nat} (hk : r.kind n = if rc = true then 7 else 6) (h1 : 1 ≤ ks.length) (h3 : ks.length ≤ 3) (hm : ks.map (fun k => k.2) = ls.map nI) (hl : ∀ c ∈ ls, c < 256) : cT r n (h :: ks) (fiN rc h ks ls) := by
  cases rc with
  | false => exact Or.inr (Or.inr (Or.inr (Or.inl ⟨hk, h, ks, ls, rfl, h1, h3, hm, hl, rfl⟩)))
  | true => exact Or.inr (Or.inr (Or.inr (Or.inr ⟨hk, h, ks, ls, rfl, h1, h3, hm, hl, rfl⟩)))
set_option maxHeartbeats 4000000 in
theorem X_bi (hJ : ∀ pc ls st h, mj_sg (mj_Mt gT cst gnw (m + 5)) cst gnw (mj_hd (mj_off kO_R_read) kH_R_read) kC_R_read J Q 400 true pc ls st h → J pc ls st h) (hE : EXP tx len b0 b1 op tl s Q J f) {rc : Bool} {h : Kd} (hd : d + 1 ≤ 9) (hfd : 10 ≤ f + (d + 1 + 1)) :
    ∀ (j a l mm c : Nat) (ks : List Kd) (bs : List Nat) (t : Tau) (r : rM) (w3 w4 : Int32), txOK r.text len tx → r.typed = nI len → a ≤ len → mm ≤ a → IN tx f r0 r n u (h :: (ks ++ [(t, 0)])) l mm (if rc = true then 7 else 6) → r.letters (3 * n) = nI c → c < 256 → ks.map (fun k => k.2) = bs.map nI → (∀ c ∈ bs, c < 256) → ks.length + j = 2 →
      (∀ t' a', (if tx a = 41 then gCT tx (gEx tx f (d + 2)) rc (d + 1) (fiN rc h) ks bs t c j (a + 1) else .inr a) = .inl (t', a') → SUC tx f b0 b1 op tl s J r0 n d len u t' a') → (∀ a', (if tx a = 41 then gCT tx (gEx tx f (d + 2)) rc (d + 1) (fiN rc h) ks bs t c j (a + 1) else .inr a) = .inr a' → FAI b0 b1 op tl s Q r0 len a') →
      J 35 [some (.ref 27), some (.int (nI n)), some (.int (nI (mm - 1))), some (.int w3), some (.int w4), some (.int 0)] [] (cW s (rW (pdR r a (d + 1 + 1)) tl), b0, b1, op) := by
  intro j
  induction j with
  | zero =>
    intro a l mm c ks bs t r w3 w4 hx ht ha hma hI hlt3 hc hmap hbs hk hs hf
    have h96 := hx.1
    have hlt := IN_lt hI
    have hkl : (h :: (ks ++ [(t, 0)])).length = ks.length + 2 := by rw [List.length_cons, List.length_append]; rfl
    have hI0 := hI
    rw [← List.cons_append] at hI0
    have hI2 := IN_bo (x := nI c) hI0
    rw [List.cons_append] at hI2
    have hmap2 : (ks ++ [(t, nI c)]).map (fun k => k.2) = (bs ++ [c]).map nI := by rw [List.map_append, List.map_append, hmap]; rfl
    have hbs2 : ∀ x ∈ bs ++ [c], x < 256 := by
      intro x hx
      rcases List.mem_append.mp hx with w | w
      · exact hbs x w
      · rw [List.mem_singleton.mp w]
        exact hc
    have hch := cKL_ch (fun i m t w => cR_lt (tx := tx) (r := boR r l (nI c)) f i m t w.1) (ks ++ [(t, nI c)]) h _ _ _ hI2.2.2.1.1 hI2.2.2.1.2.1 (by omega)
    rw [hmap2] at hch
    rw [← hlt3] at hch hI2
    refine X_go hJ (by omega) (fun Q' hQ' => ?_)
    refine R_go6b (rc := rc) (i1 := n + 1) (l := l) (k := ks.length + 2) (bs := bs ++ [c]) hx ht ha hd (by omega) hI.2.2.2.1 (by rw [hI.2.2.1.2.2.2.2, hkl]) (by omega) (by omega) hI.2.2.1.2.2.1 (by omega) hI.2.2.1.2.2.2.1 (by omega) hch hbs2 (fun e => ?_) (fun _ w => by omega) (fun _ _ _ _ w => by omega) (fun e _ e2 => ?_) (fun e _ e2 => ?_)
    · rw [if_neg e] at hf
      refine hQ' (-1) _ (fun F => X_f ?_ F)
      exact hf a rfl _ _ ha (IN_kr hI2)
    · rw [if_pos e] at hs
      have hl2 := hx.lt (a := a) (by omega)
      have hl3 := hx.lt (a := a + 1) (by omega)
      have e3 : gCT tx (gEx tx f (d + 2)) rc (d + 1) (fiN rc h) ks bs t c 0 (a + 1) = .inl (fiN rc h (ks ++ [(t, nI c)]) (bs ++ [c]), a + 1 + 1) := if_pos e2
      refine hQ' 0 _ (fun F => X_0 hJ (by omega) hI2.2.2.2.2.1 ?_ F)
      rw [hlt3] at hI2 ⊢
      exact hs _ _ e3 mm (boR r l (nI c)) w3 w4 hI2.1 hI2.2.1 hI2.2.2.2.2.1 hI2.2.2.2.2.2.1 hI2.2.2.2.2.2.2 (IN_cR hI2 (cT_bi hI2.2.2.2.1 (by rw [List.length_append, List.length_cons, List.length_nil]; omega) (by rw [List.length_append, List.length_cons, List.length_nil]; omega) hmap2 hbs2)) (by omega) (by omega)
    · rw [if_pos e] at hf
      have hl2 := hx.lt (a := a) (by omega)
      have e3 : gCT tx (gEx tx f (d + 2)) rc (d + 1) (fiN rc h) ks bs t c 0 (a + 1) = .inr (a + 1) := if_neg e2
      refine hQ' (-1) _ (fun F => X_f ?_ F)
      exact hf (a + 1) e3 _ _ (by omega) (IN_kr hI2)
  | succ j ih =>
    intro a l mm c ks bs t r w3 w4 hx ht ha hma hI hlt3 hc hmap hbs hk hs hf
    have h96 := hx.1
    have hlt := IN_lt hI
    have hkl : (h :: (ks ++ [(t, 0)])).length = ks.length + 2 := by rw [List.length_cons, List.length_append]; rfl
    have hI0 := hI
    rw [← List.cons_append] at hI0
    have hI2 := IN_bo (x := nI c) hI0
    rw [List.cons_append] at hI2
    have hmap2 : (ks ++ [(t, nI c)]).map (fun k => k.2) = (bs ++ [c]).map nI := by rw [List.map_append, List.map_append, hmap]; rfl
    have hbs2 : ∀ x ∈ bs ++ [c], x < 256 := by
      intro x hx
      rcases List.mem_append.mp hx with w | w
      · exact hbs x w
      · rw [List.mem_singleton.mp w]
        exact hc
    have hch := cKL_ch (fun i m t w => cR_lt (tx := tx) (r := boR r l (nI c)) f i m t w.1) (ks ++ [(t, nI c)]) h _ _ _ hI2.2.2.1.1 hI2.2.2.1.2.1 (by omega)
    rw [hmap2] at hch
    rw [← hlt3] at hch hI2
    refine X_go hJ (by omega) (fun Q' hQ' => ?_)
    have e9 : gCT tx (gEx tx f (d + 2)) rc (d + 1) (fiN rc h) ks bs t c (j + 1) (a + 1) = if tx (a + 1) = 32 then gBi tx (gEx tx f (d + 2)) rc (d + 1) (fiN rc h) j (a + 1 + 1) (ks ++ [(t, nI c)]) (bs ++ [c]) else gCl tx (fiN rc h (ks ++ [(t, nI c)]) (bs ++ [c])) (a + 1) := rfl
    rw [e9] at hs hf
    refine R_go6b (rc := rc) (i1 := n + 1) (l := l) (k := ks.length + 2) (bs := bs ++ [c]) hx ht ha hd (by omega) hI.2.2.2.1 (by rw [hI.2.2.1.2.2.2.2, hkl]) (by omega) (by omega) hI.2.2.1.2.2.1 (by omega) hI.2.2.1.2.2.2.1 (by omega) hch hbs2 (fun e => ?_) (fun e _ e2 g0 => ?_) (fun a' r' d' e _ e2 g0 g1 g2 => ?_) (fun e w e2 => ?_) (fun e w e2 => ?_)
    · rw [if_neg e] at hf
      refine hQ' (-1) _ (fun F => X_f ?_ F)
      exact hf a rfl _ _ ha (IN_kr hI2)
    · rw [if_pos e, if_pos e2, gBi_e, gB1_e, g0] at hs hf
      obtain ⟨q1, q2, q3⟩ := gB0_c g0
      have hl2 := hx.lt (a := a + 1 + 1 + 1 + 1) (by omega)
      have hcc := hx.le (a + 1 + 1 + 1)
      have hI3 := IN_lt3 (x := nI (tx (a + 1 + 1 + 1))) hI2
      have hl0 : (ltR (boR r l (r.letters (3 * n))) (3 * n) (nI (tx (a + 1 + 1 + 1)))).letters (3 * n) = nI (tx (a + 1 + 1 + 1)) := if_pos rfl
      refine hQ' 1 _ (fun F => X_1 hJ (by omega) (fun x3 x4 x5 => ?_) F)
      refine hE (d + 1 + 1) (a + 1 + 1 + 1 + 1 + 1) mm (some n) (ltR (boR r l (r.letters (3 * n))) (3 * n) (nI (tx (a + 1 + 1 + 1)))) x3 x4 x5 hx ht (by omega) (by omega) hfd (by omega) hI3.2.1 (IN_hu hI3 (by omega)) (fun t2 a' e3 r' w3 w4 g1 g2 g3 g4 g5 g6 g7 g9 g10 => ?_) (fun a' d' r' g1 g2 g3 => ?_)
      · have g1 : gEx tx f (d + 2) (a + 1 + 1 + 1 + 1 + 1) = .inl (t2, a') := g1
        rw [g1] at hs hf
        obtain ⟨i1, i2, i3⟩ := IN_next (by omega) hI3 g2 g3 g7 g4 g5 g6
        have hkx := kr_text g2.1
        rw [hlt3] at i1
        rw [List.cons_append] at i1
        exact ih a' mm e3 (tx (a + 1 + 1 + 1)) (ks ++ [(t, nI c)]) (bs ++ [c]) t2 r' w3 w4 (by rw [hkx.1]; exact hx) (by rw [hkx.2]; exact ht) g9 g10 i1 ((i3 (3 * n) (by omega)).trans hl0) (by omega) hmap2 hbs2 (by rw [List.length_append, List.length_cons, List.length_nil]; omega) hs hf
      · have g1 : gEx tx f (d + 2) (a + 1 + 1 + 1 + 1 + 1) = .inr a' := g1
        rw [g1] at hf
        exact hf a' rfl d' r' g2 (kr_tr (IN_kr hI3) g3)
    · rw [if_pos e, if_pos e2, gBi_e, gB1_e, g0] at hf
      refine hQ' (-1) _ (fun F => X_f ?_ F)
      exact hf a' rfl _ _ g1 (kr_tr (IN_kr hI) g2)
    · have n32 : ¬ tx (a + 1) = 32 := fun q => w ⟨by omega, q⟩
      rw [if_pos e, if_neg n32] at hs
      have hl2 := hx.lt (a := a) (by omega)
      have hl3 := hx.lt (a := a + 1) (by omega)
      have e3 : gCl tx (fiN rc h (ks ++ [(t, nI c)]) (bs ++ [c])) (a + 1) = .inl (fiN rc h (ks ++ [(t, nI c)]) (bs ++ [c]), a + 1 + 1) := if_pos e2
      refine hQ' 0 _ (fun F => X_0 hJ (by omega) hI2.2.2.2.2.1 ?_ F)
      rw [hlt3] at hI2 ⊢
      exact hs _ _ e3 mm (boR r l (nI c)) w3 w4 hI2.1 hI2.2.1 hI2.2.2.2.2.1 hI2.2.2.2.2.2.1 hI2.2.2.2.2.2.2 (IN_cR hI2 (cT_bi hI2.2.2.2.1 (by rw [List.length_append, List.length_cons, List.length_nil]; omega) (by rw [List.length_append, List.length_cons, List.length_nil]; omega) hmap2 hbs2)) (by omega) (by omega)
    · have n32 : ¬ tx (a + 1) = 32 := fun q => w ⟨by omega, q⟩
      rw [if_pos e, if_neg n32] at hf
      have hl2 := hx.lt (a := a) (by omega)
      have e3 : gCl tx (fiN rc h (ks ++ [(t, nI c)]) (bs ++ [c])) (a + 1) = .inr (a + 1) := if_neg e2
      refine hQ' (-1) _ (fun F => X_f ?_ F)
      exact hf (a + 1) e3 _ _ (by omega) (IN_kr hI2)
theorem X_let (hJ : ∀ pc ls st h, mj_sg (mj_Mt gT cst gnw (m + 5)) cst gnw (mj_hd (mj_off kO_R_read) kH_R_read) kC_R_read J Q 400 true pc ls st h → J pc ls st h) (hE : EXP tx len b0 b1 op tl s Q J f) {rc : Bool} {h : Kd} (hd : d + 1 ≤ 9) (hfd : 10 ≤ f + (d + 1)) {w3 w4 : Int32} (hx : txOK r.text len tx) (ht : r.typed = nI len) (ha : a ≤ len) (hma : mm ≤ a) (hI : IN tx f r0 r n u [h] l mm (if rc = true then 7 else 6))
    (hs : ∀ t' a', (if tx a = 32 then gBi tx (gEx tx f (d + 2)) rc (d + 1) (fiN rc h) 2 (a + 1) [] [] else .inr a) = .inl (t', a') → SUC tx f b0 b1 op tl s J r0 n d len u t' a') (hf : ∀ a', (if tx a = 32 then gBi tx (gEx tx f (d + 2)) rc (d + 1) (fiN rc h) 2 (a + 1) [] [] else .inr a) = .inr a' → FAI b0 b1 op tl s Q r0 len a') :
    J 35 [some (.ref 27), some (.int (nI n)), some (.int (nI (mm - 1))), some (.int w3), some (.int w4), some (.int 0)] [] (cW s (rW (pdR r a (d + 1)) tl), b0, b1, op) := by
  have h96 := hx.1
  have hlt := IN_lt hI
  have hl1 : n + 1 = l := hI.2.2.1.1.1
  refine X_go hJ (by omega) (fun Q' hQ' => ?_)
  refine R_go6a (rc := rc) (i1 := n + 1) hx ht ha hd (by omega) hI.2.2.2.1 hI.2.2.1.2.2.2.2 hI.2.2.1.2.2.1 (by omega) (by rw [hl1]; exact hI.2.2.1.2.1) (fun e g0 => ?_) (fun a' r' d' e g0 g1 g2 => ?_) (fun e => ?_)
  · rw [if_pos e, gBi_e, gB1_e, g0] at hs hf
    obtain ⟨q1, q2, q3⟩ := gB0_c g0
    have hl2 := hx.lt (a := a + 1 + 1 + 1) (by omega)
    have hcc := hx.le (a + 1 + 1)
    have hI3 := IN_lt3 (x := nI (tx (a + 1 + 1))) hI
    have hl0 : (ltR r (3 * n) (nI (tx (a + 1 + 1)))).letters (3 * n) = nI (tx (a + 1 + 1)) := if_pos rfl
    refine hQ' 1 _ (fun F => X_1 hJ (by omega) (fun x3 x4 x5 => ?_) F)
    refine hE (d + 1 + 1) (a + 1 + 1 + 1 + 1) mm (some n) (ltR r (3 * n) (nI (tx (a + 1 + 1)))) x3 x4 x5 hx ht (by omega) (by omega) (by omega) (by omega) hI3.2.1 (IN_hu hI3 (by omega)) (fun t2 a' e3 r' w3 w4 g1 g2 g3 g4 g5 g6 g7 g9 g10 => ?_) (fun a' d' r' g1 g2 g3 => ?_)
    · have g1 : gEx tx f (d + 2) (a + 1 + 1 + 1 + 1) = .inl (t2, a') := g1
      rw [g1] at hs hf
      obtain ⟨i1, i2, i3⟩ := IN_next (by omega) hI3 g2 g3 g7 g4 g5 g6
      have hkx := kr_text g2.1
      exact X_bi hJ hE hd (by omega) 2 a' mm e3 (tx (a + 1 + 1)) [] [] t2 r' w3 w4 (by rw [hkx.1]; exact hx) (by rw [hkx.2]; exact ht) g9 g10 i1 ((i3 (3 * n) (by omega)).trans hl0) (by omega) rfl (fun c hc => absurd hc List.not_mem_nil) rfl hs hf
    · have g1 : gEx tx f (d + 2) (a + 1 + 1 + 1 + 1) = .inr a' := g1
      rw [g1] at hf
      exact hf a' rfl d' r' g2 (kr_tr (IN_kr hI3) g3)
  · rw [if_pos e, gBi_e, gB1_e, g0] at hf
    refine hQ' (-1) _ (fun F => X_f ?_ F)
    exact hf a' rfl _ _ g1 (kr_tr (IN_kr hI) g2)
  · rw [if_neg e] at hf
    refine hQ' (-1) _ (fun F => X_f ?_ F)
    exact hf a rfl _ _ ha (IN_kr hI)
end RD8
end
section
theorem gEx_br {tx : Nat → Nat} {f d a : Nat} (h : tx a = 40) (h9 : d < 9) : gEx tx (f + 1) d a = gBr tx (gEx tx f (d + 1)) (gEx tx f (d + 2)) (d + 1) (a + 1) := by
  have e0 : gEx tx (f + 1) d a = if cL (tx a) then .inl (fun φ => [(1, 2), (6, lkF (tx a) φ 0)], a + 1) else if tx a = 39 then (match gD tx 200 false 0 d (a + 1) with | .inr e => .inr e | .inl (D, a2) => .inl (fun _ => (1, 1) :: D, a2)) else if tx a = 40 then (if d < 9 then gBr tx (gEx tx f (d + 1)) (gEx tx f (d + 2)) (d + 1) (a + 1) else .inr a) else if cD (tx (pA1 tx a)) then .inl (fun _ => [(1, 1), (1, pVal tx a)], (pDg tx 4 (pA1 tx a) 0).1) else .inr (pA1 tx a) := rfl
  rw [e0, if_neg (by rw [h]; decide), if_neg (by omega), if_pos h, if_pos h9]
section RD9
variable {cst : Nat → Option (Nat × (Nat → Int32))} {m b0 b1 : Nat} {op : Bool} {tl : List mj_O} {Q : mj_R → Prop} {s : cS} {r0 r r1 : rM} {len : Nat} {tx : Nat → Nat} {J : Nat → mj_L → List Value → mj_H → Prop}
set_option maxRecDepth 10000
theorem BG_hu {a n : Nat} {u : Option Nat} {kd : Int32} (h : BG r0 r1 n a u kd) : ∀ v, (some n) = some v → v < n + 1 ∧ (r1.first v < 0 ∨ ∃ l, l < n + 1 ∧ r1.last v = nI l ∧ ¬ r1.first v < 0) := by
  intro v hv
  cases hv
  refine ⟨by omega, Or.inl ?_⟩
  rw [h.2.2.2.1]
  decide
set_option maxHeartbeats 4000000 in
theorem R_ex (hJ : ∀ pc ls st h, mj_sg (mj_Mt gT cst gnw (m + 5)) cst gnw (mj_hd (mj_off kO_R_read) kH_R_read) kC_R_read J Q 400 true pc ls st h → J pc ls st h) : ∀ f : Nat, EXP tx len b0 b1 op tl s Q J f
  | 0 => by
    intro d a n u r x3 x4 x5 hx ht ha hd hfd
    omega
  | f + 1 => by
    have hE := R_ex hJ f
    intro d a n u r x3 x4 x5 hx ht ha hd hfd hna hn hu hs hf
    have h96 := hx.1
    refine hJ _ _ _ _ ?_
    refine And.intro (fun (g : (100 : Int32) ≤ nI n) => absurd g (nI_ge (b := 100) (by omega) (by decide))) (fun _ => ?_)
    have down : ∀ (r1 : rM) (a' : Nat), (∀ z : Int32, J 13 [some (.ref 27), some (.int (nI n)), some (.int (nI (n + 1))), some (.int z), some (.int 1), x5] [] (cW s (rW (pdR r1 a' (d + 1)) tl), b0, b1, op)) → ∀ F : Nat, ∀ z : Int32, z = nI n → mj_sg (mj_Mt gT cst gnw (m + 5)) cst gnw (mj_hd (mj_off kO_R_read) kH_R_read) kC_R_read J Q (F + 30) false 22 [some (.ref 27), some (.int (oV u)), some (.int (nI n)), some (.int z), x4, x5] [.int 1] (cW s (rW (pdR r1 a' (d + 1)) tl), b0, b1, op) := by
      rintro r1 a' h F z rfl
      refine And.intro (fun _ => ?_) (fun (g : ¬ (0 : Int32) ≤ 1) => absurd (by decide) g)
      refine And.intro (fun (g : ¬ (1 : Int32) = 1) => absurd rfl g) (fun _ => ?_)
      have key : ∀ y : Int32, y = nI (n + 1) → J 13 [some (.ref 27), some (.int (nI n)), some (.int y), some (.int (nI n)), some (.int 1), x5] [] (cW s (rW (pdR r1 a' (d + 1)) tl), b0, b1, op) := by
        rintro y rfl
        exact h _
      exact key _ (nI_succ n).symm
    have suc : ∀ (t : Tau) (a' : Nat), gEx tx (f + 1) d a = .inl (t, a') → SUC tx f b0 b1 op tl s J r n d len u t a' := fun t a' e0 e r' w3 w4 g1 g2 g3 g4 g5 g6 g7 g8 => hs t a' e r' w3 w4 e0 g1 g2 g3 g4 g5 g6 g7 g8
    have fai : ∀ a', gEx tx (f + 1) d a = .inr a' → FAI b0 b1 op tl s Q r len a' := fun a' e0 d' r' g1 g2 => hf a' d' r' e0 g1 g2
    refine R_begin (f := f) hx ht ha hd hn (by omega) hu (fun t a' r' e0 hb hc h1 h2 => ?_) (fun a' r' d' e0 h1 h2 => ?_) (fun r1 e40 h9 hS e32 hb hv => ?_) (fun r1 ls a2 e40 h9 nS e92 hg hl1 hl2 hb hlen hv hlet h256 => ?_) (fun r1 e40 h9 nS n92 hbo e32 hb => ?_) (fun r1 e40 h9 nS n92 nbo hb => ?_)
    · obtain ⟨k, hb⟩ := hb
      refine And.intro (fun _ => ?_) (fun (g : ¬ (0 : Int32) ≤ 0) => absurd (by decide) g)
      refine And.intro (fun _ => ?_) (fun (g : (0 : Int32) = 1) => absurd g (by decide))
      exact hs t a' (n + 1) r' _ _ e0 hb.1 hb.2.1 hb.2.2.1.1 hb.2.2.2.2.2.1 hb.2.2.2.2.2.2.2 hc h2 (by omega)
    · refine And.intro (fun (g : (0 : Int32) ≤ -1) => absurd g (by decide)) (fun _ => ?_)
      exact And.intro (Or.inl rfl) (hf a' d' r' e0 h1 h2)
    · -- a sign
      have hk1 := kr_text hb.1.1
      have hl2 := hx.lt (a := a + 1 + 1) (by omega)
      have hcc := hx.le (a + 1)
      have eG : gEx tx (f + 1) d a = gSg tx (gEx tx f (d + 1)) (a + 1) := by
        rw [gEx_br e40 h9]
        exact if_pos hS
      unfold gSg at eG
      rw [if_pos e32] at eG
      refine down r1 _ (fun z => ?_) _ _ hn
      refine hE (d + 1) (a + 1 + 1 + 1) (n + 1) (some n) r1 _ _ _ (by rw [hk1.1]; exact hx) (by rw [hk1.2]; exact ht) (by omega) (by omega) (by omega) (by omega) hb.2.1 (BG_hu hb) (fun t a' e2 r' w3 w4 g1 g2 g3 g4 g5 g6 g7 g9 g10 => ?_) (fun a' d' r' g1 g2 g3 => ?_)
      · rw [g1] at eG
        obtain ⟨i1, i2, i3⟩ := IN_first (by omega) hb g2 g3 g7 g4 g5 g6
        have hkx := kr_text g2.1
        exact X_sign hJ hE (c := tx (a + 1)) (by omega) hS.1 (by omega) (by omega) (ar (tx (a + 1)) - 1) a' (n + 1) e2 [(t, 0)] r' w3 w4 (by rw [hkx.1, hk1.1]; exact hx) (by rw [hkx.2, hk1.2]; exact ht) g9 g10 i1 (i2.trans hv) (by have := hS.1; rw [List.length_cons, List.length_nil]; omega) (fun t' a'' q => suc t' a'' (eG.trans q)) (fun a'' q => fai a'' (eG.trans q))
      · rw [g1] at eG
        exact hf a' d' r' eG g2 (kr_tr hb.1.1 g3)
    · -- a function
      have hk1 := kr_text hb.1.1
      have eG : gEx tx (f + 1) d a = gBo tx (gEx tx f (d + 1)) (d + 1) (a + 1) := by
        rw [gEx_br e40 h9]
        unfold gBr
        rw [if_neg (show ¬ (0 < ar (tx (a + 1)) ∧ ¬ (tx (a + 1) = 45 ∧ cD (tx (a + 1 + 1)) = true)) from nS), if_pos e92]
      unfold gBo at eG
      rw [hg] at eG
      refine down r1 _ (fun z => ?_) _ _ hn
      refine hE (d + 1) a2 (n + 1) (some n) r1 _ _ _ (by rw [hk1.1]; exact hx) (by rw [hk1.2]; exact ht) (by omega) (by omega) (by omega) (by omega) hb.2.1 (BG_hu hb) (fun t a' e2 r' w3 w4 g1 g2 g3 g4 g5 g6 g7 g9 g10 => ?_) (fun a' d' r' g1 g2 g3 => ?_)
      · simp only [g1] at eG
        obtain ⟨i1, i2, i3⟩ := IN_first (by omega) hb g2 g3 g7 g4 g5 g6
        have hkx := kr_text g2.1
        have hx' : txOK r'.text len tx := by rw [hkx.1, hk1.1]; exact hx
        have ht' : r'.typed = nI len := by rw [hkx.2, hk1.2]; exact ht
        have hlt := IN_lt i1
        refine X_go hJ (by omega) (fun Q' hQ' => ?_)
        unfold gCl at eG
        refine R_go5 (by omega) i1.2.2.2.1 hx' ht' (by omega) (fun e => ?_) (fun e => ?_)
        · rw [if_pos e] at eG
          have hl3 := hx.lt (a := a') (by omega)
          refine hQ' 0 _ (fun F => X_0 hJ (by omega) i1.2.2.2.2.1 ?_ F)
          refine suc _ _ eG e2 r' w3 w4 i1.1 i1.2.1 i1.2.2.2.2.1 i1.2.2.2.2.2.1 i1.2.2.2.2.2.2 (IN_cR i1 (Or.inr (Or.inr (Or.inl ⟨i1.2.2.2.1, (t, 0), ls, rfl, hlen, i2.trans hv, fun i c hi => ?_, h256, rfl⟩)))) (by omega) (by omega)
          have : i < ls.length := by
            rcases Nat.lt_or_ge i ls.length with w | w
            · exact w
            · rw [List.getElem?_eq_none w] at hi
              cases hi
          rw [i3 _ (by omega)]
          exact hlet i c hi
        · rw [if_neg e] at eG
          refine hQ' (-1) _ (fun F => X_f ?_ F)
          exact fai _ eG _ _ g9 (IN_kr i1)
      · simp only [g1] at eG
        exact hf a' d' r' eG g2 (kr_tr hb.1.1 g3)
    · -- bound
      have hk1 := kr_text hb.1.1
      have hl2 := hx.lt (a := a + 1 + 1) (by omega)
      have eG : gEx tx (f + 1) d a = gLe tx (gEx tx f (d + 1)) (gEx tx f (d + 2)) (decide (tx (a + 1) = 59)) (d + 1) (a + 1) := by
        rw [gEx_br e40 h9]
        unfold gBr
        rw [if_neg (show ¬ (0 < ar (tx (a + 1)) ∧ ¬ (tx (a + 1) = 45 ∧ cD (tx (a + 1 + 1)) = true)) from nS), if_neg n92, if_pos hbo]
      have ekd : (if tx (a + 1) = 58 then (6 : Int32) else 7) = if decide (tx (a + 1) = 59) = true then 7 else 6 := by
        rcases hbo with e | e
        · rw [if_pos e, if_neg (by rw [e]; decide)]
        · rw [if_neg (by omega), if_pos (by rw [e]; decide)]
      rw [ekd] at hb
      generalize decide (tx (a + 1) = 59) = rc at eG hb
      unfold gLe at eG
      rw [if_pos e32] at eG
      refine down r1 _ (fun z => ?_) _ _ hn
      refine hE (d + 1) (a + 1 + 1 + 1) (n + 1) (some n) r1 _ _ _ (by rw [hk1.1]; exact hx) (by rw [hk1.2]; exact ht) (by omega) (by omega) (by omega) (by omega) hb.2.1 (BG_hu hb) (fun t a' e2 r' w3 w4 g1 g2 g3 g4 g5 g6 g7 g9 g10 => ?_) (fun a' d' r' g1 g2 g3 => ?_)
      · simp only [g1] at eG
        obtain ⟨i1, i2, i3⟩ := IN_first (by omega) hb g2 g3 g7 g4 g5 g6
        have hkx := kr_text g2.1
        exact X_let hJ hE (rc := rc) (h := (t, 0)) (by omega) (by omega) (by rw [hkx.1, hk1.1]; exact hx) (by rw [hkx.2, hk1.2]; exact ht) g9 g10 i1 (fun t' a'' q => suc t' a'' (eG.trans q)) (fun a'' q => fai a'' (eG.trans q))
      · simp only [g1] at eG
        exact hf a' d' r' eG g2 (kr_tr hb.1.1 g3)
    · -- a call
      have hk1 := kr_text hb.1.1
      have hl2 := hx.lt (a := a) (by omega)
      have eG : gEx tx (f + 1) d a = gCa tx (gEx tx f (d + 1)) (a + 1) := by
        rw [gEx_br e40 h9]
        unfold gBr
        rw [if_neg (show ¬ (0 < ar (tx (a + 1)) ∧ ¬ (tx (a + 1) = 45 ∧ cD (tx (a + 1 + 1)) = true)) from nS), if_neg n92, if_neg nbo]
      unfold gCa at eG
      refine down r1 _ (fun z => ?_) _ _ hn
      refine hE (d + 1) (a + 1) (n + 1) (some n) r1 _ _ _ (by rw [hk1.1]; exact hx) (by rw [hk1.2]; exact ht) (by omega) (by omega) (by omega) (by omega) hb.2.1 (BG_hu hb) (fun t a' e2 r' w3 w4 g1 g2 g3 g4 g5 g6 g7 g9 g10 => ?_) (fun a' d' r' g1 g2 g3 => ?_)
      · simp only [g1] at eG
        obtain ⟨i1, i2, i3⟩ := IN_first (by omega) hb g2 g3 g7 g4 g5 g6
        have hkx := kr_text g2.1
        exact X_call hJ hE (h := (t, 0)) (by omega) (by omega) 3 a' (n + 1) e2 [] r' w3 w4 (by rw [hkx.1, hk1.1]; exact hx) (by rw [hkx.2, hk1.2]; exact ht) g9 g10 i1 rfl (fun t' a'' q => suc t' a'' (eG.trans q)) (fun a'' q => fai a'' (eG.trans q))
      · simp only [g1] at eG
        exact hf a' d' r' eG g2 (kr_tr hb.1.1 g3)
theorem R_read (hx : txOK r.text len tx) (ht : r.typed = nI len)
    (h1 : ∀ t e r', gEx tx 10 0 0 = .inl (t, len) → kr r r' → r'.parts = nI e → e ≤ len → r'.parent 0 = -1 → cR tx r' 10 0 e t → Q (.inl (some (.int 1)), (cW s (rW (pdR r' len 0) tl), b0, b1, op)))
    (h2 : ∀ t a' r', gEx tx 10 0 0 = .inl (t, a') → ¬ a' = len → a' ≤ len → kr r r' → Q (.inl (some (.int 0)), (cW s (rW (pdR r' a' 0) tl), b0, b1, op)))
    (h0 : ∀ a' r' d', gEx tx 10 0 0 = .inr a' → a' ≤ len → kr r r' → Q (.inl (some (.int 0)), (cW s (rW (pdR r' a' d') tl), b0, b1, op))) : mj_Mt gT cst gnw (m + 6) y_R_read [.ref 27] (cW s (rW r tl), b0, b1, op) Q := by
  have h96 := hx.1
  intro J hJ
  have main := R_ex (tx := tx) (len := len) (b0 := b0) (b1 := b1) (op := op) (tl := tl) (s := s) hJ 10 0 0 0 none (r.s_parts (nI 0)) none none none hx ht (Nat.zero_le _) (by decide) (by decide) (Nat.le_refl _) rfl (fun v hv => by cases hv) (fun t a' e r' w3 w4 g1 g2 g3 g4 g5 g6 g7 g9 g10 => ?_) (fun a' d' r' g1 g2 g3 => h0 a' r' d' g1 g2 g3)
  · refine hJ _ _ _ _ ?_
    exact main
  · have hkx := kr_text g2.1
    have ht' : r'.typed = nI len := hkx.2.trans ht
    refine hJ _ _ _ _ ?_
    refine And.intro (fun (g : ¬ (0 : Int32) = 0) => absurd rfl g) (fun _ => ?_)
    refine And.intro (fun (g : (0 : Int32) ≤ oV none) => absurd g (by decide)) (fun _ => ?_)
    refine And.intro (fun (g : ¬ nI a' = r'.typed) => ?_) (fun (g : nI a' = r'.typed) => ?_)
    · rw [ht'] at g
      exact And.intro (Or.inl rfl) (h2 t a' r' g1 (fun e => g (by rw [e])) g9 g2.1)
    · rw [ht'] at g
      have e : a' = len := nIj (by omega) (by omega) g
      subst e
      exact And.intro (Or.inr rfl) (h1 t e r' g1 g2.1 g3 g10 g4 g7)
end RD9
end
section
def FRb (r : rM) (v : Nat) (ls : List Nat) : Prop := r.kind v = 5 ∧ r.value v = nI ls.length ∧ ls.length ≤ 3 ∧ (∀ i c, ls[i]? = some c → r.letters (3 * v + i) = nI c) ∧ (∀ c ∈ ls, c < 256)
def FRk (r : rM) (v : Nat) (ls : List Nat) : Prop := (r.kind v = 6 ∨ r.kind v = 7) ∧ ∃ i1, i1 < 100 ∧ r.first v = nI i1 ∧ chL r.next r.bound (ls.map nI) (r.next i1) ∧ (∀ c ∈ ls, c < 256) ∧ ls.length ≤ 3
def CHd (r : rM) : Nat → Nat → Fr → Prop
  | 0, n, φ => r.parent n = -1 ∧ φ = []
  | k + 1, n, φ => ∃ v φ', v < 100 ∧ r.parent n = nI v ∧ CHd r k v φ' ∧
      ((∃ ls, φ = ls :: φ' ∧ (FRb r v ls ∨ (FRk r v ls ∧ (r.kind v = 7 ∨ r.first v = nI n)))) ∨ (φ = φ' ∧ ¬ r.kind v = 5 ∧ ¬ r.kind v = 7 ∧ (¬ r.kind v = 6 ∨ ¬ r.first v = nI n)))
section YA
variable {cst : Nat → Option (Nat × (Nat → Int32))} {m b0 b1 : Nat} {op : Bool} {tl : List mj_O} {Q : mj_R → Prop} {s : cS} {r : rM}
set_option maxRecDepth 10000
theorem R_placeIn {v c : Nat} {ls : List Nat} (hv : v < 100) (hc : c < 256) (h : FRb r v ls ∨ FRk r v ls) (hQ : Q (.inl (some (.int (oV (plc c ls 0)))), (cW s (rW r tl), b0, b1, op))) : mj_Mt gT cst gnw (m + 1) y_R_placeIn [.ref 27, .int (nI v), .int (nI c)] (cW s (rW r tl), b0, b1, op) Q := by
  have hiv : vp_in (nI v) 100 := vp_in_nI hv (by decide)
  have ekv : (nI v).toNatClampNeg = v := nI_clamp (by omega)
  intro J hJ
  rcases h with ⟨h1, h2, h3, h4, h5⟩ | ⟨h1, i1, h2, h3, h4, h5, -⟩
  · have loop : ∀ (rest : List Nat) (k : Nat), k + rest.length = ls.length → (∀ i, rest[i]? = ls[k + i]?) → plc c rest k = plc c ls 0 → J 8 [some (.ref 27), some (.int (nI v)), some (.int (nI c)), some (.int (nI k)), none] [] (cW s (rW r tl), b0, b1, op) := by
      intro rest
      induction rest with
      | nil =>
        intro k hk hr e
        have hk : k = ls.length := hk
        refine hJ _ _ _ _ ?_
        refine And.intro hiv ?_
        rw [ekv, h2]
        refine And.intro (fun _ => ?_) (fun (g : ¬ nI ls.length ≤ nI k) => absurd (nI_le (by omega) (by omega)) g)
        rw [← e] at hQ
        exact hQ
      | cons y rest ih =>
        intro k hk hr e
        rw [List.length_cons] at hk
        have hy : ls[k]? = some y := by
          have := hr 0
          rw [Nat.add_zero] at this
          exact this.symm
        have hy256 : y < 256 := h5 y (List.mem_of_getElem? hy)
        have i3 : Int32.ofInt 3 * nI v + nI k = nI (3 * v + k) := by rw [three_n, nI_add]
        refine hJ _ _ _ _ ?_
        refine And.intro hiv ?_
        rw [ekv, h2]
        refine And.intro (fun (g : nI ls.length ≤ nI k) => absurd g (nI_ge (by omega) (by omega))) (fun _ => ?_)
        refine And.intro (show vp_in (Int32.ofInt 3 * nI v + nI k) 300 by rw [i3]; exact vp_in_nI (by omega) (by decide)) ?_
        rw [i3, nI_clamp (by omega), h4 k y hy]
        have e0 : plc c (y :: rest) k = if y = c then some k else plc c rest (k + 1) := rfl
        rw [e0] at e
        refine And.intro (fun (g : ¬ nI y = nI c) => ?_) (fun (g : nI y = nI c) => ?_)
        · have ne : ¬ y = c := fun q => g (by rw [q])
          rw [if_neg ne] at e
          have key : ∀ x : Int32, x = nI (k + 1) → J 8 [some (.ref 27), some (.int (nI v)), some (.int (nI c)), some (.int x), none] [] (cW s (rW r tl), b0, b1, op) := by
            rintro x rfl
            refine ih (k + 1) (by omega) (fun i => ?_) e
            have := hr (i + 1)
            rw [show k + (i + 1) = k + 1 + i by omega] at this
            exact this
          exact key _ (nI_succ k).symm
        · have eq : y = c := nIj (by omega) (by omega) g
          rw [if_pos eq] at e
          rw [← e] at hQ
          exact hQ
    refine hJ _ _ _ _ ?_
    refine And.intro hiv ?_
    rw [ekv, h1]
    refine And.intro (fun (g : ¬ (5 : Int32) = 5) => absurd rfl g) (fun _ => ?_)
    exact loop ls 0 (by omega) (fun i => by rw [Nat.zero_add]) rfl
  · have loop : ∀ (rest : List Nat) (k : Nat) (x : Int32), chL r.next r.bound (rest.map nI) x → (∀ c ∈ rest, c < 256) → plc c rest k = plc c ls 0 → J 40 [some (.ref 27), some (.int (nI v)), some (.int (nI c)), some (.int (nI k)), some (.int x)] [] (cW s (rW r tl), b0, b1, op) := by
      intro rest
      induction rest with
      | nil =>
        intro k x hx hb e
        have hx : x = -1 := hx
        subst hx
        refine hJ _ _ _ _ ?_
        refine And.intro (fun _ => ?_) (fun (g : ¬ (-1 : Int32) < 0) => absurd (by decide) g)
        rw [← e] at hQ
        exact hQ
      | cons y rest ih =>
        intro k x hx hb e
        obtain ⟨i, hi, rfl, hbi, hx2⟩ := hx
        have hii : vp_in (nI i) 100 := vp_in_nI hi (by decide)
        have eki : (nI i).toNatClampNeg = i := nI_clamp (by omega)
        have hy256 : y < 256 := hb y List.mem_cons_self
        refine hJ _ _ _ _ ?_
        refine And.intro (fun (g : nI i < 0) => absurd g (nI_pos (by omega))) (fun _ => ?_)
        refine And.intro hii ?_
        rw [eki, hbi]
        have e0 : plc c (y :: rest) k = if y = c then some k else plc c rest (k + 1) := rfl
        rw [e0] at e
        refine And.intro (fun (g : ¬ nI y = nI c) => ?_) (fun (g : nI y = nI c) => ?_)
        · have ne : ¬ y = c := fun q => g (by rw [q])
          rw [if_neg ne] at e
          refine And.intro hii ?_
          rw [eki]
          have key : ∀ x : Int32, x = nI (k + 1) → J 40 [some (.ref 27), some (.int (nI v)), some (.int (nI c)), some (.int x), some (.int (r.next i))] [] (cW s (rW r tl), b0, b1, op) := by
            rintro x rfl
            exact ih (k + 1) _ hx2 (fun c hc => hb c (List.mem_cons_of_mem _ hc)) e
          exact key _ (nI_succ k).symm
        · have eq : y = c := nIj (by omega) (by omega) g
          rw [if_pos eq] at e
          rw [← e] at hQ
          exact hQ
    refine hJ _ _ _ _ ?_
    refine And.intro hiv ?_
    rw [ekv]
    refine And.intro (fun _ => ?_) (fun (g : r.kind v = 5) => by rcases h1 with w | w <;> rw [w] at g <;> exact absurd g (by decide))
    refine And.intro hiv ?_
    rw [ekv, h3]
    refine And.intro (vp_in_nI h2 (by decide)) ?_
    rw [nI_clamp (by omega)]
    exact loop ls 0 _ h4 h5 rfl
theorem plc_lt {c : Nat} : ∀ (ls : List Nat) (k i : Nat), plc c ls k = some i → k ≤ i ∧ i < k + ls.length
  | [], k, i, h => by cases h
  | y :: ls, k, i, h => by
    have e0 : plc c (y :: ls) k = if y = c then some k else plc c ls (k + 1) := rfl
    rw [e0] at h
    rw [List.length_cons]
    split at h
    · cases h
      omega
    · have := plc_lt ls (k + 1) i h
      omega
theorem R_resolved {nm c k0 : Nat} {φ0 : Fr} (hn : nm < 100) (hv : r.value nm = nI c) (hc : c < 256) (hch : CHd r k0 nm φ0) (hQ : Q (.inl (some (.int (lkF c φ0 0))), (cW s (rW r tl), b0, b1, op))) : mj_Mt gT cst gnw (m + 2) y_R_resolved [.ref 27, .int (nI nm)] (cW s (rW r tl), b0, b1, op) Q := by
  have hin : vp_in (nI nm) 100 := vp_in_nI hn (by decide)
  have ekn : (nI nm).toNatClampNeg = nm := nI_clamp (by omega)
  intro J hJ
  have loop : ∀ (k fr j : Nat) (φ : Fr) (x5 x6 : Option Value), fr < 100 → CHd r k fr φ → lkF c φ j = lkF c φ0 0 → J 9 [some (.ref 27), some (.int (nI nm)), some (.int (nI j)), some (.int (nI fr)), some (.int (r.parent fr)), x5, x6] [] (cW s (rW r tl), b0, b1, op) := by
    intro k
    induction k with
    | zero =>
      intro fr j φ x5 x6 hfr hcd e
      obtain ⟨h1, rfl⟩ := hcd
      rw [h1]
      refine hJ _ _ _ _ ?_
      refine And.intro (fun _ => ?_) (fun (g : ¬ (-1 : Int32) < 0) => absurd (by decide) g)
      rw [← e] at hQ
      exact hQ
    | succ k ih =>
      intro fr j φ x5 x6 hfr hcd e
      obtain ⟨v, φ', hv1, h1, h2, h3⟩ := hcd
      rw [h1]
      have hiv : vp_in (nI v) 100 := vp_in_nI hv1 (by decide)
      have ekv : (nI v).toNatClampNeg = v := nI_clamp (by omega)
      have up : ∀ (j2 : Nat) (z : Int32) (w5 w6 : Int32), z = nI j2 → lkF c φ' j2 = lkF c φ0 0 → J 9 [some (.ref 27), some (.int (nI nm)), some (.int z), some (.int (nI v)), some (.int (r.parent v)), some (.int w5), some (.int w6)] [] (cW s (rW r tl), b0, b1, op) := by
        rintro j2 z w5 w6 rfl e2
        exact ih v j2 φ' _ _ hv1 h2 e2
      have fra : ∀ ls, φ = ls :: φ' → (FRb r v ls ∨ FRk r v ls) → ∀ F : Nat, mj_sg (mj_Mt gT cst gnw (m + 1)) cst gnw (mj_hd (mj_off kO_R_resolved) kH_R_resolved) kC_R_resolved J Q (F + 100) false 35 [some (.ref 27), some (.int (nI nm)), some (.int (nI j)), some (.int (nI fr)), some (.int (nI v)), x5, x6] [] (cW s (rW r tl), b0, b1, op) := by
        intro ls eφ hF F
        rw [eφ] at e
        have e0 : lkF c (ls :: φ') j = match plc c ls 0 with | some i => nI (16 * j + i) | none => lkF c φ' (j + 1) := rfl
        rw [e0] at e
        refine And.intro (fun (g : (1 : Int32) = 0) => absurd g (by decide)) (fun _ => ?_)
        refine And.intro hin ?_
        rw [ekn, hv]
        refine R_placeIn hv1 hc hF ?_
        cases hp : plc c ls 0 with
        | none =>
          rw [hp] at e
          refine And.intro (fun _ => ?_) (fun (g : ¬ oV none < 0) => absurd (by decide) g)
          refine And.intro (fun (g : (1 : Int32) = 0) => absurd g (by decide)) (fun _ => ?_)
          refine And.intro hiv ?_
          rw [ekv]
          exact up (j + 1) _ _ _ (nI_succ j).symm e
        | some i =>
          rw [hp] at e
          have hi : i < 2 ^ 31 := by
            have := plc_lt ls 0 i hp
            rcases hF with ⟨-, -, w, -⟩ | ⟨-, i1, -, -, -, -, w⟩
            · omega
            · omega
          refine And.intro (fun (g : nI i < 0) => absurd g (nI_pos hi)) (fun _ => ?_)
          have key : ∀ x : Int32, x = lkF c φ0 0 → Q (.inl (some (.int x)), (cW s (rW r tl), b0, b1, op)) := by
            rintro x rfl
            exact hQ
          refine key _ ?_
          rw [← e]
          show nI 16 * nI j + nI i = nI (16 * j + i)
          have : nI 16 * nI j = nI (16 * j) := (Int32.ofNat_mul 16 j).symm
          rw [this, nI_add]
      have nof : φ = φ' → ∀ F : Nat, mj_sg (mj_Mt gT cst gnw (m + 1)) cst gnw (mj_hd (mj_off kO_R_resolved) kH_R_resolved) kC_R_resolved J Q (F + 60) false 37 [some (.ref 27), some (.int (nI nm)), some (.int (nI j)), some (.int (nI fr)), some (.int (nI v)), x5, x6] [] (cW s (rW r tl), b0, b1, op) := by
        intro eφ F
        rw [eφ] at e
        refine And.intro (fun _ => ?_) (fun g => absurd rfl g)
        refine And.intro (fun _ => ?_) (fun (g : ¬ Int32.ofInt (-1) < 0) => absurd (by decide) g)
        refine And.intro (fun _ => ?_) (fun g => absurd rfl g)
        refine And.intro hiv ?_
        rw [ekv]
        exact up j _ _ _ rfl e
      refine hJ _ _ _ _ ?_
      refine And.intro (fun (g : nI v < 0) => absurd g (nI_pos (by omega))) (fun _ => ?_)
      refine And.intro hiv ?_
      rw [ekv]
      rcases h3 with ⟨ls, eφ, hF⟩ | ⟨eφ, n5, n7, n6⟩
      · have hF2 : FRb r v ls ∨ FRk r v ls := hF.elim Or.inl (fun w => Or.inr w.1)
        refine And.intro (fun _ => fra ls eφ hF2 _) (fun (g5 : ¬ r.kind v = 5) => ?_)
        refine And.intro hiv ?_
        rw [ekv]
        refine And.intro (fun _ => fra ls eφ hF2 _) (fun (g7 : ¬ r.kind v = 7) => ?_)
        have hK : r.kind v = 6 ∧ r.first v = nI fr := by
          rcases hF with w | ⟨⟨w1, -⟩, w2⟩
          · exact absurd w.1 g5
          · exact ⟨w1.resolve_right g7, w2.resolve_left g7⟩
        refine And.intro hiv ?_
        rw [ekv]
        refine And.intro (fun (g6 : ¬ r.kind v = 6) => absurd hK.1 g6) (fun _ => ?_)
        refine And.intro hiv ?_
        rw [ekv, hK.2]
        exact And.intro (fun (g : ¬ nI fr = nI fr) => absurd rfl g) (fun _ => fra ls eφ hF2 _)
      · refine And.intro (fun (g : r.kind v = 5) => absurd g n5) (fun _ => ?_)
        refine And.intro hiv ?_
        rw [ekv]
        refine And.intro (fun (g : r.kind v = 7) => absurd g n7) (fun _ => ?_)
        refine And.intro hiv ?_
        rw [ekv]
        refine And.intro (fun _ => nof eφ _) (fun (g : r.kind v = 6) => ?_)
        refine And.intro hiv ?_
        rw [ekv]
        refine And.intro (fun _ => nof eφ _) (fun (g2 : nI fr = r.first v) => ?_)
        exact n6.elim (fun w => absurd g w) (fun w => absurd g2.symm w)
  refine hJ _ _ _ _ ?_
  refine And.intro hin ?_
  rw [ekn]
  exact loop k0 nm 0 φ0 none none hn hch rfl
end YA
end
section
def kwT (r : rM) := (krT r, (r.parts, r.kind, r.at_, r.until_, r.value, r.parent), (r.first, r.last, r.next, r.many, r.letters, r.bound), r.p)
def kw (r r' : rM) : Prop := kwT r' = kwT r
theorem kw_tr {r r' r2 : rM} (h1 : kw r r') (h2 : kw r' r2) : kw r r2 := Eq.trans h2 h1
theorem kw_kr {r r' : rM} (h : kw r r') : kr r r' := show krT r' = krT r from congrArg (fun q => q.1) h
theorem kw_e {r r' : rM} (h : kw r r') : (r'.parts = r.parts ∧ r'.kind = r.kind ∧ r'.at_ = r.at_ ∧ r'.until_ = r.until_ ∧ r'.value = r.value ∧ r'.parent = r.parent) ∧ (r'.first = r.first ∧ r'.next = r.next ∧ r'.letters = r.letters ∧ r'.bound = r.bound) ∧ r'.text = r.text ∧ r'.typed = r.typed :=
  ⟨⟨congrArg (fun q => q.2.1.1) h, congrArg (fun q => q.2.1.2.1) h, congrArg (fun q => q.2.1.2.2.1) h, congrArg (fun q => q.2.1.2.2.2.1) h, congrArg (fun q => q.2.1.2.2.2.2.1) h, congrArg (fun q => q.2.1.2.2.2.2.2) h⟩, ⟨congrArg (fun q => q.2.2.1.1) h, congrArg (fun q => q.2.2.1.2.2.1) h, congrArg (fun q => q.2.2.1.2.2.2.2.1) h, congrArg (fun q => q.2.2.1.2.2.2.2.2) h⟩, kr_text (kw_kr h)⟩
def cnt : TL → Nat
  | [] => 0
  | t :: T => (if t.1 = 5 then 0 else 1) + cnt T
theorem cnt_app : ∀ (A B : TL), cnt (A ++ B) = cnt A + cnt B
  | [], B => by show cnt B = 0 + cnt B; omega
  | t :: A, B => by
    show (if t.1 = 5 then 0 else 1) + cnt (A ++ B) = (if t.1 = 5 then 0 else 1) + cnt A + cnt B
    rw [cnt_app A B]
    omega
theorem cnt_le : ∀ (A : TL), cnt A ≤ A.length
  | [] => Nat.le_refl _
  | t :: A => by
    have := cnt_le A
    show (if t.1 = 5 then 0 else 1) + cnt A ≤ A.length + 1
    split <;> omega
def rwO (f g : Nat → Int32) (T : TL) : Prop := ∀ i t, T[i]? = some t → f i = t.1 ∧ g i = t.2
def WSr (r : rM) (σ τ : TL) : Prop := (r.signs = nI σ.length ∧ rwO r.signKind r.signValue σ) ∧ (r.tasks = nI τ.length ∧ rwO r.taskKind r.taskValue τ) ∧ r.cells = nI (cnt σ)
theorem rwO_app {f g : Nat → Int32} {T : TL} {k v : Int32} (h : rwO f g T) : rwO (upd f T.length k) (upd g T.length v) (T ++ [(k, v)]) := by
  intro i t hi
  unfold upd
  by_cases e : i = T.length
  · subst e
    rw [if_pos rfl, if_pos rfl]
    rw [List.getElem?_append_right (Nat.le_refl _), Nat.sub_self] at hi
    cases hi
    exact ⟨rfl, rfl⟩
  · have hlt : i < T.length := by
      rcases Nat.lt_or_ge i T.length with w | w
      · exact w
      · rw [List.getElem?_eq_none (by rw [List.length_append, List.length_cons, List.length_nil]; omega)] at hi
        cases hi
    rw [if_neg e, if_neg e]
    rw [List.getElem?_append_left hlt] at hi
    exact h i t hi
theorem rwO_pre {f g : Nat → Int32} {A B : TL} (h : rwO f g (A ++ B)) : rwO f g A := by
  intro i t hi
  refine h i t ?_
  have hlt : i < A.length := by
    rcases Nat.lt_or_ge i A.length with w | w
    · exact w
    · rw [List.getElem?_eq_none w] at hi
      cases hi
  rw [List.getElem?_append_left hlt]
  exact hi
section YB
variable {cst : Nat → Option (Nat × (Nat → Int32))} {m b0 b1 : Nat} {op : Bool} {tl : List mj_O} {Q : mj_R → Prop} {s : cS} {r : rM} {σ τ : TL}
set_option maxRecDepth 10000
theorem R_sign {k v : Int32} (hW : WSr r σ τ) (hl : σ.length < 1200) (hQ : ∀ r', kw r r' → WSr r' (σ ++ [(k, v)]) τ → Q (.inl none, (cW s (rW r' tl), b0, b1, op))) : mj_Mt gT cst gnw (m + 1) y_R_sign [.ref 27, .int k, .int v] (cW s (rW r tl), b0, b1, op) Q := by
  obtain ⟨⟨h1, h2⟩, ⟨h3, h4⟩, h5⟩ := hW
  have hin : vp_in r.signs 1200 := by rw [h1]; exact vp_in_nI hl (by decide)
  have ek : r.signs.toNatClampNeg = σ.length := by rw [h1]; exact nI_clamp (by omega)
  have e1 : r.signs + Int32.ofInt 1 = nI (σ ++ [(k, v)]).length := by
    rw [h1, List.length_append, List.length_cons, List.length_nil]
    exact (nI_succ _).symm
  have key : ∀ (i1 i2 : Nat) (y z : Int32), i1 = σ.length → i2 = σ.length → y = nI (σ ++ [(k, v)]).length → z = nI (cnt (σ ++ [(k, v)])) → Q (.inl none, (cW s (rW ((((r.s_signKind (upd r.signKind i1 k)).s_signValue (upd r.signValue i2 v)).s_signs y).s_cells z) tl), b0, b1, op)) := by
    intro i1 i2 y z q1 q2 q3 q4
    rw [q1, q2, q3, q4]
    exact hQ ((((r.s_signKind (upd r.signKind σ.length k)).s_signValue (upd r.signValue σ.length v)).s_signs (nI (σ ++ [(k, v)]).length)).s_cells (nI (cnt (σ ++ [(k, v)])))) rfl ⟨⟨rfl, rwO_app h2⟩, ⟨h3, h4⟩, rfl⟩
  have ec : cnt (σ ++ [(k, v)]) = cnt σ + (if k = 5 then 0 else 1) := by
    rw [cnt_app]
    show cnt σ + ((if k = 5 then 0 else 1) + 0) = _
    omega
  intro J hJ
  refine hJ _ _ _ _ ?_
  refine And.intro hin ?_
  refine And.intro hin ?_
  refine And.intro (fun (g : ¬ k = 5) => ?_) (fun (g : k = 5) => ?_)
  · refine key _ _ _ _ ek ek e1 ?_
    show r.cells + Int32.ofInt 1 = _
    rw [ec, if_neg g, h5]
    exact (nI_succ _).symm
  · refine key _ _ _ _ ek ek e1 ?_
    show r.cells = _
    rw [ec, if_pos g, h5]
    rfl
theorem R_later {k v : Int32} (hW : WSr r σ τ) (hl : τ.length < 1200) (hQ : ∀ r', kw r r' → WSr r' σ (τ ++ [(k, v)]) → Q (.inl none, (cW s (rW r' tl), b0, b1, op))) : mj_Mt gT cst gnw (m + 1) y_R_later [.ref 27, .int k, .int v] (cW s (rW r tl), b0, b1, op) Q := by
  obtain ⟨⟨h1, h2⟩, ⟨h3, h4⟩, h5⟩ := hW
  have hin : vp_in r.tasks 1200 := by rw [h3]; exact vp_in_nI hl (by decide)
  have ek : r.tasks.toNatClampNeg = τ.length := by rw [h3]; exact nI_clamp (by omega)
  have e1 : r.tasks + Int32.ofInt 1 = nI (τ ++ [(k, v)]).length := by
    rw [h3, List.length_append, List.length_cons, List.length_nil]
    exact (nI_succ _).symm
  have key : ∀ (i1 i2 : Nat) (y : Int32), i1 = τ.length → i2 = τ.length → y = nI (τ ++ [(k, v)]).length → Q (.inl none, (cW s (rW (((r.s_taskKind (upd r.taskKind i1 k)).s_taskValue (upd r.taskValue i2 v)).s_tasks y) tl), b0, b1, op)) := by
    intro i1 i2 y q1 q2 q3
    rw [q1, q2, q3]
    exact hQ (((r.s_taskKind (upd r.taskKind τ.length k)).s_taskValue (upd r.taskValue τ.length v)).s_tasks (nI (τ ++ [(k, v)]).length)) rfl ⟨⟨h1, h2⟩, ⟨rfl, rwO_app h4⟩, h5⟩
  intro J hJ
  refine hJ _ _ _ _ ?_
  refine And.intro hin ?_
  refine And.intro hin ?_
  exact key _ _ _ ek ek e1
theorem app4 (τ : TL) (a b c d : Int32 × Int32) : τ ++ [a] ++ [b] ++ [c] ++ [d] = τ ++ [a, b, c, d] := by
  rw [List.append_assoc, List.append_assoc, List.append_assoc]
  rfl
theorem R_laterCode {n e : Int32} (hW : WSr r σ τ) (hl : τ.length + 3 < 1200) (hQ : ∀ r', kw r r' → WSr r' σ (τ ++ [(5, 0), (1, e), (-1, n), (4, 0)]) → Q (.inl none, (cW s (rW r' tl), b0, b1, op))) : mj_Mt gT cst gnw (m + 2) y_R_laterCode [.ref 27, .int n, .int e] (cW s (rW r tl), b0, b1, op) Q := by
  have len1 : ∀ (T : TL) (x : Int32 × Int32), (T ++ [x]).length = T.length + 1 := fun T x => by rw [List.length_append]; rfl
  intro J hJ
  refine hJ _ _ _ _ ?_
  refine R_later hW (by omega) (fun r1 k1 w1 => ?_)
  refine R_later w1 (by rw [len1]; omega) (fun r2 k2 w2 => ?_)
  refine R_later w2 (by rw [len1, len1]; omega) (fun r3 k3 w3 => ?_)
  refine R_later w3 (by rw [len1, len1, len1]; omega) (fun r4 k4 w4 => ?_)
  rw [app4] at w4
  exact hQ r4 (kw_tr k1 (kw_tr k2 (kw_tr k3 k4))) w4
def rowK : List Nat → TL
  | [] => [(0, 0), (1, 1)]
  | i :: is => (1, 13) :: (-1, nI i) :: rowK is
def chI (nx : Nat → Int32) : List Nat → Int32 → Prop
  | [], x => x = -1
  | i :: is, x => i < 100 ∧ x = nI i ∧ chI nx is (nx i)
theorem R_laterRow {is : List Nat} {x : Int32} (hc : chI r.next is x) (hW : WSr r σ τ) (hl : τ.length + 2 * is.length + 1 < 1200) (hQ : ∀ r', kw r r' → WSr r' σ (τ ++ rowK is) → Q (.inl none, (cW s (rW r' tl), b0, b1, op))) : mj_Mt gT cst gnw (m + 2) y_R_laterRow [.ref 27, .int x] (cW s (rW r tl), b0, b1, op) Q := by
  have len1 : ∀ (T : TL) (x : Int32 × Int32), (T ++ [x]).length = T.length + 1 := fun T x => by rw [List.length_append]; rfl
  intro J hJ
  have loop : ∀ (is : List Nat) (τ2 : TL) (y : Int32) (r2 : rM), chI r2.next is y → kw r r2 → WSr r2 σ τ2 → τ2.length + 2 * is.length + 1 < 1200 → (∀ r', kw r r' → WSr r' σ (τ2 ++ rowK is) → Q (.inl none, (cW s (rW r' tl), b0, b1, op))) → J 2 [some (.ref 27), some (.int x), some (.int y)] [] (cW s (rW r2 tl), b0, b1, op) := by
    intro is
    induction is with
    | nil =>
      intro τ2 y r2 hc k2 w2 hl hQ
      have hc : y = -1 := hc
      subst hc
      rw [List.length_nil] at hl
      refine hJ _ _ _ _ ?_
      refine And.intro (fun _ => ?_) (fun (g : ¬ (-1 : Int32) < 0) => absurd (by decide) g)
      refine R_later w2 (by omega) (fun r3 k3 w3 => ?_)
      refine R_later w3 (by rw [len1]; omega) (fun r4 k4 w4 => ?_)
      rw [List.append_assoc] at w4
      exact hQ r4 (kw_tr k2 (kw_tr k3 k4)) w4
    | cons i is ih =>
      intro τ2 y r2 hc k2 w2 hl hQ
      obtain ⟨hi, rfl, hc2⟩ := hc
      rw [List.length_cons] at hl
      refine hJ _ _ _ _ ?_
      refine And.intro (fun (g : nI i < 0) => absurd g (nI_pos (by omega))) (fun _ => ?_)
      refine R_later w2 (by omega) (fun r3 k3 w3 => ?_)
      refine R_later w3 (by rw [len1]; omega) (fun r4 k4 w4 => ?_)
      rw [List.append_assoc] at w4
      have k24 := kw_tr k3 k4
      have en : r4.next = r2.next := (kw_e k24).2.1.2.1
      refine And.intro (vp_in_nI hi (by decide)) ?_
      rw [nI_clamp (by omega), en]
      refine ih (τ2 ++ [(1, 13), (-1, nI i)]) _ r4 (by rw [en]; exact hc2) (kw_tr k2 k24) w4 (by rw [List.length_append, List.length_cons, List.length_cons, List.length_nil]; omega) (fun r' q1 q2 => ?_)
      rw [List.append_assoc] at q2
      exact hQ r' q1 q2
  refine hJ _ _ _ _ ?_
  exact loop is τ x r hc rfl hW hl hQ
end YB
end
