abbrev TL : Type := List (Int32 × Int32)
def cns (t : Int32 × Int32) : (TL × Nat) ⊕ Nat → (TL × Nat) ⊕ Nat
  | .inl (D, a) => .inl (t :: D, a)
  | .inr a => .inr a
def gD (tx : Nat → Nat) : Nat → Bool → Nat → Nat → Nat → (TL × Nat) ⊕ Nat
  | 0, _, _, _, a => .inr a
  | f + 1, false, o, d, a => if tx a = 40 then (if d + o < 9 then cns (4, 0) (gD tx f (decide (tx (a + 1) = 41)) (o + 1) d (a + 1)) else .inr a)
      else if cL (tx a) then cns (2, nI (tx a)) (gD tx f true o d (a + 1))
      else if cD (tx (pA1 tx a)) then cns (1, pVal tx a) (gD tx f true o d (pDg tx 4 (pA1 tx a) 0).1) else .inr (pA1 tx a)
  | _ + 1, true, 0, _, a => .inl ([], a)
  | f + 1, true, o + 1, d, a => if tx a = 41 then cns (5, 0) (gD tx f true o d (a + 1)) else if tx a = 32 then gD tx f false (o + 1) d (a + 1) else .inr a
theorem nI_dec (n : Nat) : nI (n + 1) + Int32.ofInt (-1) = nI n := by
  rw [nI_succ, Int32.add_assoc, show (1 : Int32) + Int32.ofInt (-1) = 0 by decide, Int32.add_zero]
theorem cns_l {t : Int32 × Int32} {x : (TL × Nat) ⊕ Nat} {D : TL} {a : Nat} (h : x = .inl (D, a)) : cns t x = .inl (t :: D, a) := by rw [h]; rfl
theorem cns_r {t : Int32 × Int32} {x : (TL × Nat) ⊕ Nat} {a : Nat} (h : x = .inr a) : cns t x = .inr a := by rw [h]; rfl
theorem pA1_len {X : Nat → Int32} {len : Nat} {tx : Nat → Nat} (hx : txOK X len tx) {a : Nat} (h : a ≤ len) : a ≤ pA1 tx a ∧ pA1 tx a ≤ len ∧ pA1 tx a ≤ a + 1 := by
  unfold pA1
  split
  · next e =>
    have := hx.lt (a := a) (by omega)
    omega
  · omega
theorem num_len {X : Nat → Int32} {len : Nat} {tx : Nat → Nat} (hx : txOK X len tx) {a : Nat} (h : a ≤ len) (hd : cD (tx (pA1 tx a)) = true) : a < (pDg tx 4 (pA1 tx a) 0).1 ∧ (pDg tx 4 (pA1 tx a) 0).1 ≤ len ∧ a < len := by
  obtain ⟨h1, h2, h3⟩ := pA1_len hx h
  have hl := pDg_len hx 4 (pA1 tx a) 0 h2
  have e : (pDg tx 4 (pA1 tx a) 0) = pDg tx 3 (pA1 tx a + 1) (Int32.ofInt 10 * 0 + nI (tx (pA1 tx a)) - Int32.ofInt 48) := by
    show (if cD (tx (pA1 tx a)) then _ else _) = _
    rw [if_pos hd]
  have hp := pDg_le tx 3 (pA1 tx a + 1) (Int32.ofInt 10 * 0 + nI (tx (pA1 tx a)) - Int32.ofInt 48)
  rw [← e] at hp
  omega
section RDD
variable {cst : Nat → Option (Nat × (Nat → Int32))} {m b0 b1 : Nat} {op : Bool} {tl : List mj_O} {Q : mj_R → Prop} {s : cS} {r : rM} {d len : Nat} {tx : Nat → Nat}
set_option maxRecDepth 10000
theorem R_datLoop (hx : txOK r.text len tx) (ht : r.typed = nI len) {J : Nat → mj_L → List Value → mj_H → Prop} (hJ : ∀ pc ls st h, mj_sg (mj_Mt gT cst gnw (m + 3)) cst gnw (mj_hd (mj_off kO_R_datum) kH_R_datum) kC_R_datum J Q 400 true pc ls st h → J pc ls st h) :
    ∀ (f : Nat) (b : Bool) (o k a : Nat), a ≤ len → k ≤ a → d + o ≤ 9 → len - a < f → (∀ D a', gD tx f b o d a = .inl (D, a') → Q (.inl (some (.int 1)), (cW s (rW (pdR r a' d) tl), b0, b1, op))) → (∀ a' d', gD tx f b o d a = .inr a' → Q (.inl (some (.int 0)), (cW s (rW (pdR r a' d') tl), b0, b1, op))) →
      (b = false → ∀ x3, J 4 [some (.ref 27), some (.int (nI o)), some (.int (nI k)), x3] [] (cW s (rW (pdR r a (d + o)) tl), b0, b1, op)) ∧ (b = true → J 51 [some (.ref 27), some (.int (nI o)), some (.int (nI k)), some (.int 1)] [] (cW s (rW (pdR r a (d + o)) tl), b0, b1, op)) := by
  have h96 := hx.1
  have j0 : ∀ (o k a dd : Nat), (∀ x3, J 4 [some (.ref 27), some (.int (nI o)), some (.int (nI (k + 1))), x3] [] (cW s (rW (pdR r a dd) tl), b0, b1, op)) → J 51 [some (.ref 27), some (.int (nI o)), some (.int (nI k)), some (.int 0)] [] (cW s (rW (pdR r a dd) tl), b0, b1, op) := by
    intro o k a dd h
    refine hJ _ _ _ _ ?_
    refine And.intro (fun _ => ?_) (fun g => absurd rfl g)
    have key : ∀ y : Int32, y = nI (k + 1) → J 4 [some (.ref 27), some (.int (nI o)), some (.int y), some (.int 0)] [] (cW s (rW (pdR r a dd) tl), b0, b1, op) := by
      rintro y rfl
      exact h _
    exact key _ (nI_succ k).symm
  intro f
  induction f with
  | zero => intro b o k a _ _ _ hf; omega
  | succ f ih =>
    intro b o k a ha hk hd hf hQ1 hQ0
    refine ⟨fun eb x3 => ?_, fun eb => ?_⟩
    · subst eb
      have e0 : gD tx (f + 1) false o d a = if tx a = 40 then (if d + o < 9 then cns (4, 0) (gD tx f (decide (tx (a + 1) = 41)) (o + 1) d (a + 1)) else .inr a) else if cL (tx a) then cns (2, nI (tx a)) (gD tx f true o d (a + 1)) else if cD (tx (pA1 tx a)) then cns (1, pVal tx a) (gD tx f true o d (pDg tx 4 (pA1 tx a) 0).1) else .inr (pA1 tx a) := rfl
      rw [e0] at hQ1 hQ0
      have hca := hx.le a
      refine hJ _ _ _ _ ?_
      refine And.intro (fun (g : (100 : Int32) ≤ nI k) => absurd g (nI_ge (b := 100) (by omega) (by decide))) (fun _ => ?_)
      refine R_here0 hx ht (by omega) ?_
      refine And.intro (fun (g : ¬ nI (tx a) = 40) => ?_) (fun (g : nI (tx a) = 40) => ?_)
      · have n40 : ¬ tx a = 40 := fun e => g (by rw [e]; rfl)
        rw [if_neg n40] at hQ1 hQ0
        refine R_here0 hx ht (by omega) ?_
        refine R_isLetter (by omega) (fun hl => ?_) (fun hl => ?_)
        · rw [if_pos hl] at hQ1 hQ0
          refine And.intro (fun (g : (1 : Int32) = 0) => absurd g (by decide)) (fun _ => ?_)
          have hlt := hx.lt (a := a) (fun q => by rw [q] at hl; exact absurd hl (by decide))
          have key : ∀ y : Int32, y = nI (a + 1) → J 51 [some (.ref 27), some (.int (nI o)), some (.int (nI k)), some (.int 1)] [] (cW s (rW ((pdR r a (d + o)).s_p y) tl), b0, b1, op) := by
            rintro y rfl
            exact (ih true o k (a + 1) (by omega) (by omega) hd (by omega) (fun D a' e => hQ1 _ a' (cns_l e)) (fun a' d' e => hQ0 a' d' (cns_r e))).2 rfl
          exact key _ (nI_succ a).symm
        · rw [if_neg (by rw [hl]; decide)] at hQ1 hQ0
          refine And.intro (fun _ => ?_) (fun g => absurd rfl g)
          refine R_number hx ht (by omega) (fun hn => ?_) (fun hn => ?_)
          · rw [if_pos hn] at hQ1 hQ0
            obtain ⟨w1, w2, w3⟩ := num_len hx ha hn
            refine And.intro (fun _ => ?_) (fun (g : (1 : Int32) = 0) => absurd g (by decide))
            exact (ih true o k _ w2 (by omega) hd (by omega) (fun D a' e => hQ1 _ a' (cns_l e)) (fun a' d' e => hQ0 a' d' (cns_r e))).2 rfl
          · rw [if_neg (by rw [hn]; decide)] at hQ1 hQ0
            refine And.intro (fun g => absurd rfl g) (fun _ => ?_)
            exact And.intro (Or.inl rfl) (hQ0 _ _ rfl)
      · have e40 : tx a = 40 := nIj (j := 40) (by omega) (by decide) g
        rw [if_pos e40] at hQ1 hQ0
        have hlt := hx.lt (a := a) (by omega)
        refine R_opens hx ht (by omega) hd (fun _ h9 => ?_) (fun h9 => ?_)
        · rw [if_pos h9] at hQ1 hQ0
          refine And.intro (fun _ => ?_) (fun (g : (1 : Int32) = 0) => absurd g (by decide))
          refine R_here0 hx ht (by omega) ?_
          have hc1 := hx.le (a + 1)
          have go : ∀ (b : Bool), decide (tx (a + 1) = 41) = b → ∀ y : Int32, y = nI (o + 1) → (b = false → ∀ x3, J 4 [some (.ref 27), some (.int y), some (.int (nI (k + 1))), x3] [] (cW s (rW (pdR r (a + 1) (d + o + 1)) tl), b0, b1, op)) ∧ (b = true → J 51 [some (.ref 27), some (.int y), some (.int (nI (k + 1))), some (.int 1)] [] (cW s (rW (pdR r (a + 1) (d + o + 1)) tl), b0, b1, op)) := by
            rintro b eb y rfl
            rw [eb] at hQ1 hQ0
            exact ih b (o + 1) (k + 1) (a + 1) (by omega) (by omega) (by omega) (by omega) (fun D a' e => hQ1 _ a' (cns_l e)) (fun a' d' e => hQ0 a' d' (cns_r e))
          have go2 : ∀ y : Int32, y = nI (o + 1) → tx (a + 1) = 41 → J 51 [some (.ref 27), some (.int y), some (.int (nI k)), some (.int 1)] [] (cW s (rW (pdR r (a + 1) (d + o + 1)) tl), b0, b1, op) := by
            rintro y rfl e41
            have eb : decide (tx (a + 1) = 41) = true := decide_eq_true e41
            rw [eb] at hQ1 hQ0
            exact (ih true (o + 1) k (a + 1) (by omega) (by omega) (by omega) (by omega) (fun D a' e => hQ1 _ a' (cns_l e)) (fun a' d' e => hQ0 a' d' (cns_r e))).2 rfl
          refine And.intro (fun (g2 : ¬ nI (tx (a + 1)) = 41) => ?_) (fun (g2 : nI (tx (a + 1)) = 41) => ?_)
          · have n41 : ¬ tx (a + 1) = 41 := fun e => g2 (by rw [e]; rfl)
            have key : ∀ y : Int32, y = nI (o + 1) → J 51 [some (.ref 27), some (.int y), some (.int (nI k)), some (.int 0)] [] (cW s (rW (pdR r (a + 1) (d + o + 1)) tl), b0, b1, op) := by
              rintro y rfl
              exact j0 _ _ _ _ ((go false (decide_eq_false n41) _ rfl).1 rfl)
            exact key _ (nI_succ o).symm
          · have e41 : tx (a + 1) = 41 := nIj (j := 41) (by omega) (by decide) g2
            exact go2 _ (nI_succ o).symm e41
        · have h9' : ¬ d + o < 9 := fun w => h9 ⟨e40, w⟩
          rw [if_neg h9'] at hQ1 hQ0
          refine And.intro (fun g => absurd rfl g) (fun _ => ?_)
          exact And.intro (Or.inl rfl) (hQ0 _ _ rfl)
    · subst eb
      cases o with
      | zero =>
        refine hJ _ _ _ _ ?_
        refine And.intro (fun (g : (1 : Int32) = 0) => absurd g (by decide)) (fun _ => ?_)
        refine And.intro (fun (g : ¬ nI 0 = 0) => absurd rfl g) (fun _ => ?_)
        exact And.intro (Or.inr rfl) (hQ1 [] a rfl)
      | succ o =>
        have e0 : gD tx (f + 1) true (o + 1) d a = if tx a = 41 then cns (5, 0) (gD tx f true o d (a + 1)) else if tx a = 32 then gD tx f false (o + 1) d (a + 1) else .inr a := rfl
        rw [e0] at hQ1 hQ0
        have hca := hx.le a
        refine hJ _ _ _ _ ?_
        refine And.intro (fun (g : (1 : Int32) = 0) => absurd g (by decide)) (fun _ => ?_)
        refine And.intro (fun _ => ?_) (fun (g : nI (o + 1) = 0) => absurd (nIj (j := 0) (by omega) (by decide) g) (by omega))
        refine R_here0 hx ht (by omega) ?_
        refine And.intro (fun (g : ¬ nI (tx a) = 41) => ?_) (fun (g : nI (tx a) = 41) => ?_)
        · have n41 : ¬ tx a = 41 := fun e => g (by rw [e]; rfl)
          rw [if_neg n41] at hQ1 hQ0
          refine R_takes (c := 32) hx ht (by omega) (by decide) (fun e => ?_) (fun e => ?_)
          · rw [if_pos e] at hQ1 hQ0
            have hlt := hx.lt (a := a) (by omega)
            refine And.intro (fun _ => ?_) (fun (g : (1 : Int32) = 0) => absurd g (by decide))
            exact j0 _ _ _ _ ((ih false (o + 1) (k + 1) (a + 1) (by omega) (by omega) hd (by omega) hQ1 hQ0).1 rfl)
          · rw [if_neg e] at hQ1 hQ0
            refine And.intro (fun g => absurd rfl g) (fun _ => ?_)
            exact And.intro (Or.inl rfl) (hQ0 _ _ rfl)
        · have e41 : tx a = 41 := nIj (j := 41) (by omega) (by decide) g
          rw [if_pos e41] at hQ1 hQ0
          have hlt := hx.lt (a := a) (by omega)
          have key : ∀ x y z : Int32, x = nI (a + 1) → y = nI (d + o) → z = nI o → J 51 [some (.ref 27), some (.int z), some (.int (nI k)), some (.int 1)] [] (cW s (rW ((r.s_p x).s_depth y) tl), b0, b1, op) := by
            rintro x y z rfl rfl rfl
            exact (ih true o k (a + 1) (by omega) (by omega) (by omega) (by omega) (fun D a' e => hQ1 _ a' (cns_l e)) (fun a' d' e => hQ0 a' d' (cns_r e))).2 rfl
          exact key _ _ _ (nI_succ a).symm (nI_pred (d + o)) (nI_dec o)
theorem R_datum {a : Nat} (hx : txOK r.text len tx) (ht : r.typed = nI len) (ha : a ≤ len) (hd : d ≤ 9) (h1 : ∀ D a', gD tx 200 false 0 d a = .inl (D, a') → Q (.inl (some (.int 1)), (cW s (rW (pdR r a' d) tl), b0, b1, op))) (h0 : ∀ a' d', gD tx 200 false 0 d a = .inr a' → Q (.inl (some (.int 0)), (cW s (rW (pdR r a' d') tl), b0, b1, op))) : mj_Mt gT cst gnw (m + 4) y_R_datum [.ref 27] (cW s (rW (pdR r a d) tl), b0, b1, op) Q := by
  intro J hJ
  have h96 := hx.1
  refine hJ _ _ _ _ ?_
  exact (R_datLoop hx ht hJ 200 false 0 0 a ha (Nat.zero_le _) (by omega) (by omega) h1 h0).1 rfl _
end RDD
