section
abbrev sP : Type := Nat × (Nat → Int32)
def sy (c : Int32) (p : sP) : sP := if p.1 < 120 then (p.1 + 1, upd p.2 p.1 (vp_nar .char (c.toUInt32 % 65536).toInt32)) else p
theorem sy_le {c : Int32} {p : sP} (h : p.1 ≤ 120) : (sy c p).1 ≤ 120 ∧ p.1 ≤ (sy c p).1 ∧ (p.1 < 120 → (sy c p).1 = p.1 + 1) := by
  unfold sy
  split
  · next h1 => exact ⟨h1, Nat.le_succ _, fun _ => rfl⟩
  · next h1 => exact ⟨h, Nat.le_refl _, fun h2 => absurd h2 h1⟩
def jE (l : Nat) : Nat → Nat → Nat
  | 0, j => j
  | f + 1, j => if 9 < l / 10 ^ j then jE l f (j + 1) else j
def dG (l : Nat) : Nat → sP → sP
  | 0, p => sy (nI (48 + l / 10 ^ 0 % 10)) p
  | j + 1, p => dG l j (sy (nI (48 + l / 10 ^ (j + 1) % 10)) p)
theorem dG_le {l : Nat} : ∀ (j : Nat) (p : sP), p.1 ≤ 120 → (dG l j p).1 ≤ 120 ∧ p.1 ≤ (dG l j p).1 ∧ (p.1 < 120 → p.1 < (dG l j p).1)
  | 0, p, h => by
    obtain ⟨h1, h2, h3⟩ := sy_le (c := nI (48 + l / 10 ^ 0 % 10)) h
    refine ⟨h1, h2, fun q => ?_⟩
    have := h3 q
    show p.1 < (sy (nI (48 + l / 10 ^ 0 % 10)) p).1
    omega
  | j + 1, p, h => by
    obtain ⟨h1, h2, h3⟩ := sy_le (c := nI (48 + l / 10 ^ (j + 1) % 10)) h
    obtain ⟨k1, k2, k3⟩ := dG_le (l := l) j (sy (nI (48 + l / 10 ^ (j + 1) % 10)) p) h1
    refine ⟨k1, Nat.le_trans h2 k2, fun q => ?_⟩
    have := h3 q
    show p.1 < (dG l j (sy (nI (48 + l / 10 ^ (j + 1) % 10)) p)).1
    omega
def syN (v : Int32) (p : sP) : sP := dG v.toInt.natAbs (jE v.toInt.natAbs 9 0) (if v < 0 then sy 45 p else p)
theorem syN_le {v : Int32} {p : sP} (h : p.1 ≤ 120) : (syN v p).1 ≤ 120 ∧ p.1 ≤ (syN v p).1 ∧ (p.1 < 120 → p.1 < (syN v p).1) := by
  unfold syN
  split
  · obtain ⟨h1, h2, h3⟩ := sy_le (c := 45) h
    obtain ⟨k1, k2, k3⟩ := dG_le (l := v.toInt.natAbs) (jE v.toInt.natAbs 9 0) (sy 45 p) h1
    refine ⟨k1, Nat.le_trans h2 k2, fun q => ?_⟩
    have := h3 q
    omega
  · exact dG_le _ p h
def phR (r : rM) (p : sP) (n : Nat) (pl : Nat → Int32) : rM := ((((r.s_shown (nI p.1)).s_show_ p.2).s_piled (nI n)).s_pile pl)
def atS (kd x : Int32) (p : sP) : sP := if kd = 1 then syN x p else if kd = 2 then sy x p else if kd = 0 then sy 41 (sy 40 p) else sy 35 p
theorem atS_le {kd x : Int32} {p : sP} (h : p.1 ≤ 120) : (atS kd x p).1 ≤ 120 ∧ p.1 ≤ (atS kd x p).1 ∧ (p.1 < 120 → p.1 < (atS kd x p).1) := by
  unfold atS
  split
  · exact syN_le h
  · split
    · obtain ⟨h1, h2, h3⟩ := sy_le (c := x) h
      exact ⟨h1, h2, fun q => by have := h3 q; omega⟩
    · split
      · obtain ⟨h1, h2, h3⟩ := sy_le (c := 40) h
        obtain ⟨k1, k2, k3⟩ := sy_le (c := 41) h1
        exact ⟨k1, Nat.le_trans h2 k2, fun q => by have := h3 q; omega⟩
      · obtain ⟨h1, h2, h3⟩ := sy_le (c := 35) h
        exact ⟨h1, h2, fun q => by have := h3 q; omega⟩
theorem abs_i64 (v : Int32) (h : v < 0) : -v.toInt64 = lN v.toInt.natAbs ∧ v.toInt.natAbs ≤ 2 ^ 31 := by
  have h0 : v.toInt < 0 := by
    have := Int32.lt_iff_toInt_lt.mp h
    rwa [show (0 : Int32).toInt = 0 by decide] at this
  have h1 := Int32.le_toInt v
  have h2 : v.toInt.natAbs ≤ 2 ^ 31 := by omega
  refine ⟨Int64.toInt_inj.mp ?_, h2⟩
  rw [pk_lT (by omega), Int64.toInt_neg, Int32.toInt_toInt64]
  rw [Int.bmod_eq_of_le (by omega) (by omega)]
  omega
theorem pos_i64 (v : Int32) (h : ¬ v < 0) : v.toInt64 = lN v.toInt.natAbs ∧ v.toInt.natAbs ≤ 2 ^ 31 := by
  obtain ⟨j, hj, rfl⟩ := nI_of h
  rw [nI_toInt hj]
  exact ⟨nI_l hj, by show j ≤ 2 ^ 31; omega⟩
section RH
variable {cst : Nat → Option (Nat × (Nat → Int32))} {m b0 b1 : Nat} {op : Bool} {tl : List mj_O} {Q : mj_R → Prop} {s : cS} {r : rM} {p : sP} {n : Nat} {pl : Nat → Int32}
set_option maxRecDepth 10000
theorem R_say {c : Int32} (hp : p.1 ≤ 120) (hQ : Q (.inl none, (cW s (rW (phR r (sy c p) n pl) tl), b0, b1, op))) : mj_Mt gT cst gnw (m + 1) y_R_say [.ref 27, .int c] (cW s (rW (phR r p n pl) tl), b0, b1, op) Q := by
  obtain ⟨q, f⟩ := p
  have hp : q ≤ 120 := hp
  have e0 : sy c (q, f) = if q < 120 then (q + 1, upd f q (vp_nar .char (c.toUInt32 % 65536).toInt32)) else (q, f) := rfl
  rw [e0] at hQ
  intro J hJ
  refine hJ _ _ _ _ ?_
  refine And.intro (fun (g : (120 : Int32) ≤ nI q) => ?_) (fun (g : ¬ (120 : Int32) ≤ nI q) => ?_)
  · have : ¬ q < 120 := fun w => nI_ge (b := 120) w (by decide) g
    rw [if_neg this] at hQ
    exact hQ
  · have hlt : q < 120 := Nat.lt_of_not_le (fun w => g (nI_le (a := 120) w (by omega)))
    rw [if_pos hlt] at hQ
    refine And.intro (vp_in_nI hlt (by decide)) ?_
    have key : ∀ (i : Nat) (y : Int32), i = q → y = nI (q + 1) → Q (.inl none, (cW s (rW (((phR r (q, f) n pl).s_shown y).s_show_ (upd f i (vp_nar .char (c.toUInt32 % 65536).toInt32))) tl), b0, b1, op)) := by
      rintro i y rfl rfl
      exact hQ
    exact key _ _ (nI_clamp (by omega)) (nI_succ q).symm
theorem pow_lt {j : Nat} (h : j ≤ 10) : 0 < 10 ^ j ∧ 10 ^ j ≤ 10000000000 := by
  refine ⟨Nat.pow_pos (by decide), ?_⟩
  have : 10 ^ j ≤ 10 ^ 10 := Nat.pow_le_pow_right (by decide) h
  exact this
theorem R_sayNumber {v : Int32} (hp : p.1 ≤ 120) (hQ : Q (.inl none, (cW s (rW (phR r (syN v p) n pl) tl), b0, b1, op))) : mj_Mt gT cst gnw (m + 2) y_R_sayNumber [.ref 27, .int v] (cW s (rW (phR r p n pl) tl), b0, b1, op) Q := by
  intro J hJ
  have loop2 : ∀ (j : Nat) (p' : sP), j ≤ 9 → p'.1 ≤ 120 → v.toInt.natAbs ≤ 2 ^ 31 → dG v.toInt.natAbs j p' = syN v p → J 27 [some (.ref 27), some (.int v), some (.long (lN v.toInt.natAbs)), none, some (.long (lN (10 ^ j))), none] [] (cW s (rW (phR r p' n pl) tl), b0, b1, op) := by
    intro j
    induction j with
    | zero =>
      intro p' hj hp' hl e
      refine hJ _ _ _ _ ?_
      refine And.intro (fun (g : lg_cmp (lN (10 ^ 0)) 0 ≤ 0) => absurd g (by decide)) (fun _ => ?_)
      refine And.intro (by decide) ?_
      refine And.intro (by decide) ?_
      refine R_say hp' ?_
      refine And.intro (by decide) ?_
      have key : ∀ (c : Int32) (t : Int64), c = nI (48 + v.toInt.natAbs / 10 ^ 0 % 10) → t = 0 → J 27 [some (.ref 27), some (.int v), some (.long (lN v.toInt.natAbs)), none, some (.long t), none] [] (cW s (rW (phR r (sy c p') n pl) tl), b0, b1, op) := by
        rintro c t rfl rfl
        have e : sy (nI (48 + v.toInt.natAbs / 10 ^ 0 % 10)) p' = syN v p := e
        rw [e]
        refine hJ _ _ _ _ ?_
        refine And.intro (fun _ => hQ) (fun (g : ¬ lg_cmp 0 0 ≤ 0) => absurd (by decide) g)
      refine key _ _ ?_ (by decide)
      have q1 := pk_lDiv (a := v.toInt.natAbs) (b := 10 ^ 0) (by omega) (by decide) (by decide)
      have q2 := pk_lRem (a := v.toInt.natAbs / 10 ^ 0) (b := 10) (Nat.lt_of_le_of_lt (Nat.div_le_self _ _) (by omega)) (by decide) (by decide)
      have e10 : Int64.ofNat 10 = lN 10 := rfl
      rw [q1, e10, q2, lN_i, show Int32.ofInt 48 = nI 48 by decide, nI_add]
    | succ j ih =>
      intro p' hj hp' hl e
      have ⟨t0, t1⟩ := pow_lt (j := j + 1) (by omega)
      refine hJ _ _ _ _ ?_
      refine And.intro (fun (g : lg_cmp (lN (10 ^ (j + 1))) 0 ≤ 0) => absurd g ?_) (fun _ => ?_)
      · unfold lg_cmp
        rw [if_pos (show lN (10 ^ (j + 1)) > 0 from (pk_lLT (a := 0) (by decide) (by omega)).mpr t0)]
        decide
      have hne : ¬ lN (10 ^ (j + 1)) = 0 := fun q => by
        have := (pk_lEQ (b := 0) (by omega) (by decide)).mp q
        omega
      refine And.intro hne ?_
      refine And.intro (by decide) ?_
      refine R_say hp' ?_
      refine And.intro (by decide) ?_
      have key : ∀ (c : Int32) (t : Int64), c = nI (48 + v.toInt.natAbs / 10 ^ (j + 1) % 10) → t = lN (10 ^ j) → J 27 [some (.ref 27), some (.int v), some (.long (lN v.toInt.natAbs)), none, some (.long t), none] [] (cW s (rW (phR r (sy c p') n pl) tl), b0, b1, op) := by
        rintro c t rfl rfl
        exact ih _ (by omega) (sy_le hp').1 hl e
      have e10 : Int64.ofNat 10 = lN 10 := rfl
      refine key _ _ ?_ ?_
      · have q1 := pk_lDiv (a := v.toInt.natAbs) (b := 10 ^ (j + 1)) (by omega) t0 (by omega)
        have q2 := pk_lRem (a := v.toInt.natAbs / 10 ^ (j + 1)) (b := 10) (Nat.lt_of_le_of_lt (Nat.div_le_self _ _) (by omega)) (by decide) (by decide)
        rw [q1, e10, q2, lN_i, show Int32.ofInt 48 = nI 48 by decide, nI_add]
      · have q1 := pk_lDiv (a := 10 ^ (j + 1)) (b := 10) (by omega) (by decide) (by decide)
        rw [e10, q1, Nat.pow_succ, Nat.mul_div_cancel _ (by decide)]
  have loop1 : ∀ (f j : Nat) (p' : sP), f + j = 9 → p'.1 ≤ 120 → v.toInt.natAbs ≤ 2 ^ 31 → dG v.toInt.natAbs (jE v.toInt.natAbs f j) p' = syN v p → J 16 [some (.ref 27), some (.int v), some (.long (lN v.toInt.natAbs)), none, some (.long (lN (10 ^ j))), none] [] (cW s (rW (phR r p' n pl) tl), b0, b1, op) := by
    intro f
    induction f with
    | zero =>
      intro j p' hj hp' hl e
      obtain rfl : j = 9 := by omega
      have e : dG v.toInt.natAbs 9 p' = syN v p := e
      refine hJ _ _ _ _ ?_
      refine And.intro (by decide) ?_
      have q1 := pk_lDiv (a := v.toInt.natAbs) (b := 10 ^ 9) (by omega) (by decide) (by decide)
      refine And.intro (fun _ => ?_) (fun (g : ¬ lg_cmp (lN v.toInt.natAbs / lN (10 ^ 9)) (Int64.ofNat 9) ≤ 0) => absurd ?_ g)
      · exact loop2 9 p' (by omega) hp' hl e
      · rw [q1]
        have hd : v.toInt.natAbs / 10 ^ 9 ≤ 2 := by
          have : v.toInt.natAbs / 10 ^ 9 ≤ 2 ^ 31 / 10 ^ 9 := Nat.div_le_div_right hl
          exact Nat.le_trans this (by decide)
        unfold lg_cmp
        rw [if_neg (show ¬ lN (v.toInt.natAbs / 10 ^ 9) > Int64.ofNat 9 from fun w => by
          have := (pk_lLT (a := 9) (by decide) (by omega)).mp w
          omega)]
        split <;> decide
    | succ f ih =>
      intro j p' hj hp' hl e
      have ⟨t0, t1⟩ := pow_lt (j := j) (by omega)
      have e9 : jE v.toInt.natAbs (f + 1) j = if 9 < v.toInt.natAbs / 10 ^ j then jE v.toInt.natAbs f (j + 1) else j := rfl
      rw [e9] at e
      have q1 := pk_lDiv (a := v.toInt.natAbs) (b := 10 ^ j) (by omega) t0 (by omega)
      have hlt : v.toInt.natAbs / 10 ^ j < 2 ^ 63 := Nat.lt_of_le_of_lt (Nat.div_le_self _ _) (by omega)
      have hne : ¬ lN (10 ^ j) = 0 := fun q => by
        have := (pk_lEQ (b := 0) (by omega) (by decide)).mp q
        omega
      refine hJ _ _ _ _ ?_
      refine And.intro hne ?_
      refine And.intro (fun (g : lg_cmp (lN v.toInt.natAbs / lN (10 ^ j)) (Int64.ofNat 9) ≤ 0) => ?_) (fun (g : ¬ lg_cmp (lN v.toInt.natAbs / lN (10 ^ j)) (Int64.ofNat 9) ≤ 0) => ?_)
      · rw [q1] at g
        have h9 : ¬ 9 < v.toInt.natAbs / 10 ^ j := by
          intro w
          have : lN (v.toInt.natAbs / 10 ^ j) > Int64.ofNat 9 := (pk_lLT (a := 9) (by decide) hlt).mpr w
          unfold lg_cmp at g
          rw [if_pos this] at g
          exact absurd g (by decide)
        rw [if_neg h9] at e
        exact loop2 j p' (by omega) hp' hl e
      · rw [q1] at g
        have h9 : 9 < v.toInt.natAbs / 10 ^ j := by
          refine Nat.lt_of_not_le (fun w => g ?_)
          unfold lg_cmp
          rw [if_neg (show ¬ lN (v.toInt.natAbs / 10 ^ j) > Int64.ofNat 9 from fun u => by
            have := (pk_lLT (a := 9) (by decide) hlt).mp u
            omega)]
          split <;> decide
        rw [if_pos h9] at e
        have key : ∀ t : Int64, t = lN (10 ^ (j + 1)) → J 16 [some (.ref 27), some (.int v), some (.long (lN v.toInt.natAbs)), none, some (.long t), none] [] (cW s (rW (phR r p' n pl) tl), b0, b1, op) := by
          rintro t rfl
          exact ih (j + 1) p' (by omega) hp' hl e
        refine key _ ?_
        show lN (10 ^ j) * lN 10 = _
        rw [lN_mul, Nat.pow_succ]
  refine hJ _ _ _ _ ?_
  by_cases hv : v < 0
  · obtain ⟨e1, e2⟩ := abs_i64 v hv
    have e3 : syN v p = dG v.toInt.natAbs (jE v.toInt.natAbs 9 0) (sy 45 p) := by
      unfold syN
      rw [if_pos hv]
    refine And.intro (fun (g : (0 : Int32) ≤ v) => absurd hv (Int32.not_lt.mpr g)) (fun _ => ?_)
    refine And.intro (fun (g : (0 : Int32) ≤ v) => absurd hv (Int32.not_lt.mpr g)) (fun _ => ?_)
    refine R_say hp ?_
    have key : ∀ x : Int64, x = lN v.toInt.natAbs → J 16 [some (.ref 27), some (.int v), some (.long x), none, some (.long (lN (10 ^ 0))), none] [] (cW s (rW (phR r (sy 45 p) n pl) tl), b0, b1, op) := by
      rintro x rfl
      exact loop1 9 0 _ (by omega) (sy_le hp).1 e2 e3.symm
    exact key _ e1
  · obtain ⟨e1, e2⟩ := pos_i64 v hv
    have e3 : syN v p = dG v.toInt.natAbs (jE v.toInt.natAbs 9 0) p := by
      unfold syN
      rw [if_neg hv]
    refine And.intro (fun _ => ?_) (fun (g : ¬ (0 : Int32) ≤ v) => absurd (Int32.not_lt.mp hv) g)
    refine And.intro (fun _ => ?_) (fun (g : ¬ (0 : Int32) ≤ v) => absurd (Int32.not_lt.mp hv) g)
    have key : ∀ x : Int64, x = lN v.toInt.natAbs → J 16 [some (.ref 27), some (.int v), some (.long x), none, some (.long (lN (10 ^ 0))), none] [] (cW s (rW (phR r p n pl) tl), b0, b1, op) := by
      rintro x rfl
      exact loop1 9 0 _ (by omega) hp e2 e3.symm
    exact key _ e1
theorem R_sayHead {kd x : Int32} (hp : p.1 ≤ 120) (hn : n < 260) (hx : kd = 3 → ∃ k, k < 250 ∧ x = nI k)
    (h1 : ∀ k, k < 250 → kd = 3 → x = nI k → r.function k = 0 → Q (.inl none, (cW s (rW (phR r (sy 40 p) (n + 1) (upd pl n x)) tl), b0, b1, op)))
    (h2 : (¬ kd = 3 ∨ ∃ k, k < 250 ∧ x = nI k ∧ ¬ r.function k = 0) → Q (.inl none, (cW s (rW (phR r (atS kd x p) n pl) tl), b0, b1, op))) : mj_Mt gT cst gnw (m + 3) y_R_sayHead [.ref 27, .int kd, .int x] (cW s (rW (phR r p n pl) tl), b0, b1, op) Q := by
  intro J hJ
  have atom : (¬ kd = 3 ∨ ∃ k, k < 250 ∧ x = nI k ∧ ¬ r.function k = 0) → ∀ F : Nat, mj_sg (mj_Mt gT cst gnw (m + 2)) cst gnw (mj_hd (mj_off kO_R_sayHead) kH_R_sayHead) kC_R_sayHead J Q (F + 60) false 24 [some (.ref 27), some (.int kd), some (.int x)] [] (cW s (rW (phR r p n pl) tl), b0, b1, op) := by
    intro hc F
    have h9 := h2 hc
    unfold atS at h9
    refine And.intro (fun (g : ¬ kd = 1) => ?_) (fun (g : kd = 1) => ?_)
    · rw [if_neg g] at h9
      refine And.intro (fun (g2 : ¬ kd = 2) => ?_) (fun (g2 : kd = 2) => ?_)
      · rw [if_neg g2] at h9
        refine And.intro (fun (g3 : ¬ kd = 0) => ?_) (fun (g3 : kd = 0) => ?_)
        · rw [if_neg g3] at h9
          refine R_say hp ?_
          exact h9
        · rw [if_pos g3] at h9
          refine R_say hp ?_
          refine R_say (sy_le hp).1 ?_
          exact h9
      · rw [if_pos g2] at h9
        refine R_say hp ?_
        exact h9
    · rw [if_pos g] at h9
      refine R_sayNumber hp ?_
      exact h9
  refine hJ _ _ _ _ ?_
  refine And.intro (fun (g : ¬ kd = 3) => atom (Or.inl g) _) (fun (g : kd = 3) => ?_)
  obtain ⟨k, hk, rfl⟩ := hx g
  have ek : (nI k).toNatClampNeg = k := nI_clamp (by omega)
  refine And.intro (vp_in_nI hk (by decide)) ?_
  rw [ek]
  refine And.intro (fun (g2 : ¬ r.function k = 0) => atom (Or.inr ⟨k, hk, rfl, g2⟩) _) (fun (g2 : r.function k = 0) => ?_)
  refine R_say hp ?_
  refine And.intro (vp_in_nI hn (by decide)) ?_
  have key : ∀ (i : Nat) (y : Int32), i = n → y = nI (n + 1) → Q (.inl none, (cW s (rW (((phR r (sy 40 p) n pl).s_piled y).s_pile (upd pl i (nI k))) tl), b0, b1, op)) := by
    rintro i y rfl rfl
    exact h1 k hk g rfl g2
  exact key _ _ (nI_clamp (by omega)) (nI_succ n).symm
end RH
end
section
theorem neg_pile : ∀ k, k < 250 → (Int32.ofInt (-1) - nI k : Int32) < 0 := by decide +kernel
theorem neg_neg1 (x : Int32) : Int32.ofInt (-1) - (Int32.ofInt (-1) - x) = x := by
  rw [Int32.sub_eq_iff_eq_add, Int32.add_comm, Int32.sub_add_cancel]
def pOK (n : Nat) (pl : Nat → Int32) : Prop := ∀ i, i < n → (∃ k, k < 250 ∧ pl i = nI k) ∨ (∃ k, k < 250 ∧ pl i = Int32.ofInt (-1) - nI k)
theorem pOK_le {n j : Nat} {pl : Nat → Int32} (h : pOK n pl) (hj : j ≤ n) : pOK j pl := fun i hi => h i (by omega)
theorem pOK_upd {n j : Nat} {pl : Nat → Int32} {x : Int32} (h : pOK n pl) (hj : j ≤ n) (hx : (∃ k, k < 250 ∧ x = nI k) ∨ (∃ k, k < 250 ∧ x = Int32.ofInt (-1) - nI k)) : pOK (max n (j + 1)) (upd pl j x) := by
  intro i hi
  unfold upd
  split
  · exact hx
  · exact h i (by omega)
section RHA
variable {cst : Nat → Option (Nat × (Nat → Int32))} {m b0 b1 : Nat} {op : Bool} {tl : List mj_O} {Q : mj_R → Prop} {s : cS} {r : rM}
set_option maxRecDepth 10000
set_option maxHeartbeats 4000000 in
theorem R_showLoop {J : Nat → mj_L → List Value → mj_H → Prop} (hJ : ∀ pc ls st h, mj_sg (mj_Mt gT cst gnw (m + 3)) cst gnw (mj_hd (mj_off kO_R_showAll) kH_R_showAll) kC_R_showAll J Q 400 true pc ls st h → J pc ls st h) (hr : ∀ a, a < 250 → (r.headKind a = 3 → ∃ j, j < 250 ∧ r.head a = nI j) ∧ (r.tailKind a = 3 → ∃ j, j < 250 ∧ r.tail a = nI j))
    (hQ : ∀ (p : sP) (n : Nat) (pl : Nat → Int32), p.1 ≤ 120 → Q (.inl none, (cW s (rW (phR r p n pl) tl), b0, b1, op))) :
    ∀ (d : Nat) (p : sP) (n : Nat) (pl : Nat → Int32) (x1 x2 : Option Value), 120 - p.1 ≤ d → p.1 ≤ 120 → n ≤ p.1 → pOK n pl → J 15 [some (.ref 27), x1, x2] [] (cW s (rW (phR r p n pl) tl), b0, b1, op) := by
  intro d
  induction d with
  | zero =>
    intro p n pl x1 x2 hd hp hn hl
    refine hJ _ _ _ _ ?_
    refine And.intro (fun _ => hQ p n pl hp) (fun _ => ?_)
    refine And.intro (fun _ => hQ p n pl hp) (fun (g : ¬ (120 : Int32) ≤ nI p.1) => absurd (nI_le (a := 120) (by omega) (by omega)) g)
  | succ d ih =>
    intro p n pl x1 x2 hd hp hn hl
    refine hJ _ _ _ _ ?_
    refine And.intro (fun _ => hQ p n pl hp) (fun (g : ¬ nI n ≤ 0) => ?_)
    cases n with
    | zero => exact absurd (by decide) g
    | succ n =>
    refine And.intro (fun _ => hQ p (n + 1) pl hp) (fun (g1 : ¬ (120 : Int32) ≤ nI p.1) => ?_)
    have hlt : p.1 < 120 := Nat.lt_of_not_le (fun w => g1 (nI_le (a := 120) w (by omega)))
    have e1 : nI (n + 1) - Int32.ofInt 1 = nI n := nI_pred n
    have en : (nI n).toNatClampNeg = n := nI_clamp (by omega)
    have hin : vp_in (nI (n + 1) - Int32.ofInt 1) 260 := by rw [e1]; exact vp_in_nI (by omega) (by decide)
    have hin2 : vp_in (nI n) 260 := vp_in_nI (by omega) (by decide)
    refine And.intro hin ?_
    rcases hl n (by omega) with ⟨k, hk, ek⟩ | ⟨k, hk, ek⟩
    · -- its head
      have kk : (nI k).toNatClampNeg = k := nI_clamp (by omega)
      have hik : vp_in (nI k) 250 := vp_in_nI hk (by decide)
      have key : ∀ (x : Int32), x = nI k → ∀ F : Nat, mj_sg (mj_Mt gT cst gnw (m + 3)) cst gnw (mj_hd (mj_off kO_R_showAll) kH_R_showAll) kC_R_showAll J Q (F + 60) false 29 [some (.ref 27), x1, x2] [.int x] (cW s (rW (phR r p (n + 1) pl) tl), b0, b1, op) := by
        rintro x rfl F
        refine And.intro (fun (g : nI k < 0) => absurd g (nI_pos (by omega))) (fun _ => ?_)
        refine And.intro hin ?_
        refine And.intro hik ?_
        rw [kk]
        refine And.intro hik ?_
        rw [kk]
        have key2 : ∀ (i : Nat) (F : Nat), i = n → mj_sg (mj_Mt gT cst gnw (m + 3)) cst gnw (mj_hd (mj_off kO_R_showAll) kH_R_showAll) kC_R_showAll J Q (F + 5) false 51 [some (.ref 27), some (.int (nI k)), x2] [.int (r.head k), .int (r.headKind k), .ref 27] (cW s (rW (phR r p (n + 1) (upd pl i (Int32.ofInt (-1) - nI k))) tl), b0, b1, op) := by
          rintro i F rfl
          have hl2 : pOK (i + 1) (upd pl i (Int32.ofInt (-1) - nI k)) := by
            have := pOK_upd (j := i) hl (by omega) (x := Int32.ofInt (-1) - nI k) (Or.inr ⟨k, hk, rfl⟩)
            exact pOK_le this (by omega)
          refine R_sayHead hp (by omega) (hr k hk).1 (fun j hj q1 q2 q3 => ?_) (fun _ => ?_)
          · obtain ⟨w1, w2, w3⟩ := sy_le (c := 40) hp
            have w4 := w3 hlt
            refine ih _ _ _ _ _ (by omega) w1 (by omega) ?_
            have := pOK_upd (j := i + 1) hl2 (by omega) (x := r.head k) (Or.inl ⟨j, hj, q2⟩)
            exact pOK_le this (by omega)
          · obtain ⟨w1, w2, w3⟩ := atS_le (kd := r.headKind k) (x := r.head k) hp
            have w4 := w3 hlt
            exact ih (atS (r.headKind k) (r.head k) p) (i + 1) (upd pl i (Int32.ofInt (-1) - nI k)) _ _ (by omega) w1 (by omega) hl2
        exact key2 _ _ (by show (nI (n + 1) - Int32.ofInt 1).toNatClampNeg = n; rw [e1]; exact en)
      exact key _ (by show pl (nI (n + 1) - Int32.ofInt 1).toNatClampNeg = nI k; rw [e1, en]; exact ek) _
    · -- its tail
      have kk : (nI k).toNatClampNeg = k := nI_clamp (by omega)
      have hik : vp_in (nI k) 250 := vp_in_nI hk (by decide)
      have key : ∀ (x : Int32), x = Int32.ofInt (-1) - nI k → ∀ F : Nat, mj_sg (mj_Mt gT cst gnw (m + 3)) cst gnw (mj_hd (mj_off kO_R_showAll) kH_R_showAll) kC_R_showAll J Q (F + 120) false 29 [some (.ref 27), x1, x2] [.int x] (cW s (rW (phR r p (n + 1) pl) tl), b0, b1, op) := by
        rintro x rfl F
        refine And.intro (fun _ => ?_) (fun (g : ¬ Int32.ofInt (-1) - nI k < 0) => absurd (neg_pile k hk) g)
        have hl0 : pOK n pl := pOK_le hl (by omega)
        have key2 : ∀ (y z x : Int32), y = nI k → z = nI n → x = r.tailKind k → ∀ F : Nat, mj_sg (mj_Mt gT cst gnw (m + 3)) cst gnw (mj_hd (mj_off kO_R_showAll) kH_R_showAll) kC_R_showAll J Q (F + 100) false 67 [some (.ref 27), some (.int (Int32.ofInt (-1) - nI k)), some (.int y)] [.int x] (cW s (rW ((phR r p n pl).s_piled z) tl), b0, b1, op) := by
          rintro y z x rfl rfl rfl F
          have other : (¬ r.tailKind k = 3 ∨ ∃ j, j < 250 ∧ r.tail k = nI j ∧ ¬ r.function j = 0) → ∀ F : Nat, mj_sg (mj_Mt gT cst gnw (m + 3)) cst gnw (mj_hd (mj_off kO_R_showAll) kH_R_showAll) kC_R_showAll J Q (F + 60) false 96 [some (.ref 27), some (.int (Int32.ofInt (-1) - nI k)), some (.int (nI k))] [] (cW s (rW (phR r p n pl) tl), b0, b1, op) := by
            intro ho F
            refine And.intro hik ?_
            rw [kk]
            refine And.intro (fun _ => ?_) (fun _ => ?_)
            · refine R_say hp ?_
              obtain ⟨w1, w2, w3⟩ := sy_le (c := Int32.ofInt 41) hp
              have w4 := w3 hlt
              exact ih _ _ _ _ _ (by omega) w1 (by omega) hl0
            · refine R_say hp ?_
              obtain ⟨w1, w2, w3⟩ := sy_le (c := Int32.ofInt 32) hp
              have w4 := w3 hlt
              refine R_say w1 ?_
              obtain ⟨v1, v2, v3⟩ := sy_le (c := Int32.ofInt 46) w1
              refine R_say v1 ?_
              obtain ⟨u1, u2, u3⟩ := sy_le (c := Int32.ofInt 32) v1
              refine And.intro hik ?_
              rw [kk]
              refine And.intro hik ?_
              rw [kk]
              refine R_sayHead u1 (by omega) (hr k hk).2 (fun j hj q1 q2 q3 => ?_) (fun _ => ?_)
              · exfalso
                rcases ho with ho | ⟨j2, hj2, o1, o2⟩
                · exact ho q1
                · have : j = j2 := nIj (by omega) (by omega) (q2.symm.trans o1)
                  subst this
                  exact o2 q3
              · obtain ⟨t1, t2, t3⟩ := atS_le (kd := r.tailKind k) (x := r.tail k) u1
                refine R_say t1 ?_
                obtain ⟨s1, s2, s3⟩ := sy_le (c := Int32.ofInt 41) t1
                exact ih (sy (Int32.ofInt 41) (atS (r.tailKind k) (r.tail k) (sy (Int32.ofInt 32) (sy (Int32.ofInt 46) (sy (Int32.ofInt 32) p))))) n pl _ _ (by omega) s1 (by omega) hl0
          refine And.intro (fun (q : ¬ r.tailKind k = 3) => other (Or.inl q) _) (fun (q : r.tailKind k = 3) => ?_)
          obtain ⟨j, hj, ej⟩ := (hr k hk).2 q
          have jj : (r.tail k).toNatClampNeg = j := by rw [ej]; exact nI_clamp (by omega)
          have hij : vp_in (r.tail k) 250 := by rw [ej]; exact vp_in_nI hj (by decide)
          refine And.intro hik ?_
          rw [kk]
          refine And.intro hij ?_
          refine And.intro (fun (q2 : ¬ r.function (r.tail k).toNatClampNeg = 0) => other (Or.inr ⟨j, hj, ej, by rw [jj] at q2; exact q2⟩) _) (fun _ => ?_)
          refine R_say hp ?_
          obtain ⟨w1, w2, w3⟩ := sy_le (c := Int32.ofInt 32) hp
          have w4 := w3 hlt
          refine And.intro hik ?_
          rw [kk]
          refine And.intro hin2 ?_
          have key3 : ∀ (i : Nat) (y : Int32), i = n → y = nI (n + 1) → J 15 [some (.ref 27), some (.int (Int32.ofInt (-1) - nI k)), some (.int (nI k))] [] (cW s (rW ((phR r (sy (Int32.ofInt 32) p) n (upd pl i (r.tail k))).s_piled y) tl), b0, b1, op) := by
            rintro i y rfl rfl
            refine ih (sy (Int32.ofInt 32) p) (i + 1) (upd pl i (r.tail k)) _ _ (by omega) w1 (by omega) ?_
            have := pOK_upd (j := i) hl (by omega) (x := r.tail k) (Or.inl ⟨j, hj, ej⟩)
            exact pOK_le this (by omega)
          exact key3 _ _ en (nI_succ n).symm
        refine And.intro (show vp_in (Int32.ofInt (-1) - (Int32.ofInt (-1) - nI k)) 250 by rw [neg_neg1]; exact hik) ?_
        exact key2 _ _ _ (neg_neg1 _) e1 (by rw [neg_neg1, kk]; rfl) _
      exact key _ (by show pl (nI (n + 1) - Int32.ofInt 1).toNatClampNeg = Int32.ofInt (-1) - nI k; rw [e1, en]; exact ek) _
theorem R_showAll {a : Nat} (ha : a < 250) (h0 : r.reg 0 = nI a) (hr : ∀ a, a < 250 → (r.headKind a = 3 → ∃ j, j < 250 ∧ r.head a = nI j) ∧ (r.tailKind a = 3 → ∃ j, j < 250 ∧ r.tail a = nI j))
    (hQ : ∀ (p : sP) (n : Nat) (pl : Nat → Int32), p.1 ≤ 120 → Q (.inl none, (cW s (rW (phR (gR r (r.headKind a) (r.head a)) p n pl) tl), b0, b1, op))) : mj_Mt gT cst gnw (m + 4) y_R_showAll [.ref 27] (cW s (rW r tl), b0, b1, op) Q := by
  intro J hJ
  have loop := R_showLoop (r := gR r (r.headKind a) (r.head a)) hJ hr hQ
  refine hJ _ _ _ _ ?_
  refine r_peek0 (r := phR r (0, r.show_) 0 r.pile) ha h0 ?_
  change mj_sg _ _ _ _ _ _ _ _ _ _ _ _ (cW s (rW (phR (gR r (r.headKind a) (r.head a)) (0, r.show_) 0 r.pile) tl), b0, b1, op)
  refine R_sayHead (p := (0, r.show_)) (Nat.zero_le 120) (by decide) (hr a ha).1 (fun k hk q1 q2 q3 => ?_) (fun _ => ?_)
  · obtain ⟨w1, w2, w3⟩ := sy_le (c := 40) (p := (0, r.show_)) (Nat.zero_le 120)
    have w4 := w3 (Nat.lt_of_lt_of_le Nat.zero_lt_one (by decide : 1 ≤ 120))
    refine loop 120 _ _ _ _ _ (by omega) w1 (by have : (0, r.show_).1 = 0 := rfl; omega) ?_
    have := pOK_upd (n := 0) (j := 0) (pl := r.pile) (fun i hi => absurd hi (Nat.not_lt_zero i)) (by omega) (x := r.head a) (Or.inl ⟨k, hk, q2⟩)
    exact pOK_le this (by omega)
  · obtain ⟨w1, w2, w3⟩ := atS_le (kd := r.headKind a) (x := r.head a) (p := (0, r.show_)) (Nat.zero_le 120)
    exact loop 120 _ _ _ _ _ (by omega) w1 (Nat.zero_le _) (fun i hi => absurd hi (Nat.not_lt_zero i))
end RHA
end
section
def shOK (r : rM) : Prop := ∃ n, n ≤ 120 ∧ r.shown = nI n
def rnS (r : rM) : Prop := r.state = 1 ∨ r.state = 2 ∨ r.state = 3 ∨ r.state = 4
theorem kp_sh {r r' : rM} (h : kp r r') (hs : shOK r) : shOK r' := by
  obtain ⟨n, hn, e⟩ := hs
  exact ⟨n, hn, h.2.2.2.2.1.trans e⟩
theorem inU_beh {H T : Nat → Vl} {ro : Nat → Bool} {U : Nat → Prop} (hS : SI H T ro U) : ∀ (k : Nat) (v : Vl), inU U v → inU U (behV T k v)
  | 0, v, h => h
  | k + 1, v, h => by
    rcases v with u | x | x | i | i
    · exact h
    · exact h
    · exact h
    · exact inU_beh hS k (T i) (SI_t hS (inU_pr h))
    · exact h
theorem kV_pr {v : Vl} (h : kV v = 3) : ∃ a, v = vPr a := by
  rcases v with u | x | x | i | i
  · cases h
  · cases h
  · cases h
  · exact ⟨i, rfl⟩
  · cases h
section RST
variable {cst : Nat → Option (Nat × (Nat → Int32))} {m b0 b1 : Nat} {op : Bool} {tl : List mj_O} {Q : mj_R → Prop} {s : cS} {r : rM} {H T : Nat → Vl} {ro : Nat → Bool} {S E D R : Vl} {k : Sk} {n : Nat} {b : Bool} {e : En} {J : Nat → mj_L → List Value → mj_H → Prop} {c : Nat}
set_option maxRecDepth 10000
theorem rg_U {v : Vl} {x : Int32} (h : rg r v x) : inU (Ur r) v := by
  intro a ea
  rcases h with ⟨rfl, -⟩ | ⟨i, rfl, -, h3, -⟩
  · cases ea
  · cases ea
    exact h3
theorem rg_pr {a : Nat} {x : Int32} (h : rg r (vPr a) x) : x = nI a ∧ Ur r a := by
  rcases h with ⟨h1, -⟩ | ⟨i, h1, h2, h3, -⟩
  · cases h1
  · cases h1
    exact ⟨h2, h3⟩
theorem A_pushC {r3 : rM} {v X : Vl} {kk : Nat} {y : Int32} (hX : RX r H T S E (vPr c) D R) {S' : Vl} (hm : mkd r r3 H T kk v S') (g : r3.reg = upd r.reg 0 (nI kk)) (hy : rg r3 X y) : RX (sR r3 (upd r3.reg 2 y)) (upW H kk v) (upW T kk S') (vPr kk) E X D R ∧ Ur (sR r3 (upd r3.reg 2 y)) = addU (Ur r) kk := by
  obtain ⟨⟨m1, -⟩, ⟨m2, m3, m4⟩, m5, m6, m7, m8⟩ := hm
  obtain ⟨hB, x0, x1, x2, x3, x4⟩ := hX
  refine ⟨⟨sm_RB sm_sR m5, ?_, ?_, sm_rg sm_sR hy, ?_, ?_⟩, (sm_Ur sm_sR).trans m6⟩
  · show rg _ _ (r3.reg 0)
    rw [g]
    exact sm_rg sm_sR m8
  · show rg _ _ (r3.reg 1)
    rw [g]
    exact sm_rg sm_sR (rg_up m4 x1)
  · show rg _ _ (r3.reg 3)
    rw [g]
    exact sm_rg sm_sR (rg_up m4 x3)
  · show rg _ _ (r3.reg 4)
    rw [g]
    exact sm_rg sm_sR (rg_up m4 x4)
theorem A_rest {r3 : rM} {h t : Vl} {kk d : Nat} (hm : mkd r r3 H T kk h t) (ud : Ur r d) (l : isL_ (T d)) : rg r3 (T d) (rsN r3 d) := by
  obtain ⟨⟨m1, -⟩, ⟨m2, m3, m4⟩, m5, m6, m7, m8⟩ := hm
  have hne : ¬ d = kk := fun e => m1 (e ▸ ud)
  have e1 : upW T kk t d = T d := if_neg hne
  have := rs_rg m5 (m4.2 d ud).1 (by rw [e1]; exact l)
  rwa [e1] at this
end RST
end
section
def rqN (i : Int32) : Nat := if i = 4 then 4 else if i = 7 then 3 else if i = 3 ∨ i = 13 then 2 else if i = 9 ∨ i = 19 then 0 else 1
theorem rnd_rq (i : Int32) : rnd i = nI (rqN i) ∧ rqN i ≤ 4 := by
  unfold rnd rqN
  by_cases h1 : i = 4
  · rw [if_pos h1, if_pos h1]
    exact ⟨rfl, by decide⟩
  · rw [if_neg h1, if_neg h1]
    by_cases h2 : i = 7
    · rw [if_pos h2, if_pos h2]
      exact ⟨rfl, by decide⟩
    · rw [if_neg h2, if_neg h2]
      by_cases h3 : i = 3 ∨ i = 13
      · rw [if_pos h3, if_pos h3]
        exact ⟨rfl, by decide⟩
      · rw [if_neg h3, if_neg h3]
        by_cases h4 : i = 9 ∨ i = 19
        · rw [if_pos h4, if_pos h4]
          exact ⟨rfl, by decide⟩
        · rw [if_neg h4, if_neg h4]
          exact ⟨rfl, by decide⟩
def clR (r : rM) (x : Int32) : rM := (r.s_collections x)
def tbR (r : rM) (x : Int32) : rM := (r.s_takenBack x)
section RSP
variable {cst : Nat → Option (Nat × (Nat → Int32))} {m b0 b1 : Nat} {op : Bool} {tl : List mj_O} {Q : mj_R → Prop} {s : cS} {r : rM} {H T : Nat → Vl} {ro : Nat → Bool} {S E C D R : Vl} {k : Sk} {n : Nat} {b : Bool} {e : En} {J : Nat → mj_L → List Value → mj_H → Prop}
set_option maxRecDepth 10000
end RSP
end
section
def ke (r r' : rM) : Prop := r'.z = r.z ∧ r'.typed = r.typed ∧ r'.text = r.text ∧ r'.error = r.error ∧ r'.program = r.program
theorem ke_tr {r r' r2 : rM} (h1 : ke r r') (h2 : ke r' r2) : ke r r2 := by
  obtain ⟨a1, a2, a3, a4, a5⟩ := h1
  obtain ⟨b1, b2, b3, b4, b5⟩ := h2
  exact ⟨b1.trans a1, b2.trans a2, b3.trans a3, b4.trans a4, b5.trans a5⟩
theorem kc_ke {r r' : rM} (h : kc r r') : ke r r' := by
  obtain ⟨a1, a2, a3, a4, a5⟩ := h
  exact ⟨a1, a2, a3, a4, congrArg Prod.fst a5⟩
def RTx (r : rM) (R : Vl) : Prop := rnS r ∧ ∃ (H T : Nat → Vl) (ro : Nat → Bool) (S E C D : Vl) (k : Sk) (n : Nat) (b : Bool) (e : En), RX r H T S E C D R ∧ TI H T ro (Ur r) S E C D R k n b e
def RCx (r : rM) (R : Vl) : Prop := r.state = 0 ∧ ∃ (H T : Nat → Vl) (ro : Nat → Bool), RX r H T vNil vNil vNil vNil R ∧ TS H T ro (Ur r) R
def RMI (r : rM) : Prop := (mkOK r ∧ shOK r) ∧ ((r.program = 0 ∧ r.state = 0 ∧ ∃ H T : Nat → Vl, RX r H T vNil vNil vNil vNil vNil) ∨ (¬ r.program = 0 ∧ ∃ R, RCx r R ∨ RTx r R))
def thR (r : rM) (x : Int32) : rM := (r.s_thrown x)
def spR (r : rM) (x : Int32) : rM := (r.s_steps x)
section RCL
variable {cst : Nat → Option (Nat × (Nat → Int32))} {m b0 b1 : Nat} {op : Bool} {tl : List mj_O} {Q : mj_R → Prop} {s : cS} {r : rM}
set_option maxRecDepth 10000
theorem RMI_sp {x : Int32} (h : RMI r) : RMI (spR r x) := h
theorem RMI_RX (h : RMI r) : ∃ (H T : Nat → Vl) (S E C D R : Vl), RX r H T S E C D R := by
  rcases h.2 with ⟨-, -, H, T, hX⟩ | ⟨-, R, ⟨-, H, T, ro, hX, -⟩ | ⟨-, H, T, ro, S, E, C, D, k, n, b, e, hX, -⟩⟩
  · exact ⟨H, T, _, _, _, _, _, hX⟩
  · exact ⟨H, T, _, _, _, _, _, hX⟩
  · exact ⟨H, T, _, _, _, _, _, hX⟩
theorem R_state (hI : RMI r) (hQ : Q (.inl (some (.int r.state)), (cW s (rW (thR r 0) tl), b0, b1, op))) : mj_Mt gT cst gnw (m + 1) y_R_state [.ref 27] (cW s (rW r tl), b0, b1, op) Q := by
  intro J hJ
  refine hJ _ _ _ _ ?_
  exact hQ
theorem R_position (hQ : Q (.inl (some (.int r.error)), (cW s (rW (thR r 0) tl), b0, b1, op))) : mj_Mt gT cst gnw (m + 1) y_R_position [.ref 27] (cW s (rW r tl), b0, b1, op) Q := by
  intro J hJ
  refine hJ _ _ _ _ ?_
  exact hQ
theorem R_lengthOf {n : Nat} {x : Int32} (hc : chN r n x) (hQ : ∀ y, Q (.inl (some (.int y)), (cW s (rW r tl), b0, b1, op))) : mj_Mt gT cst gnw (m + 2) y_R_lengthOf [.ref 27, .int x] (cW s (rW r tl), b0, b1, op) Q := by
  intro J hJ
  have loop : ∀ (j : Nat) (a y : Int32), chN r j y → J 4 [some (.ref 27), some (.int x), some (.int a), some (.int y)] [] (cW s (rW r tl), b0, b1, op) := by
    intro j
    induction j with
    | zero =>
      intro a y hy
      refine hJ _ _ _ _ ?_
      exact And.intro (fun _ => hQ _) (fun g => absurd hy g)
    | succ j ih =>
      intro a y hy
      obtain ⟨k, hk, rfl, h2⟩ := hy
      refine hJ _ _ _ _ ?_
      refine And.intro (fun (g : nI k < 0) => absurd g (nI_pos (by omega))) (fun _ => ?_)
      refine r_rest hk ?_
      exact ih _ _ h2
  refine hJ _ _ _ _ ?_
  exact loop n _ x hc
theorem chN_th {y : Int32} : ∀ (n : Nat) (x : Int32), chN r n x → chN (thR r y) n x
  | 0, x, h => h
  | n + 1, x, ⟨k, h1, h2, h3⟩ => ⟨k, h1, h2, chN_th n _ h3⟩
theorem chN_stk {H T : Nat → Vl} {ro : Nat → Bool} (hB : RB r H T) : ∀ (k : Sk) (v : Vl) (x : Int32), stk H T ro k v → rg r v x → chN r k.length x
  | [], v, x, h, hg => by
    have h : v = vNil := h
    subst h
    rcases hg with ⟨-, e⟩ | ⟨a, e, -⟩
    · rw [e]
      show (-1 : Int32) < 0
      decide
    · cases e
  | y :: k, v, x, h, hg => by
    obtain ⟨a, rfl, -, -, h⟩ := h
    obtain ⟨e, ua⟩ := rg_pr hg
    exact ⟨a, Ur_lt hB ua, e, chN_stk hB k _ _ h (rs_rg hB ua (isL_stk h))⟩
theorem chN_dmp {H T : Nat → Vl} {ro : Nat → Bool} {U : Nat → Prop} (hB : RB r H T) (hS : SI H T ro (Ur r)) : ∀ (f : Nat) (v : Vl) (e : En) (x : Int32), dmp H T ro f v e → rg r v x → ∃ n, chN r n x
  | 0, v, e, x, h, hg => by
    have h : v = vNil := h.2
    subst h
    rcases hg with ⟨-, e⟩ | ⟨a, e, -⟩
    · refine ⟨0, ?_⟩
      rw [e]
      show (-1 : Int32) < 0
      decide
    · cases e
  | f + 1, v, e, x, h, hg => by
    rcases h with ⟨e1, a, b, c, k, n, e', rfl, a1, a2, a3, a4, a5, a6, a7, a8, a9⟩ | ⟨k, n, a, e', e1, rfl, a1, a2, a3⟩
    · obtain ⟨ea, ua⟩ := rg_pr hg
      have ub := SI_tp hS ua a3
      have uc := SI_tp hS ub a6
      obtain ⟨j, hj⟩ := chN_dmp (U := U) hB hS f _ _ _ a9 (rs_rg hB uc (isL_dmx ⟨f, a9⟩))
      exact ⟨j + 3, a, Ur_lt hB ua, ea, b, Ur_lt hB ub, rs_pr hB ua a3, c, Ur_lt hB uc, rs_pr hB ub a6, hj⟩
    · obtain ⟨ea, ua⟩ := rg_pr hg
      obtain ⟨j, hj⟩ := chN_dmp (U := U) hB hS f _ _ _ a3 (rs_rg hB ua (isL_dmx ⟨f, a3⟩))
      exact ⟨j + 1, a, Ur_lt hB ua, ea, hj⟩
theorem chN_nil {x : Int32} (h : rg r vNil x) : ∃ n, chN r n x := by
  rcases h with ⟨-, e⟩ | ⟨a, e, -⟩
  · refine ⟨0, ?_⟩
    rw [e]
    show (-1 : Int32) < 0
    decide
  · cases e
theorem RMI_len (h : RMI r) : (∃ n, chN r n (r.reg 0)) ∧ ∃ n, chN r n (r.reg 3) := by
  rcases h.2 with ⟨-, -, H, T, hX⟩ | ⟨-, R, ⟨-, H, T, ro, hX, -⟩ | ⟨-, H, T, ro, S, E, C, D, k, n, b, e, hX, hT⟩⟩
  · exact ⟨chN_nil hX.2.1, chN_nil hX.2.2.2.2.1⟩
  · exact ⟨chN_nil hX.2.1, chN_nil hX.2.2.2.2.1⟩
  · obtain ⟨hS, ⟨uS, tS_⟩, -, -, ⟨uD, f, tD⟩, -⟩ := hT
    exact ⟨⟨_, chN_stk hX.1 k S _ tS_ hX.2.1⟩, chN_dmp (U := Ur r) hX.1 hS.1 f D _ _ tD hX.2.2.2.2.1⟩
theorem RMI_mp {mk : Nat → Bool} {pl : Nat → Nat} {n : Nat} (h : RMI r) : RMI (mpR r mk pl n) := ⟨⟨⟨mk, rfl⟩, h.1.2⟩, h.2⟩
def s1R (r : rM) : rM := ((((r.s_state 1).s_collections 0).s_takenBack 0).s_steps 0)
theorem R_start (hI : RMI r) (h0 : r.program = 0 → Q (.inl (some (.int 0)), (cW s (rW (thR r 0) tl), b0, b1, op))) (h1 : ∀ r', ¬ r.program = 0 → ke r r' → RMI r' → r'.state = 1 → Q (.inl (some (.int 1)), (cW s (rW r' tl), b0, b1, op))) : mj_Mt gT cst gnw (m + 4) y_R_start [.ref 27] (cW s (rW r tl), b0, b1, op) Q := by
  intro J hJ
  refine hJ _ _ _ _ ?_
  refine And.intro (fun (g : ¬ r.program = 0) => ?_) (fun (g : r.program = 0) => And.intro (Or.inl rfl) (h0 g))
  have hr : ∃ (H T : Nat → Vl) (ro : Nat → Bool) (S E C D R : Vl), RX r H T S E C D R ∧ TS H T ro (Ur r) R := by
    rcases hI.2 with ⟨w, -⟩ | ⟨-, R, ⟨-, H, T, ro, hX, hT⟩ | ⟨-, H, T, ro, S, E, C, D, k, n, b, e, hX, hT⟩⟩
    · exact absurd w g
    · exact ⟨H, T, ro, _, _, _, _, R, hX, hT⟩
    · exact ⟨H, T, ro, _, _, _, _, R, hX, hT.1⟩
  obtain ⟨H, T, ro, S, E, C, D, R, ⟨hB, -, -, -, -, x4⟩, hT⟩ := hr
  have loop : ∀ (j k : Nat) (f : Nat → Int32), j + k = 4 → (∀ i, i < k → f i = -1) → f 4 = r.reg 4 → J 10 [some (.ref 27), some (.int (nI k))] [] (cW s (rW (sR (thR r 0) f) tl), b0, b1, op) := by
    intro j
    induction j with
    | zero =>
      intro k f hk hf h4
      obtain rfl : k = 4 := by omega
      refine hJ _ _ _ _ ?_
      refine And.intro (fun _ => ?_) (fun (w : ¬ (4 : Int32) ≤ nI 4) => absurd (by decide) w)
      have n : ∀ i, i < 4 → rg (sR (thR r 0) f) vNil ((sR (thR r 0) f).reg i) := fun i hi => Or.inl ⟨rfl, hf i hi⟩
      have hX1 : RX (sR (thR r 0) f) H T vNil vNil vNil vNil R := ⟨hB, n 0 (by decide), n 1 (by decide), n 2 (by decide), n 3 (by decide), by
        show rg _ R (f 4)
        rw [h4]
        exact x4⟩
      refine R_sweep hX1 hI.1.1 (fun nn r' hnn q1 q2 q3 q4 q5 q6 q7 q8 q9 q10 => ?_)
      have hke := kc_ke q1
      have i54 : vp_in 4 5 := vp_in_nI (show 4 < 5 by decide) (by decide)
      refine And.intro i54 ?_
      refine And.intro i52 ?_
      have hT' : TS H T ro (Ur r') R := ⟨SI_sub hT.1 q8 q9, q10.2.2.2.2, hT.2.2⟩
      obtain ⟨hB', y0, y1, y2, y3, y4⟩ := q7
      have e : r'.reg 0 = -1 ∧ r'.reg 1 = -1 ∧ r'.reg 3 = -1 := by
        rw [q4]
        exact ⟨hf 0 (by decide), hf 1 (by decide), hf 3 (by decide)⟩
      have h3 : RMI (s1R (sR r' (upd r'.reg 2 (r'.reg 4)))) := by
        refine ⟨⟨q2, ?_⟩, Or.inr ⟨?_, R, Or.inr ⟨Or.inl rfl, H, T, ro, vNil, vNil, R, vNil, [], 0, false, eStop, ⟨hB', y0, y1, y4, y3, y4⟩, TI_start hT'⟩⟩⟩
        · obtain ⟨n, hn, en⟩ := hI.1.2
          exact ⟨n, hn, q5.2.2.2.1.trans en⟩
        · show ¬ r'.program = 0
          rw [hke.2.2.2.2]
          exact g
      refine And.intro (fun (w : nI nn < 0) => absurd w (nI_pos (by omega))) (fun _ => ?_)
      exact And.intro (Or.inr rfl) (h1 (s1R (sR r' (upd r'.reg 2 (r'.reg 4)))) g hke h3 rfl)
    | succ j ih =>
      intro k f hk hf h4
      refine hJ _ _ _ _ ?_
      refine And.intro (fun (w : (4 : Int32) ≤ nI k) => absurd w (nI_ge (b := 4) (by omega) (by decide))) (fun _ => ?_)
      refine And.intro (vp_in_nI (show k < 5 by omega) (by decide)) ?_
      have key : ∀ (i : Nat) (y : Int32), i = k → y = nI (k + 1) → J 10 [some (.ref 27), some (.int y)] [] (cW s (rW (sR (thR r 0) (upd f i (-1))) tl), b0, b1, op) := by
        rintro i y rfl rfl
        refine ih (i + 1) _ (by omega) (fun a ha => ?_) ?_
        · unfold upd
          split
          · rfl
          · exact hf a (by omega)
        · unfold upd
          rw [if_neg (by omega)]
          exact h4
      exact key _ _ (nI_clamp (by omega)) (nI_succ k).symm
  exact loop 4 0 r.reg (by omega) (fun i hi => absurd hi (Nat.not_lt_zero i)) rfl
end RCL
end
section
def pdR (r : rM) (a d : Nat) : rM := ((r.s_p (nI a)).s_depth (nI d))
theorem pDg_v (tx : Nat → Nat) : ∀ (k a : Nat) (v w : Int32), (pDg tx k a v).1 = (pDg tx k a w).1
  | 0, a, v, w => rfl
  | k + 1, a, v, w => by
    unfold pDg
    split
    · exact pDg_v tx k (a + 1) _ _
    · rfl
theorem pDg_le (tx : Nat → Nat) : ∀ (k a : Nat) (v : Int32), a ≤ (pDg tx k a v).1 ∧ (pDg tx k a v).1 ≤ a + k
  | 0, a, v => ⟨Nat.le_refl _, Nat.le_refl _⟩
  | k + 1, a, v => by
    unfold pDg
    split
    · have := pDg_le tx k (a + 1) (Int32.ofInt 10 * v + nI (tx a) - Int32.ofInt 48)
      omega
    · exact ⟨Nat.le_refl _, by show a ≤ a + (k + 1); omega⟩
theorem pDg_len {X : Nat → Int32} {len : Nat} {tx : Nat → Nat} (hx : txOK X len tx) : ∀ (k a : Nat) (v : Int32), a ≤ len → (pDg tx k a v).1 ≤ len
  | 0, a, v, h => h
  | k + 1, a, v, h => by
    unfold pDg
    split
    · next hd =>
      refine pDg_len hx k (a + 1) _ ?_
      have := hx.lt (a := a) (fun q => by rw [q] at hd; exact absurd hd (by decide))
      omega
    · exact h
section RD1
variable {cst : Nat → Option (Nat × (Nat → Int32))} {m b0 b1 : Nat} {op : Bool} {tl : List mj_O} {Q : mj_R → Prop} {s : cS} {r : rM} {a d len : Nat} {tx : Nat → Nat}
set_option maxRecDepth 10000
theorem R_here {k : Nat} (hx : txOK r.text len tx) (ht : r.typed = nI len) (ha : a + k ≤ 2000) (hQ : Q (.inl (some (.int (nI (tx (a + k))))), (cW s (rW (pdR r a d) tl), b0, b1, op))) : mj_Mt gT cst gnw (m + 1) y_R_here [.ref 27, .int (nI k)] (cW s (rW (pdR r a d) tl), b0, b1, op) Q := by
  have h96 := hx.1
  have hc := hx.le (a + k)
  have e1 : nI a + nI k = nI (a + k) := nI_add a k
  intro J hJ
  refine hJ _ _ _ _ ?_
  refine And.intro (fun (g : r.typed ≤ nI a + nI k) => ?_) (fun (g : ¬ r.typed ≤ nI a + nI k) => ?_)
  · rw [ht, e1] at g
    have : tx (a + k) = 0 := hx.2.2 _ ((nI_leI (by omega) (by omega)).mp g)
    rw [this] at hQ
    exact And.intro rfl hQ
  · rw [ht, e1] at g
    have hlt : a + k < len := Nat.lt_of_not_le (fun w => g (nI_le w (by omega)))
    obtain ⟨ec, -⟩ := hx.2.1 _ hlt
    refine And.intro (show vp_in (nI a + nI k) 96 by rw [e1]; exact vp_in_nI (by omega) (by decide)) ?_
    have key : ∀ x : Int32, x = nI (tx (a + k)) → narrow .char (.int x) = .int x ∧ Q (.inl (some (.int x)), (cW s (rW (pdR r a d) tl), b0, b1, op)) := by
      rintro x rfl
      exact ⟨(pk_charN (q := tx (a + k)) (by omega)).1, hQ⟩
    refine key _ ?_
    show r.text (nI a + nI k).toNatClampNeg = nI (tx (a + k))
    rw [e1, nI_clamp (by omega), ec]
theorem R_here0 (hx : txOK r.text len tx) (ht : r.typed = nI len) (ha : a ≤ 2000) (hQ : Q (.inl (some (.int (nI (tx a)))), (cW s (rW (pdR r a d) tl), b0, b1, op))) : mj_Mt gT cst gnw (m + 1) y_R_here [.ref 27, .int 0] (cW s (rW (pdR r a d) tl), b0, b1, op) Q := R_here (k := 0) hx ht ha hQ
theorem R_takes {c : Nat} (hx : txOK r.text len tx) (ht : r.typed = nI len) (ha : a ≤ 1000) (hc : c < 2 ^ 31) (h1 : tx a = c → Q (.inl (some (.int 1)), (cW s (rW (pdR r (a + 1) d) tl), b0, b1, op))) (h0 : ¬ tx a = c → Q (.inl (some (.int 0)), (cW s (rW (pdR r a d) tl), b0, b1, op))) : mj_Mt gT cst gnw (m + 2) y_R_takes [.ref 27, .int (nI c)] (cW s (rW (pdR r a d) tl), b0, b1, op) Q := by
  have hcc := hx.le a
  intro J hJ
  refine hJ _ _ _ _ ?_
  refine R_here0 hx ht (by omega) ?_
  refine And.intro (fun (g : ¬ nI (tx a) = nI c) => ?_) (fun (g : nI (tx a) = nI c) => ?_)
  · refine And.intro (fun _ => ?_) (fun g => absurd rfl g)
    exact And.intro (Or.inl rfl) (h0 (fun e => g (by rw [e])))
  · refine And.intro (fun (g : (1 : Int32) = 0) => absurd g (by decide)) (fun _ => ?_)
    have e : tx a = c := nIj (by omega) hc g
    have key : ∀ x : Int32, x = nI (a + 1) → Q (.inl (some (.int 1)), (cW s (rW ((pdR r a d).s_p x) tl), b0, b1, op)) := by
      rintro x rfl
      exact h1 e
    exact And.intro (Or.inr rfl) (key _ (nI_succ a).symm)
theorem R_opens (hx : txOK r.text len tx) (ht : r.typed = nI len) (ha : a ≤ 1000) (hd : d ≤ 9) (h1 : tx a = 40 → d < 9 → Q (.inl (some (.int 1)), (cW s (rW (pdR r (a + 1) (d + 1)) tl), b0, b1, op))) (h0 : ¬ (tx a = 40 ∧ d < 9) → Q (.inl (some (.int 0)), (cW s (rW (pdR r a d) tl), b0, b1, op))) : mj_Mt gT cst gnw (m + 2) y_R_opens [.ref 27] (cW s (rW (pdR r a d) tl), b0, b1, op) Q := by
  have hcc := hx.le a
  intro J hJ
  refine hJ _ _ _ _ ?_
  refine R_here0 hx ht (by omega) ?_
  refine And.intro (fun (g : ¬ nI (tx a) = 40) => ?_) (fun (g : nI (tx a) = 40) => ?_)
  · exact And.intro (Or.inl rfl) (h0 (fun e => g (by rw [e.1]; rfl)))
  · have e : tx a = 40 := nIj (j := 40) (by omega) (by decide) g
    refine And.intro (fun (g2 : ¬ nI d = 9) => ?_) (fun (g2 : nI d = 9) => ?_)
    · have hd9 : d < 9 := by
        rcases Nat.lt_or_ge d 9 with w | w
        · exact w
        · obtain rfl : d = 9 := by omega
          exact absurd rfl g2
      have key : ∀ x y : Int32, x = nI (a + 1) → y = nI (d + 1) → Q (.inl (some (.int 1)), (cW s (rW ((r.s_p x).s_depth y) tl), b0, b1, op)) := by
        rintro x y rfl rfl
        exact h1 e hd9
      exact And.intro (Or.inr rfl) (key _ _ (nI_succ a).symm (nI_succ d).symm)
    · exact And.intro (Or.inl rfl) (h0 (fun w => by
        have := nIj (i := d) (j := 9) (by omega) (by decide) g2
        omega))
theorem R_closes (hx : txOK r.text len tx) (ht : r.typed = nI len) (ha : a ≤ 1000) (h1 : tx a = 41 → Q (.inl (some (.int 1)), (cW s (rW (pdR r (a + 1) d) tl), b0, b1, op))) (h0 : ¬ tx a = 41 → Q (.inl (some (.int 0)), (cW s (rW (pdR r a (d + 1)) tl), b0, b1, op))) : mj_Mt gT cst gnw (m + 3) y_R_closes [.ref 27] (cW s (rW (pdR r a (d + 1)) tl), b0, b1, op) Q := by
  intro J hJ
  refine hJ _ _ _ _ ?_
  refine R_takes (c := 41) hx ht ha (by decide) (fun e => ?_) (fun e => ?_)
  · refine And.intro (fun (g : (1 : Int32) = 0) => absurd g (by decide)) (fun _ => ?_)
    have key : ∀ y : Int32, y = nI d → Q (.inl (some (.int 1)), (cW s (rW ((pdR r (a + 1) (d + 1)).s_depth y) tl), b0, b1, op)) := by
      rintro y rfl
      exact h1 e
    exact And.intro (Or.inr rfl) (key _ (nI_pred d))
  · refine And.intro (fun _ => ?_) (fun g => absurd rfl g)
    exact And.intro (Or.inl rfl) (h0 e)
theorem R_isDigit {h : mj_H} {c : Nat} (hc : c < 2 ^ 31) (h1 : cD c = true → Q (.inl (some (.int 1)), h)) (h0 : cD c = false → Q (.inl (some (.int 0)), h)) : mj_Mt gT cst gnw (m + 1) y_R_isDigit [.int (nI c)] h Q := by
  intro J hJ
  refine hJ _ _ _ _ ?_
  refine And.intro (fun (g : nI c < 48) => ?_) (fun (g : ¬ nI c < 48) => ?_)
  · have w : c < 48 := (nI_ltI (b := 48) hc (by decide)).mp g
    exact And.intro (Or.inl rfl) (h0 (decide_eq_false (by omega)))
  · have w : ¬ c < 48 := fun q => g (nI_lt (b := 48) q (by decide))
    refine And.intro (fun (g2 : 57 < nI c) => ?_) (fun (g2 : ¬ 57 < nI c) => ?_)
    · have w2 : 57 < c := (nI_ltI (a := 57) (by decide) hc).mp g2
      exact And.intro (Or.inl rfl) (h0 (decide_eq_false (by omega)))
    · have w2 : ¬ 57 < c := fun q => g2 (nI_lt (a := 57) q hc)
      exact And.intro (Or.inr rfl) (h1 (decide_eq_true (by omega)))
theorem R_isLetter {h : mj_H} {c : Nat} (hc : c < 2 ^ 31) (h1 : cL c = true → Q (.inl (some (.int 1)), h)) (h0 : cL c = false → Q (.inl (some (.int 0)), h)) : mj_Mt gT cst gnw (m + 1) y_R_isLetter [.int (nI c)] h Q := by
  intro J hJ
  refine hJ _ _ _ _ ?_
  refine And.intro (fun (g : nI c < 97) => ?_) (fun (g : ¬ nI c < 97) => ?_)
  · have w : c < 97 := (nI_ltI (b := 97) hc (by decide)).mp g
    exact And.intro (Or.inl rfl) (h0 (decide_eq_false (by omega)))
  · have w : ¬ c < 97 := fun q => g (nI_lt (b := 97) q (by decide))
    refine And.intro (fun (g2 : 122 < nI c) => ?_) (fun (g2 : ¬ 122 < nI c) => ?_)
    · have w2 : 122 < c := (nI_ltI (a := 122) (by decide) hc).mp g2
      exact And.intro (Or.inl rfl) (h0 (decide_eq_false (by omega)))
    · have w2 : ¬ 122 < c := fun q => g2 (nI_lt (a := 122) q hc)
      exact And.intro (Or.inr rfl) (h1 (decide_eq_true (by omega)))
theorem R_number (hx : txOK r.text len tx) (ht : r.typed = nI len) (ha : a ≤ 500) (h1 : cD (tx (pA1 tx a)) = true → Q (.inl (some (.int 1)), (cW s (rW (pdR r (pDg tx 4 (pA1 tx a) 0).1 d) tl), b0, b1, op))) (h0 : cD (tx (pA1 tx a)) = false → Q (.inl (some (.int 0)), (cW s (rW (pdR r (pA1 tx a) d) tl), b0, b1, op))) : mj_Mt gT cst gnw (m + 3) y_R_number [.ref 27] (cW s (rW (pdR r a d) tl), b0, b1, op) Q := by
  intro J hJ
  have fin : ∀ (n q : Nat) (x : Int32), n ≤ 4 → (0 < n → cD (tx (pA1 tx a)) = true ∧ q = (pDg tx 4 (pA1 tx a) 0).1) → (n = 0 → cD (tx (pA1 tx a)) = false ∧ q = pA1 tx a) → ∀ F : Nat, mj_sg (mj_Mt gT cst gnw (m + 2)) cst gnw (mj_hd (mj_off kO_R_number) kH_R_number) kC_R_number J Q (F + 20) false 22 [some (.ref 27), some (.int x), some (.int (nI n))] [] (cW s (rW (pdR r q d) tl), b0, b1, op) := by
    intro n q x hn hp hz F
    refine And.intro (fun (g : nI n ≤ 0) => ?_) (fun (g : ¬ nI n ≤ 0) => ?_)
    · have : n = 0 := by
        have := (nI_leI (b := 0) (by omega) (by decide)).mp g
        omega
      obtain ⟨e1, e2⟩ := hz this
      subst e2
      exact And.intro (Or.inl rfl) (h0 e1)
    · have : 0 < n := Nat.pos_of_ne_zero (fun e => g (by rw [e]; decide))
      obtain ⟨e1, e2⟩ := hp this
      subst e2
      refine And.intro (fun _ => ?_) (fun _ => ?_)
      · exact And.intro (Or.inr rfl) (h1 e1)
      · exact And.intro (Or.inr rfl) (h1 e1)
  have loop : ∀ (j n q : Nat) (x : Int32), j + n = 4 → q ≤ 501 + n → (pDg tx j q 0).1 = (pDg tx 4 (pA1 tx a) 0).1 → (0 < n → cD (tx (pA1 tx a)) = true) → (n = 0 → q = pA1 tx a) → J 6 [some (.ref 27), some (.int x), some (.int (nI n))] [] (cW s (rW (pdR r q d) tl), b0, b1, op) := by
    intro j
    induction j with
    | zero =>
      intro n q x hn hq e hp hz
      obtain rfl : n = 4 := by omega
      refine hJ _ _ _ _ ?_
      refine And.intro (fun _ => ?_) (fun (g : ¬ (4 : Int32) ≤ nI 4) => absurd (by decide) g)
      exact fin 4 q x (by omega) (fun w => ⟨hp w, e⟩) (fun w => by omega) _
    | succ j ih =>
      intro n q x hn hq e hp hz
      refine hJ _ _ _ _ ?_
      refine And.intro (fun (g : (4 : Int32) ≤ nI n) => absurd g (nI_ge (b := 4) (by omega) (by decide))) (fun _ => ?_)
      refine R_here0 hx ht (by omega) ?_
      have hcc := hx.le q
      have e0 : (pDg tx (j + 1) q 0).1 = if cD (tx q) then (pDg tx j (q + 1) (Int32.ofInt 10 * 0 + nI (tx q) - Int32.ofInt 48)).1 else q := by
        show (if cD (tx q) then pDg tx j (q + 1) (Int32.ofInt 10 * 0 + nI (tx q) - Int32.ofInt 48) else (q, 0)).1 = _
        split <;> rfl
      rw [e0] at e
      refine R_isDigit (by omega) (fun hd => ?_) (fun hd => ?_)
      · rw [if_pos hd, pDg_v tx j (q + 1) _ 0] at e
        refine And.intro (fun (g : (1 : Int32) = 0) => absurd g (by decide)) (fun _ => ?_)
        have key : ∀ y z : Int32, y = nI (q + 1) → z = nI (n + 1) → J 6 [some (.ref 27), some (.int x), some (.int z)] [] (cW s (rW ((pdR r q d).s_p y) tl), b0, b1, op) := by
          rintro y z rfl rfl
          refine ih (n + 1) (q + 1) x (by omega) (by omega) e (fun _ => ?_) (fun w => by omega)
          rcases Nat.eq_zero_or_pos n with w | w
          · rw [← hz w]
            exact hd
          · exact hp w
        exact key _ _ (nI_succ q).symm (nI_succ n).symm
      · rw [if_neg (by rw [hd]; decide)] at e
        refine And.intro (fun _ => ?_) (fun g => absurd rfl g)
        refine fin n q x (by omega) (fun w => ⟨hp w, e⟩) (fun w => ?_) _
        rw [← hz w]
        exact ⟨hd, rfl⟩
  refine hJ _ _ _ _ ?_
  refine R_takes (c := 45) hx ht (by omega) (by decide) (fun e => ?_) (fun e => ?_)
  · have e1 : pA1 tx a = a + 1 := if_pos e
    exact loop 4 0 (a + 1) _ (by omega) (by omega) (by rw [e1]) (fun w => absurd w (Nat.lt_irrefl 0)) (fun _ => e1.symm)
  · have e1 : pA1 tx a = a := if_neg e
    exact loop 4 0 a _ (by omega) (by omega) (by rw [e1]) (fun w => absurd w (Nat.lt_irrefl 0)) (fun _ => e1.symm)
theorem R_numberAt (hx : txOK r.text len tx) (ht : r.typed = nI len) (ha : a < len) (hQ : Q (.inl (some (.int (pVal tx a))), (cW s (rW r tl), b0, b1, op))) : mj_Mt gT cst gnw (m + 2) y_R_numberAt [.ref 27, .int (nI a)] (cW s (rW r tl), b0, b1, op) Q := by
  have h96 := hx.1
  have hca := hx.le a
  obtain ⟨ea, -⟩ := hx.2.1 a ha
  have eka : (nI a).toNatClampNeg = a := nI_clamp (by omega)
  intro J hJ
  have fin : ∀ (v x3 x5 : Int32) (b : Nat), b ≤ 1 → (b = 1 ↔ tx a = 45) → v = (pDg tx 4 (pA1 tx a) 0).2 → ∀ F : Nat, mj_sg (mj_Mt gT cst gnw (m + 1)) cst gnw (mj_hd (mj_off kO_R_numberAt) kH_R_numberAt) kC_R_numberAt J Q (F + 20) false 49 [some (.ref 27), some (.int (nI a)), some (.int (nI b)), some (.int x3), some (.int v), some (.int x5)] [] (cW s (rW r tl), b0, b1, op) := by
    intro v x3 x5 b hb hbt hv F
    subst hv
    have e0 : pVal tx a = if tx a = 45 then -(pDg tx 4 (pA1 tx a) 0).2 else (pDg tx 4 (pA1 tx a) 0).2 := rfl
    rw [e0] at hQ
    refine And.intro (fun (g : nI b = 0) => ?_) (fun (g : ¬ nI b = 0) => ?_)
    · have : b = 0 := nIj (j := 0) (by omega) (by decide) g
      rw [if_neg (fun w => by have := hbt.mpr w; omega)] at hQ
      exact hQ
    · have : b = 1 := by
        rcases Nat.lt_or_ge b 1 with w | w
        · obtain rfl : b = 0 := by omega
          exact absurd rfl g
        · omega
      rw [if_pos (hbt.mp this)] at hQ
      exact hQ
  have loop : ∀ (j n q b : Nat) (v : Int32), j + n = 4 → q ≤ 97 + n → b ≤ 1 → (b = 1 ↔ tx a = 45) → (pDg tx j q v).2 = (pDg tx 4 (pA1 tx a) 0).2 → J 22 [some (.ref 27), some (.int (nI a)), some (.int (nI b)), some (.int (nI q)), some (.int v), some (.int (nI n))] [] (cW s (rW r tl), b0, b1, op) := by
    intro j
    induction j with
    | zero =>
      intro n q b v hn hq hb hbt e
      obtain rfl : n = 4 := by omega
      refine hJ _ _ _ _ ?_
      refine And.intro (fun _ => ?_) (fun (g : ¬ (4 : Int32) ≤ nI 4) => absurd (by decide) g)
      exact fin v _ _ b hb hbt e _
    | succ j ih =>
      intro n q b v hn hq hb hbt e
      have e0 : (pDg tx (j + 1) q v).2 = if cD (tx q) then (pDg tx j (q + 1) (Int32.ofInt 10 * v + nI (tx q) - Int32.ofInt 48)).2 else v := by
        show (if cD (tx q) then pDg tx j (q + 1) (Int32.ofInt 10 * v + nI (tx q) - Int32.ofInt 48) else (q, v)).2 = _
        split <;> rfl
      rw [e0] at e
      refine hJ _ _ _ _ ?_
      refine And.intro (fun (g : (4 : Int32) ≤ nI n) => absurd g (nI_ge (b := 4) (by omega) (by decide))) (fun _ => ?_)
      refine And.intro (fun (g : r.typed ≤ nI q) => ?_) (fun (g : ¬ r.typed ≤ nI q) => ?_)
      · rw [ht] at g
        have : tx q = 0 := hx.2.2 _ ((nI_leI (by omega) (by omega)).mp g)
        rw [this, if_neg (by decide)] at e
        exact fin v _ _ b hb hbt e _
      · rw [ht] at g
        have hlt : q < len := Nat.lt_of_not_le (fun w => g (nI_le w (by omega)))
        obtain ⟨eq, -⟩ := hx.2.1 q hlt
        have hcq := hx.le q
        have ekq : (nI q).toNatClampNeg = q := nI_clamp (by omega)
        have hin : vp_in (nI q) 96 := vp_in_nI (by omega) (by decide)
        refine And.intro hin ?_
        rw [ekq, eq]
        refine R_isDigit (by omega) (fun hd => ?_) (fun hd => ?_)
        · rw [if_pos hd] at e
          refine And.intro (fun (g : (1 : Int32) = 0) => absurd g (by decide)) (fun _ => ?_)
          refine And.intro hin ?_
          rw [ekq, eq]
          have key : ∀ y z : Int32, y = nI (q + 1) → z = nI (n + 1) → J 22 [some (.ref 27), some (.int (nI a)), some (.int (nI b)), some (.int y), some (.int (Int32.ofInt 10 * v + nI (tx q) - Int32.ofInt 48)), some (.int z)] [] (cW s (rW r tl), b0, b1, op) := by
            rintro y z rfl rfl
            exact ih (n + 1) (q + 1) b _ (by omega) (by omega) hb hbt e
          exact key _ _ (nI_succ q).symm (nI_succ n).symm
        · rw [if_neg (by rw [hd]; decide)] at e
          refine And.intro (fun _ => ?_) (fun g => absurd rfl g)
          exact fin v _ _ b hb hbt e _
  refine hJ _ _ _ _ ?_
  refine And.intro (vp_in_nI (show a < 96 by omega) (by decide)) ?_
  rw [eka, ea]
  refine And.intro (fun (g : ¬ nI (tx a) = 45) => ?_) (fun (g : nI (tx a) = 45) => ?_)
  · have hne : ¬ tx a = 45 := fun e => g (by rw [e]; rfl)
    have e1 : pA1 tx a = a := if_neg hne
    refine And.intro (fun _ => ?_) (fun g => absurd rfl g)
    exact loop 4 0 a 0 0 (by omega) (by omega) (by omega) ⟨fun w => by omega, fun w => absurd w hne⟩ (by rw [e1])
  · have he : tx a = 45 := nIj (j := 45) (by omega) (by decide) g
    have e1 : pA1 tx a = a + 1 := if_pos he
    refine And.intro (fun (g : (1 : Int32) = 0) => absurd g (by decide)) (fun _ => ?_)
    have key : ∀ y : Int32, y = nI (a + 1) → J 22 [some (.ref 27), some (.int (nI a)), some (.int (nI 1)), some (.int y), some (.int 0), some (.int (nI 0))] [] (cW s (rW r tl), b0, b1, op) := by
      rintro y rfl
      exact loop 4 0 (a + 1) 1 0 (by omega) (by omega) (by omega) ⟨fun _ => he, fun _ => rfl⟩ (by rw [e1])
    exact key _ (nI_succ a).symm
end RD1
end
section
abbrev TL : Type := List (Int32 × Int32)
def cns (t : Int32 × Int32) : (TL × Nat) ⊕ Nat → (TL × Nat) ⊕ Nat
  | .inl (D, a) => .inl (t :: D, a)
  | .inr a => .inr a
def gD (tx : Nat → Nat) : Nat → Bool → Nat → Nat → Nat → (TL × Nat) ⊕ Nat
  | 0, _, _, _, a => .inr a
  | f + 1, false, o, d, a => if tx a = 40 then (if d + o < 9 then cns (4, 0) (gD tx f (decide (tx (a + 1) = 41)) (o + 1) d (a + 1)) else .inr a)
      else if cL (tx a) then cns (2, nI (tx a)) (gD tx f true o d (a + 1))
      else if cD (tx (pA1 tx a)) then cns (1, pVal tx a) (gD tx f true o d (pDg tx 4 (pA1 tx a) 0).1) else .inr (pA1 tx a)
  | _ + 1, true, 0, _, a => .inl ([], a)
  | f + 1, true, o + 1, d, a => if tx a = 41 then cns (5, 0) (gD tx f true o d (a + 1)) else if tx a = 32 then gD tx f false (o + 1) d (a + 1) else .inr a
theorem nI_dec (n : Nat) : nI (n + 1) + Int32.ofInt (-1) = nI n := by
  rw [nI_succ, Int32.add_assoc, show (1 : Int32) + Int32.ofInt (-1) = 0 by decide, Int32.add_zero]
theorem cns_l {t : Int32 × Int32} {x : (TL × Nat) ⊕ Nat} {D : TL} {a : Nat} (h : x = .inl (D, a)) : cns t x = .inl (t :: D, a) := by rw [h]; rfl
theorem cns_r {t : Int32 × Int32} {x : (TL × Nat) ⊕ Nat} {a : Nat} (h : x = .inr a) : cns t x = .inr a := by rw [h]; rfl
theorem pA1_len {X : Nat → Int32} {len : Nat} {tx : Nat → Nat} (hx : txOK X len tx) {a : Nat} (h : a ≤ len) : a ≤ pA1 tx a ∧ pA1 tx a ≤ len ∧ pA1 tx a ≤ a + 1 := by
  unfold pA1
  split
  · next e =>
    have := hx.lt (a := a) (by omega)
    omega
  · omega
theorem num_len {X : Nat → Int32} {len : Nat} {tx : Nat → Nat} (hx : txOK X len tx) {a : Nat} (h : a ≤ len) (hd : cD (tx (pA1 tx a)) = true) : a < (pDg tx 4 (pA1 tx a) 0).1 ∧ (pDg tx 4 (pA1 tx a) 0).1 ≤ len ∧ a < len := by
  obtain ⟨h1, h2, h3⟩ := pA1_len hx h
  have hl := pDg_len hx 4 (pA1 tx a) 0 h2
  have e : (pDg tx 4 (pA1 tx a) 0) = pDg tx 3 (pA1 tx a + 1) (Int32.ofInt 10 * 0 + nI (tx (pA1 tx a)) - Int32.ofInt 48) := by
    show (if cD (tx (pA1 tx a)) then _ else _) = _
    rw [if_pos hd]
  have hp := pDg_le tx 3 (pA1 tx a + 1) (Int32.ofInt 10 * 0 + nI (tx (pA1 tx a)) - Int32.ofInt 48)
  rw [← e] at hp
  omega
section RDD
variable {cst : Nat → Option (Nat × (Nat → Int32))} {m b0 b1 : Nat} {op : Bool} {tl : List mj_O} {Q : mj_R → Prop} {s : cS} {r : rM} {d len : Nat} {tx : Nat → Nat}
set_option maxRecDepth 10000
theorem R_datLoop (hx : txOK r.text len tx) (ht : r.typed = nI len) {J : Nat → mj_L → List Value → mj_H → Prop} (hJ : ∀ pc ls st h, mj_sg (mj_Mt gT cst gnw (m + 3)) cst gnw (mj_hd (mj_off kO_R_datum) kH_R_datum) kC_R_datum J Q 400 true pc ls st h → J pc ls st h) :
    ∀ (f : Nat) (b : Bool) (o k a : Nat), a ≤ len → k ≤ a → d + o ≤ 9 → len - a < f → (∀ D a', gD tx f b o d a = .inl (D, a') → Q (.inl (some (.int 1)), (cW s (rW (pdR r a' d) tl), b0, b1, op))) → (∀ a' d', gD tx f b o d a = .inr a' → Q (.inl (some (.int 0)), (cW s (rW (pdR r a' d') tl), b0, b1, op))) →
      (b = false → ∀ x3, J 4 [some (.ref 27), some (.int (nI o)), some (.int (nI k)), x3] [] (cW s (rW (pdR r a (d + o)) tl), b0, b1, op)) ∧ (b = true → J 51 [some (.ref 27), some (.int (nI o)), some (.int (nI k)), some (.int 1)] [] (cW s (rW (pdR r a (d + o)) tl), b0, b1, op)) := by
  have h96 := hx.1
  have j0 : ∀ (o k a dd : Nat), (∀ x3, J 4 [some (.ref 27), some (.int (nI o)), some (.int (nI (k + 1))), x3] [] (cW s (rW (pdR r a dd) tl), b0, b1, op)) → J 51 [some (.ref 27), some (.int (nI o)), some (.int (nI k)), some (.int 0)] [] (cW s (rW (pdR r a dd) tl), b0, b1, op) := by
    intro o k a dd h
    refine hJ _ _ _ _ ?_
    refine And.intro (fun _ => ?_) (fun g => absurd rfl g)
    have key : ∀ y : Int32, y = nI (k + 1) → J 4 [some (.ref 27), some (.int (nI o)), some (.int y), some (.int 0)] [] (cW s (rW (pdR r a dd) tl), b0, b1, op) := by
      rintro y rfl
      exact h _
    exact key _ (nI_succ k).symm
  intro f
  induction f with
  | zero => intro b o k a _ _ _ hf; omega
  | succ f ih =>
    intro b o k a ha hk hd hf hQ1 hQ0
    refine ⟨fun eb x3 => ?_, fun eb => ?_⟩
    · subst eb
      have e0 : gD tx (f + 1) false o d a = if tx a = 40 then (if d + o < 9 then cns (4, 0) (gD tx f (decide (tx (a + 1) = 41)) (o + 1) d (a + 1)) else .inr a) else if cL (tx a) then cns (2, nI (tx a)) (gD tx f true o d (a + 1)) else if cD (tx (pA1 tx a)) then cns (1, pVal tx a) (gD tx f true o d (pDg tx 4 (pA1 tx a) 0).1) else .inr (pA1 tx a) := rfl
      rw [e0] at hQ1 hQ0
      have hca := hx.le a
      refine hJ _ _ _ _ ?_
      refine And.intro (fun (g : (100 : Int32) ≤ nI k) => absurd g (nI_ge (b := 100) (by omega) (by decide))) (fun _ => ?_)
      refine R_here0 hx ht (by omega) ?_
      refine And.intro (fun (g : ¬ nI (tx a) = 40) => ?_) (fun (g : nI (tx a) = 40) => ?_)
      · have n40 : ¬ tx a = 40 := fun e => g (by rw [e]; rfl)
        rw [if_neg n40] at hQ1 hQ0
        refine R_here0 hx ht (by omega) ?_
        refine R_isLetter (by omega) (fun hl => ?_) (fun hl => ?_)
        · rw [if_pos hl] at hQ1 hQ0
          refine And.intro (fun (g : (1 : Int32) = 0) => absurd g (by decide)) (fun _ => ?_)
          have hlt := hx.lt (a := a) (fun q => by rw [q] at hl; exact absurd hl (by decide))
          have key : ∀ y : Int32, y = nI (a + 1) → J 51 [some (.ref 27), some (.int (nI o)), some (.int (nI k)), some (.int 1)] [] (cW s (rW ((pdR r a (d + o)).s_p y) tl), b0, b1, op) := by
            rintro y rfl
            exact (ih true o k (a + 1) (by omega) (by omega) hd (by omega) (fun D a' e => hQ1 _ a' (cns_l e)) (fun a' d' e => hQ0 a' d' (cns_r e))).2 rfl
          exact key _ (nI_succ a).symm
        · rw [if_neg (by rw [hl]; decide)] at hQ1 hQ0
          refine And.intro (fun _ => ?_) (fun g => absurd rfl g)
          refine R_number hx ht (by omega) (fun hn => ?_) (fun hn => ?_)
          · rw [if_pos hn] at hQ1 hQ0
            obtain ⟨w1, w2, w3⟩ := num_len hx ha hn
            refine And.intro (fun _ => ?_) (fun (g : (1 : Int32) = 0) => absurd g (by decide))
            exact (ih true o k _ w2 (by omega) hd (by omega) (fun D a' e => hQ1 _ a' (cns_l e)) (fun a' d' e => hQ0 a' d' (cns_r e))).2 rfl
          · rw [if_neg (by rw [hn]; decide)] at hQ1 hQ0
            refine And.intro (fun g => absurd rfl g) (fun _ => ?_)
            exact And.intro (Or.inl rfl) (hQ0 _ _ rfl)
      · have e40 : tx a = 40 := nIj (j := 40) (by omega) (by decide) g
        rw [if_pos e40] at hQ1 hQ0
        have hlt := hx.lt (a := a) (by omega)
        refine R_opens hx ht (by omega) hd (fun _ h9 => ?_) (fun h9 => ?_)
        · rw [if_pos h9] at hQ1 hQ0
          refine And.intro (fun _ => ?_) (fun (g : (1 : Int32) = 0) => absurd g (by decide))
          refine R_here0 hx ht (by omega) ?_
          have hc1 := hx.le (a + 1)
          have go : ∀ (b : Bool), decide (tx (a + 1) = 41) = b → ∀ y : Int32, y = nI (o + 1) → (b = false → ∀ x3, J 4 [some (.ref 27), some (.int y), some (.int (nI (k + 1))), x3] [] (cW s (rW (pdR r (a + 1) (d + o + 1)) tl), b0, b1, op)) ∧ (b = true → J 51 [some (.ref 27), some (.int y), some (.int (nI (k + 1))), some (.int 1)] [] (cW s (rW (pdR r (a + 1) (d + o + 1)) tl), b0, b1, op)) := by
            rintro b eb y rfl
            rw [eb] at hQ1 hQ0
            exact ih b (o + 1) (k + 1) (a + 1) (by omega) (by omega) (by omega) (by omega) (fun D a' e => hQ1 _ a' (cns_l e)) (fun a' d' e => hQ0 a' d' (cns_r e))
          have go2 : ∀ y : Int32, y = nI (o + 1) → tx (a + 1) = 41 → J 51 [some (.ref 27), some (.int y), some (.int (nI k)), some (.int 1)] [] (cW s (rW (pdR r (a + 1) (d + o + 1)) tl), b0, b1, op) := by
            rintro y rfl e41
            have eb : decide (tx (a + 1) = 41) = true := decide_eq_true e41
            rw [eb] at hQ1 hQ0
            exact (ih true (o + 1) k (a + 1) (by omega) (by omega) (by omega) (by omega) (fun D a' e => hQ1 _ a' (cns_l e)) (fun a' d' e => hQ0 a' d' (cns_r e))).2 rfl
          refine And.intro (fun (g2 : ¬ nI (tx (a + 1)) = 41) => ?_) (fun (g2 : nI (tx (a + 1)) = 41) => ?_)
          · have n41 : ¬ tx (a + 1) = 41 := fun e => g2 (by rw [e]; rfl)
            have key : ∀ y : Int32, y = nI (o + 1) → J 51 [some (.ref 27), some (.int y), some (.int (nI k)), some (.int 0)] [] (cW s (rW (pdR r (a + 1) (d + o + 1)) tl), b0, b1, op) := by
              rintro y rfl
              exact j0 _ _ _ _ ((go false (decide_eq_false n41) _ rfl).1 rfl)
            exact key _ (nI_succ o).symm
          · have e41 : tx (a + 1) = 41 := nIj (j := 41) (by omega) (by decide) g2
            exact go2 _ (nI_succ o).symm e41
        · have h9' : ¬ d + o < 9 := fun w => h9 ⟨e40, w⟩
          rw [if_neg h9'] at hQ1 hQ0
          refine And.intro (fun g => absurd rfl g) (fun _ => ?_)
          exact And.intro (Or.inl rfl) (hQ0 _ _ rfl)
    · subst eb
      cases o with
      | zero =>
        refine hJ _ _ _ _ ?_
        refine And.intro (fun (g : (1 : Int32) = 0) => absurd g (by decide)) (fun _ => ?_)
        refine And.intro (fun (g : ¬ nI 0 = 0) => absurd rfl g) (fun _ => ?_)
        exact And.intro (Or.inr rfl) (hQ1 [] a rfl)
      | succ o =>
        have e0 : gD tx (f + 1) true (o + 1) d a = if tx a = 41 then cns (5, 0) (gD tx f true o d (a + 1)) else if tx a = 32 then gD tx f false (o + 1) d (a + 1) else .inr a := rfl
        rw [e0] at hQ1 hQ0
        have hca := hx.le a
        refine hJ _ _ _ _ ?_
        refine And.intro (fun (g : (1 : Int32) = 0) => absurd g (by decide)) (fun _ => ?_)
        refine And.intro (fun _ => ?_) (fun (g : nI (o + 1) = 0) => absurd (nIj (j := 0) (by omega) (by decide) g) (by omega))
        refine R_here0 hx ht (by omega) ?_
        refine And.intro (fun (g : ¬ nI (tx a) = 41) => ?_) (fun (g : nI (tx a) = 41) => ?_)
        · have n41 : ¬ tx a = 41 := fun e => g (by rw [e]; rfl)
          rw [if_neg n41] at hQ1 hQ0
          refine R_takes (c := 32) hx ht (by omega) (by decide) (fun e => ?_) (fun e => ?_)
          · rw [if_pos e] at hQ1 hQ0
            have hlt := hx.lt (a := a) (by omega)
            refine And.intro (fun _ => ?_) (fun (g : (1 : Int32) = 0) => absurd g (by decide))
            exact j0 _ _ _ _ ((ih false (o + 1) (k + 1) (a + 1) (by omega) (by omega) hd (by omega) hQ1 hQ0).1 rfl)
          · rw [if_neg e] at hQ1 hQ0
            refine And.intro (fun g => absurd rfl g) (fun _ => ?_)
            exact And.intro (Or.inl rfl) (hQ0 _ _ rfl)
        · have e41 : tx a = 41 := nIj (j := 41) (by omega) (by decide) g
          rw [if_pos e41] at hQ1 hQ0
          have hlt := hx.lt (a := a) (by omega)
          have key : ∀ x y z : Int32, x = nI (a + 1) → y = nI (d + o) → z = nI o → J 51 [some (.ref 27), some (.int z), some (.int (nI k)), some (.int 1)] [] (cW s (rW ((r.s_p x).s_depth y) tl), b0, b1, op) := by
            rintro x y z rfl rfl rfl
            exact (ih true o k (a + 1) (by omega) (by omega) (by omega) (by omega) (fun D a' e => hQ1 _ a' (cns_l e)) (fun a' d' e => hQ0 a' d' (cns_r e))).2 rfl
          exact key _ _ _ (nI_succ a).symm (nI_pred (d + o)) (nI_dec o)
theorem R_datum {a : Nat} (hx : txOK r.text len tx) (ht : r.typed = nI len) (ha : a ≤ len) (hd : d ≤ 9) (h1 : ∀ D a', gD tx 200 false 0 d a = .inl (D, a') → Q (.inl (some (.int 1)), (cW s (rW (pdR r a' d) tl), b0, b1, op))) (h0 : ∀ a' d', gD tx 200 false 0 d a = .inr a' → Q (.inl (some (.int 0)), (cW s (rW (pdR r a' d') tl), b0, b1, op))) : mj_Mt gT cst gnw (m + 4) y_R_datum [.ref 27] (cW s (rW (pdR r a d) tl), b0, b1, op) Q := by
  intro J hJ
  have h96 := hx.1
  refine hJ _ _ _ _ ?_
  exact (R_datLoop hx ht hJ 200 false 0 0 a ha (Nat.zero_le _) (by omega) (by omega) h1 h0).1 rfl _
end RDD
end
section
abbrev Fr : Type := List (List Nat)
abbrev Tau : Type := Fr → TL
abbrev Kd : Type := Tau × Int32
abbrev GR : Type := (Tau × Nat) ⊕ Nat
def plc (x : Nat) : List Nat → Nat → Option Nat
  | [], _ => none
  | y :: l, i => if y = x then some i else plc x l (i + 1)
def lkF (x : Nat) : Fr → Nat → Int32
  | [], _ => -1
  | l :: φ, j => match plc x l 0 with
    | some i => nI (16 * j + i)
    | none => lkF x φ (j + 1)
def ar (c : Nat) : Nat := if c = 43 ∨ c = 45 ∨ c = 42 ∨ c = 61 ∨ c = 60 ∨ c = 46 then 2 else if c = 94 ∨ c = 95 ∨ c = 33 then 1 else if c = 63 then 3 else 0
def cdO (c : Nat) : Int32 := if c = 94 then 10 else if c = 95 then 11 else if c = 33 then 12 else if c = 46 then 13 else if c = 61 then 14 else if c = 43 then 15 else if c = 45 then 16 else if c = 42 then 17 else 18
def rowT : List Kd → Fr → TL
  | [], _ => [(1, 1), (0, 0)]
  | k :: ks, φ => rowT ks φ ++ (k.1 φ ++ [(1, 13)])
def lstT (i : Int32) (t : Tau) (φ : Fr) : TL := (4, 0) :: (t φ ++ [(1, i), (5, 0)])
def sgT (c : Nat) (ks : List Kd) (φ : Fr) : TL := match ks with
  | [a] => a.1 φ ++ [(1, cdO c)]
  | [a, b] => if c = 46 then b.1 φ ++ (a.1 φ ++ [(1, 13)]) else a.1 φ ++ (b.1 φ ++ [(1, cdO c)])
  | [a, b, d] => a.1 φ ++ ((1, 8) :: (lstT 9 b.1 φ ++ lstT 9 d.1 φ))
  | _ => []
def caT (a : Kd) (ks : List Kd) (φ : Fr) : TL := rowT ks φ ++ (a.1 φ ++ [(1, 4)])
def boT (a : Kd) (ls : List Nat) (φ : Fr) : TL := (1, 3) :: lstT 5 a.1 (ls :: φ)
def leT (a : Kd) (ks : List Kd) (ls : List Nat) (φ : Fr) : TL := rowT ks φ ++ (boT a ls φ ++ [(1, 4)])
def reT (a : Kd) (ks : List Kd) (ls : List Nat) (φ : Fr) : TL := (1, 6) :: (rowT ks (ls :: φ) ++ (boT a ls φ ++ [(1, 7)]))
section GRD
variable (tx : Nat → Nat)
def gCl (t : Tau) (a : Nat) : GR := if tx a = 41 then .inl (t, a + 1) else .inr a
def gAr (pe : Nat → GR) (c : Nat) : Nat → Nat → List Kd → GR
  | 0, a, ks => gCl tx (sgT c ks) a
  | k + 1, a, ks => if tx a = 32 then (match pe (a + 1) with
      | .inr e => .inr e
      | .inl (t, a2) => gAr pe c k a2 (ks ++ [(t, 0)])) else .inr a
def gMo (pe : Nat → GR) (h : Kd) : Nat → Nat → List Kd → GR
  | 0, a, ks => gCl tx (caT h ks) a
  | k + 1, a, ks => if tx a = 32 then (match pe (a + 1) with
      | .inr e => .inr e
      | .inl (t, a2) => gMo pe h k a2 (ks ++ [(t, 0)])) else gCl tx (caT h ks) a
def gLs : Nat → Nat → List Nat → (List Nat × Nat) ⊕ Nat
  | 0, a, _ => .inr a
  | k + 1, a, ls => if cL (tx a) = true ∧ ¬ tx a ∈ ls then
      (if tx (a + 1) = 32 ∧ ¬ k = 0 then gLs k (a + 1 + 1) (ls ++ [tx a]) else
        (if tx (a + 1) = 41 then (if tx (a + 1 + 1) = 32 then .inl (ls ++ [tx a], a + 1 + 1 + 1) else .inr (a + 1 + 1)) else .inr (a + 1)))
    else .inr a
def gPa (d a : Nat) : (List Nat × Nat) ⊕ Nat := if tx a = 32 then
    (if tx (a + 1) = 40 ∧ d < 9 then
      (if cL (tx (a + 1 + 1)) then gLs tx 3 (a + 1 + 1) [] else (if tx (a + 1 + 1) = 41 then (if tx (a + 1 + 1 + 1) = 32 then .inl ([], a + 1 + 1 + 1 + 1) else .inr (a + 1 + 1 + 1)) else .inr (a + 1 + 1)))
    else .inr (a + 1))
  else .inr a
def gB1 (pe : Nat → GR) (rc : Bool) (d a : Nat) (bs : List Nat) (ct : Tau → Nat → GR) : GR := if tx a = 40 ∧ d < 9 then
      (if cL (tx (a + 1)) = true ∧ ¬ tx (a + 1) ∈ bs then
        (if tx (a + 1 + 1) = 32 then
          (if rc = true ∧ ¬ (tx (a + 1 + 1 + 1) = 40 ∧ d + 1 < 9) then .inr (a + 1 + 1 + 1)
          else if rc = true ∧ ¬ tx (a + 1 + 1 + 1 + 1) = 92 then .inr (a + 1 + 1 + 1 + 1)
          else match pe (a + 1 + 1 + 1) with
            | .inr e => .inr e
            | .inl (t, a3) => if tx a3 = 41 then ct t (a3 + 1) else .inr a3)
        else .inr (a + 1 + 1))
      else .inr (a + 1))
    else .inr a
def gBi (pe : Nat → GR) (rc : Bool) (d : Nat) (fin : List Kd → List Nat → Tau) : Nat → Nat → List Kd → List Nat → GR
  | 0, a, ks, bs => gB1 tx pe rc d a bs (fun t a4 => gCl tx (fin (ks ++ [(t, nI (tx (a + 1)))]) (bs ++ [tx (a + 1)])) a4)
  | k + 1, a, ks, bs => gB1 tx pe rc d a bs (fun t a4 => if tx a4 = 32 then gBi pe rc d fin k (a4 + 1) (ks ++ [(t, nI (tx (a + 1)))]) (bs ++ [tx (a + 1)]) else gCl tx (fin (ks ++ [(t, nI (tx (a + 1)))]) (bs ++ [tx (a + 1)])) a4)
def gLe (pe pe2 : Nat → GR) (rc : Bool) (d a : Nat) : GR := if tx (a + 1) = 32 then
    (match pe (a + 1 + 1) with
    | .inr e => .inr e
    | .inl (t, a2) => if tx a2 = 32 then gBi tx pe2 rc d (fun ks ls => if rc = true then reT (t, 0) ks ls else leT (t, 0) ks ls) 2 (a2 + 1) [] [] else .inr a2)
  else .inr (a + 1)
def gBo (pe : Nat → GR) (d a : Nat) : GR := match gPa tx d (a + 1) with
  | .inr e => .inr e
  | .inl (ls, a2) => match pe a2 with
    | .inr e => .inr e
    | .inl (t, a3) => gCl tx (boT (t, 0) ls) a3
def gCa (pe : Nat → GR) (a : Nat) : GR := match pe a with
  | .inr e => .inr e
  | .inl (t, a2) => gMo tx pe (t, 0) 3 a2 []
def gSg (pe : Nat → GR) (a : Nat) : GR := if tx (a + 1) = 32 then
    (match pe (a + 1 + 1) with
    | .inr e => .inr e
    | .inl (t, a2) => gAr tx pe (tx a) (ar (tx a) - 1) a2 [(t, 0)])
  else .inr (a + 1)
def gBr (pe pe2 : Nat → GR) (d a : Nat) : GR :=
  if 0 < ar (tx a) ∧ ¬ (tx a = 45 ∧ cD (tx (a + 1)) = true) then gSg tx pe a
  else if tx a = 92 then gBo tx pe d a
  else if tx a = 58 ∨ tx a = 59 then gLe tx pe pe2 (decide (tx a = 59)) d a
  else gCa tx pe a
def gEx : Nat → Nat → Nat → GR
  | 0, _, a => .inr a
  | f + 1, d, a => if cL (tx a) then .inl (fun φ => [(1, 2), (6, lkF (tx a) φ 0)], a + 1)
    else if tx a = 39 then (match gD tx 200 false 0 d (a + 1) with
      | .inr e => .inr e
      | .inl (D, a2) => .inl (fun _ => (1, 1) :: D, a2))
    else if tx a = 40 then (if d < 9 then gBr tx (gEx f (d + 1)) (gEx f (d + 2)) (d + 1) (a + 1) else .inr a)
    else if cD (tx (pA1 tx a)) then .inl (fun _ => [(1, 1), (1, pVal tx a)], (pDg tx 4 (pA1 tx a) 0).1) else .inr (pA1 tx a)
end GRD
def cKL (P : Nat → Nat → Tau → Prop) (nx bo : Nat → Int32) : List Kd → Nat → Nat → Nat → Prop
  | [], _, _, _ => False
  | k :: [], i, l, m => i = l ∧ P i m k.1 ∧ bo i = k.2
  | k :: k2 :: ks, i, l, m => ∃ j, P i j k.1 ∧ bo i = k.2 ∧ nx i = nI j ∧ cKL P nx bo (k2 :: ks) j l m
def cT (r : rM) (n : Nat) (ks : List Kd) (t : Tau) : Prop :=
    (r.kind n = 3 ∧ ∃ c, c < 256 ∧ r.value n = nI c ∧ 0 < ar c ∧ ks.length = ar c ∧ t = sgT c ks)
  ∨ (r.kind n = 4 ∧ ∃ a args, ks = a :: args ∧ args.length ≤ 3 ∧ t = caT a args)
  ∨ (r.kind n = 5 ∧ ∃ a ls, ks = [a] ∧ ls.length ≤ 3 ∧ r.value n = nI ls.length ∧ (∀ i c, ls[i]? = some c → r.letters (3 * n + i) = nI c) ∧ (∀ c ∈ ls, c < 256) ∧ t = boT a ls)
  ∨ (r.kind n = 6 ∧ ∃ a args ls, ks = a :: args ∧ 1 ≤ args.length ∧ args.length ≤ 3 ∧ args.map (fun k => k.2) = ls.map nI ∧ (∀ c ∈ ls, c < 256) ∧ t = leT a args ls)
  ∨ (r.kind n = 7 ∧ ∃ a args ls, ks = a :: args ∧ 1 ≤ args.length ∧ args.length ≤ 3 ∧ args.map (fun k => k.2) = ls.map nI ∧ (∀ c ∈ ls, c < 256) ∧ t = reT a args ls)
def cR (tx : Nat → Nat) (r : rM) : Nat → Nat → Nat → Tau → Prop
  | 0, _, _, _ => False
  | f + 1, n, e, t =>
      (r.kind n = 0 ∧ e = n + 1 ∧ t = fun _ => [(1, 1), (1, r.value n)])
    ∨ (r.kind n = 1 ∧ e = n + 1 ∧ ∃ c a, c < 256 ∧ a ≤ 96 ∧ r.at_ n = nI a ∧ r.value n = nI c ∧ t = fun φ => [(1, 2), (6, lkF c φ 0)])
    ∨ (r.kind n = 2 ∧ e = n + 1 ∧ ∃ a a' d D, r.at_ n = nI a ∧ r.until_ n = nI a' ∧ gD tx 200 false 0 d (a + 1) = .inl (D, a') ∧ d ≤ 9 ∧ t = fun _ => (1, 1) :: D)
    ∨ (∃ ks l, cKL (fun i m t => cR tx r f i m t ∧ r.parent i = nI n) r.next r.bound ks (n + 1) l e ∧ r.next l = -1 ∧ r.first n = nI (n + 1) ∧ cT r n ks t)
def agR (r r' : rM) (n e : Nat) : Prop := (∀ i, n ≤ i → i < e → (r'.kind i = r.kind i ∧ r'.value i = r.value i ∧ r'.at_ i = r.at_ i ∧ r'.until_ i = r.until_ i ∧ r'.first i = r.first i)) ∧ (∀ i, 3 * n ≤ i → i < 3 * e → r'.letters i = r.letters i) ∧ (∀ i, n < i → i < e → r'.next i = r.next i ∧ r'.bound i = r.bound i ∧ r'.parent i = r.parent i)
theorem agR_sub {r r' : rM} {n e n2 e2 : Nat} (h : agR r r' n e) (h1 : n ≤ n2) (h2 : e2 ≤ e) : agR r r' n2 e2 := ⟨fun i a b => h.1 i (by omega) (by omega), fun i a b => h.2.1 i (by omega) (by omega), fun i a b => h.2.2 i (by omega) (by omega)⟩
theorem cKL_lt {P : Nat → Nat → Tau → Prop} {nx bo : Nat → Int32} (hP : ∀ i m t, P i m t → i < m) : ∀ (ks : List Kd) (i l m : Nat), cKL P nx bo ks i l m → i ≤ l ∧ l < m
  | [], _, _, _, h => absurd h id
  | k :: [], i, l, m, h => by
    obtain ⟨rfl, h2, -⟩ := h
    exact ⟨Nat.le_refl _, hP _ _ _ h2⟩
  | k :: k2 :: ks, i, l, m, h => by
    obtain ⟨j, h1, -, -, h4⟩ := h
    have := cKL_lt hP (k2 :: ks) j l m h4
    have := hP _ _ _ h1
    omega
theorem cR_lt {tx : Nat → Nat} {r : rM} : ∀ (f n e : Nat) (t : Tau), cR tx r f n e t → n < e
  | 0, _, _, _, h => absurd h id
  | f + 1, n, e, t, h => by
    rcases h with ⟨-, h, -⟩ | ⟨-, h, -⟩ | ⟨-, h, -⟩ | ⟨ks, l, h, -⟩
    · omega
    · omega
    · omega
    · have := cKL_lt (fun i m t w => cR_lt f i m t w.1) ks _ _ _ h
      omega
theorem cKL_ag {P P' : Nat → Nat → Tau → Prop} {nx bo nx' bo' : Nat → Int32} {e : Nat} (hlt : ∀ i m t, P i m t → i < m) : ∀ (ks : List Kd) (i l m : Nat), (∀ a b t, i ≤ a → b ≤ m → P a b t → P' a b t) → (∀ a, i ≤ a → a < l → nx' a = nx a) → (∀ a, i ≤ a → a ≤ l → bo' a = bo a) → cKL P nx bo ks i l m → cKL P' nx' bo' ks i l m
  | [], _, _, _, _, _, _, h => absurd h id
  | k :: [], i, l, m, hP, hn, hb, h => by
    obtain ⟨rfl, h2, h3⟩ := h
    exact ⟨rfl, hP _ _ _ (Nat.le_refl _) (Nat.le_refl _) h2, by rw [hb i (Nat.le_refl _) (Nat.le_refl _)]; exact h3⟩
  | k :: k2 :: ks, i, l, m, hP, hn, hb, h => by
    obtain ⟨j, h1, h2, h3, h4⟩ := h
    have c1 := hlt _ _ _ h1
    have c2 := cKL_lt hlt (k2 :: ks) j l m h4
    exact ⟨j, hP _ _ _ (Nat.le_refl _) (by omega) h1, by rw [hb i (Nat.le_refl _) (by omega)]; exact h2, by rw [hn i (Nat.le_refl _) (by omega)]; exact h3, cKL_ag (e := e) hlt (k2 :: ks) j l m (fun a b t q => hP a b t (by omega)) (fun a q => hn a (by omega)) (fun a q => hb a (by omega)) h4⟩
theorem cT_ag {r r' : rM} {n : Nat} {ks : List Kd} {t : Tau} (hk : r'.kind n = r.kind n) (hv : r'.value n = r.value n) (hl : ∀ i, 3 * n ≤ i → i < 3 * n + 3 → r'.letters i = r.letters i) (h : cT r n ks t) : cT r' n ks t := by
  unfold cT at h ⊢
  rw [hk, hv]
  rcases h with h | h | ⟨h1, a, ls, h2, h3, h4, h5, h6⟩ | h | h
  · exact Or.inl h
  · exact Or.inr (Or.inl h)
  · refine Or.inr (Or.inr (Or.inl ⟨h1, a, ls, h2, h3, h4, fun i c hi => ?_, h6⟩))
    have : i < ls.length := by
      rcases Nat.lt_or_ge i ls.length with w | w
      · exact w
      · rw [List.getElem?_eq_none w] at hi
        cases hi
    rw [hl (3 * n + i) (by omega) (by omega)]
    exact h5 i c hi
  · exact Or.inr (Or.inr (Or.inr (Or.inl h)))
  · exact Or.inr (Or.inr (Or.inr (Or.inr h)))
theorem cR_ag {tx : Nat → Nat} {r r' : rM} : ∀ (f n e : Nat) (t : Tau), agR r r' n e → cR tx r f n e t → cR tx r' f n e t
  | 0, _, _, _, _, h => absurd h id
  | f + 1, n, e, t, hA, h => by
    have hlt := cR_lt (f + 1) n e t h
    obtain ⟨k1, k2, k3, k4, k5⟩ := hA.1 n (Nat.le_refl _) hlt
    rcases h with ⟨h1, h2, h3⟩ | ⟨h1, h2, h3⟩ | ⟨h1, h2, h3⟩ | ⟨ks, l, h1, h2, h3, h4⟩
    · refine Or.inl ⟨k1.trans h1, h2, ?_⟩
      rw [k2]
      exact h3
    · refine Or.inr (Or.inl ⟨k1.trans h1, h2, ?_⟩)
      rw [k2, k3]
      exact h3
    · refine Or.inr (Or.inr (Or.inl ⟨k1.trans h1, h2, ?_⟩))
      rw [k3, k4]
      exact h3
    · have hl := cKL_lt (fun i m t w => cR_lt (tx := tx) (r := r) f i m t w.1) ks _ _ _ h1
      refine Or.inr (Or.inr (Or.inr ⟨ks, l, ?_, ?_, k5.trans h3, ?_⟩))
      · exact cKL_ag (e := e) (fun i m t w => cR_lt (tx := tx) (r := r) f i m t w.1) ks _ _ _ (fun a b t q1 q2 q3 => ⟨cR_ag f a b t (agR_sub hA (by omega) q2) q3.1, (hA.2.2 a (by omega) (by have := cR_lt f a b t q3.1; omega)).2.2.trans q3.2⟩) (fun a q1 q2 => (hA.2.2 a (by omega) (by omega)).1) (fun a q1 q2 => (hA.2.2 a (by omega) (by omega)).2.1) h1
      · rw [(hA.2.2 l (by omega) (by omega)).1]
        exact h2
      · exact cT_ag k1 k2 (fun i q1 q2 => hA.2.1 i q1 (by omega)) h4
theorem cKL_app {P : Nat → Nat → Tau → Prop} {nx bo : Nat → Int32} {k' : Kd} {m' : Nat} : ∀ (ks : List Kd) (i l m : Nat), cKL P nx bo ks i l m → nx l = nI m → P m m' k'.1 → bo m = k'.2 → cKL P nx bo (ks ++ [k']) i m m'
  | [], _, _, _, h, _, _, _ => absurd h id
  | k :: [], i, l, m, h, h1, h2, h3 => by
    obtain ⟨rfl, h5, h6⟩ := h
    exact ⟨m, h5, h6, h1, rfl, h2, h3⟩
  | k :: k2 :: ks, i, l, m, h, h1, h2, h3 => by
    obtain ⟨j, h5, h6, h7, h8⟩ := h
    exact ⟨j, h5, h6, h7, cKL_app (k2 :: ks) j l m h8 h1 h2 h3⟩
end
