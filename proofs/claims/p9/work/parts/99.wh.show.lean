abbrev sP : Type := Nat × (Nat → Int32)
def sy (c : Int32) (p : sP) : sP := if p.1 < 120 then (p.1 + 1, upd p.2 p.1 (vp_nar .char (c.toUInt32 % 65536).toInt32)) else p
theorem sy_le {c : Int32} {p : sP} (h : p.1 ≤ 120) : (sy c p).1 ≤ 120 ∧ p.1 ≤ (sy c p).1 ∧ (p.1 < 120 → (sy c p).1 = p.1 + 1) := by
  unfold sy
  split
  · next h1 => exact ⟨h1, Nat.le_succ _, fun _ => rfl⟩
  · next h1 => exact ⟨h, Nat.le_refl _, fun h2 => absurd h2 h1⟩
def jE (l : Nat) : Nat → Nat → Nat
  | 0, j => j
  | f + 1, j => if 9 < l / 10 ^ j then jE l f (j + 1) else j
def dG (l : Nat) : Nat → sP → sP
  | 0, p => sy (nI (48 + l / 10 ^ 0 % 10)) p
  | j + 1, p => dG l j (sy (nI (48 + l / 10 ^ (j + 1) % 10)) p)
theorem dG_le {l : Nat} : ∀ (j : Nat) (p : sP), p.1 ≤ 120 → (dG l j p).1 ≤ 120 ∧ p.1 ≤ (dG l j p).1 ∧ (p.1 < 120 → p.1 < (dG l j p).1)
  | 0, p, h => by
    obtain ⟨h1, h2, h3⟩ := sy_le (c := nI (48 + l / 10 ^ 0 % 10)) h
    refine ⟨h1, h2, fun q => ?_⟩
    have := h3 q
    show p.1 < (sy (nI (48 + l / 10 ^ 0 % 10)) p).1
    omega
  | j + 1, p, h => by
    obtain ⟨h1, h2, h3⟩ := sy_le (c := nI (48 + l / 10 ^ (j + 1) % 10)) h
    obtain ⟨k1, k2, k3⟩ := dG_le (l := l) j (sy (nI (48 + l / 10 ^ (j + 1) % 10)) p) h1
    refine ⟨k1, Nat.le_trans h2 k2, fun q => ?_⟩
    have := h3 q
    show p.1 < (dG l j (sy (nI (48 + l / 10 ^ (j + 1) % 10)) p)).1
    omega
def syN (v : Int32) (p : sP) : sP := dG v.toInt.natAbs (jE v.toInt.natAbs 9 0) (if v < 0 then sy 45 p else p)
theorem syN_le {v : Int32} {p : sP} (h : p.1 ≤ 120) : (syN v p).1 ≤ 120 ∧ p.1 ≤ (syN v p).1 ∧ (p.1 < 120 → p.1 < (syN v p).1) := by
  unfold syN
  split
  · obtain ⟨h1, h2, h3⟩ := sy_le (c := 45) h
    obtain ⟨k1, k2, k3⟩ := dG_le (l := v.toInt.natAbs) (jE v.toInt.natAbs 9 0) (sy 45 p) h1
    refine ⟨k1, Nat.le_trans h2 k2, fun q => ?_⟩
    have := h3 q
    omega
  · exact dG_le _ p h
def phR (r : rM) (p : sP) (n : Nat) (pl : Nat → Int32) : rM := ((((r.s_shown (nI p.1)).s_show_ p.2).s_piled (nI n)).s_pile pl)
def atS (kd x : Int32) (p : sP) : sP := if kd = 1 then syN x p else if kd = 2 then sy x p else if kd = 0 then sy 41 (sy 40 p) else sy 35 p
theorem atS_le {kd x : Int32} {p : sP} (h : p.1 ≤ 120) : (atS kd x p).1 ≤ 120 ∧ p.1 ≤ (atS kd x p).1 ∧ (p.1 < 120 → p.1 < (atS kd x p).1) := by
  unfold atS
  split
  · exact syN_le h
  · split
    · obtain ⟨h1, h2, h3⟩ := sy_le (c := x) h
      exact ⟨h1, h2, fun q => by have := h3 q; omega⟩
    · split
      · obtain ⟨h1, h2, h3⟩ := sy_le (c := 40) h
        obtain ⟨k1, k2, k3⟩ := sy_le (c := 41) h1
        exact ⟨k1, Nat.le_trans h2 k2, fun q => by have := h3 q; omega⟩
      · obtain ⟨h1, h2, h3⟩ := sy_le (c := 35) h
        exact ⟨h1, h2, fun q => by have := h3 q; omega⟩
theorem abs_i64 (v : Int32) (h : v < 0) : -v.toInt64 = lN v.toInt.natAbs ∧ v.toInt.natAbs ≤ 2 ^ 31 := by
  have h0 : v.toInt < 0 := by
    have := Int32.lt_iff_toInt_lt.mp h
    rwa [show (0 : Int32).toInt = 0 by decide] at this
  have h1 := Int32.le_toInt v
  have h2 : v.toInt.natAbs ≤ 2 ^ 31 := by omega
  refine ⟨Int64.toInt_inj.mp ?_, h2⟩
  rw [pk_lT (by omega), Int64.toInt_neg, Int32.toInt_toInt64]
  rw [Int.bmod_eq_of_le (by omega) (by omega)]
  omega
theorem pos_i64 (v : Int32) (h : ¬ v < 0) : v.toInt64 = lN v.toInt.natAbs ∧ v.toInt.natAbs ≤ 2 ^ 31 := by
  obtain ⟨j, hj, rfl⟩ := nI_of h
  rw [nI_toInt hj]
  exact ⟨nI_l hj, by show j ≤ 2 ^ 31; omega⟩
section RH
variable {cst : Nat → Option (Nat × (Nat → Int32))} {m b0 b1 : Nat} {op : Bool} {tl : List mj_O} {Q : mj_R → Prop} {s : cS} {r : rM} {p : sP} {n : Nat} {pl : Nat → Int32}
set_option maxRecDepth 10000
theorem R_say {c : Int32} (hp : p.1 ≤ 120) (hQ : Q (.inl none, (cW s (rW (phR r (sy c p) n pl) tl), b0, b1, op))) : mj_Mt gT cst gnw (m + 1) y_R_say [.ref 27, .int c] (cW s (rW (phR r p n pl) tl), b0, b1, op) Q := by
  obtain ⟨q, f⟩ := p
  have hp : q ≤ 120 := hp
  have e0 : sy c (q, f) = if q < 120 then (q + 1, upd f q (vp_nar .char (c.toUInt32 % 65536).toInt32)) else (q, f) := rfl
  rw [e0] at hQ
  intro J hJ
  refine hJ _ _ _ _ ?_
  refine And.intro (fun (g : (120 : Int32) ≤ nI q) => ?_) (fun (g : ¬ (120 : Int32) ≤ nI q) => ?_)
  · have : ¬ q < 120 := fun w => nI_ge (b := 120) w (by decide) g
    rw [if_neg this] at hQ
    exact hQ
  · have hlt : q < 120 := Nat.lt_of_not_le (fun w => g (nI_le (a := 120) w (by omega)))
    rw [if_pos hlt] at hQ
    refine And.intro (vp_in_nI hlt (by decide)) ?_
    have key : ∀ (i : Nat) (y : Int32), i = q → y = nI (q + 1) → Q (.inl none, (cW s (rW (((phR r (q, f) n pl).s_shown y).s_show_ (upd f i (vp_nar .char (c.toUInt32 % 65536).toInt32))) tl), b0, b1, op)) := by
      rintro i y rfl rfl
      exact hQ
    exact key _ _ (nI_clamp (by omega)) (nI_succ q).symm
theorem pow_lt {j : Nat} (h : j ≤ 10) : 0 < 10 ^ j ∧ 10 ^ j ≤ 10000000000 := by
  refine ⟨Nat.pow_pos (by decide), ?_⟩
  have : 10 ^ j ≤ 10 ^ 10 := Nat.pow_le_pow_right (by decide) h
  exact this
theorem R_sayNumber {v : Int32} (hp : p.1 ≤ 120) (hQ : Q (.inl none, (cW s (rW (phR r (syN v p) n pl) tl), b0, b1, op))) : mj_Mt gT cst gnw (m + 2) y_R_sayNumber [.ref 27, .int v] (cW s (rW (phR r p n pl) tl), b0, b1, op) Q := by
  intro J hJ
  have loop2 : ∀ (j : Nat) (p' : sP), j ≤ 9 → p'.1 ≤ 120 → v.toInt.natAbs ≤ 2 ^ 31 → dG v.toInt.natAbs j p' = syN v p → J 27 [some (.ref 27), some (.int v), some (.long (lN v.toInt.natAbs)), none, some (.long (lN (10 ^ j))), none] [] (cW s (rW (phR r p' n pl) tl), b0, b1, op) := by
    intro j
    induction j with
    | zero =>
      intro p' hj hp' hl e
      refine hJ _ _ _ _ ?_
      refine And.intro (fun (g : lg_cmp (lN (10 ^ 0)) 0 ≤ 0) => absurd g (by decide)) (fun _ => ?_)
      refine And.intro (by decide) ?_
      refine And.intro (by decide) ?_
      refine R_say hp' ?_
      refine And.intro (by decide) ?_
      have key : ∀ (c : Int32) (t : Int64), c = nI (48 + v.toInt.natAbs / 10 ^ 0 % 10) → t = 0 → J 27 [some (.ref 27), some (.int v), some (.long (lN v.toInt.natAbs)), none, some (.long t), none] [] (cW s (rW (phR r (sy c p') n pl) tl), b0, b1, op) := by
        rintro c t rfl rfl
        have e : sy (nI (48 + v.toInt.natAbs / 10 ^ 0 % 10)) p' = syN v p := e
        rw [e]
        refine hJ _ _ _ _ ?_
        refine And.intro (fun _ => hQ) (fun (g : ¬ lg_cmp 0 0 ≤ 0) => absurd (by decide) g)
      refine key _ _ ?_ (by decide)
      have q1 := pk_lDiv (a := v.toInt.natAbs) (b := 10 ^ 0) (by omega) (by decide) (by decide)
      have q2 := pk_lRem (a := v.toInt.natAbs / 10 ^ 0) (b := 10) (Nat.lt_of_le_of_lt (Nat.div_le_self _ _) (by omega)) (by decide) (by decide)
      have e10 : Int64.ofNat 10 = lN 10 := rfl
      rw [q1, e10, q2, lN_i, show Int32.ofInt 48 = nI 48 by decide, nI_add]
    | succ j ih =>
      intro p' hj hp' hl e
      have ⟨t0, t1⟩ := pow_lt (j := j + 1) (by omega)
      refine hJ _ _ _ _ ?_
      refine And.intro (fun (g : lg_cmp (lN (10 ^ (j + 1))) 0 ≤ 0) => absurd g ?_) (fun _ => ?_)
      · unfold lg_cmp
        rw [if_pos (show lN (10 ^ (j + 1)) > 0 from (pk_lLT (a := 0) (by decide) (by omega)).mpr t0)]
        decide
      have hne : ¬ lN (10 ^ (j + 1)) = 0 := fun q => by
        have := (pk_lEQ (b := 0) (by omega) (by decide)).mp q
        omega
      refine And.intro hne ?_
      refine And.intro (by decide) ?_
      refine R_say hp' ?_
      refine And.intro (by decide) ?_
      have key : ∀ (c : Int32) (t : Int64), c = nI (48 + v.toInt.natAbs / 10 ^ (j + 1) % 10) → t = lN (10 ^ j) → J 27 [some (.ref 27), some (.int v), some (.long (lN v.toInt.natAbs)), none, some (.long t), none] [] (cW s (rW (phR r (sy c p') n pl) tl), b0, b1, op) := by
        rintro c t rfl rfl
        exact ih _ (by omega) (sy_le hp').1 hl e
      have e10 : Int64.ofNat 10 = lN 10 := rfl
      refine key _ _ ?_ ?_
      · have q1 := pk_lDiv (a := v.toInt.natAbs) (b := 10 ^ (j + 1)) (by omega) t0 (by omega)
        have q2 := pk_lRem (a := v.toInt.natAbs / 10 ^ (j + 1)) (b := 10) (Nat.lt_of_le_of_lt (Nat.div_le_self _ _) (by omega)) (by decide) (by decide)
        rw [q1, e10, q2, lN_i, show Int32.ofInt 48 = nI 48 by decide, nI_add]
      · have q1 := pk_lDiv (a := 10 ^ (j + 1)) (b := 10) (by omega) (by decide) (by decide)
        rw [e10, q1, Nat.pow_succ, Nat.mul_div_cancel _ (by decide)]
  have loop1 : ∀ (f j : Nat) (p' : sP), f + j = 9 → p'.1 ≤ 120 → v.toInt.natAbs ≤ 2 ^ 31 → dG v.toInt.natAbs (jE v.toInt.natAbs f j) p' = syN v p → J 16 [some (.ref 27), some (.int v), some (.long (lN v.toInt.natAbs)), none, some (.long (lN (10 ^ j))), none] [] (cW s (rW (phR r p' n pl) tl), b0, b1, op) := by
    intro f
    induction f with
    | zero =>
      intro j p' hj hp' hl e
      obtain rfl : j = 9 := by omega
      have e : dG v.toInt.natAbs 9 p' = syN v p := e
      refine hJ _ _ _ _ ?_
      refine And.intro (by decide) ?_
      have q1 := pk_lDiv (a := v.toInt.natAbs) (b := 10 ^ 9) (by omega) (by decide) (by decide)
      refine And.intro (fun _ => ?_) (fun (g : ¬ lg_cmp (lN v.toInt.natAbs / lN (10 ^ 9)) (Int64.ofNat 9) ≤ 0) => absurd ?_ g)
      · exact loop2 9 p' (by omega) hp' hl e
      · rw [q1]
        have hd : v.toInt.natAbs / 10 ^ 9 ≤ 2 := by
          have : v.toInt.natAbs / 10 ^ 9 ≤ 2 ^ 31 / 10 ^ 9 := Nat.div_le_div_right hl
          exact Nat.le_trans this (by decide)
        unfold lg_cmp
        rw [if_neg (show ¬ lN (v.toInt.natAbs / 10 ^ 9) > Int64.ofNat 9 from fun w => by
          have := (pk_lLT (a := 9) (by decide) (by omega)).mp w
          omega)]
        split <;> decide
    | succ f ih =>
      intro j p' hj hp' hl e
      have ⟨t0, t1⟩ := pow_lt (j := j) (by omega)
      have e9 : jE v.toInt.natAbs (f + 1) j = if 9 < v.toInt.natAbs / 10 ^ j then jE v.toInt.natAbs f (j + 1) else j := rfl
      rw [e9] at e
      have q1 := pk_lDiv (a := v.toInt.natAbs) (b := 10 ^ j) (by omega) t0 (by omega)
      have hlt : v.toInt.natAbs / 10 ^ j < 2 ^ 63 := Nat.lt_of_le_of_lt (Nat.div_le_self _ _) (by omega)
      have hne : ¬ lN (10 ^ j) = 0 := fun q => by
        have := (pk_lEQ (b := 0) (by omega) (by decide)).mp q
        omega
      refine hJ _ _ _ _ ?_
      refine And.intro hne ?_
      refine And.intro (fun (g : lg_cmp (lN v.toInt.natAbs / lN (10 ^ j)) (Int64.ofNat 9) ≤ 0) => ?_) (fun (g : ¬ lg_cmp (lN v.toInt.natAbs / lN (10 ^ j)) (Int64.ofNat 9) ≤ 0) => ?_)
      · rw [q1] at g
        have h9 : ¬ 9 < v.toInt.natAbs / 10 ^ j := by
          intro w
          have : lN (v.toInt.natAbs / 10 ^ j) > Int64.ofNat 9 := (pk_lLT (a := 9) (by decide) hlt).mpr w
          unfold lg_cmp at g
          rw [if_pos this] at g
          exact absurd g (by decide)
        rw [if_neg h9] at e
        exact loop2 j p' (by omega) hp' hl e
      · rw [q1] at g
        have h9 : 9 < v.toInt.natAbs / 10 ^ j := by
          refine Nat.lt_of_not_le (fun w => g ?_)
          unfold lg_cmp
          rw [if_neg (show ¬ lN (v.toInt.natAbs / 10 ^ j) > Int64.ofNat 9 from fun u => by
            have := (pk_lLT (a := 9) (by decide) hlt).mp u
            omega)]
          split <;> decide
        rw [if_pos h9] at e
        have key : ∀ t : Int64, t = lN (10 ^ (j + 1)) → J 16 [some (.ref 27), some (.int v), some (.long (lN v.toInt.natAbs)), none, some (.long t), none] [] (cW s (rW (phR r p' n pl) tl), b0, b1, op) := by
          rintro t rfl
          exact ih (j + 1) p' (by omega) hp' hl e
        refine key _ ?_
        show lN (10 ^ j) * lN 10 = _
        rw [lN_mul, Nat.pow_succ]
  refine hJ _ _ _ _ ?_
  by_cases hv : v < 0
  · obtain ⟨e1, e2⟩ := abs_i64 v hv
    have e3 : syN v p = dG v.toInt.natAbs (jE v.toInt.natAbs 9 0) (sy 45 p) := by
      unfold syN
      rw [if_pos hv]
    refine And.intro (fun (g : (0 : Int32) ≤ v) => absurd hv (Int32.not_lt.mpr g)) (fun _ => ?_)
    refine And.intro (fun (g : (0 : Int32) ≤ v) => absurd hv (Int32.not_lt.mpr g)) (fun _ => ?_)
    refine R_say hp ?_
    have key : ∀ x : Int64, x = lN v.toInt.natAbs → J 16 [some (.ref 27), some (.int v), some (.long x), none, some (.long (lN (10 ^ 0))), none] [] (cW s (rW (phR r (sy 45 p) n pl) tl), b0, b1, op) := by
      rintro x rfl
      exact loop1 9 0 _ (by omega) (sy_le hp).1 e2 e3.symm
    exact key _ e1
  · obtain ⟨e1, e2⟩ := pos_i64 v hv
    have e3 : syN v p = dG v.toInt.natAbs (jE v.toInt.natAbs 9 0) p := by
      unfold syN
      rw [if_neg hv]
    refine And.intro (fun _ => ?_) (fun (g : ¬ (0 : Int32) ≤ v) => absurd (Int32.not_lt.mp hv) g)
    refine And.intro (fun _ => ?_) (fun (g : ¬ (0 : Int32) ≤ v) => absurd (Int32.not_lt.mp hv) g)
    have key : ∀ x : Int64, x = lN v.toInt.natAbs → J 16 [some (.ref 27), some (.int v), some (.long x), none, some (.long (lN (10 ^ 0))), none] [] (cW s (rW (phR r p n pl) tl), b0, b1, op) := by
      rintro x rfl
      exact loop1 9 0 _ (by omega) hp e2 e3.symm
    exact key _ e1
theorem R_sayHead {kd x : Int32} (hp : p.1 ≤ 120) (hn : n < 260) (hx : kd = 3 → ∃ k, k < 250 ∧ x = nI k)
    (h1 : ∀ k, k < 250 → kd = 3 → x = nI k → r.function k = 0 → Q (.inl none, (cW s (rW (phR r (sy 40 p) (n + 1) (upd pl n x)) tl), b0, b1, op)))
    (h2 : (¬ kd = 3 ∨ ∃ k, k < 250 ∧ x = nI k ∧ ¬ r.function k = 0) → Q (.inl none, (cW s (rW (phR r (atS kd x p) n pl) tl), b0, b1, op))) : mj_Mt gT cst gnw (m + 3) y_R_sayHead [.ref 27, .int kd, .int x] (cW s (rW (phR r p n pl) tl), b0, b1, op) Q := by
  intro J hJ
  have atom : (¬ kd = 3 ∨ ∃ k, k < 250 ∧ x = nI k ∧ ¬ r.function k = 0) → ∀ F : Nat, mj_sg (mj_Mt gT cst gnw (m + 2)) cst gnw (mj_hd (mj_off kO_R_sayHead) kH_R_sayHead) kC_R_sayHead J Q (F + 60) false 24 [some (.ref 27), some (.int kd), some (.int x)] [] (cW s (rW (phR r p n pl) tl), b0, b1, op) := by
    intro hc F
    have h9 := h2 hc
    unfold atS at h9
    refine And.intro (fun (g : ¬ kd = 1) => ?_) (fun (g : kd = 1) => ?_)
    · rw [if_neg g] at h9
      refine And.intro (fun (g2 : ¬ kd = 2) => ?_) (fun (g2 : kd = 2) => ?_)
      · rw [if_neg g2] at h9
        refine And.intro (fun (g3 : ¬ kd = 0) => ?_) (fun (g3 : kd = 0) => ?_)
        · rw [if_neg g3] at h9
          refine R_say hp ?_
          exact h9
        · rw [if_pos g3] at h9
          refine R_say hp ?_
          refine R_say (sy_le hp).1 ?_
          exact h9
      · rw [if_pos g2] at h9
        refine R_say hp ?_
        exact h9
    · rw [if_pos g] at h9
      refine R_sayNumber hp ?_
      exact h9
  refine hJ _ _ _ _ ?_
  refine And.intro (fun (g : ¬ kd = 3) => atom (Or.inl g) _) (fun (g : kd = 3) => ?_)
  obtain ⟨k, hk, rfl⟩ := hx g
  have ek : (nI k).toNatClampNeg = k := nI_clamp (by omega)
  refine And.intro (vp_in_nI hk (by decide)) ?_
  rw [ek]
  refine And.intro (fun (g2 : ¬ r.function k = 0) => atom (Or.inr ⟨k, hk, rfl, g2⟩) _) (fun (g2 : r.function k = 0) => ?_)
  refine R_say hp ?_
  refine And.intro (vp_in_nI hn (by decide)) ?_
  have key : ∀ (i : Nat) (y : Int32), i = n → y = nI (n + 1) → Q (.inl none, (cW s (rW (((phR r (sy 40 p) n pl).s_piled y).s_pile (upd pl i (nI k))) tl), b0, b1, op)) := by
    rintro i y rfl rfl
    exact h1 k hk g rfl g2
  exact key _ _ (nI_clamp (by omega)) (nI_succ n).symm
end RH
