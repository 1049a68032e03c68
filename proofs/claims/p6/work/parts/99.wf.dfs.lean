def cu (mk : Nat → Bool) : Nat → Nat
  | 0 => 0
  | n + 1 => cu mk n + (if mk n = false then 1 else 0)
theorem cu_out (mk : Nat → Bool) (j : Nat) : ∀ n, n ≤ j → cu (upW mk j true) n = cu mk n
  | 0, _ => rfl
  | n + 1, h => by
    have e1 : cu (upW mk j true) (n + 1) = cu (upW mk j true) n + (if upW mk j true n = false then 1 else 0) := rfl
    have e2 : cu mk (n + 1) = cu mk n + (if mk n = false then 1 else 0) := rfl
    have e3 : upW mk j true n = mk n := if_neg (by omega)
    rw [e1, e2, e3, cu_out mk j n (by omega)]
theorem cu_upd (mk : Nat → Bool) (j : Nat) (hj : mk j = false) : ∀ n, j < n → cu (upW mk j true) n + 1 = cu mk n
  | 0, h => by omega
  | n + 1, h => by
    have e1 : cu (upW mk j true) (n + 1) = cu (upW mk j true) n + (if upW mk j true n = false then 1 else 0) := rfl
    have e2 : cu mk (n + 1) = cu mk n + (if mk n = false then 1 else 0) := rfl
    by_cases e : n = j
    · subst e
      have e3 : upW mk n true n = true := if_pos rfl
      rw [e1, e2, e3, cu_out mk n n (Nat.le_refl _), hj, if_pos rfl, if_neg (by decide)]
    · have e3 : upW mk j true n = mk n := if_neg e
      have := cu_upd mk j hj n (by omega)
      rw [e1, e2, e3]
      omega
theorem cu_le (mk : Nat → Bool) : ∀ n, cu mk n ≤ n
  | 0 => Nat.le_refl _
  | n + 1 => by
    have e2 : cu mk (n + 1) = cu mk n + (if mk n = false then 1 else 0) := rfl
    have := cu_le mk n
    rw [e2]
    split <;> omega
def dI_ (z : Nat) (g : gS) : Prop := g.2.2 + cu g.1 z ≤ z ∧ ∀ i, i < g.2.2 → g.2.1 i < z ∧ g.1 (g.2.1 i) = true
def dL_ (z : Nat) (N : Nat → Prop) (g g2 : gS) : Prop := 2 * cu g2.1 z + g2.2.2 ≤ 2 * cu g.1 z + g.2.2 ∧ (∀ a, g.1 a = true → g2.1 a = true) ∧ g.2.2 ≤ g2.2.2 ∧ (∀ i, i < g.2.2 → g2.2.1 i = g.2.1 i) ∧ (∀ a, g2.1 a = true → g.1 a = true ∨ (N a ∧ ∃ i, i < g2.2.2 ∧ g2.2.1 i = a))
theorem rmk_ok {z : Nat} {kd x : Int32} {g : gS} (hz : z ≤ 250) (hx : kd = 3 → ∃ j, j < z ∧ x = nI j) (h : dI_ z g) : dI_ z (rmk kd x g) ∧ dL_ z (fun a => kd = 3 ∧ x = nI a ∧ a < z) g (rmk kd x g) ∧ (kd = 3 → (rmk kd x g).1 x.toNatClampNeg = true) := by
  obtain ⟨mk, pl, n⟩ := g
  obtain ⟨h1, h2⟩ := h
  have h1 : n + cu mk z ≤ z := h1
  have h2 : ∀ i, i < n → pl i < z ∧ mk (pl i) = true := h2
  have e0 : rmk kd x (mk, pl, n) = if kd = 3 ∧ mk x.toNatClampNeg = false then (upW mk x.toNatClampNeg true, upW pl n x.toNatClampNeg, n + 1) else (mk, pl, n) := rfl
  rw [e0]
  by_cases hc : kd = 3 ∧ mk x.toNatClampNeg = false
  · rw [if_pos hc]
    obtain ⟨hk, hm⟩ := hc
    obtain ⟨j, hj, rfl⟩ := hx hk
    have ej : (nI j).toNatClampNeg = j := nI_clamp (by omega)
    rw [ej] at hm ⊢
    have hu := cu_upd mk j hm z hj
    have e1 : upW mk j true j = true := if_pos rfl
    have e2 : upW pl n j n = j := if_pos rfl
    have e3 : ∀ i, i < n → upW pl n j i = pl i := fun i hi => if_neg (by omega)
    have e4 : ∀ a, mk a = true → upW mk j true a = true := by
      intro a ha
      show (if a = j then true else mk a) = true
      split
      · rfl
      · exact ha
    refine ⟨⟨?_, ?_⟩, ⟨?_, e4, ?_, e3, ?_⟩, fun _ => e1⟩
    · show n + 1 + cu (upW mk j true) z ≤ z
      omega
    · intro i hi
      have hi : i < n + 1 := hi
      show upW pl n j i < z ∧ upW mk j true (upW pl n j i) = true
      by_cases e : i = n
      · subst e
        rw [e2]
        exact ⟨hj, e1⟩
      · rw [e3 i (by omega)]
        exact ⟨(h2 i (by omega)).1, e4 _ (h2 i (by omega)).2⟩
    · show 2 * cu (upW mk j true) z + (n + 1) ≤ 2 * cu mk z + n
      omega
    · show n ≤ n + 1
      omega
    · intro a ha
      by_cases e : a = j
      · subst e
        exact Or.inr ⟨⟨hk, rfl, hj⟩, n, by show n < n + 1; omega, e2⟩
      · refine Or.inl ?_
        have : upW mk j true a = mk a := if_neg e
        exact this.symm.trans ha
  · rw [if_neg hc]
    refine ⟨⟨h1, h2⟩, ⟨Nat.le_refl _, fun a ha => ha, Nat.le_refl _, fun i _ => rfl, fun a ha => Or.inl ha⟩, fun hk => ?_⟩
    show mk x.toNatClampNeg = true
    cases hm : mk x.toNatClampNeg with
    | true => rfl
    | false => exact absurd ⟨hk, hm⟩ hc
theorem dL_tr {z : Nat} {N1 N2 : Nat → Prop} {g g2 g3 : gS} (h1 : dL_ z N1 g g2) (h2 : dL_ z N2 g2 g3) : dL_ z (fun a => N1 a ∨ N2 a) g g3 := by
  obtain ⟨a1, a2, a3, a4, a5⟩ := h1
  obtain ⟨b1, b2, b3, b4, b5⟩ := h2
  refine ⟨Nat.le_trans b1 a1, fun a ha => b2 a (a2 a ha), Nat.le_trans a3 b3, fun i hi => (b4 i (by omega)).trans (a4 i hi), fun a ha => ?_⟩
  rcases b5 a ha with q | ⟨q1, i, q2, q3⟩
  · rcases a5 a q with q | ⟨q1, i, q2, q3⟩
    · exact Or.inl q
    · exact Or.inr ⟨Or.inl q1, i, by omega, (b4 i q2).trans q3⟩
  · exact Or.inr ⟨Or.inr q1, i, q2, q3⟩
section DF
variable {hk hd tk tv : Nat → Int32} {z : Nat}
def dC_ (hk hd tk tv : Nat → Int32) (mk : Nat → Bool) (a : Nat) : Prop := (hk a = 3 → mk (hd a).toNatClampNeg = true) ∧ (tk a = 3 → mk (tv a).toNatClampNeg = true)
theorem dfs_ok (hz : z ≤ 250) (hr : ∀ a, a < z → (hk a = 3 → ∃ j, j < z ∧ hd a = nI j) ∧ (tk a = 3 → ∃ j, j < z ∧ tv a = nI j)) {M : Nat → Prop} (hM : ∀ a, a < z → M a → (∀ j, hk a = 3 → hd a = nI j → j < z → M j) ∧ (∀ j, tk a = 3 → tv a = nI j → j < z → M j)) :
    ∀ (f c : Nat) (g : gS), dI_ z g → (∀ a, a < z → g.1 a = true → M a) → (∀ a, a < z → g.1 a = true → dC_ hk hd tk tv g.1 a ∨ ∃ i, i < g.2.2 ∧ g.2.1 i = a) → 2 * cu g.1 z + g.2.2 < f → ∃ c' g', dfs hk hd tk tv f c g = some (c', g') ∧ c' ≤ c + f ∧ (∀ a, g.1 a = true → g'.1 a = true) ∧ (∀ a, a < z → g'.1 a = true → M a ∧ dC_ hk hd tk tv g'.1 a)
  | 0, c, g, _, _, _, h => by omega
  | f + 1, c, g, hI, hm, hp, h => by
    obtain ⟨mk, pl, n⟩ := g
    cases n with
    | zero =>
      refine ⟨c, (mk, pl, 0), rfl, by omega, fun a ha => ha, fun a ha hb => ⟨hm a ha hb, ?_⟩⟩
      rcases hp a ha hb with q | ⟨i, q, -⟩
      · exact q
      · exact absurd q (Nat.not_lt_zero i)
    | succ n =>
      have h1 : n + 1 + cu mk z ≤ z := hI.1
      have h2 : ∀ i, i < n + 1 → pl i < z ∧ mk (pl i) = true := hI.2
      have h : 2 * cu mk z + (n + 1) < f + 1 := h
      obtain ⟨hpl, hpm⟩ := h2 n (by omega)
      have e2 : dfs hk hd tk tv (f + 1) c (mk, pl, n + 1) = if n < 250 ∧ pl n < 250 then dfs hk hd tk tv f (c + 1) (rmk (tk (pl n)) (tv (pl n)) (rmk (hk (pl n)) (hd (pl n)) (mk, pl, n))) else none := rfl
      rw [e2, if_pos ⟨by omega, by omega⟩]
      have hI0 : dI_ z (mk, pl, n) := ⟨by show n + cu mk z ≤ z; omega, fun i hi => h2 i (by have hi : i < n := hi; omega)⟩
      obtain ⟨i1, l1, k1⟩ := rmk_ok (kd := hk (pl n)) (x := hd (pl n)) hz (hr _ hpl).1 hI0
      obtain ⟨i2, l2, k2⟩ := rmk_ok (kd := tk (pl n)) (x := tv (pl n)) hz (hr _ hpl).2 i1
      have l12 := dL_tr l1 l2
      generalize rmk (hk (pl n)) (hd (pl n)) (mk, pl, n) = g1 at *
      generalize rmk (tk (pl n)) (tv (pl n)) g1 = g2 at *
      obtain ⟨a1, a2, a3, a4, a5⟩ := l12
      have a1 : 2 * cu g2.1 z + g2.2.2 ≤ 2 * cu mk z + n := a1
      obtain ⟨hMa, hMb⟩ := hM (pl n) hpl (hm _ hpl hpm)
      have hm2 : ∀ a, a < z → g2.1 a = true → M a := by
        intro a ha hb
        rcases a5 a hb with q | ⟨q, -⟩
        · exact hm a ha q
        · rcases q with ⟨q1, q2, q3⟩ | ⟨q1, q2, q3⟩
          · exact hMa a q1 q2 q3
          · exact hMb a q1 q2 q3
      have hp2 : ∀ a, a < z → g2.1 a = true → dC_ hk hd tk tv g2.1 a ∨ ∃ i, i < g2.2.2 ∧ g2.2.1 i = a := by
        intro a ha hb
        rcases a5 a hb with q | ⟨-, q⟩
        · by_cases e : a = pl n
          · subst e
            exact Or.inl ⟨fun w => l2.2.1 _ (k1 w), k2⟩
          · rcases hp a ha q with w | ⟨i, w1, w2⟩
            · exact Or.inl ⟨fun u => a2 _ (w.1 u), fun u => a2 _ (w.2 u)⟩
            · have w1 : i < n + 1 := w1
              have w2 : pl i = a := w2
              have hin : i < n := by
                rcases Nat.lt_or_ge i n with u | u
                · exact u
                · obtain rfl : i = n := by omega
                  exact absurd w2.symm e
              exact Or.inr ⟨i, Nat.lt_of_lt_of_le hin a3, (a4 i hin).trans w2⟩
        · exact Or.inr q
      obtain ⟨c', g', e3, e4, e5, e6⟩ := dfs_ok hz hr hM f (c + 1) g2 i2 hm2 hp2 (by omega)
      exact ⟨c', g', e3, by omega, fun a ha => e5 a (a2 a ha), e6⟩
theorem rgs_ok {reg : Nat → Int32} (hz : z ≤ 250) {M : Nat → Prop} : ∀ (n k : Nat) (g : gS), (∀ i, i < n → ¬ reg (k + i) < 0 → ∃ j, j < z ∧ reg (k + i) = nI j ∧ M j) → dI_ z g → dI_ z (rgs reg n k g) ∧ dL_ z M g (rgs reg n k g) ∧ (∀ i j, i < n → reg (k + i) = nI j → j < z → (rgs reg n k g).1 j = true)
  | 0, k, g, _, hI => ⟨hI, ⟨Nat.le_refl _, fun a ha => ha, Nat.le_refl _, fun i _ => rfl, fun a ha => Or.inl ha⟩, fun i j hi => absurd hi (Nat.not_lt_zero i)⟩
  | n + 1, k, g, h, hI => by
    have e2 : rgs reg (n + 1) k g = rgs reg n (k + 1) (rmk (if reg k < 0 then 0 else 3) (reg k) g) := rfl
    rw [e2]
    have h0 := h 0 (by omega)
    rw [Nat.add_zero] at h0
    have hx : (if reg k < 0 then (0 : Int32) else 3) = 3 → ∃ j, j < z ∧ reg k = nI j := by
      intro q
      by_cases w : reg k < 0
      · rw [if_pos w] at q
        exact absurd q (by decide)
      · obtain ⟨j, j1, j2, -⟩ := h0 w
        exact ⟨j, j1, j2⟩
    obtain ⟨i1, l1, k1⟩ := rmk_ok (kd := if reg k < 0 then 0 else 3) (x := reg k) hz hx hI
    obtain ⟨i2, l2, k2⟩ := rgs_ok (reg := reg) (M := M) hz n (k + 1) (rmk (if reg k < 0 then 0 else 3) (reg k) g) (fun i hi w => by
      have := h (i + 1) (by omega)
      rw [show k + (i + 1) = k + 1 + i by omega] at this
      exact this w) i1
    refine ⟨i2, ?_, fun i j hi ej hj => ?_⟩
    · obtain ⟨a1, a2, a3, a4, a5⟩ := dL_tr l1 l2
      refine ⟨a1, a2, a3, a4, fun a ha => ?_⟩
      rcases a5 a ha with q | ⟨q, w⟩
      · exact Or.inl q
      · refine Or.inr ⟨?_, w⟩
        rcases q with ⟨q1, q2, q3⟩ | q
        · by_cases u : reg k < 0
          · rw [if_pos u] at q1
            exact absurd q1 (by decide)
          · obtain ⟨j, j1, j2, j3⟩ := h0 u
            have : a = j := nIj (by omega) (by omega) (q2.symm.trans j2)
            rw [this]
            exact j3
        · exact q
    · cases i with
      | zero =>
        rw [Nat.add_zero] at ej
        have hn : ¬ reg k < 0 := by rw [ej]; exact nI_pos (by omega)
        have := l2.2.1 _ (k1 (if_neg hn))
        rw [ej, nI_clamp (by omega)] at this
        rw [ej]
        exact this
      | succ i =>
        rw [show k + (i + 1) = k + 1 + i by omega] at ej
        exact k2 i j (by omega) ej hj
theorem dfs_all {reg : Nat → Int32} {mk : Nat → Bool} {pl : Nat → Nat} (hz : z ≤ 250) (hr : ∀ a, a < z → (hk a = 3 → ∃ j, j < z ∧ hd a = nI j) ∧ (tk a = 3 → ∃ j, j < z ∧ tv a = nI j)) {M : Nat → Prop} (hM : ∀ a, a < z → M a → (∀ j, hk a = 3 → hd a = nI j → j < z → M j) ∧ (∀ j, tk a = 3 → tv a = nI j → j < z → M j)) (hg : ∀ i, i < 5 → ¬ reg i < 0 → ∃ j, j < z ∧ reg i = nI j ∧ M j) :
    ∃ c' g', dfs hk hd tk tv 600 0 (rgs reg 5 0 (clr z mk, pl, 0)) = some (c', g') ∧ c' ≤ 600 ∧ (∀ a, a < z → g'.1 a = true → M a ∧ dC_ hk hd tk tv g'.1 a) ∧ (∀ i j, i < 5 → reg i = nI j → j < z → g'.1 j = true) := by
  have hc : ∀ a, a < z → clr z mk a = false := fun a ha => if_pos ha
  have hI : dI_ z (clr z mk, pl, 0) := by
    refine ⟨?_, fun i hi => absurd hi (Nat.not_lt_zero i)⟩
    have := cu_le (clr z mk) z
    show 0 + cu (clr z mk) z ≤ z
    omega
  obtain ⟨i1, l1, k1⟩ := rgs_ok (reg := reg) (M := M) hz 5 0 (clr z mk, pl, 0) (fun i hi w => by
    have := hg i hi
    rw [Nat.zero_add] at w ⊢
    exact this w) hI
  obtain ⟨a1, a2, a3, a4, a5⟩ := l1
  have hcu := cu_le (clr z mk) z
  have a1 : 2 * cu (rgs reg 5 0 (clr z mk, pl, 0)).1 z + (rgs reg 5 0 (clr z mk, pl, 0)).2.2 ≤ 2 * cu (clr z mk) z + 0 := a1
  obtain ⟨c', g', e1, e2, e3, e4⟩ := dfs_ok hz hr hM 600 0 (rgs reg 5 0 (clr z mk, pl, 0)) i1 (fun a ha hb => by
    rcases a5 a hb with q | ⟨q, -⟩
    · have q : clr z mk a = true := q
      rw [hc a ha] at q
      cases q
    · exact q) (fun a ha hb => by
    rcases a5 a hb with q | ⟨-, q⟩
    · have q : clr z mk a = true := q
      rw [hc a ha] at q
      cases q
    · exact Or.inr q) (by omega)
  refine ⟨c', g', e1, by omega, e4, fun i j hi ej hj => e3 _ ?_⟩
  have := k1 i j hi
  rw [Nat.zero_add] at this
  exact this ej hj
end DF
