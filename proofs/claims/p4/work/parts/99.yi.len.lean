theorem gD_tl {tx : Nat → Nat} {X : Nat → Int32} {len : Nat} (hx : txOK X len tx) : ∀ (f : Nat) (b : Bool) (o d a : Nat) (D : TL) (a' : Nat), a ≤ len → gD tx f b o d a = .inl (D, a') → D.length + a ≤ a'
  | 0, b, o, d, a, D, a', _, h => by cases h
  | f + 1, false, o, d, a, D, a', ha, h => by
    have e0 : gD tx (f + 1) false o d a = if tx a = 40 then (if d + o < 9 then cns (4, 0) (gD tx f (decide (tx (a + 1) = 41)) (o + 1) d (a + 1)) else .inr a) else if cL (tx a) then cns (2, nI (tx a)) (gD tx f true o d (a + 1)) else if cD (tx (pA1 tx a)) then cns (1, pVal tx a) (gD tx f true o d (pDg tx 4 (pA1 tx a) 0).1) else .inr (pA1 tx a) := rfl
    have hlt := gD_pos hx h
    have sub : ∀ (x : Int32 × Int32) (b : Bool) (o d a2 : Nat), a < a2 → a2 ≤ len → cns x (gD tx f b o d a2) = .inl (D, a') → D.length + a ≤ a' := by
      intro x b o d a2 h1 h2 h
      obtain ⟨D2, q1, q2⟩ := cns_inv h
      have := gD_tl hx f b o d a2 D2 a' h2 q1
      rw [q2, List.length_cons]
      omega
    rw [e0] at h
    split at h
    · split at h
      · exact sub _ _ _ _ _ (by omega) (by omega) h
      · cases h
    · split at h
      · exact sub _ _ _ _ _ (by omega) (by omega) h
      · split at h
        · next hd =>
          obtain ⟨w1, w2, w3⟩ := num_len hx ha hd
          exact sub _ _ _ _ _ w1 w2 h
        · cases h
  | f + 1, true, 0, d, a, D, a', _, h => by
    have h : (Sum.inl ([], a) : (TL × Nat) ⊕ Nat) = .inl (D, a') := h
    cases h
    show 0 + a ≤ a
    omega
  | f + 1, true, o + 1, d, a, D, a', ha, h => by
    have e1 : gD tx (f + 1) true (o + 1) d a = if tx a = 41 then cns (5, 0) (gD tx f true o d (a + 1)) else if tx a = 32 then gD tx f false (o + 1) d (a + 1) else .inr a := rfl
    rw [e1] at h
    split at h
    · have hlt := hx.lt (a := a) (by omega)
      obtain ⟨D2, q1, q2⟩ := cns_inv h
      have := gD_tl hx f true o d (a + 1) D2 a' (by omega) q1
      rw [q2, List.length_cons]
      omega
    · split at h
      · have hlt := hx.lt (a := a) (by omega)
        have := gD_tl hx f false (o + 1) d (a + 1) D a' (by omega) h
        omega
      · cases h
def tot : List Kd → Fr → Nat
  | [], _ => 0
  | k :: ks, φ => (k.1 φ).length + tot ks φ
theorem tot_app : ∀ (A B : List Kd) (φ : Fr), tot (A ++ B) φ = tot A φ + tot B φ
  | [], B, φ => by show tot B φ = 0 + tot B φ; omega
  | k :: A, B, φ => by
    show (k.1 φ).length + tot (A ++ B) φ = (k.1 φ).length + tot A φ + tot B φ
    rw [tot_app A B φ]
    omega
theorem row_len : ∀ (ks : List Kd) (φ : Fr), (rowT ks φ).length = 2 + ks.length + tot ks φ
  | [], φ => rfl
  | k :: ks, φ => by
    show (rowT ks φ ++ (k.1 φ ++ [(1, 13)])).length = _
    rw [List.length_append, List.length_append, row_len ks φ, List.length_cons, List.length_cons, List.length_nil]
    show _ = 2 + (ks.length + 1) + ((k.1 φ).length + tot ks φ)
    omega
theorem lst_len (i : Int32) (t : Tau) (φ : Fr) : (lstT i t φ).length = (t φ).length + 3 := by
  unfold lstT
  rw [List.length_cons, List.length_append]
  rfl
theorem sg_len (c : Nat) (φ : Fr) : ∀ (ks : List Kd), (sgT c ks φ).length ≤ tot ks φ + 7
  | [] => Nat.zero_le _
  | [a] => by
    show (a.1 φ ++ [(1, cdO c)]).length ≤ (a.1 φ).length + 0 + 7
    rw [List.length_append, List.length_cons, List.length_nil]
    omega
  | [a, b] => by
    show (if c = 46 then b.1 φ ++ (a.1 φ ++ [(1, 13)]) else a.1 φ ++ (b.1 φ ++ [(1, cdO c)])).length ≤ (a.1 φ).length + ((b.1 φ).length + 0) + 7
    split
    · rw [List.length_append, List.length_append, List.length_cons, List.length_nil]
      omega
    · rw [List.length_append, List.length_append, List.length_cons, List.length_nil]
      omega
  | [a, b, d] => by
    show (a.1 φ ++ ((1, 8) :: (lstT 9 b.1 φ ++ lstT 9 d.1 φ))).length ≤ (a.1 φ).length + ((b.1 φ).length + ((d.1 φ).length + 0)) + 7
    rw [List.length_append, List.length_cons, List.length_append, lst_len, lst_len]
    omega
  | _ :: _ :: _ :: _ :: _ => Nat.zero_le _
theorem bo_len (a : Kd) (ls : List Nat) (φ : Fr) : (boT a ls φ).length = (a.1 (ls :: φ)).length + 4 := by
  unfold boT
  rw [List.length_cons, lst_len]
section YI
variable {tx : Nat → Nat} {X : Nat → Int32} {len : Nat}
def PE (pe : Nat → GR) : Prop := ∀ a t a', pe a = .inl (t, a') → a < a' ∧ ∀ φ, (t φ).length ≤ 11 * (a' - a)
theorem gCl_e {t t' : Tau} {a a' : Nat} (h : gCl tx t a = .inl (t', a')) : t' = t ∧ a' = a + 1 := by
  unfold gCl at h
  split at h
  · cases h
    exact ⟨rfl, rfl⟩
  · cases h
theorem gAr_len {pe : Nat → GR} (hp : PE pe) {c : Nat} : ∀ (k a : Nat) (ks : List Kd) (t : Tau) (a' : Nat), gAr tx pe c k a ks = .inl (t, a') → a < a' ∧ ∀ φ, (t φ).length ≤ tot ks φ + 11 * (a' - a)
  | 0, a, ks, t, a', h => by
    obtain ⟨rfl, rfl⟩ := gCl_e h
    refine ⟨by omega, fun φ => ?_⟩
    have := sg_len c φ ks
    omega
  | k + 1, a, ks, t, a', h => by
    unfold gAr at h
    split at h
    · cases hpe : pe (a + 1) with
      | inr e => rw [hpe] at h; cases h
      | inl q =>
        obtain ⟨t2, a2⟩ := q
        rw [hpe] at h
        obtain ⟨q1, q2⟩ := hp _ _ _ hpe
        obtain ⟨q3, q4⟩ := gAr_len hp k a2 (ks ++ [(t2, 0)]) t a' h
        refine ⟨by omega, fun φ => ?_⟩
        have w1 := q2 φ
        have w2 := q4 φ
        rw [tot_app] at w2
        have w2 : (t φ).length ≤ tot ks φ + ((t2 φ).length + 0) + 11 * (a' - a2) := w2
        omega
    · cases h
theorem gMo_len {pe : Nat → GR} (hp : PE pe) {hd : Kd} : ∀ (k a : Nat) (ks : List Kd) (t : Tau) (a' : Nat), k + ks.length = 3 → gMo tx pe hd k a ks = .inl (t, a') → a < a' ∧ ∀ φ, (t φ).length ≤ (hd.1 φ).length + tot ks φ + 11 * (a' - a)
  | k, a, ks, t, a', hk, h => by
    have fin : gCl tx (caT hd ks) a = .inl (t, a') → a < a' ∧ ∀ φ, (t φ).length ≤ (hd.1 φ).length + tot ks φ + 11 * (a' - a) := by
      intro h
      obtain ⟨rfl, rfl⟩ := gCl_e h
      refine ⟨by omega, fun φ => ?_⟩
      unfold caT
      rw [List.length_append, List.length_append, row_len, List.length_cons, List.length_nil]
      omega
    cases k with
    | zero => exact fin h
    | succ k =>
      unfold gMo at h
      split at h
      · cases hpe : pe (a + 1) with
        | inr e => rw [hpe] at h; cases h
        | inl q =>
          obtain ⟨t2, a2⟩ := q
          rw [hpe] at h
          obtain ⟨q1, q2⟩ := hp _ _ _ hpe
          obtain ⟨q3, q4⟩ := gMo_len hp k a2 (ks ++ [(t2, 0)]) t a' (by rw [List.length_append, List.length_cons, List.length_nil]; omega) h
          refine ⟨by omega, fun φ => ?_⟩
          have w1 := q2 φ
          have w2 := q4 φ
          rw [tot_app] at w2
          have w2 : (t φ).length ≤ (hd.1 φ).length + (tot ks φ + ((t2 φ).length + 0)) + 11 * (a' - a2) := w2
          omega
      · exact fin h
theorem gLs_len : ∀ (k a : Nat) (ls ls' : List Nat) (a' : Nat), gLs tx k a ls = .inl (ls', a') → a < a'
  | 0, a, ls, ls', a', h => by cases h
  | k + 1, a, ls, ls', a', h => by
    unfold gLs at h
    split at h
    · split at h
      · have := gLs_len k _ _ _ _ h
        omega
      · split at h
        · split at h
          · cases h
            omega
          · cases h
        · cases h
    · cases h
theorem gPa_len {d a : Nat} {ls : List Nat} {a' : Nat} (h : gPa tx d a = .inl (ls, a')) : a < a' := by
  unfold gPa at h
  split at h
  · split at h
    · split at h
      · have := gLs_len _ _ _ _ _ h
        omega
      · split at h
        · split at h
          · cases h
            omega
          · cases h
        · cases h
    · cases h
  · cases h
theorem gBi_len {pe : Nat → GR} (hp : PE pe) {rc : Bool} {d : Nat} {hd : Kd} {H : Nat} (hH : ∀ φ, (hd.1 φ).length ≤ H) : ∀ (k a : Nat) (ks : List Kd) (bs : List Nat) (B : Nat) (t : Tau) (a' : Nat), k + ks.length = 2 → (∀ φ, tot ks φ ≤ B) → gBi tx pe rc d (fiN rc hd) k a ks bs = .inl (t, a') → a < a' ∧ ∀ φ, (t φ).length ≤ H + B + 11 * (a' - a)
  | k, a, ks, bs, B, t, a', hk, hB, h => by
    rw [gBi_e, gB1_e] at h
    cases h0 : gB0 tx rc d a bs with
    | some e => rw [h0] at h; cases h
    | none =>
      rw [h0] at h
      cases hpe : pe (a + 1 + 1 + 1) with
      | inr e => simp only [hpe] at h; cases h
      | inl q =>
        obtain ⟨t2, a2⟩ := q
        simp only [hpe] at h
        obtain ⟨q1, q2⟩ := hp _ _ _ hpe
        split at h
        · have hB2 : ∀ φ, tot (ks ++ [(t2, nI (tx (a + 1)))]) φ ≤ B + 11 * (a2 - (a + 1 + 1 + 1)) := by
            intro φ
            rw [tot_app]
            have := hB φ
            have := q2 φ
            show tot ks φ + ((t2 φ).length + 0) ≤ _
            omega
          have fin : gCl tx (fiN rc hd (ks ++ [(t2, nI (tx (a + 1)))]) (bs ++ [tx (a + 1)])) (a2 + 1) = .inl (t, a') → a < a' ∧ ∀ φ, (t φ).length ≤ H + B + 11 * (a' - a) := by
            intro h
            obtain ⟨rfl, rfl⟩ := gCl_e h
            refine ⟨by omega, fun φ => ?_⟩
            have hl : (ks ++ [(t2, nI (tx (a + 1)))]).length ≤ 3 := by rw [List.length_append, List.length_cons, List.length_nil]; omega
            cases rc with
            | false =>
              show (leT hd (ks ++ [(t2, nI (tx (a + 1)))]) (bs ++ [tx (a + 1)]) φ).length ≤ _
              unfold leT
              rw [List.length_append, List.length_append, row_len, bo_len, List.length_cons, List.length_nil]
              have := hB2 φ
              have := hH ((bs ++ [tx (a + 1)]) :: φ)
              omega
            | true =>
              show (reT hd (ks ++ [(t2, nI (tx (a + 1)))]) (bs ++ [tx (a + 1)]) φ).length ≤ _
              unfold reT
              rw [List.length_cons, List.length_append, List.length_append, row_len, bo_len, List.length_cons, List.length_nil]
              have := hB2 ((bs ++ [tx (a + 1)]) :: φ)
              have := hH ((bs ++ [tx (a + 1)]) :: φ)
              omega
          cases k with
          | zero => exact fin h
          | succ k =>
            have h : (if tx (a2 + 1) = 32 then gBi tx pe rc d (fiN rc hd) k (a2 + 1 + 1) (ks ++ [(t2, nI (tx (a + 1)))]) (bs ++ [tx (a + 1)]) else gCl tx (fiN rc hd (ks ++ [(t2, nI (tx (a + 1)))]) (bs ++ [tx (a + 1)])) (a2 + 1)) = .inl (t, a') := h
            split at h
            · obtain ⟨q3, q4⟩ := gBi_len hp hH k (a2 + 1 + 1) _ _ _ t a' (by rw [List.length_append, List.length_cons, List.length_nil]; omega) hB2 h
              refine ⟨by omega, fun φ => ?_⟩
              have := q4 φ
              omega
            · exact fin h
        · cases h
theorem gEx_len (hx : txOK X len tx) : ∀ (f d : Nat), PE (gEx tx f d)
  | 0, d => fun a t a' h => by cases h
  | f + 1, d => by
    intro a t a' h
    have p1 := gEx_len hx f (d + 1)
    have p2 := gEx_len hx f (d + 2)
    have e0 : gEx tx (f + 1) d a = if cL (tx a) then .inl (fun φ => [(1, 2), (6, lkF (tx a) (uP a) φ 0)], a + 1) else if tx a = 39 then (match gD tx 200 false 0 d (a + 1) with | .inr e => .inr e | .inl (D, a2) => .inl (fun _ => (1, 1) :: D, a2)) else if tx a = 40 then (if d < 9 then gBr tx (gEx tx f (d + 1)) (gEx tx f (d + 2)) (d + 1) (a + 1) else .inr a) else if cD (tx (pA1 tx a)) then .inl (fun _ => [(1, 1), (1, pVal tx a)], (pDg tx 4 (pA1 tx a) 0).1) else .inr (pA1 tx a) := rfl
    rw [e0] at h
    split at h
    · cases h
      exact ⟨by omega, fun φ => by show 2 ≤ _; omega⟩
    · split at h
      · cases hg : gD tx 200 false 0 d (a + 1) with
        | inr e => rw [hg] at h; cases h
        | inl q =>
          obtain ⟨D, a2⟩ := q
          rw [hg] at h
          cases h
          have hp := gD_pos hx hg
          have := gD_tl hx 200 false 0 d (a + 1) D a' (by omega) hg
          exact ⟨by omega, fun φ => by show D.length + 1 ≤ _; omega⟩
      · split at h
        · split at h
          · unfold gBr at h
            split at h
            · unfold gSg at h
              split at h
              · cases hpe : gEx tx f (d + 1) (a + 1 + 1 + 1) with
                | inr e => rw [hpe] at h; cases h
                | inl q =>
                  obtain ⟨t2, a2⟩ := q
                  rw [hpe] at h
                  obtain ⟨q1, q2⟩ := p1 _ _ _ hpe
                  obtain ⟨q3, q4⟩ := gAr_len p1 _ _ _ _ _ h
                  refine ⟨by omega, fun φ => ?_⟩
                  have w1 := q2 φ
                  have w2 : (t φ).length ≤ ((t2 φ).length + 0) + 11 * (a' - a2) := q4 φ
                  omega
              · cases h
            · split at h
              · unfold gBo at h
                cases hg : gPa tx (d + 1) (a + 1 + 1) with
                | inr e => rw [hg] at h; cases h
                | inl q =>
                  obtain ⟨ls, a1⟩ := q
                  rw [hg] at h
                  have hl := gPa_len hg
                  cases hpe : gEx tx f (d + 1) a1 with
                  | inr e => simp only [hpe] at h; cases h
                  | inl q =>
                    obtain ⟨t2, a2⟩ := q
                    simp only [hpe] at h
                    obtain ⟨q1, q2⟩ := p1 _ _ _ hpe
                    obtain ⟨rfl, rfl⟩ := gCl_e h
                    refine ⟨by omega, fun φ => ?_⟩
                    rw [bo_len]
                    have := q2 (ls :: φ)
                    show (t2 (ls :: φ)).length + 4 ≤ _
                    omega
              · split at h
                · unfold gLe at h
                  split at h
                  · cases hpe : gEx tx f (d + 1) (a + 1 + 1 + 1) with
                    | inr e => rw [hpe] at h; cases h
                    | inl q =>
                      obtain ⟨t2, a2⟩ := q
                      rw [hpe] at h
                      obtain ⟨q1, q2⟩ := p1 _ _ _ hpe
                      have h : (if tx a2 = 32 then gBi tx (gEx tx f (d + 2)) (decide (tx (a + 1) = 59)) (d + 1) (fiN (decide (tx (a + 1) = 59)) (t2, 0)) 2 (a2 + 1) [] [] else .inr a2) = .inl (t, a') := h
                      split at h
                      · obtain ⟨q3, q4⟩ := gBi_len p2 (hd := (t2, 0)) (H := 11 * (a2 - (a + 1 + 1 + 1))) q2 2 (a2 + 1) [] [] 0 t a' rfl (fun φ => Nat.le_refl _) h
                        refine ⟨by omega, fun φ => ?_⟩
                        have := q4 φ
                        omega
                      · cases h
                  · cases h
                · unfold gCa at h
                  cases hpe : gEx tx f (d + 1) (a + 1) with
                  | inr e => rw [hpe] at h; cases h
                  | inl q =>
                    obtain ⟨t2, a2⟩ := q
                    rw [hpe] at h
                    obtain ⟨q1, q2⟩ := p1 _ _ _ hpe
                    obtain ⟨q3, q4⟩ := gMo_len p1 3 a2 [] t a' rfl h
                    refine ⟨by omega, fun φ => ?_⟩
                    have w1 := q2 φ
                    have w2 : (t φ).length ≤ (t2 φ).length + 0 + 11 * (a' - a2) := q4 φ
                    omega
          · cases h
        · split at h
          · next hd =>
            cases h
            have hl : a < len ∨ ¬ a < len := Nat.lt_or_ge a len |>.imp id (fun w => by omega)
            rcases hl with w | w
            · obtain ⟨w1, w2, w3⟩ := num_len hx (Nat.le_of_lt w) hd
              exact ⟨w1, fun φ => by show 2 ≤ _; omega⟩
            · have e1 : tx a = 0 := hx.2.2 a (by omega)
              have e2 : pA1 tx a = a := if_neg (by omega)
              rw [e2, e1] at hd
              exact absurd hd (by decide)
          · cases h
end YI
