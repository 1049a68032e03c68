section
theorem gD_tl {tx : Nat → Nat} {X : Nat → Int32} {len : Nat} (hx : txOK X len tx) : ∀ (f : Nat) (b : Bool) (o d a : Nat) (D : TL) (a' : Nat), a ≤ len → gD tx f b o d a = .inl (D, a') → D.length + a ≤ a'
  | 0, b, o, d, a, D, a', _, h => by cases h
  | f + 1, false, o, d, a, D, a', ha, h => by
    have e0 : gD tx (f + 1) false o d a = if tx a = 40 then (if d + o < 9 then cns (4, 0) (gD tx f (decide (tx (a + 1) = 41)) (o + 1) d (a + 1)) else .inr a) else if cL (tx a) then cns (2, nI (tx a)) (gD tx f true o d (a + 1)) else if cD (tx (pA1 tx a)) then cns (1, pVal tx a) (gD tx f true o d (pDg tx 4 (pA1 tx a) 0).1) else .inr (pA1 tx a) := rfl
    have hlt := gD_pos hx h
    have sub : ∀ (x : Int32 × Int32) (b : Bool) (o d a2 : Nat), a < a2 → a2 ≤ len → cns x (gD tx f b o d a2) = .inl (D, a') → D.length + a ≤ a' := by
      intro x b o d a2 h1 h2 h
      obtain ⟨D2, q1, q2⟩ := cns_inv h
      have := gD_tl hx f b o d a2 D2 a' h2 q1
      rw [q2, List.length_cons]
      omega
    rw [e0] at h
    split at h
    · split at h
      · exact sub _ _ _ _ _ (by omega) (by omega) h
      · cases h
    · split at h
      · exact sub _ _ _ _ _ (by omega) (by omega) h
      · split at h
        · next hd =>
          obtain ⟨w1, w2, w3⟩ := num_len hx ha hd
          exact sub _ _ _ _ _ w1 w2 h
        · cases h
  | f + 1, true, 0, d, a, D, a', _, h => by
    have h : (Sum.inl ([], a) : (TL × Nat) ⊕ Nat) = .inl (D, a') := h
    cases h
    show 0 + a ≤ a
    omega
  | f + 1, true, o + 1, d, a, D, a', ha, h => by
    have e1 : gD tx (f + 1) true (o + 1) d a = if tx a = 41 then cns (5, 0) (gD tx f true o d (a + 1)) else if tx a = 32 then gD tx f false (o + 1) d (a + 1) else .inr a := rfl
    rw [e1] at h
    split at h
    · have hlt := hx.lt (a := a) (by omega)
      obtain ⟨D2, q1, q2⟩ := cns_inv h
      have := gD_tl hx f true o d (a + 1) D2 a' (by omega) q1
      rw [q2, List.length_cons]
      omega
    · split at h
      · have hlt := hx.lt (a := a) (by omega)
        have := gD_tl hx f false (o + 1) d (a + 1) D a' (by omega) h
        omega
      · cases h
def tot : List Kd → Fr → Nat
  | [], _ => 0
  | k :: ks, φ => (k.1 φ).length + tot ks φ
theorem tot_app : ∀ (A B : List Kd) (φ : Fr), tot (A ++ B) φ = tot A φ + tot B φ
  | [], B, φ => by show tot B φ = 0 + tot B φ; omega
  | k :: A, B, φ => by
    show (k.1 φ).length + tot (A ++ B) φ = (k.1 φ).length + tot A φ + tot B φ
    rw [tot_app A B φ]
    omega
theorem row_len : ∀ (ks : List Kd) (φ : Fr), (rowT ks φ).length = 2 + ks.length + tot ks φ
  | [], φ => rfl
  | k :: ks, φ => by
    show (rowT ks φ ++ (k.1 φ ++ [(1, 13)])).length = _
    rw [List.length_append, List.length_append, row_len ks φ, List.length_cons, List.length_cons, List.length_nil]
    show _ = 2 + (ks.length + 1) + ((k.1 φ).length + tot ks φ)
    omega
theorem lst_len (i : Int32) (t : Tau) (φ : Fr) : (lstT i t φ).length = (t φ).length + 3 := by
  unfold lstT
  rw [List.length_cons, List.length_append]
  rfl
theorem sg_len (c : Nat) (φ : Fr) : ∀ (ks : List Kd), (sgT c ks φ).length ≤ tot ks φ + 7
  | [] => Nat.zero_le _
  | [a] => by
    show (a.1 φ ++ [(1, cdO c)]).length ≤ (a.1 φ).length + 0 + 7
    rw [List.length_append, List.length_cons, List.length_nil]
    omega
  | [a, b] => by
    show (if c = 46 then b.1 φ ++ (a.1 φ ++ [(1, 13)]) else a.1 φ ++ (b.1 φ ++ [(1, cdO c)])).length ≤ (a.1 φ).length + ((b.1 φ).length + 0) + 7
    split
    · rw [List.length_append, List.length_append, List.length_cons, List.length_nil]
      omega
    · rw [List.length_append, List.length_append, List.length_cons, List.length_nil]
      omega
  | [a, b, d] => by
    show (a.1 φ ++ ((1, 8) :: (lstT 9 b.1 φ ++ lstT 9 d.1 φ))).length ≤ (a.1 φ).length + ((b.1 φ).length + ((d.1 φ).length + 0)) + 7
    rw [List.length_append, List.length_cons, List.length_append, lst_len, lst_len]
    omega
  | _ :: _ :: _ :: _ :: _ => Nat.zero_le _
theorem bo_len (a : Kd) (ls : List Nat) (φ : Fr) : (boT a ls φ).length = (a.1 (ls :: φ)).length + 4 := by
  unfold boT
  rw [List.length_cons, lst_len]
section YI
variable {tx : Nat → Nat} {X : Nat → Int32} {len : Nat}
def PE (pe : Nat → GR) : Prop := ∀ a t a', pe a = .inl (t, a') → a < a' ∧ ∀ φ, (t φ).length ≤ 11 * (a' - a)
theorem gCl_e {t t' : Tau} {a a' : Nat} (h : gCl tx t a = .inl (t', a')) : t' = t ∧ a' = a + 1 := by
  unfold gCl at h
  split at h
  · cases h
    exact ⟨rfl, rfl⟩
  · cases h
theorem gAr_len {pe : Nat → GR} (hp : PE pe) {c : Nat} : ∀ (k a : Nat) (ks : List Kd) (t : Tau) (a' : Nat), gAr tx pe c k a ks = .inl (t, a') → a < a' ∧ ∀ φ, (t φ).length ≤ tot ks φ + 11 * (a' - a)
  | 0, a, ks, t, a', h => by
    obtain ⟨rfl, rfl⟩ := gCl_e h
    refine ⟨by omega, fun φ => ?_⟩
    have := sg_len c φ ks
    omega
  | k + 1, a, ks, t, a', h => by
    unfold gAr at h
    split at h
    · cases hpe : pe (a + 1) with
      | inr e => rw [hpe] at h; cases h
      | inl q =>
        obtain ⟨t2, a2⟩ := q
        rw [hpe] at h
        obtain ⟨q1, q2⟩ := hp _ _ _ hpe
        obtain ⟨q3, q4⟩ := gAr_len hp k a2 (ks ++ [(t2, 0)]) t a' h
        refine ⟨by omega, fun φ => ?_⟩
        have w1 := q2 φ
        have w2 := q4 φ
        rw [tot_app] at w2
        have w2 : (t φ).length ≤ tot ks φ + ((t2 φ).length + 0) + 11 * (a' - a2) := w2
        omega
    · cases h
theorem gMo_len {pe : Nat → GR} (hp : PE pe) {hd : Kd} : ∀ (k a : Nat) (ks : List Kd) (t : Tau) (a' : Nat), k + ks.length = 3 → gMo tx pe hd k a ks = .inl (t, a') → a < a' ∧ ∀ φ, (t φ).length ≤ (hd.1 φ).length + tot ks φ + 11 * (a' - a)
  | k, a, ks, t, a', hk, h => by
    have fin : gCl tx (caT hd ks) a = .inl (t, a') → a < a' ∧ ∀ φ, (t φ).length ≤ (hd.1 φ).length + tot ks φ + 11 * (a' - a) := by
      intro h
      obtain ⟨rfl, rfl⟩ := gCl_e h
      refine ⟨by omega, fun φ => ?_⟩
      unfold caT
      rw [List.length_append, List.length_append, row_len, List.length_cons, List.length_nil]
      omega
    cases k with
    | zero => exact fin h
    | succ k =>
      unfold gMo at h
      split at h
      · cases hpe : pe (a + 1) with
        | inr e => rw [hpe] at h; cases h
        | inl q =>
          obtain ⟨t2, a2⟩ := q
          rw [hpe] at h
          obtain ⟨q1, q2⟩ := hp _ _ _ hpe
          obtain ⟨q3, q4⟩ := gMo_len hp k a2 (ks ++ [(t2, 0)]) t a' (by rw [List.length_append, List.length_cons, List.length_nil]; omega) h
          refine ⟨by omega, fun φ => ?_⟩
          have w1 := q2 φ
          have w2 := q4 φ
          rw [tot_app] at w2
          have w2 : (t φ).length ≤ (hd.1 φ).length + (tot ks φ + ((t2 φ).length + 0)) + 11 * (a' - a2) := w2
          omega
      · exact fin h
theorem gLs_len : ∀ (k a : Nat) (ls ls' : List Nat) (a' : Nat), gLs tx k a ls = .inl (ls', a') → a < a'
  | 0, a, ls, ls', a', h => by cases h
  | k + 1, a, ls, ls', a', h => by
    unfold gLs at h
    split at h
    · split at h
      · have := gLs_len k _ _ _ _ h
        omega
      · split at h
        · split at h
          · cases h
            omega
          · cases h
        · cases h
    · cases h
theorem gPa_len {d a : Nat} {ls : List Nat} {a' : Nat} (h : gPa tx d a = .inl (ls, a')) : a < a' := by
  unfold gPa at h
  split at h
  · split at h
    · split at h
      · have := gLs_len _ _ _ _ _ h
        omega
      · split at h
        · split at h
          · cases h
            omega
          · cases h
        · cases h
    · cases h
  · cases h
theorem gBi_len {pe : Nat → GR} (hp : PE pe) {rc : Bool} {d : Nat} {hd : Kd} {H : Nat} (hH : ∀ φ, (hd.1 φ).length ≤ H) : ∀ (k a : Nat) (ks : List Kd) (bs : List Nat) (B : Nat) (t : Tau) (a' : Nat), k + ks.length = 2 → (∀ φ, tot ks φ ≤ B) → gBi tx pe rc d (fiN rc hd) k a ks bs = .inl (t, a') → a < a' ∧ ∀ φ, (t φ).length ≤ H + B + 11 * (a' - a)
  | k, a, ks, bs, B, t, a', hk, hB, h => by
    rw [gBi_e, gB1_e] at h
    cases h0 : gB0 tx rc d a bs with
    | some e => rw [h0] at h; cases h
    | none =>
      rw [h0] at h
      cases hpe : pe (a + 1 + 1 + 1) with
      | inr e => simp only [hpe] at h; cases h
      | inl q =>
        obtain ⟨t2, a2⟩ := q
        simp only [hpe] at h
        obtain ⟨q1, q2⟩ := hp _ _ _ hpe
        split at h
        · have hB2 : ∀ φ, tot (ks ++ [(t2, nI (tx (a + 1)))]) φ ≤ B + 11 * (a2 - (a + 1 + 1 + 1)) := by
            intro φ
            rw [tot_app]
            have := hB φ
            have := q2 φ
            show tot ks φ + ((t2 φ).length + 0) ≤ _
            omega
          have fin : gCl tx (fiN rc hd (ks ++ [(t2, nI (tx (a + 1)))]) (bs ++ [tx (a + 1)])) (a2 + 1) = .inl (t, a') → a < a' ∧ ∀ φ, (t φ).length ≤ H + B + 11 * (a' - a) := by
            intro h
            obtain ⟨rfl, rfl⟩ := gCl_e h
            refine ⟨by omega, fun φ => ?_⟩
            have hl : (ks ++ [(t2, nI (tx (a + 1)))]).length ≤ 3 := by rw [List.length_append, List.length_cons, List.length_nil]; omega
            cases rc with
            | false =>
              show (leT hd (ks ++ [(t2, nI (tx (a + 1)))]) (bs ++ [tx (a + 1)]) φ).length ≤ _
              unfold leT
              rw [List.length_append, List.length_append, row_len, bo_len, List.length_cons, List.length_nil]
              have := hB2 φ
              have := hH ((bs ++ [tx (a + 1)]) :: φ)
              omega
            | true =>
              show (reT hd (ks ++ [(t2, nI (tx (a + 1)))]) (bs ++ [tx (a + 1)]) φ).length ≤ _
              unfold reT
              rw [List.length_cons, List.length_append, List.length_append, row_len, bo_len, List.length_cons, List.length_nil]
              have := hB2 ((bs ++ [tx (a + 1)]) :: φ)
              have := hH ((bs ++ [tx (a + 1)]) :: φ)
              omega
          cases k with
          | zero => exact fin h
          | succ k =>
            have h : (if tx (a2 + 1) = 32 then gBi tx pe rc d (fiN rc hd) k (a2 + 1 + 1) (ks ++ [(t2, nI (tx (a + 1)))]) (bs ++ [tx (a + 1)]) else gCl tx (fiN rc hd (ks ++ [(t2, nI (tx (a + 1)))]) (bs ++ [tx (a + 1)])) (a2 + 1)) = .inl (t, a') := h
            split at h
            · obtain ⟨q3, q4⟩ := gBi_len hp hH k (a2 + 1 + 1) _ _ _ t a' (by rw [List.length_append, List.length_cons, List.length_nil]; omega) hB2 h
              refine ⟨by omega, fun φ => ?_⟩
              have := q4 φ
              omega
            · exact fin h
        · cases h
theorem gEx_len (hx : txOK X len tx) : ∀ (f d : Nat), PE (gEx tx f d)
  | 0, d => fun a t a' h => by cases h
  | f + 1, d => by
    intro a t a' h
    have p1 := gEx_len hx f (d + 1)
    have p2 := gEx_len hx f (d + 2)
    have e0 : gEx tx (f + 1) d a = if cL (tx a) then .inl (fun φ => [(1, 2), (6, lkF (tx a) φ 0)], a + 1) else if tx a = 39 then (match gD tx 200 false 0 d (a + 1) with | .inr e => .inr e | .inl (D, a2) => .inl (fun _ => (1, 1) :: D, a2)) else if tx a = 40 then (if d < 9 then gBr tx (gEx tx f (d + 1)) (gEx tx f (d + 2)) (d + 1) (a + 1) else .inr a) else if cD (tx (pA1 tx a)) then .inl (fun _ => [(1, 1), (1, pVal tx a)], (pDg tx 4 (pA1 tx a) 0).1) else .inr (pA1 tx a) := rfl
    rw [e0] at h
    split at h
    · cases h
      exact ⟨by omega, fun φ => by show 2 ≤ _; omega⟩
    · split at h
      · cases hg : gD tx 200 false 0 d (a + 1) with
        | inr e => rw [hg] at h; cases h
        | inl q =>
          obtain ⟨D, a2⟩ := q
          rw [hg] at h
          cases h
          have hp := gD_pos hx hg
          have := gD_tl hx 200 false 0 d (a + 1) D a' (by omega) hg
          exact ⟨by omega, fun φ => by show D.length + 1 ≤ _; omega⟩
      · split at h
        · split at h
          · unfold gBr at h
            split at h
            · unfold gSg at h
              split at h
              · cases hpe : gEx tx f (d + 1) (a + 1 + 1 + 1) with
                | inr e => rw [hpe] at h; cases h
                | inl q =>
                  obtain ⟨t2, a2⟩ := q
                  rw [hpe] at h
                  obtain ⟨q1, q2⟩ := p1 _ _ _ hpe
                  obtain ⟨q3, q4⟩ := gAr_len p1 _ _ _ _ _ h
                  refine ⟨by omega, fun φ => ?_⟩
                  have w1 := q2 φ
                  have w2 : (t φ).length ≤ ((t2 φ).length + 0) + 11 * (a' - a2) := q4 φ
                  omega
              · cases h
            · split at h
              · unfold gBo at h
                cases hg : gPa tx (d + 1) (a + 1 + 1) with
                | inr e => rw [hg] at h; cases h
                | inl q =>
                  obtain ⟨ls, a1⟩ := q
                  rw [hg] at h
                  have hl := gPa_len hg
                  cases hpe : gEx tx f (d + 1) a1 with
                  | inr e => simp only [hpe] at h; cases h
                  | inl q =>
                    obtain ⟨t2, a2⟩ := q
                    simp only [hpe] at h
                    obtain ⟨q1, q2⟩ := p1 _ _ _ hpe
                    obtain ⟨rfl, rfl⟩ := gCl_e h
                    refine ⟨by omega, fun φ => ?_⟩
                    rw [bo_len]
                    have := q2 (ls :: φ)
                    show (t2 (ls :: φ)).length + 4 ≤ _
                    omega
              · split at h
                · unfold gLe at h
                  split at h
                  · cases hpe : gEx tx f (d + 1) (a + 1 + 1 + 1) with
                    | inr e => rw [hpe] at h; cases h
                    | inl q =>
                      obtain ⟨t2, a2⟩ := q
                      rw [hpe] at h
                      obtain ⟨q1, q2⟩ := p1 _ _ _ hpe
                      have h : (if tx a2 = 32 then gBi tx (gEx tx f (d + 2)) (decide (tx (a + 1) = 59)) (d + 1) (fiN (decide (tx (a + 1) = 59)) (t2, 0)) 2 (a2 + 1) [] [] else .inr a2) = .inl (t, a') := h
                      split at h
                      · obtain ⟨q3, q4⟩ := gBi_len p2 (hd := (t2, 0)) (H := 11 * (a2 - (a + 1 + 1 + 1))) q2 2 (a2 + 1) [] [] 0 t a' rfl (fun φ => Nat.le_refl _) h
                        refine ⟨by omega, fun φ => ?_⟩
                        have := q4 φ
                        omega
                      · cases h
                  · cases h
                · unfold gCa at h
                  cases hpe : gEx tx f (d + 1) (a + 1) with
                  | inr e => rw [hpe] at h; cases h
                  | inl q =>
                    obtain ⟨t2, a2⟩ := q
                    rw [hpe] at h
                    obtain ⟨q1, q2⟩ := p1 _ _ _ hpe
                    obtain ⟨q3, q4⟩ := gMo_len p1 3 a2 [] t a' rfl h
                    refine ⟨by omega, fun φ => ?_⟩
                    have w1 := q2 φ
                    have w2 : (t φ).length ≤ (t2 φ).length + 0 + 11 * (a' - a2) := q4 φ
                    omega
          · cases h
        · split at h
          · next hd =>
            cases h
            have hl : a < len ∨ ¬ a < len := Nat.lt_or_ge a len |>.imp id (fun w => by omega)
            rcases hl with w | w
            · obtain ⟨w1, w2, w3⟩ := num_len hx (Nat.le_of_lt w) hd
              exact ⟨w1, fun φ => by show 2 ≤ _; omega⟩
            · have e1 : tx a = 0 := hx.2.2 a (by omega)
              have e2 : pA1 tx a = a := if_neg (by omega)
              rw [e2, e1] at hd
              exact absurd hd (by decide)
          · cases h
end YI
end
section
abbrev LSt : Type := (Nat → Vl) × (Nat → Vl) × (Nat → Prop) × Vl × List Vl
def ro0 : Nat → Bool := fun _ => false
theorem upW_ro0 (n : Nat) : upW ro0 n false = ro0 := by
  funext i
  unfold upW ro0
  split <;> rfl
def hvT (t : Int32 × Int32) : Vl := if t.1 = 0 then vNil else if t.1 = 2 then vSym t.2 else vInt t.2
def newL (a : LSt) (k : Nat) (h t : Vl) (ps : List Vl) : LSt := (upW a.1 k h, upW a.2.1 k t, addU a.2.2.1 k, vPr k, ps)
def L1 (t : Int32 × Int32) (a b : LSt) : Prop :=
    (t.1 = 5 ∧ b = (a.1, a.2.1, a.2.2.1, vNil, a.2.2.2.1 :: a.2.2.2.2))
  ∨ (t.1 = 4 ∧ ∃ P ps k, a.2.2.2.2 = P :: ps ∧ ¬ a.2.2.1 k ∧ b = newL a k a.2.2.2.1 P ps)
  ∨ (¬ t.1 = 5 ∧ ¬ t.1 = 4 ∧ ∃ k, ¬ a.2.2.1 k ∧ b = newL a k (hvT t) a.2.2.2.1 a.2.2.2.2)
def LY : TL → LSt → LSt → Prop
  | [], a, b => a = b
  | t :: T, a, b => ∃ c, LY T a c ∧ L1 t c b
theorem LY_app : ∀ (A B : TL) (a b : LSt), LY (A ++ B) a b → ∃ c, LY B a c ∧ LY A c b
  | [], B, a, b, h => ⟨b, h, rfl⟩
  | t :: A, B, a, b, ⟨c, h1, h2⟩ => by
    obtain ⟨d, h3, h4⟩ := LY_app A B a c h1
    exact ⟨d, h3, c, h4, h2⟩
theorem LY_one {t : Int32 × Int32} {a b : LSt} (h : LY [t] a b) : L1 t a b := by
  obtain ⟨c, h1, h2⟩ := h
  have h1 : a = c := h1
  rw [h1]
  exact h2
def GDl (a : LSt) : Prop := SI a.1 a.2.1 ro0 a.2.2.1 ∧ (inU a.2.2.1 a.2.2.2.1 ∧ isL_ a.2.2.2.1) ∧ ∀ P ∈ a.2.2.2.2, inU a.2.2.1 P ∧ isL_ P
def XT (a b : LSt) : Prop := Ext a.2.2.1 a.1 a.2.1 ro0 b.1 b.2.1 ro0 ∧ ∀ x, a.2.2.1 x → b.2.2.1 x
theorem XT_rfl (a : LSt) : XT a a := ⟨fun i _ => ⟨rfl, rfl, fun _ => rfl⟩, fun x h => h⟩
theorem XT_tr {a b c : LSt} (h1 : XT a b) (h2 : XT b c) : XT a c := by
  refine ⟨fun i hi => ?_, fun x h => h2.2 x (h1.2 x h)⟩
  obtain ⟨p1, p2, p3⟩ := h1.1 i hi
  obtain ⟨q1, q2, q3⟩ := h2.1 i (h1.2 i hi)
  exact ⟨q1.trans p1, q2.trans p2, fun w => (q3 (p2.trans w)).trans (p3 w)⟩
theorem isL_gF {H T : Nat → Vl} {ro : Nat → Bool} {v : Vl} (h : isL_ v) : gF H T ro v := by
  rcases h with rfl | ⟨a, rfl⟩
  · exact gF_nil
  · exact gF_pr
theorem hv_ok {H T : Nat → Vl} {ro : Nat → Bool} {U : Nat → Prop} (t : Int32 × Int32) : inU U (hvT t) ∧ gF H T ro (hvT t) := by
  unfold hvT
  split
  · exact ⟨nil_inU, gF_nil⟩
  · split
    · exact ⟨fun b e => (by cases e), fun f e => (by cases e)⟩
    · exact ⟨int_inU, gF_int⟩
theorem new_gd {a : LSt} {k : Nat} {h t : Vl} {ps : List Vl} (ha : GDl a) (hk : ¬ a.2.2.1 k) (h1 : inU a.2.2.1 h ∧ gF a.1 a.2.1 ro0 h) (h2 : inU a.2.2.1 t ∧ isL_ t) (h3 : ∀ P ∈ ps, inU a.2.2.1 P ∧ isL_ P) : GDl (newL a k h t ps) ∧ XT a (newL a k h t ps) := by
  have hs := SI_new (b := false) ha.1 hk h1.1 h2.1 h1.2 (isL_gF h2.2) (fun q => by cases q)
  have hx := Ext_new (H := a.1) (T := a.2.1) (ro := ro0) (h := h) (t := t) (b := false) hk
  rw [upW_ro0] at hs hx
  exact ⟨⟨hs, ⟨pr_inU new_in, Or.inr ⟨k, rfl⟩⟩, fun P hP => ⟨in_new (h3 P hP).1, (h3 P hP).2⟩⟩, hx, fun x hx => Or.inl hx⟩
theorem L1_gd {t : Int32 × Int32} {a b : LSt} (ha : GDl a) (h : L1 t a b) : GDl b ∧ XT a b := by
  rcases h with ⟨-, rfl⟩ | ⟨-, P, ps, k, e, hk, rfl⟩ | ⟨-, -, k, hk, rfl⟩
  · refine ⟨⟨ha.1, ⟨nil_inU, Or.inl rfl⟩, fun P hP => ?_⟩, fun i _ => ⟨rfl, rfl, fun _ => rfl⟩, fun x h => h⟩
    have hP : P ∈ a.2.2.2.1 :: a.2.2.2.2 := hP
    rcases List.mem_cons.mp hP with w | w
    · rw [w]
      exact ha.2.1
    · exact ha.2.2 P w
  · refine new_gd ha hk ⟨ha.2.1.1, isL_gF ha.2.1.2⟩ ?_ (fun P2 hP => ?_)
    · exact ha.2.2 P (by rw [e]; exact List.mem_cons_self)
    · exact ha.2.2 P2 (by rw [e]; exact List.mem_cons_of_mem _ hP)
  · exact new_gd ha hk (hv_ok t) ha.2.1 ha.2.2
theorem LY_gd : ∀ (T : TL) (a b : LSt), GDl a → LY T a b → GDl b ∧ XT a b
  | [], a, b, ha, h => by
    have h : a = b := h
    subst h
    exact ⟨ha, XT_rfl a⟩
  | t :: T, a, b, ha, ⟨c, h1, h2⟩ => by
    obtain ⟨g1, g2⟩ := LY_gd T a c ha h1
    obtain ⟨g3, g4⟩ := L1_gd g1 h2
    exact ⟨g3, XT_tr g2 g4⟩
def WTl (a : LSt) (v : Vl) (k : Sk) (n : Nat) (b : Bool) (e : En) : Prop := wtx a.1 a.2.1 ro0 v k n b e
theorem WT_x {a b : LSt} {v : Vl} {k : Sk} {n : Nat} {β : Bool} {e : En} (ha : GDl a) (hx : XT a b) (hv : inU a.2.2.1 v) (h : WTl a v k n β e) : WTl b v k n β e := wtx_ext ha.1 hx.1 hv h
theorem wt_le {H T : Nat → Vl} {ro : Nat → Bool} {v : Vl} {k : Sk} {n : Nat} {b : Bool} {e : En} {f : Nat} (h : wt H T ro f v k n b e) : ∀ j, wt H T ro (f + j) v k n b e
  | 0 => h
  | j + 1 => wt_mono _ _ _ _ _ _ (wt_le h j)
theorem WT_b {a : LSt} {v : Vl} {k : Sk} {n : Nat} (β : Bool) {e : En} (h : WTl a v k n false e) : WTl a v k n β e := by
  obtain ⟨f, h⟩ := h
  exact ⟨f, wt_b f _ _ _ _ _ h⟩
theorem L1_int {v : Int32} {a b : LSt} (ha : GDl a) (h : L1 (1, v) a b) : ∃ c, b.2.2.2.1 = vPr c ∧ b.1 c = vInt v ∧ b.2.1 c = a.2.2.2.1 ∧ b.2.2.2.2 = a.2.2.2.2 ∧ GDl b ∧ XT a b := by
  obtain ⟨g1, g2⟩ := L1_gd ha h
  rcases h with ⟨q, -⟩ | ⟨q, -⟩ | ⟨-, -, k, hk, rfl⟩
  · exact absurd (show (1 : Int32) = 5 from q) (by decide)
  · exact absurd (show (1 : Int32) = 4 from q) (by decide)
  · exact ⟨k, rfl, if_pos rfl, if_pos rfl, rfl, g1, g2⟩
section YJ
variable {a b : LSt} {k : Sk} {n : Nat} {e : En} {i : Int32}
theorem op_wt (ha : GDl a) (h : L1 (1, i) a b) {k0 : Sk} {n0 : Nat} {β : Bool} {e0 : En} (hw : ∀ c f, wt b.1 b.2.1 ro0 f (b.2.1 c) k n false e → b.2.1 c = a.2.2.2.1 → b.1 c = vInt i → wt b.1 b.2.1 ro0 (f + 1) (vPr c) k0 n0 β e0) (hk : WTl a a.2.2.2.1 k n false e) : WTl b b.2.2.2.1 k0 n0 β e0 ∧ b.2.2.2.2 = a.2.2.2.2 := by
  obtain ⟨c, q1, q2, q3, q4, q5, q6⟩ := L1_int ha h
  obtain ⟨f, hf⟩ := WT_x ha q6 ha.2.1.1 hk
  refine ⟨?_, q4⟩
  rw [q1]
  refine ⟨f + 1, hw c f ?_ q3 q2⟩
  rw [q3]
  exact hf
theorem o_4 (ha : GDl a) (h : L1 (1, 4) a b) (hk : WTl a a.2.2.2.1 (false :: k) n false e) : WTl b b.2.2.2.1 (false :: true :: k) n false e ∧ b.2.2.2.2 = a.2.2.2.2 :=
  op_wt ha h (fun c f hw _ hi => ⟨c, 4, rfl, rfl, hi, Or.inr (Or.inr (Or.inr (Or.inl ⟨rfl, false, k, rfl, hw⟩)))⟩) hk
theorem o_6 (ha : GDl a) (h : L1 (1, 6) a b) (hk : WTl a a.2.2.2.1 k (n + 1) false e) : WTl b b.2.2.2.1 k n false e ∧ b.2.2.2.2 = a.2.2.2.2 :=
  op_wt ha h (fun c f hw _ hi => ⟨c, 6, rfl, rfl, hi, Or.inr (Or.inr (Or.inr (Or.inr (Or.inr (Or.inl ⟨rfl, hw⟩)))))⟩) hk
theorem o_7 (ha : GDl a) (h : L1 (1, 7) a b) (hk : WTl a a.2.2.2.1 (false :: k) n false e) : WTl b b.2.2.2.1 (false :: true :: k) (n + 1) true e ∧ b.2.2.2.2 = a.2.2.2.2 :=
  op_wt ha h (fun c f hw _ hi => ⟨c, 7, rfl, rfl, hi, Or.inr (Or.inr (Or.inr (Or.inr (Or.inr (Or.inr (Or.inl ⟨rfl, false, k, rfl, by omega, rfl, hw⟩))))))⟩) hk
theorem o_1 (ha : GDl a) (hi : i = 10 ∨ i = 11 ∨ i = 12) (h : L1 (1, i) a b) (hk : WTl a a.2.2.2.1 (false :: k) n false e) : WTl b b.2.2.2.1 (false :: k) n false e ∧ b.2.2.2.2 = a.2.2.2.2 :=
  op_wt ha h (fun c f hw _ hh => ⟨c, i, rfl, rfl, hh, Or.inr (Or.inr (Or.inr (Or.inr (Or.inr (Or.inr (Or.inr (Or.inr (Or.inr (Or.inl ⟨hi, false, k, rfl, hw⟩)))))))))⟩) hk
theorem o_2 (ha : GDl a) (hi : i = 13 ∨ i = 14 ∨ i = 15 ∨ i = 16 ∨ i = 17 ∨ i = 18) (h : L1 (1, i) a b) (hk : WTl a a.2.2.2.1 (false :: k) n false e) : WTl b b.2.2.2.1 (false :: false :: k) n false e ∧ b.2.2.2.2 = a.2.2.2.2 :=
  op_wt ha h (fun c f hw _ hh => ⟨c, i, rfl, rfl, hh, Or.inr (Or.inr (Or.inr (Or.inr (Or.inr (Or.inr (Or.inr (Or.inr (Or.inr (Or.inr (Or.inl ⟨hi, false, false, false, k, rfl, fun q => (by cases q), hw⟩))))))))))⟩) hk
theorem o_13 (ha : GDl a) (h : L1 (1, 13) a b) (hk : WTl a a.2.2.2.1 (true :: k) n false e) : WTl b b.2.2.2.1 (false :: true :: k) n false e ∧ b.2.2.2.2 = a.2.2.2.2 :=
  op_wt ha h (fun c f hw _ hh => ⟨c, 13, rfl, rfl, hh, Or.inr (Or.inr (Or.inr (Or.inr (Or.inr (Or.inr (Or.inr (Or.inr (Or.inr (Or.inr (Or.inl ⟨Or.inl rfl, false, true, true, k, rfl, fun _ => ⟨rfl, rfl⟩, hw⟩))))))))))⟩) hk
theorem end_wt (ha : GDl a) (h : L1 (1, i) a b) {k0 : Sk} {n0 : Nat} {e0 : En} (hw : ∀ c, b.1 c = vInt i → wt b.1 b.2.1 ro0 1 (vPr c) k0 n0 false e0) : WTl b b.2.2.2.1 k0 n0 false e0 ∧ b.2.2.2.2 = a.2.2.2.2 := by
  obtain ⟨c, q1, q2, q3, q4, q5, q6⟩ := L1_int ha h
  refine ⟨?_, q4⟩
  rw [q1]
  exact ⟨1, hw c q2⟩
theorem o_5 (ha : GDl a) (h : L1 (1, 5) a b) : WTl b b.2.2.2.1 [false] 1 false eRet ∧ b.2.2.2.2 = a.2.2.2.2 :=
  end_wt ha h (fun c hh => ⟨c, 5, rfl, rfl, hh, Or.inr (Or.inr (Or.inr (Or.inr (Or.inl ⟨rfl, false, [], rfl, rfl⟩))))⟩)
theorem o_9 (ha : GDl a) (h : L1 (1, 9) a b) : WTl b b.2.2.2.1 (false :: k) n false (eJoin (false :: k) n) ∧ b.2.2.2.2 = a.2.2.2.2 :=
  end_wt ha h (fun c hh => ⟨c, 9, rfl, rfl, hh, Or.inr (Or.inr (Or.inr (Or.inr (Or.inr (Or.inr (Or.inr (Or.inr (Or.inl ⟨rfl, rfl⟩))))))))⟩)
theorem o_19 (ha : GDl a) (h : L1 (1, 19) a b) : WTl b b.2.2.2.1 [false] 0 false eStop ∧ b.2.2.2.2 = a.2.2.2.2 :=
  end_wt ha h (fun c hh => ⟨c, 19, rfl, rfl, hh, Or.inr (Or.inr (Or.inr (Or.inr (Or.inr (Or.inr (Or.inr (Or.inr (Or.inr (Or.inr (Or.inr ⟨rfl, false, [], rfl, rfl⟩))))))))))⟩)
end YJ
def LTy (T : TL) : Prop := ∀ a b, GDl a → LY T a b → b.2.2.2.2 = a.2.2.2.2 ∧ ∀ k n e, WTl a a.2.2.2.1 (false :: k) n false e → WTl b b.2.2.2.1 k n false e
theorem lst_wt {i : Int32} {t : Tau} {φ : Fr} {a b : LSt} (ha : GDl a) (h : LY (lstT i t φ) a b) (ht : LTy (t φ)) {k1 : Sk} {n1 : Nat} {e1 : En} (hi : ∀ a' b', GDl a' → L1 (1, i) a' b' → WTl b' b'.2.2.2.1 (false :: k1) n1 false e1 ∧ b'.2.2.2.2 = a'.2.2.2.2) : ∃ c, b.2.2.2.1 = vPr c ∧ b.2.1 c = a.2.2.2.1 ∧ WTl b (b.1 c) k1 n1 false e1 ∧ b.2.2.2.2 = a.2.2.2.2 ∧ GDl b ∧ XT a b := by
  obtain ⟨gb, xb⟩ := LY_gd _ _ _ ha h
  obtain ⟨d, h1, h2⟩ := h
  obtain ⟨a2, h3, h4⟩ := LY_app _ _ _ _ h1
  obtain ⟨a1, h5, h6⟩ := h3
  have h5 := LY_one h5
  obtain ⟨g1, x1⟩ := L1_gd ha h5
  obtain ⟨g2, x2⟩ := L1_gd g1 h6
  obtain ⟨g3, x3⟩ := LY_gd _ _ _ g2 h4
  obtain ⟨w1, w2⟩ := hi a1 a2 g1 h6
  obtain ⟨w3, w4⟩ := ht a2 d g2 h4
  have w5 := w4 k1 n1 e1 w1
  rcases h5 with ⟨-, rfl⟩ | ⟨q, -⟩ | ⟨q, -⟩
  · have ep : d.2.2.2.2 = a.2.2.2.1 :: a.2.2.2.2 := w3.trans w2
    obtain ⟨g4, x4⟩ := L1_gd g3 h2
    rcases h2 with ⟨q, -⟩ | ⟨-, P, ps, c, e, hc, rfl⟩ | ⟨-, q, -⟩
    · exact absurd (show (4 : Int32) = 5 from q) (by decide)
    · rw [ep] at e
      injection e with e1 e2
      have eh : (newL d c d.2.2.2.1 P ps).1 c = d.2.2.2.1 := if_pos rfl
      have et : (newL d c d.2.2.2.1 P ps).2.1 c = P := if_pos rfl
      refine ⟨c, rfl, et.trans e1.symm, ?_, e2.symm, gb, xb⟩
      rw [eh]
      exact WT_x g3 x4 g3.2.1.1 w5
    · exact absurd rfl q
  · exact absurd (show (5 : Int32) = 4 from q) (by decide)
  · exact absurd rfl q
end
section
theorem L1_at {t : Int32 × Int32} {a b : LSt} (ha : GDl a) (h5 : ¬ t.1 = 5) (h4 : ¬ t.1 = 4) (h : L1 t a b) : ∃ c, b.2.2.2.1 = vPr c ∧ b.1 c = hvT t ∧ b.2.1 c = a.2.2.2.1 ∧ b.2.2.2.2 = a.2.2.2.2 ∧ GDl b ∧ XT a b := by
  obtain ⟨g1, g2⟩ := L1_gd ha h
  rcases h with ⟨q, -⟩ | ⟨q, -⟩ | ⟨-, -, k, hk, rfl⟩
  · exact absurd q h5
  · exact absurd q h4
  · exact ⟨k, rfl, if_pos rfl, if_pos rfl, rfl, g1, g2⟩
theorem const_wt {a c b : LSt} {d : Nat} {t : Bool} {k : Sk} {n : Nat} {e : En} (ha : GDl a) (gc : GDl c) (xc : XT a c) (e1 : c.2.2.2.1 = vPr d) (e2 : c.2.1 d = a.2.2.2.1) (hv : t = true → c.1 d = vNil) (h : L1 (1, 1) c b) (hw : WTl a a.2.2.2.1 (t :: k) n false e) : WTl b b.2.2.2.1 k n false e ∧ b.2.2.2.2 = c.2.2.2.2 := by
  obtain ⟨c0, q1, q2, q3, q4, q5, q6⟩ := L1_int gc h
  have ud : c.2.2.1 d := inU_pr (by rw [← e1]; exact gc.2.1.1)
  obtain ⟨y1, -, y3⟩ := q6.1 d ud
  obtain ⟨f, hf⟩ := WT_x ha (XT_tr xc q6) ha.2.1.1 hw
  refine ⟨?_, q4⟩
  rw [q1]
  refine ⟨f + 1, c0, 1, rfl, rfl, q2, Or.inl ⟨rfl, d, t, q3.trans e1, rfl, fun w => (y3 rfl).trans (hv w), ?_⟩⟩
  rw [y1, e2]
  exact hf
def LDy (D : TL) : Prop := ∀ a b, GDl a → LY D a b → b.2.2.2.2 = a.2.2.2.2 ∧ ∃ d, b.2.2.2.1 = vPr d ∧ b.2.1 d = a.2.2.2.1
def SDy (b : Bool) : Nat → TL → Prop
  | 0, D => if b = true then D = [] else LDy D
  | o + 1, D => ∀ x y, GDl x → LY D x y → ∃ xs : List Vl, xs.length = o ∧ y.2.2.2.2 = xs ++ (x.2.2.2.1 :: x.2.2.2.2)
theorem SDy_b {o : Nat} {D : TL} {b b' : Bool} (h : SDy b (o + 1) D) : SDy b' (o + 1) D := h
theorem SD_atom {t : Int32 × Int32} (h5 : ¬ t.1 = 5) (h4 : ¬ t.1 = 4) {D : TL} : ∀ {o : Nat}, SDy true o D → SDy false o (t :: D)
  | 0, h => by
    have h : D = [] := h
    subst h
    intro a b ha hl
    obtain ⟨c, q1, q2, q3, q4, -⟩ := L1_at ha h5 h4 (LY_one hl)
    exact ⟨q4, c, q1, q3⟩
  | o + 1, h => by
    intro x y gx hl
    obtain ⟨c, h1, h2⟩ := hl
    obtain ⟨g1, x1⟩ := LY_gd _ _ _ gx h1
    obtain ⟨xs, q1, q2⟩ := h x c gx h1
    obtain ⟨-, -, -, -, q4, -⟩ := L1_at g1 h5 h4 h2
    exact ⟨xs, q1, q4.trans q2⟩
theorem SD_open {D : TL} {b : Bool} {o : Nat} (h : SDy b (o + 1) D) : SDy false o ((4, 0) :: D) := by
  have key : ∀ x y, GDl x → LY ((4, 0) :: D) x y → ∃ xs : List Vl, xs.length = o ∧ ∃ c P ps k, xs ++ (x.2.2.2.1 :: x.2.2.2.2) = P :: ps ∧ y = newL c k c.2.2.2.1 P ps := by
    intro x y gx hl
    obtain ⟨c, h1, h2⟩ := hl
    obtain ⟨xs, q1, q2⟩ := h x c gx h1
    rcases h2 with ⟨q, -⟩ | ⟨-, P, ps, k, e, hk, rfl⟩ | ⟨-, q, -⟩
    · exact absurd (show (4 : Int32) = 5 from q) (by decide)
    · exact ⟨xs, q1, c, P, ps, k, q2.symm.trans e, rfl⟩
    · exact absurd rfl q
  cases o with
  | zero =>
    intro a b ha hl
    obtain ⟨xs, q1, c, P, ps, k, q2, rfl⟩ := key a b ha hl
    have : xs = [] := List.length_eq_zero_iff.mp q1
    subst this
    injection q2 with e1 e2
    exact ⟨e2.symm, k, rfl, (if_pos rfl : upW c.2.1 k P k = P).trans e1.symm⟩
  | succ o =>
    intro x y gx hl
    obtain ⟨xs, q1, c, P, ps, k, q2, rfl⟩ := key x y gx hl
    cases xs with
    | nil => cases q1
    | cons x0 xs =>
      injection q2 with e1 e2
      exact ⟨xs, by rw [List.length_cons] at q1; omega, e2.symm⟩
theorem SD_close {D : TL} : ∀ {o : Nat}, SDy true o D → SDy true (o + 1) ((5, 0) :: D)
  | 0, h => by
    have h : D = [] := h
    subst h
    intro x y gx hl
    rcases LY_one hl with ⟨-, rfl⟩ | ⟨q, -⟩ | ⟨q, -⟩
    · exact ⟨[], rfl, rfl⟩
    · exact absurd (show (5 : Int32) = 4 from q) (by decide)
    · exact absurd rfl q
  | o + 1, h => by
    intro x y gx hl
    obtain ⟨c, h1, h2⟩ := hl
    obtain ⟨xs, q1, q2⟩ := h x c gx h1
    rcases h2 with ⟨-, rfl⟩ | ⟨q, -⟩ | ⟨q, -⟩
    · refine ⟨c.2.2.2.1 :: xs, by rw [List.length_cons, q1], ?_⟩
      show c.2.2.2.1 :: c.2.2.2.2 = _
      rw [q2]
      rfl
    · exact absurd (show (5 : Int32) = 4 from q) (by decide)
    · exact absurd rfl q
theorem gD_sd {tx : Nat → Nat} : ∀ (f : Nat) (b : Bool) (o d a : Nat) (D : TL) (a' : Nat), gD tx f b o d a = .inl (D, a') → SDy b o D
  | 0, b, o, d, a, D, a', h => by cases h
  | f + 1, false, o, d, a, D, a', h => by
    have e0 : gD tx (f + 1) false o d a = if tx a = 40 then (if d + o < 9 then cns (4, 0) (gD tx f (decide (tx (a + 1) = 41)) (o + 1) d (a + 1)) else .inr a) else if cL (tx a) then cns (2, nI (tx a)) (gD tx f true o d (a + 1)) else if cD (tx (pA1 tx a)) then cns (1, pVal tx a) (gD tx f true o d (pDg tx 4 (pA1 tx a) 0).1) else .inr (pA1 tx a) := rfl
    rw [e0] at h
    split at h
    · split at h
      · obtain ⟨D2, q1, q2⟩ := cns_inv h
        rw [q2]
        exact SD_open (gD_sd f _ _ _ _ _ _ q1)
      · cases h
    · split at h
      · obtain ⟨D2, q1, q2⟩ := cns_inv h
        rw [q2]
        exact SD_atom (show ¬ (2 : Int32) = 5 by decide) (show ¬ (2 : Int32) = 4 by decide) (gD_sd f _ _ _ _ _ _ q1)
      · split at h
        · obtain ⟨D2, q1, q2⟩ := cns_inv h
          rw [q2]
          exact SD_atom (show ¬ (1 : Int32) = 5 by decide) (show ¬ (1 : Int32) = 4 by decide) (gD_sd f _ _ _ _ _ _ q1)
        · cases h
  | f + 1, true, 0, d, a, D, a', h => by
    have h : (Sum.inl ([], a) : (TL × Nat) ⊕ Nat) = .inl (D, a') := h
    cases h
    rfl
  | f + 1, true, o + 1, d, a, D, a', h => by
    have e1 : gD tx (f + 1) true (o + 1) d a = if tx a = 41 then cns (5, 0) (gD tx f true o d (a + 1)) else if tx a = 32 then gD tx f false (o + 1) d (a + 1) else .inr a := rfl
    rw [e1] at h
    split at h
    · obtain ⟨D2, q1, q2⟩ := cns_inv h
      rw [q2]
      exact SD_close (gD_sd f _ _ _ _ _ _ q1)
    · split at h
      · exact SDy_b (gD_sd f false (o + 1) d (a + 1) D a' h)
      · cases h
theorem row_ty {φ : Fr} : ∀ (ks : List Kd), (∀ k ∈ ks, LTy (k.1 φ)) → ∀ a b, GDl a → LY (rowT ks φ) a b → b.2.2.2.2 = a.2.2.2.2 ∧ ∀ k n e, WTl a a.2.2.2.1 (true :: k) n false e → WTl b b.2.2.2.1 k n false e
  | [], _, a, b, ha, h => by
    obtain ⟨c, h1, h2⟩ := h
    obtain ⟨d, q1, q2, q3, q4, q5, q6⟩ := L1_at ha (show ¬ (0 : Int32) = 5 by decide) (show ¬ (0 : Int32) = 4 by decide) (LY_one h1)
    refine ⟨?_, fun k n e hw => ?_⟩
    · obtain ⟨-, -, -, -, w, -⟩ := L1_int q5 h2
      exact w.trans q4
    · exact (const_wt (t := true) ha q5 q6 q1 q3 (fun _ => q2) h2 hw).1
  | k0 :: ks, hks, a, b, ha, h => by
    have h : LY (rowT ks φ ++ (k0.1 φ ++ [(1, 13)])) a b := h
    obtain ⟨c, h1, h2⟩ := LY_app _ _ _ _ h
    obtain ⟨d, h3, h4⟩ := LY_app _ _ _ _ h1
    have h3 := LY_one h3
    obtain ⟨g1, x1⟩ := L1_gd ha h3
    obtain ⟨g2, x2⟩ := LY_gd _ _ _ g1 h4
    obtain ⟨p1, p2⟩ := hks k0 List.mem_cons_self d c g1 h4
    obtain ⟨r1, r2⟩ := row_ty ks (fun k hk => hks k (List.mem_cons_of_mem _ hk)) c b g2 h2
    obtain ⟨-, -, -, -, w, -⟩ := L1_int ha h3
    refine ⟨r1.trans (p1.trans w), fun k n e hw => r2 k n e (p2 (true :: k) n e (o_13 ha h3 hw).1)⟩
theorem bo_ty {a : Kd} {ls : List Nat} {φ : Fr} (ht : LTy (a.1 (ls :: φ))) {x y : LSt} (hx : GDl x) (h : LY (boT a ls φ) x y) : y.2.2.2.2 = x.2.2.2.2 ∧ ∀ k n e, WTl x x.2.2.2.1 (false :: k) n (decide (0 < n)) e → WTl y y.2.2.2.1 k n false e := by
  obtain ⟨c, h1, h2⟩ := h
  obtain ⟨d, q1, q2, q3, q4, q5, q6⟩ := lst_wt hx h1 ht (k1 := []) (n1 := 1) (e1 := eRet) (fun a' b' g w => o_5 g w)
  obtain ⟨c0, p1, p2, p3, p4, p5, p6⟩ := L1_int q5 h2
  refine ⟨p4.trans q4, fun k n e hw => ?_⟩
  have ud : c.2.2.1 d := inU_pr (by rw [← q1]; exact q5.2.1.1)
  obtain ⟨y1, -, y3⟩ := p6.1 d ud
  obtain ⟨f1, hf1⟩ := WT_x q5 p6 (SI_h q5.1 ud) q3
  obtain ⟨f2, hf2⟩ := WT_x hx (XT_tr q6 p6) hx.2.1.1 hw
  rw [p1]
  refine ⟨f1 + f2 + 1, c0, 3, rfl, rfl, p2, Or.inr (Or.inr (Or.inl ⟨rfl, d, p3.trans q1, rfl, ?_, ?_⟩))⟩
  · rw [y3 rfl]
    exact wt_le hf1 f2
  · rw [y1, q2, Nat.add_comm f1 f2]
    exact wt_le hf2 f1
end
section
def okTt (T : TL) : Prop := ∀ x ∈ T, x.1 = 6 → ∃ X, X < 10000 ∧ x.2 = nI X
theorem okT_l {A B : TL} (h : okTt (A ++ B)) : okTt A := fun x hx => h x (List.mem_append.mpr (Or.inl hx))
theorem okT_r {A B : TL} (h : okTt (A ++ B)) : okTt B := fun x hx => h x (List.mem_append.mpr (Or.inr hx))
theorem okT_c {t : Int32 × Int32} {B : TL} (h : okTt (t :: B)) : okTt B := fun x hx => h x (List.mem_cons_of_mem _ hx)
theorem okT_lst {i : Int32} {t : Tau} {φ : Fr} (h : okTt (lstT i t φ)) : okTt (t φ) := okT_l (okT_c h)
theorem okT_row {φ : Fr} : ∀ (ks : List Kd), okTt (rowT ks φ) → ∀ k ∈ ks, okTt (k.1 φ)
  | [], _, k, hk => by cases hk
  | k0 :: ks, h, k, hk => by
    have h : okTt (rowT ks φ ++ (k0.1 φ ++ [(1, 13)])) := h
    rcases List.mem_cons.mp hk with w | w
    · rw [w]
      exact okT_l (okT_r h)
    · exact okT_row ks (okT_l h) k w
theorem cd_1 {c : Nat} (h : ar c = 1) : cdO c = 10 ∨ cdO c = 11 ∨ cdO c = 12 := by
  unfold ar at h
  split at h
  · omega
  · split at h
    · next w =>
      rcases w with w | w | w <;> subst w
      · exact Or.inl rfl
      · exact Or.inr (Or.inl rfl)
      · exact Or.inr (Or.inr rfl)
    · split at h <;> omega
theorem cd_2 {c : Nat} (h : ar c = 2) : cdO c = 13 ∨ cdO c = 14 ∨ cdO c = 15 ∨ cdO c = 16 ∨ cdO c = 17 ∨ cdO c = 18 := by
  unfold ar at h
  split at h
  · next w =>
    rcases w with w | w | w | w | w | w <;> subst w <;> decide
  · split at h
    · omega
    · split at h <;> omega
def htT : TL → Option Nat
  | [] => some 0
  | t :: T => match htT T with
    | none => none
    | some h => if t.1 = 5 then some (h + 1) else if t.1 = 4 then (match h with
      | 0 => none
      | h + 1 => some h) else some h
def HTy (T : TL) (o : Nat) : Prop := ∀ B h, htT B = some h → htT (T ++ B) = some (h + o)
theorem HT_nil : HTy [] 0 := fun B h e => e
theorem HT_app {A B : TL} {o p : Nat} (hA : HTy A o) (hB : HTy B p) : HTy (A ++ B) (o + p) := by
  intro C h e
  rw [List.append_assoc, hA _ _ (hB C h e)]
  congr 1
  omega
theorem HT_c {t : Int32 × Int32} {A : TL} {o : Nat} (h5 : ¬ t.1 = 5) (h4 : ¬ t.1 = 4) (hA : HTy A o) : HTy (t :: A) o := by
  intro B h e
  show (match htT (A ++ B) with | none => none | some h => if t.1 = 5 then some (h + 1) else if t.1 = 4 then (match h with | 0 => none | h + 1 => some h) else some h) = _
  rw [hA B h e]
  show (if t.1 = 5 then some (h + o + 1) else if t.1 = 4 then _ else some (h + o)) = _
  rw [if_neg h5, if_neg h4]
theorem HT_5 {v : Int32} {A : TL} {o : Nat} (hA : HTy A o) : HTy ((5, v) :: A) (o + 1) := by
  intro B h e
  show (match htT (A ++ B) with | none => none | some h => if (5 : Int32) = 5 then some (h + 1) else if (5 : Int32) = 4 then (match h with | 0 => none | h + 1 => some h) else some h) = _
  rw [hA B h e]
  rfl
theorem HT_4 {v : Int32} {A : TL} {o : Nat} (hA : HTy A (o + 1)) : HTy ((4, v) :: A) o := by
  intro B h e
  show (match htT (A ++ B) with | none => none | some h => if (4 : Int32) = 5 then some (h + 1) else if (4 : Int32) = 4 then (match h with | 0 => none | h + 1 => some h) else some h) = _
  rw [hA B h e]
  rfl
theorem HT_1 {v : Int32} : HTy [(1, v)] 0 := HT_c (show ¬ (1 : Int32) = 5 by decide) (show ¬ (1 : Int32) = 4 by decide) HT_nil
theorem HT_lst {i : Int32} {t : Tau} {φ : Fr} (h : HTy (t φ) 0) : HTy (lstT i t φ) 0 := by
  unfold lstT
  have h1 : HTy [((1 : Int32), i), (5, 0)] 1 := HT_c (show ¬ (1 : Int32) = 5 by decide) (show ¬ (1 : Int32) = 4 by decide) (HT_5 HT_nil)
  have h2 := HT_app h h1
  exact HT_4 h2
theorem HT_row {φ : Fr} : ∀ (ks : List Kd), (∀ k ∈ ks, HTy (k.1 φ) 0) → HTy (rowT ks φ) 0
  | [], _ => HT_c (show ¬ (1 : Int32) = 5 by decide) (show ¬ (1 : Int32) = 4 by decide) (HT_c (show ¬ (0 : Int32) = 5 by decide) (show ¬ (0 : Int32) = 4 by decide) HT_nil)
  | k :: ks, h => HT_app (HT_row ks (fun k hk => h k (List.mem_cons_of_mem _ hk))) (HT_app (h k List.mem_cons_self) HT_1)
theorem HT_bo {a : Kd} {ls : List Nat} {φ : Fr} (h : HTy (a.1 (ls :: φ)) 0) : HTy (boT a ls φ) 0 := HT_c (show ¬ (1 : Int32) = 5 by decide) (show ¬ (1 : Int32) = 4 by decide) (HT_lst h)
theorem gD_ht {tx : Nat → Nat} : ∀ (f : Nat) (b : Bool) (o d a : Nat) (D : TL) (a' : Nat), gD tx f b o d a = .inl (D, a') → HTy D o
  | 0, b, o, d, a, D, a', h => by cases h
  | f + 1, false, o, d, a, D, a', h => by
    have e0 : gD tx (f + 1) false o d a = if tx a = 40 then (if d + o < 9 then cns (4, 0) (gD tx f (decide (tx (a + 1) = 41)) (o + 1) d (a + 1)) else .inr a) else if cL (tx a) then cns (2, nI (tx a)) (gD tx f true o d (a + 1)) else if cD (tx (pA1 tx a)) then cns (1, pVal tx a) (gD tx f true o d (pDg tx 4 (pA1 tx a) 0).1) else .inr (pA1 tx a) := rfl
    rw [e0] at h
    split at h
    · split at h
      · obtain ⟨D2, q1, q2⟩ := cns_inv h
        rw [q2]
        exact HT_4 (gD_ht f _ _ _ _ _ _ q1)
      · cases h
    · split at h
      · obtain ⟨D2, q1, q2⟩ := cns_inv h
        rw [q2]
        exact HT_c (show ¬ (2 : Int32) = 5 by decide) (show ¬ (2 : Int32) = 4 by decide) (gD_ht f _ _ _ _ _ _ q1)
      · split at h
        · obtain ⟨D2, q1, q2⟩ := cns_inv h
          rw [q2]
          exact HT_c (show ¬ (1 : Int32) = 5 by decide) (show ¬ (1 : Int32) = 4 by decide) (gD_ht f _ _ _ _ _ _ q1)
        · cases h
  | f + 1, true, 0, d, a, D, a', h => by
    have h : (Sum.inl ([], a) : (TL × Nat) ⊕ Nat) = .inl (D, a') := h
    cases h
    exact HT_nil
  | f + 1, true, o + 1, d, a, D, a', h => by
    have e1 : gD tx (f + 1) true (o + 1) d a = if tx a = 41 then cns (5, 0) (gD tx f true o d (a + 1)) else if tx a = 32 then gD tx f false (o + 1) d (a + 1) else .inr a := rfl
    rw [e1] at h
    split at h
    · obtain ⟨D2, q1, q2⟩ := cns_inv h
      rw [q2]
      exact HT_5 (gD_ht f _ _ _ _ _ _ q1)
    · split at h
      · exact gD_ht f false (o + 1) d (a + 1) D a' h
      · cases h
theorem sg_ht {c : Nat} {φ : Fr} : ∀ (ks : List Kd), (∀ k ∈ ks, HTy (k.1 φ) 0) → HTy (sgT c ks φ) 0
  | [], _ => HT_nil
  | [a], h => HT_app (h a List.mem_cons_self) HT_1
  | [a, b], h => by
    show HTy (if c = 46 then b.1 φ ++ (a.1 φ ++ [(1, 13)]) else a.1 φ ++ (b.1 φ ++ [(1, cdO c)])) 0
    have ha := h a List.mem_cons_self
    have hb := h b (List.mem_cons_of_mem _ List.mem_cons_self)
    split
    · exact HT_app hb (HT_app ha HT_1)
    · exact HT_app ha (HT_app hb HT_1)
  | [a, b, d], h => HT_app (h a List.mem_cons_self) (HT_c (show ¬ (1 : Int32) = 5 by decide) (show ¬ (1 : Int32) = 4 by decide) (HT_app (HT_lst (h b (List.mem_cons_of_mem _ List.mem_cons_self))) (HT_lst (h d (List.mem_cons_of_mem _ (List.mem_cons_of_mem _ List.mem_cons_self))))))
  | _ :: _ :: _ :: _ :: _, _ => HT_nil
theorem cR_ht {tx : Nat → Nat} {r : rM} : ∀ (f n e : Nat) (t : Tau), cR tx r f n e t → ∀ φ, HTy (t φ) 0
  | 0, n, e, t, h, φ => absurd h id
  | f + 1, n, e, t, h, φ => by
    rcases h with ⟨h1, h2, h3⟩ | ⟨h1, h2, c, a, h3, h4, h5, h6, h7⟩ | ⟨h1, h2, a, a', d, D, h3, h4, h5, h6, h7⟩ | ⟨ks, l, h1, h2, h3, hT⟩
    · rw [h3]
      exact HT_c (show ¬ (1 : Int32) = 5 by decide) (show ¬ (1 : Int32) = 4 by decide) HT_1
    · rw [h7]
      exact HT_c (show ¬ (1 : Int32) = 5 by decide) (show ¬ (1 : Int32) = 4 by decide) (HT_c (show ¬ (6 : Int32) = 5 by decide) (show ¬ (6 : Int32) = 4 by decide) HT_nil)
    · rw [h7]
      exact HT_c (show ¬ (1 : Int32) = 5 by decide) (show ¬ (1 : Int32) = 4 by decide) (gD_ht _ _ _ _ _ _ _ h5)
    · obtain ⟨A1, -⟩ := cKL_all (fun i m t w => cR_lt (tx := tx) (r := r) f i m t w.1) ks _ _ _ h1
      have kid : ∀ k ∈ ks, ∀ φ, HTy (k.1 φ) 0 := fun k hk φ => by
        obtain ⟨a, b, -, -, w⟩ := A1 k hk
        exact cR_ht f a b k.1 w.1 φ
      rcases hT with ⟨k1, c, c1, c2, c3, c4, rfl⟩ | ⟨k1, a, args, rfl, c2, rfl⟩ | ⟨k1, a, ls, rfl, c2, c3, c4, c5, rfl⟩ | ⟨k1, a, args, ls, rfl, c2, c3, c4, c5, rfl⟩ | ⟨k1, a, args, ls, rfl, c2, c3, c4, c5, rfl⟩
      · exact sg_ht ks (fun k hk => kid k hk φ)
      · exact HT_app (HT_row args (fun k hk => kid k (List.mem_cons_of_mem _ hk) φ)) (HT_app (kid a List.mem_cons_self φ) HT_1)
      · exact HT_bo (kid a List.mem_cons_self _)
      · exact HT_app (HT_row args (fun k hk => kid k (List.mem_cons_of_mem _ hk) φ)) (HT_app (HT_bo (kid a List.mem_cons_self _)) HT_1)
      · exact HT_c (show ¬ (1 : Int32) = 5 by decide) (show ¬ (1 : Int32) = 4 by decide) (HT_app (HT_row args (fun k hk => kid k (List.mem_cons_of_mem _ hk) _)) (HT_app (HT_bo (kid a List.mem_cons_self _)) HT_1))
theorem ty_app {A B : TL} (hA : LTy A) {a b : LSt} (ha : GDl a) (h : LY (A ++ B) a b) {k : Sk} {n : Nat} {e : En} (hB : ∀ c, LY B a c → GDl c → c.2.2.2.2 = a.2.2.2.2 ∧ WTl c c.2.2.2.1 (false :: k) n false e) : b.2.2.2.2 = a.2.2.2.2 ∧ WTl b b.2.2.2.1 k n false e := by
  obtain ⟨c, h1, h2⟩ := LY_app _ _ _ _ h
  obtain ⟨g1, -⟩ := LY_gd _ _ _ ha h1
  obtain ⟨w1, w2⟩ := hB c h1 g1
  obtain ⟨p1, p2⟩ := hA c b g1 h2
  exact ⟨p1.trans w1, p2 k n e w2⟩
theorem row_app {ks : List Kd} {φ : Fr} {B : TL} (hA : ∀ k ∈ ks, LTy (k.1 φ)) {a b : LSt} (ha : GDl a) (h : LY (rowT ks φ ++ B) a b) {k : Sk} {n : Nat} {e : En} (hB : ∀ c, LY B a c → GDl c → c.2.2.2.2 = a.2.2.2.2 ∧ WTl c c.2.2.2.1 (true :: k) n false e) : b.2.2.2.2 = a.2.2.2.2 ∧ WTl b b.2.2.2.1 k n false e := by
  obtain ⟨c, h1, h2⟩ := LY_app _ _ _ _ h
  obtain ⟨g1, -⟩ := LY_gd _ _ _ ha h1
  obtain ⟨w1, w2⟩ := hB c h1 g1
  obtain ⟨p1, p2⟩ := row_ty ks hA c b g1 h2
  exact ⟨p1.trans w1, p2 k n e w2⟩
theorem LTy_of {T : TL} (hp : ∀ a b, GDl a → LY T a b → b.2.2.2.2 = a.2.2.2.2) (hw : ∀ a b, GDl a → LY T a b → ∀ k n e, WTl a a.2.2.2.1 (false :: k) n false e → WTl b b.2.2.2.1 k n false e) : LTy T := fun a b ha h => ⟨hp a b ha h, hw a b ha h⟩
end
section
def PSy (T : TL) : Prop := ∀ a b, GDl a → LY T a b → b.2.2.2.2 = a.2.2.2.2
theorem PS_1 {v : Int32} : PSy [(1, v)] := fun a b ha h => by
  obtain ⟨-, -, -, -, w, -⟩ := L1_int ha (LY_one h)
  exact w
theorem PS_app {A B : TL} (hA : PSy A) (hB : PSy B) : PSy (A ++ B) := fun a b ha h => by
  obtain ⟨c, h1, h2⟩ := LY_app _ _ _ _ h
  obtain ⟨g1, -⟩ := LY_gd _ _ _ ha h1
  exact (hA c b g1 h2).trans (hB a c ha h1)
theorem PS_c {v : Int32} {A : TL} (hA : PSy A) : PSy ((1, v) :: A) := PS_app (A := [(1, v)]) PS_1 hA
theorem PS_lst {i : Int32} {t : Tau} {φ : Fr} (ht : PSy (t φ)) : PSy (lstT i t φ) := by
  intro a b ha h
  obtain ⟨d, h1, h2⟩ := h
  obtain ⟨a2, h3, h4⟩ := LY_app _ _ _ _ h1
  obtain ⟨a1, h5, h6⟩ := h3
  have h5 := LY_one h5
  obtain ⟨g1, x1⟩ := L1_gd ha h5
  obtain ⟨g2, x2⟩ := L1_gd g1 h6
  obtain ⟨-, -, -, -, w2, -⟩ := L1_int g1 h6
  have w3 := ht a2 d g2 h4
  rcases h5 with ⟨-, rfl⟩ | ⟨q, -⟩ | ⟨q, -⟩
  · have ep : d.2.2.2.2 = a.2.2.2.1 :: a.2.2.2.2 := w3.trans w2
    rcases h2 with ⟨q, -⟩ | ⟨-, P, ps, c, e, hc, rfl⟩ | ⟨-, q, -⟩
    · exact absurd (show (4 : Int32) = 5 from q) (by decide)
    · rw [ep] at e
      injection e with e1 e2
      exact e2.symm
    · exact absurd rfl q
  · exact absurd (show (5 : Int32) = 4 from q) (by decide)
  · exact absurd rfl q
theorem LTy_ps {T : TL} (h : LTy T) : PSy T := fun a b ha hl => (h a b ha hl).1
theorem PS_row {φ : Fr} (ks : List Kd) (h : ∀ k ∈ ks, LTy (k.1 φ)) : PSy (rowT ks φ) := fun a b ha hl => (row_ty ks h a b ha hl).1
theorem PS_bo {a : Kd} {ls : List Nat} {φ : Fr} (h : LTy (a.1 (ls :: φ))) : PSy (boT a ls φ) := fun x y hx hl => (bo_ty h hx hl).1
theorem one_ty {i : Int32} {a c : LSt} (h : LY [(1, i)] a c) {k : Sk} {n : Nat} {e : En} (hw : L1 (1, i) a c → WTl c c.2.2.2.1 k n false e ∧ c.2.2.2.2 = a.2.2.2.2) : c.2.2.2.2 = a.2.2.2.2 ∧ WTl c c.2.2.2.1 k n false e := ⟨(hw (LY_one h)).2, (hw (LY_one h)).1⟩
theorem ch_ty {a b d : Tau} {φ : Fr} (ha : LTy (a φ)) (hb : LTy (b φ)) (hd : LTy (d φ)) : LTy (a φ ++ ((1, 8) :: (lstT 9 b φ ++ lstT 9 d φ))) := by
  refine LTy_of (PS_app (LTy_ps ha) (PS_c (PS_app (PS_lst (LTy_ps hb)) (PS_lst (LTy_ps hd))))) (fun x y hx h k n e hw => ?_)
  refine (ty_app ha hx h (fun c h1 g1 => ⟨PS_c (PS_app (PS_lst (LTy_ps hb)) (PS_lst (LTy_ps hd))) x c hx h1, ?_⟩)).2
  obtain ⟨c2, h2, h3⟩ := h1
  obtain ⟨c1, h4, h5⟩ := LY_app _ _ _ _ h2
  obtain ⟨q, p1, p2, p3, -, p5, p6⟩ := lst_wt hx h4 hd (k1 := k) (n1 := n) (e1 := eJoin (false :: k) n) (fun a' b' g w => o_9 g w)
  obtain ⟨d2, s1, s2, s3, -, s5, s6⟩ := lst_wt p5 h5 hb (k1 := k) (n1 := n) (e1 := eJoin (false :: k) n) (fun a' b' g w => o_9 g w)
  obtain ⟨c0, t1, t2, t3, t4, t5, t6⟩ := L1_int s5 h3
  have uq : c1.2.2.1 q := inU_pr (by rw [← p1]; exact p5.2.1.1)
  have ud : c2.2.2.1 d2 := inU_pr (by rw [← s1]; exact s5.2.1.1)
  have x12 := XT_tr s6 t6
  obtain ⟨y1, -, y3⟩ := t6.1 d2 ud
  obtain ⟨z1, -, z3⟩ := x12.1 q uq
  obtain ⟨f1, hf1⟩ := WT_x s5 t6 (SI_h s5.1 ud) s3
  obtain ⟨f2, hf2⟩ := WT_x p5 x12 (SI_h p5.1 uq) p3
  obtain ⟨f3, hf3⟩ := WT_x hx (XT_tr p6 x12) hx.2.1.1 hw
  rw [t1]
  refine ⟨f1 + f2 + f3 + 1, c0, 8, rfl, rfl, t2, Or.inr (Or.inr (Or.inr (Or.inr (Or.inr (Or.inr (Or.inr (Or.inl ⟨rfl, false, k, d2, q, rfl, t3.trans s1, rfl, y1.trans (s2.trans p1), rfl, ?_, ?_, ?_⟩)))))))⟩
  · rw [y3 rfl, Nat.add_assoc]
    exact wt_le hf1 (f2 + f3)
  · rw [z3 rfl, Nat.add_comm f1 f2, Nat.add_assoc]
    exact wt_le hf2 (f1 + f3)
  · rw [z1, p2, Nat.add_comm (f1 + f2) f3]
    exact wt_le hf3 (f1 + f2)
theorem sg_ty {c : Nat} {φ : Fr} : ∀ (ks : List Kd), ks.length = ar c → (∀ k ∈ ks, LTy (k.1 φ)) → 0 < ar c → LTy (sgT c ks φ)
  | [], hl, _, h0 => by
    rw [List.length_nil] at hl
    omega
  | [a], hl, h, _ => by
    have ha := h a List.mem_cons_self
    have hi := cd_1 hl.symm
    refine LTy_of (PS_app (LTy_ps ha) PS_1) (fun x y hx hy k n e hw => ?_)
    exact (ty_app ha hx hy (fun c1 h1 g1 => one_ty h1 (fun w => o_1 hx hi w hw))).2
  | [a, b], hl, h, _ => by
    have ha := h a List.mem_cons_self
    have hb := h b (List.mem_cons_of_mem _ List.mem_cons_self)
    have hi := cd_2 hl.symm
    show LTy (if c = 46 then b.1 φ ++ (a.1 φ ++ [(1, 13)]) else a.1 φ ++ (b.1 φ ++ [(1, cdO c)]))
    split
    · refine LTy_of (PS_app (LTy_ps hb) (PS_app (LTy_ps ha) PS_1)) (fun x y hx hy k n e hw => ?_)
      exact (ty_app hb hx hy (fun c1 h1 g1 => ty_app ha hx h1 (fun c2 h2 g2 => one_ty h2 (fun w => o_2 hx (Or.inl rfl) w hw)))).2
    · refine LTy_of (PS_app (LTy_ps ha) (PS_app (LTy_ps hb) PS_1)) (fun x y hx hy k n e hw => ?_)
      exact (ty_app ha hx hy (fun c1 h1 g1 => ty_app hb hx h1 (fun c2 h2 g2 => one_ty h2 (fun w => o_2 hx hi w hw)))).2
  | [a, b, d], hl, h, _ => ch_ty (h a List.mem_cons_self) (h b (List.mem_cons_of_mem _ List.mem_cons_self)) (h d (List.mem_cons_of_mem _ (List.mem_cons_of_mem _ List.mem_cons_self)))
  | a :: b :: d :: e :: ks, hl, _, _ => by
    have := ar_le c
    rw [List.length_cons, List.length_cons, List.length_cons, List.length_cons] at hl
    omega
theorem okT_sg {c : Nat} {φ : Fr} : ∀ (ks : List Kd), ks.length = ar c → okTt (sgT c ks φ) → ∀ k ∈ ks, okTt (k.1 φ)
  | [], _, _, k, hk => by cases hk
  | [a], _, h, k, hk => by
    rw [List.mem_singleton.mp hk]
    exact okT_l h
  | [a, b], _, h, k, hk => by
    have h : okTt (if c = 46 then b.1 φ ++ (a.1 φ ++ [(1, 13)]) else a.1 φ ++ (b.1 φ ++ [(1, cdO c)])) := h
    split at h
    · rcases List.mem_cons.mp hk with w | w
      · rw [w]
        exact okT_l (okT_r h)
      · rw [List.mem_singleton.mp w]
        exact okT_l h
    · rcases List.mem_cons.mp hk with w | w
      · rw [w]
        exact okT_l h
      · rw [List.mem_singleton.mp w]
        exact okT_l (okT_r h)
  | [a, b, d], _, h, k, hk => by
    have h : okTt (a.1 φ ++ ((1, 8) :: (lstT 9 b.1 φ ++ lstT 9 d.1 φ))) := h
    rcases List.mem_cons.mp hk with w | w
    · rw [w]
      exact okT_l h
    · rcases List.mem_cons.mp w with w | w
      · rw [w]
        exact okT_lst (okT_l (okT_c (okT_r h)))
      · rw [List.mem_singleton.mp w]
        exact okT_lst (okT_r (okT_c (okT_r h)))
  | a :: b :: d :: e :: ks, hl, _, _, _ => by
    have := ar_le c
    rw [List.length_cons, List.length_cons, List.length_cons, List.length_cons] at hl
    omega
theorem cR_ty {tx : Nat → Nat} {r : rM} : ∀ (f n e : Nat) (t : Tau), cR tx r f n e t → ∀ φ, okTt (t φ) → LTy (t φ)
  | 0, n, e, t, h, φ, _ => absurd h id
  | f + 1, n, e, t, h, φ, hok => by
    rcases h with ⟨h1, h2, h3⟩ | ⟨h1, h2, c, a, h3, h4, h5, h6, h7⟩ | ⟨h1, h2, a, a', d, D, h3, h4, h5, h6, h7⟩ | ⟨ks, l, h1, h2, h3, hT⟩
    · rw [h3]
      intro x y hx hl
      obtain ⟨c, q1, q2⟩ := hl
      obtain ⟨d, p1, p2, p3, p4, p5, p6⟩ := L1_int hx (LY_one q1)
      refine ⟨?_, fun k n e hw => (const_wt (t := false) hx p5 p6 p1 p3 (fun w => by cases w) q2 hw).1⟩
      obtain ⟨-, -, -, -, w, -⟩ := L1_int p5 q2
      exact w.trans p4
    · rw [h7] at hok ⊢
      obtain ⟨X, hX, eX⟩ := hok (6, lkF c φ 0) (List.mem_cons_of_mem _ List.mem_cons_self) rfl
      have eX : lkF c φ 0 = nI X := eX
      intro x y hx hl
      obtain ⟨c1, q1, q2⟩ := hl
      obtain ⟨d, p1, p2, p3, p4, p5, p6⟩ := L1_at hx (show ¬ (6 : Int32) = 5 by decide) (show ¬ (6 : Int32) = 4 by decide) (LY_one q1)
      have p2 : c1.1 d = vInt (nI X) := by
        rw [p2]
        show hvT (6, lkF c φ 0) = _
        rw [eX]
        rfl
      obtain ⟨c0, s1, s2, s3, s4, s5, s6⟩ := L1_int p5 q2
      refine ⟨s4.trans p4, fun k n e hw => ?_⟩
      have ud : c1.2.2.1 d := inU_pr (by rw [← p1]; exact p5.2.1.1)
      obtain ⟨y1, -, y3⟩ := s6.1 d ud
      obtain ⟨f2, hf2⟩ := WT_x hx (XT_tr p6 s6) hx.2.1.1 hw
      rw [s1]
      refine ⟨f2 + 1, c0, 2, rfl, rfl, s2, Or.inr (Or.inl ⟨rfl, d, X, s3.trans p1, rfl, ⟨hX, (y3 rfl).trans p2⟩, ?_⟩)⟩
      rw [y1, p3]
      exact hf2
    · rw [h7]
      have hD : LDy D := gD_sd _ _ _ _ _ _ _ h5
      intro x y hx hl
      obtain ⟨c, q1, q2⟩ := hl
      obtain ⟨g1, x1⟩ := LY_gd _ _ _ hx q1
      obtain ⟨p0, d2, p1, p2⟩ := hD x c hx q1
      refine ⟨?_, fun k n e hw => (const_wt (t := false) hx g1 x1 p1 p2 (fun w => by cases w) q2 hw).1⟩
      obtain ⟨-, -, -, -, w, -⟩ := L1_int g1 q2
      exact w.trans p0
    · obtain ⟨A1, -⟩ := cKL_all (fun i m t w => cR_lt (tx := tx) (r := r) f i m t w.1) ks _ _ _ h1
      have kid : ∀ k ∈ ks, ∀ φ, okTt (k.1 φ) → LTy (k.1 φ) := fun k hk φ ho => by
        obtain ⟨a, b, -, -, w⟩ := A1 k hk
        exact cR_ty f a b k.1 w.1 φ ho
      rcases hT with ⟨k1, c, c1, c2, c3, c4, rfl⟩ | ⟨k1, a, args, rfl, c2, rfl⟩ | ⟨k1, a, ls, rfl, c2, c3, c4, c5, rfl⟩ | ⟨k1, a, args, ls, rfl, c2, c3, c4, c5, rfl⟩ | ⟨k1, a, args, ls, rfl, c2, c3, c4, c5, rfl⟩
      · exact sg_ty ks c4 (fun k hk => kid k hk φ (okT_sg ks c4 hok k hk)) c3
      · have hok : okTt (rowT args φ ++ (a.1 φ ++ [(1, 4)])) := hok
        have hr : ∀ k ∈ args, LTy (k.1 φ) := fun k hk => kid k (List.mem_cons_of_mem _ hk) φ (okT_row args (okT_l hok) k hk)
        have ha := kid a List.mem_cons_self φ (okT_l (okT_r hok))
        show LTy (rowT args φ ++ (a.1 φ ++ [(1, 4)]))
        refine LTy_of (PS_app (PS_row args hr) (PS_app (LTy_ps ha) PS_1)) (fun x y hx hy k n e hw => ?_)
        exact (row_app hr hx hy (fun c1 h1 g1 => ty_app ha hx h1 (fun c2 h2 g2 => one_ty h2 (fun w => o_4 hx w hw)))).2
      · have ha := kid a List.mem_cons_self (ls :: φ) (okT_lst (okT_c (show okTt ((1, 3) :: lstT 5 a.1 (ls :: φ)) from hok)))
        exact LTy_of (PS_bo ha) (fun x y hx hy k n e hw => (bo_ty ha hx hy).2 k n e (WT_b _ hw))
      · have hok : okTt (rowT args φ ++ (boT a ls φ ++ [(1, 4)])) := hok
        have hr : ∀ k ∈ args, LTy (k.1 φ) := fun k hk => kid k (List.mem_cons_of_mem _ hk) φ (okT_row args (okT_l hok) k hk)
        have ha := kid a List.mem_cons_self (ls :: φ) (okT_lst (okT_c (show okTt ((1, 3) :: lstT 5 a.1 (ls :: φ)) from okT_l (okT_r hok))))
        show LTy (rowT args φ ++ (boT a ls φ ++ [(1, 4)]))
        refine LTy_of (PS_app (PS_row args hr) (PS_app (PS_bo ha) PS_1)) (fun x y hx hy k n e hw => ?_)
        refine (row_app hr hx hy (fun c1 h1 g1 => ⟨PS_app (PS_bo ha) PS_1 x c1 hx h1, ?_⟩)).2
        obtain ⟨c2, h2, h3⟩ := LY_app _ _ _ _ h1
        have h2 := LY_one h2
        obtain ⟨g2, -⟩ := L1_gd hx h2
        exact (bo_ty ha g2 h3).2 (true :: k) n e (WT_b _ (o_4 hx h2 hw).1)
      · have hok : okTt ((1, 6) :: (rowT args (ls :: φ) ++ (boT a ls φ ++ [(1, 7)]))) := hok
        have hok2 := okT_c hok
        have hr : ∀ k ∈ args, LTy (k.1 (ls :: φ)) := fun k hk => kid k (List.mem_cons_of_mem _ hk) _ (okT_row args (okT_l hok2) k hk)
        have ha := kid a List.mem_cons_self (ls :: φ) (okT_lst (okT_c (show okTt ((1, 3) :: lstT 5 a.1 (ls :: φ)) from okT_l (okT_r hok2))))
        show LTy ((1, 6) :: (rowT args (ls :: φ) ++ (boT a ls φ ++ [(1, 7)])))
        refine LTy_of (PS_c (PS_app (PS_row args hr) (PS_app (PS_bo ha) PS_1))) (fun x y hx hy k n e hw => ?_)
        obtain ⟨c0, h0, h9⟩ := hy
        obtain ⟨g0, -⟩ := LY_gd _ _ _ hx h0
        have w0 := (row_app (k := k) (n := n + 1) (e := e) hr hx h0 (fun c1 h1 g1 => ⟨PS_app (PS_bo ha) PS_1 x c1 hx h1, by
          obtain ⟨c2, h2, h3⟩ := LY_app _ _ _ _ h1
          have h2 := LY_one h2
          obtain ⟨g2, -⟩ := L1_gd hx h2
          have w7 := (o_7 hx h2 hw).1
          have ed : decide (0 < n + 1) = true := decide_eq_true (Nat.succ_pos n)
          refine (bo_ty ha g2 h3).2 (true :: k) (n + 1) e ?_
          rw [ed]
          exact w7⟩)).2
        exact (o_6 g0 h9 w0).1
end
section
def kdT (T : TL) : Prop := ∀ t ∈ T, (t.1 = 0 ∧ t.2 = 0) ∨ t.1 = 1 ∨ t.1 = 2 ∨ t.1 = 4 ∨ t.1 = 5 ∨ t.1 = 6
theorem kd_app {A B : TL} (hA : kdT A) (hB : kdT B) : kdT (A ++ B) := fun t ht => (List.mem_append.mp ht).elim (hA t) (hB t)
theorem kd_c {t : Int32 × Int32} {B : TL} (h : (t.1 = 0 ∧ t.2 = 0) ∨ t.1 = 1 ∨ t.1 = 2 ∨ t.1 = 4 ∨ t.1 = 5 ∨ t.1 = 6) (hB : kdT B) : kdT (t :: B) := fun x hx => (List.mem_cons.mp hx).elim (fun e => by rw [e]; exact h) (hB x)
theorem kd_nil : kdT [] := fun t ht => by cases ht
theorem kd_1 {v : Int32} : kdT [(1, v)] := kd_c (Or.inr (Or.inl rfl)) kd_nil
theorem kd_lst {i : Int32} {t : Tau} {φ : Fr} (h : kdT (t φ)) : kdT (lstT i t φ) := kd_c (Or.inr (Or.inr (Or.inr (Or.inl rfl)))) (kd_app h (kd_c (Or.inr (Or.inl rfl)) (kd_c (Or.inr (Or.inr (Or.inr (Or.inr (Or.inl rfl))))) kd_nil)))
theorem kd_row {φ : Fr} : ∀ (ks : List Kd), (∀ k ∈ ks, kdT (k.1 φ)) → kdT (rowT ks φ)
  | [], _ => kd_c (Or.inr (Or.inl rfl)) (kd_c (Or.inl ⟨rfl, rfl⟩) kd_nil)
  | k :: ks, h => kd_app (kd_row ks (fun k hk => h k (List.mem_cons_of_mem _ hk))) (kd_app (h k List.mem_cons_self) kd_1)
theorem kd_bo {a : Kd} {ls : List Nat} {φ : Fr} (h : kdT (a.1 (ls :: φ))) : kdT (boT a ls φ) := kd_c (Or.inr (Or.inl rfl)) (kd_lst h)
theorem kd_sg {c : Nat} {φ : Fr} : ∀ (ks : List Kd), (∀ k ∈ ks, kdT (k.1 φ)) → kdT (sgT c ks φ)
  | [], _ => kd_nil
  | [a], h => kd_app (h a List.mem_cons_self) kd_1
  | [a, b], h => by
    show kdT (if c = 46 then b.1 φ ++ (a.1 φ ++ [(1, 13)]) else a.1 φ ++ (b.1 φ ++ [(1, cdO c)]))
    have ha := h a List.mem_cons_self
    have hb := h b (List.mem_cons_of_mem _ List.mem_cons_self)
    split
    · exact kd_app hb (kd_app ha kd_1)
    · exact kd_app ha (kd_app hb kd_1)
  | [a, b, d], h => kd_app (h a List.mem_cons_self) (kd_c (Or.inr (Or.inl rfl)) (kd_app (kd_lst (h b (List.mem_cons_of_mem _ List.mem_cons_self))) (kd_lst (h d (List.mem_cons_of_mem _ (List.mem_cons_of_mem _ List.mem_cons_self))))))
  | _ :: _ :: _ :: _ :: _, _ => kd_nil
theorem gD_kd {tx : Nat → Nat} : ∀ (f : Nat) (b : Bool) (o d a : Nat) (D : TL) (a' : Nat), gD tx f b o d a = .inl (D, a') → kdT D
  | 0, b, o, d, a, D, a', h => by cases h
  | f + 1, false, o, d, a, D, a', h => by
    have e0 : gD tx (f + 1) false o d a = if tx a = 40 then (if d + o < 9 then cns (4, 0) (gD tx f (decide (tx (a + 1) = 41)) (o + 1) d (a + 1)) else .inr a) else if cL (tx a) then cns (2, nI (tx a)) (gD tx f true o d (a + 1)) else if cD (tx (pA1 tx a)) then cns (1, pVal tx a) (gD tx f true o d (pDg tx 4 (pA1 tx a) 0).1) else .inr (pA1 tx a) := rfl
    rw [e0] at h
    split at h
    · split at h
      · obtain ⟨D2, q1, q2⟩ := cns_inv h
        rw [q2]
        exact kd_c (Or.inr (Or.inr (Or.inr (Or.inl rfl)))) (gD_kd f _ _ _ _ _ _ q1)
      · cases h
    · split at h
      · obtain ⟨D2, q1, q2⟩ := cns_inv h
        rw [q2]
        exact kd_c (Or.inr (Or.inr (Or.inl rfl))) (gD_kd f _ _ _ _ _ _ q1)
      · split at h
        · obtain ⟨D2, q1, q2⟩ := cns_inv h
          rw [q2]
          exact kd_c (Or.inr (Or.inl rfl)) (gD_kd f _ _ _ _ _ _ q1)
        · cases h
  | f + 1, true, 0, d, a, D, a', h => by
    have h : (Sum.inl ([], a) : (TL × Nat) ⊕ Nat) = .inl (D, a') := h
    cases h
    exact kd_nil
  | f + 1, true, o + 1, d, a, D, a', h => by
    have e1 : gD tx (f + 1) true (o + 1) d a = if tx a = 41 then cns (5, 0) (gD tx f true o d (a + 1)) else if tx a = 32 then gD tx f false (o + 1) d (a + 1) else .inr a := rfl
    rw [e1] at h
    split at h
    · obtain ⟨D2, q1, q2⟩ := cns_inv h
      rw [q2]
      exact kd_c (Or.inr (Or.inr (Or.inr (Or.inr (Or.inl rfl))))) (gD_kd f _ _ _ _ _ _ q1)
    · split at h
      · exact gD_kd f false (o + 1) d (a + 1) D a' h
      · cases h
theorem cR_kd {tx : Nat → Nat} {r : rM} : ∀ (f n e : Nat) (t : Tau), cR tx r f n e t → ∀ φ, kdT (t φ)
  | 0, n, e, t, h, φ => absurd h id
  | f + 1, n, e, t, h, φ => by
    rcases h with ⟨h1, h2, h3⟩ | ⟨h1, h2, c, a, h3, h4, h5, h6, h7⟩ | ⟨h1, h2, a, a', d, D, h3, h4, h5, h6, h7⟩ | ⟨ks, l, h1, h2, h3, hT⟩
    · rw [h3]
      exact kd_c (Or.inr (Or.inl rfl)) kd_1
    · rw [h7]
      exact kd_c (Or.inr (Or.inl rfl)) (kd_c (Or.inr (Or.inr (Or.inr (Or.inr (Or.inr rfl))))) kd_nil)
    · rw [h7]
      exact kd_c (Or.inr (Or.inl rfl)) (gD_kd _ _ _ _ _ _ _ h5)
    · obtain ⟨A1, -⟩ := cKL_all (fun i m t w => cR_lt (tx := tx) (r := r) f i m t w.1) ks _ _ _ h1
      have kid : ∀ k ∈ ks, ∀ φ, kdT (k.1 φ) := fun k hk φ => by
        obtain ⟨a, b, -, -, w⟩ := A1 k hk
        exact cR_kd f a b k.1 w.1 φ
      rcases hT with ⟨k1, c, c1, c2, c3, c4, rfl⟩ | ⟨k1, a, args, rfl, c2, rfl⟩ | ⟨k1, a, ls, rfl, c2, c3, c4, c5, rfl⟩ | ⟨k1, a, args, ls, rfl, c2, c3, c4, c5, rfl⟩ | ⟨k1, a, args, ls, rfl, c2, c3, c4, c5, rfl⟩
      · exact kd_sg ks (fun k hk => kid k hk φ)
      · exact kd_app (kd_row args (fun k hk => kid k (List.mem_cons_of_mem _ hk) φ)) (kd_app (kid a List.mem_cons_self φ) kd_1)
      · exact kd_bo (kid a List.mem_cons_self _)
      · exact kd_app (kd_row args (fun k hk => kid k (List.mem_cons_of_mem _ hk) φ)) (kd_app (kd_bo (kid a List.mem_cons_self _)) kd_1)
      · exact kd_c (Or.inr (Or.inl rfl)) (kd_app (kd_row args (fun k hk => kid k (List.mem_cons_of_mem _ hk) _)) (kd_app (kd_bo (kid a List.mem_cons_self _)) kd_1))
theorem L1_lw {t : Int32 × Int32} {a b : LSt} (h : L1 (lw t) a b) : L1 t a b := by
  unfold lw at h
  split at h
  · next e =>
    rcases h with ⟨q, -⟩ | ⟨q, -⟩ | ⟨-, -, k, hk, hb⟩
    · exact absurd (show (1 : Int32) = 5 from q) (by decide)
    · exact absurd (show (1 : Int32) = 4 from q) (by decide)
    · refine Or.inr (Or.inr ⟨by rw [e]; decide, by rw [e]; decide, k, hk, ?_⟩)
      have eh : hvT t = hvT (1, t.2) := by
        unfold hvT
        rw [e]
        rfl
      rw [eh]
      exact hb
  · exact h
theorem LY_low : ∀ (T : TL) (a b : LSt), LY (low T) a b → LY T a b
  | [], a, b, h => h
  | t :: T, a, b, ⟨c, h1, h2⟩ => ⟨c, LY_low T a c h1, L1_lw h2⟩
theorem ht_low : ∀ (T : TL), htT (low T) = htT T
  | [] => rfl
  | t :: T => by
    have ih := ht_low T
    show (match htT (low T) with | none => none | some h => if (lw t).1 = 5 then some (h + 1) else if (lw t).1 = 4 then (match h with | 0 => none | h + 1 => some h) else some h) = (match htT T with | none => none | some h => if t.1 = 5 then some (h + 1) else if t.1 = 4 then (match h with | 0 => none | h + 1 => some h) else some h)
    rw [ih]
    have e : ((lw t).1 = 5 ↔ t.1 = 5) ∧ ((lw t).1 = 4 ↔ t.1 = 4) := by
      unfold lw
      split
      · next w =>
        rw [w]
        exact ⟨⟨fun q => absurd (show (1 : Int32) = 5 from q) (by decide), fun q => absurd q (by decide)⟩, ⟨fun q => absurd (show (1 : Int32) = 4 from q) (by decide), fun q => absurd q (by decide)⟩⟩
      · exact ⟨Iff.rfl, Iff.rfl⟩
    cases htT T with
    | none => rfl
    | some h =>
      show (if (lw t).1 = 5 then some (h + 1) else if (lw t).1 = 4 then _ else some h) = (if t.1 = 5 then some (h + 1) else if t.1 = 4 then _ else some h)
      by_cases w5 : t.1 = 5
      · rw [if_pos w5, if_pos (e.1.mpr w5)]
      · rw [if_neg w5, if_neg (fun q => w5 (e.1.mp q))]
        by_cases w4 : t.1 = 4
        · rw [if_pos w4, if_pos (e.2.mpr w4)]
        · rw [if_neg w4, if_neg (fun q => w4 (e.2.mp q))]
theorem kd_low {T : TL} (h : kdT T) : ∀ t ∈ low T, (t.1 = 0 ∧ t.2 = 0) ∨ t.1 = 1 ∨ t.1 = 2 ∨ t.1 = 4 ∨ t.1 = 5 := by
  intro t ht
  obtain ⟨x, hx, rfl⟩ := List.mem_map.mp ht
  unfold lw
  split
  · exact Or.inr (Or.inl rfl)
  · next n6 =>
    rcases h x hx with w | w | w | w | w | w
    · exact Or.inl w
    · exact Or.inr (Or.inl w)
    · exact Or.inr (Or.inr (Or.inl w))
    · exact Or.inr (Or.inr (Or.inr (Or.inl w)))
    · exact Or.inr (Or.inr (Or.inr (Or.inr w)))
    · exact absurd w n6
theorem ht_le : ∀ (A B : TL) (h p : Nat), htT (A ++ B) = some h → htT B = some p → p ≤ h + cnt A
  | [], B, h, p, h1, h2 => by
    have h1 : htT B = some h := h1
    rw [h1] at h2
    cases h2
    exact Nat.le_add_right _ _
  | t :: A, B, h, p, h1, h2 => by
    have h1 : (match htT (A ++ B) with | none => none | some h => if t.1 = 5 then some (h + 1) else if t.1 = 4 then (match h with | 0 => none | h + 1 => some h) else some h) = some h := h1
    have ec : cnt (t :: A) = (if t.1 = 5 then 0 else 1) + cnt A := rfl
    cases hq : htT (A ++ B) with
    | none => rw [hq] at h1; cases h1
    | some q =>
      rw [hq] at h1
      have ih := ht_le A B q p hq h2
      have h1 : (if t.1 = 5 then some (q + 1) else if t.1 = 4 then (match (generalizing := false) q with | 0 => none | h + 1 => some h) else some q) = some h := h1
      rw [ec]
      by_cases w5 : t.1 = 5
      · rw [if_pos w5] at h1
        cases h1
        omega
      · rw [if_neg w5] at h1 ⊢
        by_cases w4 : t.1 = 4
        · rw [if_pos w4] at h1
          cases q with
          | zero => cases h1
          | succ q =>
            have h1 : some q = some h := h1
            cases h1
            omega
        · rw [if_neg w4] at h1
          cases h1
          omega
theorem ht_pre : ∀ (A B : TL) (h : Nat), htT (A ++ B) = some h → ∃ p, htT B = some p
  | [], B, h, h1 => ⟨h, h1⟩
  | t :: A, B, h, h1 => by
    have h1 : (match htT (A ++ B) with | none => none | some h => if t.1 = 5 then some (h + 1) else if t.1 = 4 then (match h with | 0 => none | h + 1 => some h) else some h) = some h := h1
    cases hq : htT (A ++ B) with
    | none => rw [hq] at h1; cases h1
    | some q => exact ht_pre A B q hq
theorem snoc_ex : ∀ (A : TL), A = [] ∨ ∃ A' t, A = A' ++ [t]
  | [] => Or.inl rfl
  | t :: A => by
    rcases snoc_ex A with rfl | ⟨A', t', rfl⟩
    · exact Or.inr ⟨[], t, rfl⟩
    · exact Or.inr ⟨t :: A', t', rfl⟩
end
section
def PLE (r : rM) (ps : List Vl) : Prop := r.piled = nI ps.length ∧ ∀ i P, ps[i]? = some P → rg r P (r.pile (ps.length - 1 - i))
def LI (r r2 : rM) (z : Nat) (B : TL) (st : LSt) (x : Int32) : Prop := (kp r r2 ∧ r2.state = r.state ∧ r2.reg = r.reg ∧ r2.signKind = r.signKind ∧ r2.signValue = r.signValue ∧ r2.cells = r.cells) ∧ (RB r2 st.1 st.2.1 ∧ Ur r2 = st.2.2.1 ∧ rg r2 st.2.2.2.1 x) ∧ PLE r2 st.2.2.2.2 ∧ fz r2 + cnt B = z
def pcR (r : rM) (p : Nat) (x : Int32) : rM := ((r.s_pile (upd r.pile p x)).s_piled (nI (p + 1)))
def ppR (r : rM) (p : Nat) : rM := (r.s_piled (nI p))
theorem subadd (x : Int32) : x + Int32.ofInt (-1) = x - Int32.ofInt 1 := by
  rw [Int32.sub_eq_add_neg]
  rfl
section YO
variable {cst : Nat → Option (Nat × (Nat → Int32))} {m b0 b1 : Nat} {op : Bool} {tl : List mj_O} {Q : mj_R → Prop} {s : cS} {r : rM} {σ : TL} {z : Nat} {init : LSt}
set_option maxRecDepth 10000
theorem rg_pile {r r' : rM} (h1 : Ur r' = Ur r) (h2 : r'.function = r.function) {v : Vl} {x : Int32} (h : rg r v x) : rg r' v x := by
  rcases h with h | ⟨a, q1, q2, q3, q4⟩
  · exact Or.inl h
  · exact Or.inr ⟨a, q1, q2, by rw [h1]; exact q3, by rw [h2]; exact q4⟩
theorem LI_close {r2 : rM} {B : TL} {st : LSt} {x v : Int32} (h : LI r r2 z B st x) : LI r (pcR r2 st.2.2.2.2.length x) z ((5, v) :: B) (st.1, st.2.1, st.2.2.1, vNil, st.2.2.2.1 :: st.2.2.2.2) (-1) := by
  obtain ⟨h1, ⟨h2, h3, h4⟩, ⟨h5, h6⟩, h7⟩ := h
  refine ⟨h1, ⟨h2, h3, Or.inl ⟨rfl, rfl⟩⟩, ⟨rfl, fun i P hi => ?_⟩, ?_⟩
  · show rg (pcR r2 st.2.2.2.2.length x) P (upd r2.pile st.2.2.2.2.length x ((st.2.2.2.1 :: st.2.2.2.2).length - 1 - i))
    rw [List.length_cons]
    cases i with
    | zero =>
      have hi : some st.2.2.2.1 = some P := hi
      cases hi
      have e : upd r2.pile st.2.2.2.2.length x (st.2.2.2.2.length + 1 - 1 - 0) = x := if_pos (by omega)
      rw [e]
      exact rg_pile rfl rfl h4
    | succ i =>
      have hi : st.2.2.2.2[i]? = some P := hi
      have hlt : i < st.2.2.2.2.length := by
        rcases Nat.lt_or_ge i st.2.2.2.2.length with w | w
        · exact w
        · rw [List.getElem?_eq_none w] at hi
          cases hi
      have e : upd r2.pile st.2.2.2.2.length x (st.2.2.2.2.length + 1 - 1 - (i + 1)) = r2.pile (st.2.2.2.2.length - 1 - i) := by
        show (if _ = _ then _ else _) = _
        rw [if_neg (by omega)]
        congr 1
        omega
      rw [e]
      exact rg_pile rfl rfl (h6 i P hi)
  · show fz r2 + (0 + cnt B) = z
    omega
theorem LI_new {r2 : rM} {B : TL} {st : LSt} {x c a b : Int32} {k : Nat} {h t : Vl} {ps : List Vl} {v : Int32 × Int32} (hI : LI r r2 z B st x) (hv5 : ¬ v.1 = 5) (hf : 1 ≤ fz r2) (hh : rv r2 h a b) (ht : rg r2 t c) (hk : k = ffN r2.used (r2.z - 1) 0) (r3 : rM) (e3 : r3 = mkR r2 k a b c ∨ r3 = ppR (mkR r2 k a b c) ps.length) (hps : r3.piled = nI ps.length) (hpl : ∀ i P, ps[i]? = some P → rg r2 P (r2.pile (ps.length - 1 - i))) : LI r r3 z (v :: B) (newL st k h t ps) (nI k) ∧ ¬ st.2.2.1 k := by
  obtain ⟨⟨g1, g2, g3, g4, g5, g6⟩, ⟨h2, h3, h4⟩, h5, h7⟩ := hI
  obtain ⟨m1, m2, m3, m4, m5, m6, m7⟩ := mk_ok h2 hf hk hh ht
  have kpm : kp r2 (mkR r2 k a b c) := ⟨⟨rfl, rfl, rfl, rfl, rfl⟩, rfl, rfl, rfl, rfl, rfl⟩
  have hne : ¬ st.2.2.1 k := by rw [← h3]; exact m1
  have hcnt : cnt (v :: B) = 1 + cnt B := by
    show (if v.1 = 5 then 0 else 1) + cnt B = _
    rw [if_neg hv5]
  rcases e3 with rfl | rfl
  · refine ⟨⟨⟨kp_tr g1 kpm, g2, g3, g4, g5, g6⟩, ⟨m4, by rw [m6, h3]; rfl, m5⟩, ⟨hps, fun i P hi => rg_up m3 (hpl i P hi)⟩, by omega⟩, hne⟩
  · refine ⟨⟨⟨kp_tr g1 kpm, g2, g3, g4, g5, g6⟩, ⟨m4, by show Ur (mkR r2 k a b c) = _; rw [m6, h3]; rfl, rg_pile (r := mkR r2 k a b c) rfl rfl m5⟩, ⟨hps, fun i P hi => rg_pile (r := mkR r2 k a b c) rfl rfl (rg_up m3 (hpl i P hi))⟩, by show fz (mkR r2 k a b c) + _ = z; omega⟩, hne⟩
set_option maxHeartbeats 4000000 in
theorem R_lay (hW : WSr r σ []) (hs : σ.length ≤ 1200) (hkd : ∀ t ∈ σ, (t.1 = 0 ∧ t.2 = 0) ∨ t.1 = 1 ∨ t.1 = 2 ∨ t.1 = 4 ∨ t.1 = 5) (hht : htT σ = some 0) (hz : z ≤ 250) (hc : cnt σ ≤ z) (hI0 : LI r (ppR r 0) z [] init (-1)) (hp0 : init.2.2.2.2 = []) (hQ : ∀ r2 st x, LI r r2 z σ st x → LY σ init st → Q (.inl (some (.int x)), (cW s (rW r2 tl), b0, b1, op))) : mj_Mt gT cst gnw (m + 3) y_R_lay [.ref 27] (cW s (rW r tl), b0, b1, op) Q := by
  obtain ⟨⟨hs1, hs2⟩, -, -⟩ := hW
  intro J hJ
  have loop : ∀ (n : Nat) (A B : TL) (st : LSt) (r2 : rM) (x y : Int32), A.length = n → A ++ B = σ → LY B init st → htT B = some st.2.2.2.2.length → LI r r2 z B st x → y = nI A.length - Int32.ofInt 1 → J 10 [some (.ref 27), some (.int x), some (.int y)] [] (cW s (rW r2 tl), b0, b1, op) := by
    intro n
    induction n with
    | zero =>
      intro A B st r2 x y hA hAB hL hh hI hy
      have : A = [] := List.length_eq_zero_iff.mp hA
      subst this
      have hAB : B = σ := hAB
      subst hAB
      refine hJ _ _ _ _ ?_
      refine And.intro (fun _ => hQ r2 st x hI hL) (fun (g : ¬ y < 0) => absurd (by rw [hy]; decide) g)
    | succ n ih =>
      intro A B st r2 x y hA hAB hL hh hI hy
      obtain ⟨A, t, rfl⟩ : ∃ A' t, A = A' ++ [t] := by
        rcases snoc_ex A with rfl | w
        · cases hA
        · exact w
      rw [len_s] at hA hy
      have hy2 : y = nI A.length := by rw [hy]; exact nI_pred _
      subst hy2
      rw [List.append_assoc] at hAB
      have hAB : A ++ (t :: B) = σ := hAB
      have hlt : A.length < σ.length := by rw [← hAB, List.length_append, List.length_cons]; omega
      have hat : σ[A.length]? = some t := by
        rw [← hAB, List.getElem?_append_right (Nat.le_refl _), Nat.sub_self]
        rfl
      obtain ⟨t1, t2⟩ := hs2 A.length t hat
      have htm : t ∈ σ := List.mem_of_getElem? hat
      have hin : vp_in (nI A.length) 1200 := vp_in_nI (by omega) (by decide)
      have ek : (nI A.length).toNatClampNeg = A.length := nI_clamp (by omega)
      obtain ⟨p, hp⟩ := ht_pre A (t :: B) 0 (by rw [hAB]; exact hht)
      have hple := ht_le A (t :: B) 0 p (by rw [hAB]; exact hht) hp
      have hcs : cnt A + cnt (t :: B) = cnt σ := by rw [← hAB, cnt_app]
      have e0 : htT (t :: B) = (match htT B with | none => none | some h => if t.1 = 5 then some (h + 1) else if t.1 = 4 then (match h with | 0 => none | h + 1 => some h) else some h) := rfl
      rw [hh] at e0
      have ecn : cnt (t :: B) = (if t.1 = 5 then 0 else 1) + cnt B := rfl
      have hI' := hI
      obtain ⟨⟨g1, g2, g3, g4, g5, g6⟩, ⟨i2, i3, i4⟩, ⟨i5, i6⟩, i7⟩ := hI'
      have nxt : ∀ (st' : LSt) (r3 : rM) (x' y' : Int32), y' = nI A.length + Int32.ofInt (-1) → LY (t :: B) init st' → htT (t :: B) = some st'.2.2.2.2.length → LI r r3 z (t :: B) st' x' → J 10 [some (.ref 27), some (.int x'), some (.int y')] [] (cW s (rW r3 tl), b0, b1, op) := by
        intro st' r3 x' y' hy' h1 h2 h3
        exact ih A (t :: B) st' r3 x' y' (by omega) hAB h1 h2 h3 (by rw [hy']; exact subadd _)
      refine hJ _ _ _ _ ?_
      refine And.intro (fun (g : nI A.length < 0) => absurd g (nI_pos (by omega))) (fun _ => ?_)
      refine And.intro hin ?_
      rw [ek, g4, t1]
      refine And.intro (fun (n5 : ¬ t.1 = 5) => ?_) (fun (e5 : t.1 = 5) => ?_)
      rotate_left
      · obtain ⟨tk, tv⟩ := t
        have e5 : tk = 5 := e5
        subst e5
        have hp5 : st.2.2.2.2.length < 260 := by
          have e0 : htT ((5, tv) :: B) = some (st.2.2.2.2.length + 1) := e0
          rw [e0] at hp
          cases hp
          omega
        refine And.intro (show vp_in r2.piled 260 by rw [i5]; exact vp_in_nI hp5 (by decide)) ?_
        have key : ∀ (i : Nat) (y : Int32), i = st.2.2.2.2.length → y = nI (st.2.2.2.2.length + 1) → J 10 [some (.ref 27), some (.int (-1)), some (.int (nI A.length + Int32.ofInt (-1)))] [] (cW s (rW ((r2.s_pile (upd r2.pile i x)).s_piled y) tl), b0, b1, op) := by
          intro i y q1 q2
          rw [q1, q2]
          exact nxt _ (pcR r2 st.2.2.2.2.length x) _ _ rfl ⟨st, hL, Or.inl ⟨rfl, rfl⟩⟩ e0 (LI_close hI)
        refine key r2.piled.toNatClampNeg (r2.piled + Int32.ofInt 1) ?_ ?_
        · show r2.piled.toNatClampNeg = _
          rw [i5]
          exact nI_clamp (by omega)
        · show r2.piled + Int32.ofInt 1 = _
          rw [i5]
          exact (nI_succ _).symm
      · rw [if_neg n5] at ecn
        have hf : 1 ≤ fz r2 := by omega
        refine And.intro hin ?_
        rw [ek, g4, t1]
        refine And.intro (fun (n4 : ¬ t.1 = 4) => ?_) (fun (e4 : t.1 = 4) => ?_)
        · -- a cell
          have hrv : rv r2 (hvT t) t.1 t.2 := by
            unfold hvT
            rcases hkd t htm with ⟨w1, w2⟩ | w | w | w | w
            · rw [if_pos w1]
              exact ⟨w1, w2⟩
            · rw [if_neg (by rw [w]; decide), if_neg (by rw [w]; decide)]
              exact ⟨w, rfl⟩
            · rw [if_neg (by rw [w]; decide), if_pos w]
              exact ⟨w, rfl⟩
            · exact absurd w n4
            · exact absurd w n5
          refine And.intro hin ?_
          rw [ek, g4, t1]
          refine And.intro hin ?_
          rw [ek, g5, t2]
          refine r_make i2.1.2 i2.1.1 (fun k hk => ?_)
          obtain ⟨w1, w2⟩ := LI_new (v := t) (ps := st.2.2.2.2) hI n5 hf hrv i4 hk (mkR r2 k t.1 t.2 x) (Or.inl rfl) i5 i6
          refine nxt _ (mkR r2 k t.1 t.2 x) (nI k) _ rfl ⟨st, hL, Or.inr (Or.inr ⟨n5, n4, k, w2, rfl⟩)⟩ ?_ w1
          rw [e0]
          show (if t.1 = 5 then _ else if t.1 = 4 then _ else some st.2.2.2.2.length) = _
          rw [if_neg n5, if_neg n4]
          rfl
        · -- a list
          obtain ⟨P, ps, eps⟩ : ∃ P ps, st.2.2.2.2 = P :: ps := by
            cases hps : st.2.2.2.2 with
            | nil =>
              rw [hps] at e0
              have e0 : htT (t :: B) = (if t.1 = 5 then some (0 + 1) else if t.1 = 4 then none else some 0) := e0
              rw [if_neg n5, if_pos e4] at e0
              rw [e0] at hp
              cases hp
            | cons P ps => exact ⟨P, ps, rfl⟩
          have hl : st.2.2.2.2.length = ps.length + 1 := by rw [eps]; rfl
          rw [hl] at i5
          have hp5 : ps.length < 260 := by
            rw [hl] at e0
            have e0 : htT (t :: B) = (if t.1 = 5 then some (ps.length + 1 + 1) else if t.1 = 4 then some ps.length else some (ps.length + 1)) := e0
            rw [if_neg n5, if_pos e4] at e0
            rw [e0] at hp
            cases hp
            omega
          have ep : r2.piled - Int32.ofInt 1 = nI ps.length := by rw [i5]; exact nI_pred _
          have hP : rg r2 P (r2.pile ps.length) := by
            have := i6 0 P (by rw [eps]; rfl)
            rw [hl] at this
            exact this
          refine And.intro (show vp_in (r2.piled - Int32.ofInt 1) 260 by rw [ep]; exact vp_in_nI hp5 (by decide)) ?_
          have key : ∀ (c y : Int32), c = r2.pile ps.length → y = nI ps.length → ∀ Q' : mj_R → Prop, (∀ k, k = ffN r2.used (r2.z - 1) 0 → Q' (.inl (some (.int (nI k))), (cW s (rW (ppR (mkR r2 k (if x < 0 then 0 else 3) (if x < 0 then 0 else x) (r2.pile ps.length)) ps.length) tl), b0, b1, op))) → mj_Mt gT cst gnw (m + 2) y_R_makeOf [.ref 27, .int x, .int c] (cW s (rW (r2.s_piled y) tl), b0, b1, op) Q' := by
            rintro c y rfl rfl Q' hQ'
            exact r_makeOf (r := ppR r2 ps.length) i2.1.2 i2.1.1 hQ'
          refine key _ _ ?_ ep _ (fun k hk => ?_)
          · show r2.pile (r2.piled - Int32.ofInt 1).toNatClampNeg = _
            rw [ep, nI_clamp (by omega)]
          · have hpl : ∀ i P2, ps[i]? = some P2 → rg r2 P2 (r2.pile (ps.length - 1 - i)) := by
              intro i P2 hi
              have := i6 (i + 1) P2 (by rw [eps]; exact hi)
              rw [hl] at this
              rw [show ps.length + 1 - 1 - (i + 1) = ps.length - 1 - i by omega] at this
              exact this
            obtain ⟨w1, w2⟩ := LI_new (v := t) (ps := ps) hI n5 hf (rg_rv i4 i2.1.2) hP hk (ppR (mkR r2 k (if x < 0 then 0 else 3) (if x < 0 then 0 else x) (r2.pile ps.length)) ps.length) (Or.inr rfl) rfl hpl
            refine nxt _ _ (nI k) _ rfl ⟨st, hL, Or.inr (Or.inl ⟨e4, P, ps, k, eps, w2, rfl⟩)⟩ ?_ w1
            rw [e0, hl]
            show (if t.1 = 5 then _ else if t.1 = 4 then some ps.length else _) = _
            rw [if_neg n5, if_pos e4]
            rfl
  refine hJ _ _ _ _ ?_
  refine loop σ.length σ [] init (ppR r 0) (-1) _ rfl (List.append_nil σ) rfl (by rw [hp0]; rfl) hI0 ?_
  show r.signs - Int32.ofInt 1 = _
  rw [hs1]
end YO
end
section
def cpR (r r' : rM) : rM := ((((((((((((r'.s_z r.z).s_used r.used).s_function r.function).s_headKind r.headKind).s_head r.head).s_tailKind r.tailKind).s_tail r.tail).s_marked r.marked).s_reg r.reg).s_program r.program).s_state r.state).s_shown r.shown)
theorem kr_cp {r r' : rM} (h : kr r r') : r' = cpR r r' := by
  have h : krT r' = krT r := h
  have e1 : r'.z = r.z := congrArg (fun q => q.1.1) h
  have e2 : r'.used = r.used := congrArg (fun q => q.2.1.1) h
  have e3 : r'.function = r.function := congrArg (fun q => q.2.1.2.1) h
  have e4 : r'.headKind = r.headKind := congrArg (fun q => q.2.1.2.2.1) h
  have e5 : r'.head = r.head := congrArg (fun q => q.2.1.2.2.2.1) h
  have e6 : r'.tailKind = r.tailKind := congrArg (fun q => q.2.1.2.2.2.2.1) h
  have e7 : r'.tail = r.tail := congrArg (fun q => q.2.1.2.2.2.2.2) h
  have e8 : r'.marked = r.marked := congrArg (fun q => q.2.2.1.1) h
  have e9 : r'.reg = r.reg := congrArg (fun q => q.2.2.1.2.1) h
  have e10 : r'.program = r.program := congrArg (fun q => q.2.2.1.2.2.1) h
  have e11 : r'.state = r.state := congrArg (fun q => q.2.2.1.2.2.2) h
  have e12 : r'.shown = r.shown := congrArg (fun q => q.2.2.2.2.2.2.1) h
  unfold cpR
  rw [← e1, ← e2, ← e3, ← e4, ← e5, ← e6, ← e7, ← e8, ← e9, ← e10, ← e11, ← e12]
  rfl
theorem RMI_kr {r r' : rM} (h : kr r r') (hI : RMI r) : RMI r' := by
  rw [kr_cp h]
  exact hI
theorem kr_z {r r' : rM} (h : kr r r') : r'.z = r.z := congrArg (fun q => q.1.1) (show krT r' = krT r from h)
theorem czN_0 (u : Nat → Int32) (hu : ∀ i, i < 250 → u i = 0) : ∀ n k a, k + n ≤ 250 → czN u n k a = a + n
  | 0, k, a, _ => rfl
  | n + 1, k, a, h => by
    have e : czN u (n + 1) k a = czN u n (k + 1) (if u k = 0 then a + 1 else a) := rfl
    rw [e, if_pos (hu k (by omega)), czN_0 u hu n (k + 1) (a + 1) (by omega)]
    omega
def erR (r : rM) (e t : Int32) : rM := (((r.s_error e).s_thrown t).s_typed 0)
def clU (r : rM) (u g : Nat → Int32) : rM := ((r.s_used u).s_reg g)
def etR (r : rM) (e t : Int32) : rM := ((r.s_error e).s_thrown t)
def tyR (r : rM) (t : Int32) : rM := ((r.s_thrown t).s_typed 0)
def fiR (r : rM) (g : Nat → Int32) : rM := ((((((r.s_reg g).s_program 1).s_state 0).s_collections 0).s_takenBack 0).s_steps 0)
section YP
variable {cst : Nat → Option (Nat × (Nat → Int32))} {m b0 b1 : Nat} {op : Bool} {tl : List mj_O} {Q : mj_R → Prop} {s : cS} {r : rM} {len : Nat} {tx : Nat → Nat}
set_option maxRecDepth 10000
theorem cR_same {tx : Nat → Nat} {r r' : rM} {f n e : Nat} {t : Tau} (h : (r'.kind, r'.value, r'.at_, r'.until_, r'.first, r'.letters, r'.next, r'.bound, r'.parent) = (r.kind, r.value, r.at_, r.until_, r.first, r.letters, r.next, r.bound, r.parent)) (hc : cR tx r f n e t) : cR tx r' f n e t := by
  have e1 : r'.kind = r.kind := congrArg (fun q => q.1) h
  have e2 : r'.value = r.value := congrArg (fun q => q.2.1) h
  have e3 : r'.at_ = r.at_ := congrArg (fun q => q.2.2.1) h
  have e4 : r'.until_ = r.until_ := congrArg (fun q => q.2.2.2.1) h
  have e5 : r'.first = r.first := congrArg (fun q => q.2.2.2.2.1) h
  have e6 : r'.letters = r.letters := congrArg (fun q => q.2.2.2.2.2.1) h
  have e7 : r'.next = r.next := congrArg (fun q => q.2.2.2.2.2.2.1) h
  have e8 : r'.bound = r.bound := congrArg (fun q => q.2.2.2.2.2.2.2.1) h
  have e9 : r'.parent = r.parent := congrArg (fun q => q.2.2.2.2.2.2.2.2) h
  refine cR_ag f n e t ⟨fun i _ _ => ?_, fun i _ _ => by rw [e6], fun i _ _ => by rw [e7, e8, e9]; exact ⟨rfl, rfl, rfl⟩⟩ hc
  rw [e1, e2, e3, e4, e5]
  exact ⟨rfl, rfl, rfl, rfl, rfl⟩
end YP
end
section
theorem RMI_r0 (z : Nat) (h1 : 1 ≤ z) (h2 : z ≤ 250) : RMI (r0 z) := by
  have hU : ∀ a, ¬ Ur (r0 z) a := fun a h => h.2 rfl
  have hg : ∀ x : Int32, x = -1 → rg (r0 z) vNil x := fun x e => Or.inl ⟨rfl, e⟩
  refine ⟨⟨⟨fun _ => false, ?_⟩, ⟨0, by omega, rfl⟩⟩, Or.inl ⟨rfl, rfl, fun _ => vNil, fun _ => vNil, ⟨⟨h1, h2⟩, fun a h => absurd h (hU a), fun a _ => ⟨fun h => ?_, fun h => ?_⟩⟩, hg _ rfl, hg _ rfl, hg _ rfl, hg _ rfl, hg _ rfl⟩⟩
  · funext a
    rfl
  · exact absurd (show (0 : Int32) = 3 from h) (by decide)
  · exact absurd (show (0 : Int32) = 3 from h) (by decide)
theorem fillU_eN (z : Nat) : ∀ (n k : Nat) (fr : Nat → Nat), k + n ≤ z → (∀ j, j < z → fr j < z) → ∃ fr' : Nat → Nat, fillU (eN fr) k n = eN fr' ∧ ∀ j, j < z → fr' j < z
  | 0, k, fr, _, h => ⟨fr, rfl, h⟩
  | n + 1, k, fr, hk, h => by
    have hu : ∀ j, j < z → upW fr k k j < z := by
      intro j hj
      unfold upW
      split
      · omega
      · exact h j hj
    obtain ⟨fr', e, h'⟩ := fillU_eN z n (k + 1) (upW fr k k) (by omega) hu
    refine ⟨fr', ?_, h'⟩
    rw [← e, ← upd_nI]
    rfl
theorem CI_c0 (z : Nat) (h1 : 1 ≤ z) (h2 : z ≤ 250) (tl : List mj_O) : CI z 0 (fun _ => 0) 0 0 tl (cW (c0 z) tl) := by
  obtain ⟨fr, e, hfr⟩ := fillU_eN z z 0 (fun _ => 0) (by omega) (fun j _ => by omega)
  refine ⟨-1, (0, z0, z0, z0, fun _ => some 0, fun _ => some 0, fun _ => some 0), z0, 0, ((fun _ => vNil, fun _ => vNil, 0, some 0, false), fun _ => some 0, 0, 0), vNil, vNil, vNil, vNil, 0, 0, 0, fun _ => vNil, fun _ => vNil, fr, (fun _ => false, fun _ => 0, 0), z, 0, 0, fun _ => 0, fun _ => vNil, ?_, h2, ?_, txOK_0, ?_, ?_, ?_, hfr, Nat.le_refl _, Nat.zero_le _, ?_⟩
  · have e2 : fillF z0 0 z = eN fr := e
    unfold c0
    rw [e2]
    rfl
  · refine ⟨Nat.zero_le _, fun i j q => ?_, ⟨fun i j q => ?_, fun i hi => absurd hi (Nat.not_lt_zero i)⟩, fun i j q => ?_⟩ <;> (cases q; decide)
  · intro i j q
    cases q
    decide
  · exact ⟨fun i _ => trivial, fun i _ => trivial⟩
  · exact ⟨fun i _ => trivial, fun i _ => trivial, trivial, trivial, trivial, trivial⟩
  · exact ⟨⟨[], rfl, Nat.zero_le _, fun i hi => absurd hi (Nat.not_lt_zero i)⟩, fun k _ => trivial⟩
def CX (z len : Nat) (tx : Nat → Nat) (mode : Int32) (c : Nat) (s : cS) : Prop := ∀ tl, CI z len tx mode c tl (cW s tl)
theorem CX_c0 (z : Nat) (h1 : 1 ≤ z) (h2 : z ≤ 250) : CX z 0 (fun _ => 0) 0 0 (c0 z) := fun tl => CI_c0 z h1 h2 tl
end
section
section LCL
variable {m b0 b1 z len c : Nat} {tx : Nat → Nat} {mode : Int32} {op : Bool} {Q : mj_R → Prop} {s : cS} {r : rM} {xs : List Int32} {f : Nat → Int64}
set_option maxRecDepth 10000
end LCL
def RY (len : Nat) (tx : Nat → Nat) (r : rM) : Prop := RMI r ∧ txOK r.text len tx ∧ r.typed = nI len
theorem RY_r0 (z : Nat) (h1 : 1 ≤ z) (h2 : z ≤ 250) : RY 0 (fun _ => 0) (r0 z) := ⟨RMI_r0 z h1 h2, txOK_0, rfl⟩
theorem RY_ke {len : Nat} {tx : Nat → Nat} {r r' : rM} (h : RY len tx r) (hk : ke r r') (hI : RMI r') : RY len tx r' := by
  obtain ⟨-, q1, q2, -⟩ := hk
  refine ⟨hI, ?_, q1.trans h.2.2⟩
  rw [q2]
  exact h.2.1
theorem RY_typed {r : rM} (h : RMI r) (e : r.typed = nI 0) : RY 0 (fun _ => 0) r := ⟨h, txOK_0, e⟩
section LCM
variable {m b0 b1 z len c : Nat} {tx : Nat → Nat} {mode : Int32} {op : Bool} {Q : mj_R → Prop} {s : cS} {r : rM} {xs : List Int32} {tl : List mj_O} {cst : Nat → Option (Nat × (Nat → Int32))}
set_option maxRecDepth 10000
end LCM
end
