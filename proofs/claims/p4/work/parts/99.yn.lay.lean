def kdT (T : TL) : Prop := ∀ t ∈ T, (t.1 = 0 ∧ t.2 = 0) ∨ t.1 = 1 ∨ t.1 = 2 ∨ t.1 = 4 ∨ t.1 = 5 ∨ t.1 = 6
theorem kd_app {A B : TL} (hA : kdT A) (hB : kdT B) : kdT (A ++ B) := fun t ht => (List.mem_append.mp ht).elim (hA t) (hB t)
theorem kd_c {t : Int32 × Int32} {B : TL} (h : (t.1 = 0 ∧ t.2 = 0) ∨ t.1 = 1 ∨ t.1 = 2 ∨ t.1 = 4 ∨ t.1 = 5 ∨ t.1 = 6) (hB : kdT B) : kdT (t :: B) := fun x hx => (List.mem_cons.mp hx).elim (fun e => by rw [e]; exact h) (hB x)
theorem kd_nil : kdT [] := fun t ht => by cases ht
theorem kd_1 {v : Int32} : kdT [(1, v)] := kd_c (Or.inr (Or.inl rfl)) kd_nil
theorem kd_lst {i : Int32} {t : Tau} {φ : Fr} (h : kdT (t φ)) : kdT (lstT i t φ) := kd_c (Or.inr (Or.inr (Or.inr (Or.inl rfl)))) (kd_app h (kd_c (Or.inr (Or.inl rfl)) (kd_c (Or.inr (Or.inr (Or.inr (Or.inr (Or.inl rfl))))) kd_nil)))
theorem kd_row {φ : Fr} : ∀ (ks : List Kd), (∀ k ∈ ks, kdT (k.1 φ)) → kdT (rowT ks φ)
  | [], _ => kd_c (Or.inr (Or.inl rfl)) (kd_c (Or.inl ⟨rfl, rfl⟩) kd_nil)
  | k :: ks, h => kd_app (kd_row ks (fun k hk => h k (List.mem_cons_of_mem _ hk))) (kd_app (h k List.mem_cons_self) kd_1)
theorem kd_bo {a : Kd} {ls : List Nat} {φ : Fr} (h : kdT (a.1 (ls :: φ))) : kdT (boT a ls φ) := kd_c (Or.inr (Or.inl rfl)) (kd_lst h)
theorem kd_sg {c : Nat} {φ : Fr} : ∀ (ks : List Kd), (∀ k ∈ ks, kdT (k.1 φ)) → kdT (sgT c ks φ)
  | [], _ => kd_nil
  | [a], h => kd_app (h a List.mem_cons_self) kd_1
  | [a, b], h => by
    show kdT (if c = 46 then b.1 φ ++ (a.1 φ ++ [(1, 13)]) else a.1 φ ++ (b.1 φ ++ [(1, cdO c)]))
    have ha := h a List.mem_cons_self
    have hb := h b (List.mem_cons_of_mem _ List.mem_cons_self)
    split
    · exact kd_app hb (kd_app ha kd_1)
    · exact kd_app ha (kd_app hb kd_1)
  | [a, b, d], h => kd_app (h a List.mem_cons_self) (kd_c (Or.inr (Or.inl rfl)) (kd_app (kd_lst (h b (List.mem_cons_of_mem _ List.mem_cons_self))) (kd_lst (h d (List.mem_cons_of_mem _ (List.mem_cons_of_mem _ List.mem_cons_self))))))
  | _ :: _ :: _ :: _ :: _, _ => kd_nil
theorem gD_kd {tx : Nat → Nat} : ∀ (f : Nat) (b : Bool) (o d a : Nat) (D : TL) (a' : Nat), gD tx f b o d a = .inl (D, a') → kdT D
  | 0, b, o, d, a, D, a', h => by cases h
  | f + 1, false, o, d, a, D, a', h => by
    have e0 : gD tx (f + 1) false o d a = if tx a = 40 then (if d + o < 9 then cns (4, 0) (gD tx f (decide (tx (a + 1) = 41)) (o + 1) d (a + 1)) else .inr a) else if cL (tx a) then cns (2, nI (tx a)) (gD tx f true o d (a + 1)) else if cD (tx (pA1 tx a)) then cns (1, pVal tx a) (gD tx f true o d (pDg tx 4 (pA1 tx a) 0).1) else .inr (pA1 tx a) := rfl
    rw [e0] at h
    split at h
    · split at h
      · obtain ⟨D2, q1, q2⟩ := cns_inv h
        rw [q2]
        exact kd_c (Or.inr (Or.inr (Or.inr (Or.inl rfl)))) (gD_kd f _ _ _ _ _ _ q1)
      · cases h
    · split at h
      · obtain ⟨D2, q1, q2⟩ := cns_inv h
        rw [q2]
        exact kd_c (Or.inr (Or.inr (Or.inl rfl))) (gD_kd f _ _ _ _ _ _ q1)
      · split at h
        · obtain ⟨D2, q1, q2⟩ := cns_inv h
          rw [q2]
          exact kd_c (Or.inr (Or.inl rfl)) (gD_kd f _ _ _ _ _ _ q1)
        · cases h
  | f + 1, true, 0, d, a, D, a', h => by
    have h : (Sum.inl ([], a) : (TL × Nat) ⊕ Nat) = .inl (D, a') := h
    cases h
    exact kd_nil
  | f + 1, true, o + 1, d, a, D, a', h => by
    have e1 : gD tx (f + 1) true (o + 1) d a = if tx a = 41 then cns (5, 0) (gD tx f true o d (a + 1)) else if tx a = 32 then gD tx f false (o + 1) d (a + 1) else .inr a := rfl
    rw [e1] at h
    split at h
    · obtain ⟨D2, q1, q2⟩ := cns_inv h
      rw [q2]
      exact kd_c (Or.inr (Or.inr (Or.inr (Or.inr (Or.inl rfl))))) (gD_kd f _ _ _ _ _ _ q1)
    · split at h
      · exact gD_kd f false (o + 1) d (a + 1) D a' h
      · cases h
theorem cR_kd {tx : Nat → Nat} {r : rM} : ∀ (f n e : Nat) (t : Tau), cR tx r f n e t → ∀ φ, kdT (t φ)
  | 0, n, e, t, h, φ => absurd h id
  | f + 1, n, e, t, h, φ => by
    rcases h with ⟨h1, h2, h3⟩ | ⟨h1, h2, c, a, h3, h4, h5, h6, h7⟩ | ⟨h1, h2, a, a', d, D, h3, h4, h5, h6, h7⟩ | ⟨ks, l, h1, h2, h3, hT⟩
    · rw [h3]
      exact kd_c (Or.inr (Or.inl rfl)) kd_1
    · rw [h7]
      exact kd_c (Or.inr (Or.inl rfl)) (kd_c (Or.inr (Or.inr (Or.inr (Or.inr (Or.inr rfl))))) kd_nil)
    · rw [h7]
      exact kd_c (Or.inr (Or.inl rfl)) (gD_kd _ _ _ _ _ _ _ h5)
    · obtain ⟨A1, -⟩ := cKL_all (fun i m t w => cR_lt (tx := tx) (r := r) f i m t w.1) ks _ _ _ h1
      have kid : ∀ k ∈ ks, ∀ φ, kdT (k.1 φ) := fun k hk φ => by
        obtain ⟨a, b, -, -, w⟩ := A1 k hk
        exact cR_kd f a b k.1 w.1 φ
      rcases hT with ⟨k1, c, c1, c2, c3, c4, rfl⟩ | ⟨k1, a, args, rfl, c2, rfl⟩ | ⟨k1, a, ls, rfl, c2, c3, c4, c5, rfl⟩ | ⟨k1, a, args, ls, rfl, c2, c3, c4, c5, rfl⟩ | ⟨k1, a, args, ls, rfl, c2, c3, c4, c5, rfl⟩
      · exact kd_sg ks (fun k hk => kid k hk φ)
      · exact kd_app (kd_row args (fun k hk => kid k (List.mem_cons_of_mem _ hk) φ)) (kd_app (kid a List.mem_cons_self φ) kd_1)
      · exact kd_bo (kid a List.mem_cons_self _)
      · exact kd_app (kd_row args (fun k hk => kid k (List.mem_cons_of_mem _ hk) φ)) (kd_app (kd_bo (kid a List.mem_cons_self _)) kd_1)
      · exact kd_c (Or.inr (Or.inl rfl)) (kd_app (kd_row args (fun k hk => kid k (List.mem_cons_of_mem _ hk) _)) (kd_app (kd_bo (kid a List.mem_cons_self _)) kd_1))
theorem L1_lw {t : Int32 × Int32} {a b : LSt} (hkn : t.1 = 6 → ¬ t.2 < 0) (h : L1 (lw t) a b) : L1 t a b := by
  unfold lw at h
  split at h
  · next e =>
    rcases h with ⟨q, -⟩ | ⟨q, -⟩ | ⟨-, -, k, hk, hb⟩
    · exact absurd (show (1 : Int32) = 5 from q) (by decide)
    · exact absurd (show (1 : Int32) = 4 from q) (by decide)
    · refine Or.inr (Or.inr ⟨by rw [e]; decide, by rw [e]; decide, k, hk, ?_⟩)
      have en : nr t.2 = t.2 := if_neg (hkn e)
      have eh : hvT t = hvT (1, nr t.2) := by
        rw [en]
        unfold hvT
        rw [e]
        rfl
      rw [eh]
      exact hb
  · exact h
theorem LY_low : ∀ (T : TL) (a b : LSt), (∀ t ∈ T, t.1 = 6 → ¬ t.2 < 0) → LY (low T) a b → LY T a b
  | [], a, b, _, h => h
  | t :: T, a, b, hk, ⟨c, h1, h2⟩ => ⟨c, LY_low T a c (fun x hx => hk x (List.mem_cons_of_mem _ hx)) h1, L1_lw (hk t List.mem_cons_self) h2⟩
theorem ht_low : ∀ (T : TL), htT (low T) = htT T
  | [] => rfl
  | t :: T => by
    have ih := ht_low T
    show (match htT (low T) with | none => none | some h => if (lw t).1 = 5 then some (h + 1) else if (lw t).1 = 4 then (match h with | 0 => none | h + 1 => some h) else some h) = (match htT T with | none => none | some h => if t.1 = 5 then some (h + 1) else if t.1 = 4 then (match h with | 0 => none | h + 1 => some h) else some h)
    rw [ih]
    have e : ((lw t).1 = 5 ↔ t.1 = 5) ∧ ((lw t).1 = 4 ↔ t.1 = 4) := by
      unfold lw
      split
      · next w =>
        rw [w]
        exact ⟨⟨fun q => absurd (show (1 : Int32) = 5 from q) (by decide), fun q => absurd q (by decide)⟩, ⟨fun q => absurd (show (1 : Int32) = 4 from q) (by decide), fun q => absurd q (by decide)⟩⟩
      · exact ⟨Iff.rfl, Iff.rfl⟩
    cases htT T with
    | none => rfl
    | some h =>
      show (if (lw t).1 = 5 then some (h + 1) else if (lw t).1 = 4 then _ else some h) = (if t.1 = 5 then some (h + 1) else if t.1 = 4 then _ else some h)
      by_cases w5 : t.1 = 5
      · rw [if_pos w5, if_pos (e.1.mpr w5)]
      · rw [if_neg w5, if_neg (fun q => w5 (e.1.mp q))]
        by_cases w4 : t.1 = 4
        · rw [if_pos w4, if_pos (e.2.mpr w4)]
        · rw [if_neg w4, if_neg (fun q => w4 (e.2.mp q))]
theorem kd_low {T : TL} (h : kdT T) : ∀ t ∈ low T, (t.1 = 0 ∧ t.2 = 0) ∨ t.1 = 1 ∨ t.1 = 2 ∨ t.1 = 4 ∨ t.1 = 5 := by
  intro t ht
  obtain ⟨x, hx, rfl⟩ := List.mem_map.mp ht
  unfold lw
  split
  · exact Or.inr (Or.inl rfl)
  · next n6 =>
    rcases h x hx with w | w | w | w | w | w
    · exact Or.inl w
    · exact Or.inr (Or.inl w)
    · exact Or.inr (Or.inr (Or.inl w))
    · exact Or.inr (Or.inr (Or.inr (Or.inl w)))
    · exact Or.inr (Or.inr (Or.inr (Or.inr w)))
    · exact absurd w n6
theorem ht_le : ∀ (A B : TL) (h p : Nat), htT (A ++ B) = some h → htT B = some p → p ≤ h + cnt A
  | [], B, h, p, h1, h2 => by
    have h1 : htT B = some h := h1
    rw [h1] at h2
    cases h2
    exact Nat.le_add_right _ _
  | t :: A, B, h, p, h1, h2 => by
    have h1 : (match htT (A ++ B) with | none => none | some h => if t.1 = 5 then some (h + 1) else if t.1 = 4 then (match h with | 0 => none | h + 1 => some h) else some h) = some h := h1
    have ec : cnt (t :: A) = (if t.1 = 5 then 0 else 1) + cnt A := rfl
    cases hq : htT (A ++ B) with
    | none => rw [hq] at h1; cases h1
    | some q =>
      rw [hq] at h1
      have ih := ht_le A B q p hq h2
      have h1 : (if t.1 = 5 then some (q + 1) else if t.1 = 4 then (match (generalizing := false) q with | 0 => none | h + 1 => some h) else some q) = some h := h1
      rw [ec]
      by_cases w5 : t.1 = 5
      · rw [if_pos w5] at h1
        cases h1
        omega
      · rw [if_neg w5] at h1 ⊢
        by_cases w4 : t.1 = 4
        · rw [if_pos w4] at h1
          cases q with
          | zero => cases h1
          | succ q =>
            have h1 : some q = some h := h1
            cases h1
            omega
        · rw [if_neg w4] at h1
          cases h1
          omega
theorem ht_pre : ∀ (A B : TL) (h : Nat), htT (A ++ B) = some h → ∃ p, htT B = some p
  | [], B, h, h1 => ⟨h, h1⟩
  | t :: A, B, h, h1 => by
    have h1 : (match htT (A ++ B) with | none => none | some h => if t.1 = 5 then some (h + 1) else if t.1 = 4 then (match h with | 0 => none | h + 1 => some h) else some h) = some h := h1
    cases hq : htT (A ++ B) with
    | none => rw [hq] at h1; cases h1
    | some q => exact ht_pre A B q hq
theorem snoc_ex : ∀ (A : TL), A = [] ∨ ∃ A' t, A = A' ++ [t]
  | [] => Or.inl rfl
  | t :: A => by
    rcases snoc_ex A with rfl | ⟨A', t', rfl⟩
    · exact Or.inr ⟨[], t, rfl⟩
    · exact Or.inr ⟨t :: A', t', rfl⟩
