def okTt (T : TL) : Prop := ∀ x ∈ T, x.1 = 6 → ∃ X, X < 10000 ∧ x.2 = nI X
theorem okT_l {A B : TL} (h : okTt (A ++ B)) : okTt A := fun x hx => h x (List.mem_append.mpr (Or.inl hx))
theorem okT_r {A B : TL} (h : okTt (A ++ B)) : okTt B := fun x hx => h x (List.mem_append.mpr (Or.inr hx))
theorem okT_c {t : Int32 × Int32} {B : TL} (h : okTt (t :: B)) : okTt B := fun x hx => h x (List.mem_cons_of_mem _ hx)
theorem okT_lst {i : Int32} {t : Tau} {φ : Fr} (h : okTt (lstT i t φ)) : okTt (t φ) := okT_l (okT_c h)
theorem okT_row {φ : Fr} : ∀ (ks : List Kd), okTt (rowT ks φ) → ∀ k ∈ ks, okTt (k.1 φ)
  | [], _, k, hk => by cases hk
  | k0 :: ks, h, k, hk => by
    have h : okTt (rowT ks φ ++ (k0.1 φ ++ [(1, 13)])) := h
    rcases List.mem_cons.mp hk with w | w
    · rw [w]
      exact okT_l (okT_r h)
    · exact okT_row ks (okT_l h) k w
theorem cd_1 {c : Nat} (h : ar c = 1) : cdO c = 10 ∨ cdO c = 11 ∨ cdO c = 12 := by
  unfold ar at h
  split at h
  · omega
  · split at h
    · next w =>
      rcases w with w | w | w <;> subst w
      · exact Or.inl rfl
      · exact Or.inr (Or.inl rfl)
      · exact Or.inr (Or.inr rfl)
    · split at h <;> omega
theorem cd_2 {c : Nat} (h : ar c = 2) : cdO c = 13 ∨ cdO c = 14 ∨ cdO c = 15 ∨ cdO c = 16 ∨ cdO c = 17 ∨ cdO c = 18 := by
  unfold ar at h
  split at h
  · next w =>
    rcases w with w | w | w | w | w | w <;> subst w <;> decide
  · split at h
    · omega
    · split at h <;> omega
def htT : TL → Option Nat
  | [] => some 0
  | t :: T => match htT T with
    | none => none
    | some h => if t.1 = 5 then some (h + 1) else if t.1 = 4 then (match h with
      | 0 => none
      | h + 1 => some h) else some h
def HTy (T : TL) (o : Nat) : Prop := ∀ B h, htT B = some h → htT (T ++ B) = some (h + o)
theorem HT_nil : HTy [] 0 := fun B h e => e
theorem HT_app {A B : TL} {o p : Nat} (hA : HTy A o) (hB : HTy B p) : HTy (A ++ B) (o + p) := by
  intro C h e
  rw [List.append_assoc, hA _ _ (hB C h e)]
  congr 1
  omega
theorem HT_c {t : Int32 × Int32} {A : TL} {o : Nat} (h5 : ¬ t.1 = 5) (h4 : ¬ t.1 = 4) (hA : HTy A o) : HTy (t :: A) o := by
  intro B h e
  show (match htT (A ++ B) with | none => none | some h => if t.1 = 5 then some (h + 1) else if t.1 = 4 then (match h with | 0 => none | h + 1 => some h) else some h) = _
  rw [hA B h e]
  show (if t.1 = 5 then some (h + o + 1) else if t.1 = 4 then _ else some (h + o)) = _
  rw [if_neg h5, if_neg h4]
theorem HT_5 {v : Int32} {A : TL} {o : Nat} (hA : HTy A o) : HTy ((5, v) :: A) (o + 1) := by
  intro B h e
  show (match htT (A ++ B) with | none => none | some h => if (5 : Int32) = 5 then some (h + 1) else if (5 : Int32) = 4 then (match h with | 0 => none | h + 1 => some h) else some h) = _
  rw [hA B h e]
  rfl
theorem HT_4 {v : Int32} {A : TL} {o : Nat} (hA : HTy A (o + 1)) : HTy ((4, v) :: A) o := by
  intro B h e
  show (match htT (A ++ B) with | none => none | some h => if (4 : Int32) = 5 then some (h + 1) else if (4 : Int32) = 4 then (match h with | 0 => none | h + 1 => some h) else some h) = _
  rw [hA B h e]
  rfl
theorem HT_1 {v : Int32} : HTy [(1, v)] 0 := HT_c (show ¬ (1 : Int32) = 5 by decide) (show ¬ (1 : Int32) = 4 by decide) HT_nil
theorem HT_lst {i : Int32} {t : Tau} {φ : Fr} (h : HTy (t φ) 0) : HTy (lstT i t φ) 0 := by
  unfold lstT
  have h1 : HTy [((1 : Int32), i), (5, 0)] 1 := HT_c (show ¬ (1 : Int32) = 5 by decide) (show ¬ (1 : Int32) = 4 by decide) (HT_5 HT_nil)
  have h2 := HT_app h h1
  exact HT_4 h2
theorem HT_row {φ : Fr} : ∀ (ks : List Kd), (∀ k ∈ ks, HTy (k.1 φ) 0) → HTy (rowT ks φ) 0
  | [], _ => HT_c (show ¬ (1 : Int32) = 5 by decide) (show ¬ (1 : Int32) = 4 by decide) (HT_c (show ¬ (0 : Int32) = 5 by decide) (show ¬ (0 : Int32) = 4 by decide) HT_nil)
  | k :: ks, h => HT_app (HT_row ks (fun k hk => h k (List.mem_cons_of_mem _ hk))) (HT_app (h k List.mem_cons_self) HT_1)
theorem HT_bo {a : Kd} {ls : List Nat} {φ : Fr} (h : HTy (a.1 (ls :: φ)) 0) : HTy (boT a ls φ) 0 := HT_c (show ¬ (1 : Int32) = 5 by decide) (show ¬ (1 : Int32) = 4 by decide) (HT_lst h)
theorem gD_ht {tx : Nat → Nat} : ∀ (f : Nat) (b : Bool) (o d a : Nat) (D : TL) (a' : Nat), gD tx f b o d a = .inl (D, a') → HTy D o
  | 0, b, o, d, a, D, a', h => by cases h
  | f + 1, false, o, d, a, D, a', h => by
    have e0 : gD tx (f + 1) false o d a = if tx a = 40 then (if d + o < 9 then cns (4, 0) (gD tx f (decide (tx (a + 1) = 41)) (o + 1) d (a + 1)) else .inr a) else if cL (tx a) then cns (2, nI (tx a)) (gD tx f true o d (a + 1)) else if cD (tx (pA1 tx a)) then cns (1, pVal tx a) (gD tx f true o d (pDg tx 4 (pA1 tx a) 0).1) else .inr (pA1 tx a) := rfl
    rw [e0] at h
    split at h
    · split at h
      · obtain ⟨D2, q1, q2⟩ := cns_inv h
        rw [q2]
        exact HT_4 (gD_ht f _ _ _ _ _ _ q1)
      · cases h
    · split at h
      · obtain ⟨D2, q1, q2⟩ := cns_inv h
        rw [q2]
        exact HT_c (show ¬ (2 : Int32) = 5 by decide) (show ¬ (2 : Int32) = 4 by decide) (gD_ht f _ _ _ _ _ _ q1)
      · split at h
        · obtain ⟨D2, q1, q2⟩ := cns_inv h
          rw [q2]
          exact HT_c (show ¬ (1 : Int32) = 5 by decide) (show ¬ (1 : Int32) = 4 by decide) (gD_ht f _ _ _ _ _ _ q1)
        · cases h
  | f + 1, true, 0, d, a, D, a', h => by
    have h : (Sum.inl ([], a) : (TL × Nat) ⊕ Nat) = .inl (D, a') := h
    cases h
    exact HT_nil
  | f + 1, true, o + 1, d, a, D, a', h => by
    have e1 : gD tx (f + 1) true (o + 1) d a = if tx a = 41 then cns (5, 0) (gD tx f true o d (a + 1)) else if tx a = 32 then gD tx f false (o + 1) d (a + 1) else .inr a := rfl
    rw [e1] at h
    split at h
    · obtain ⟨D2, q1, q2⟩ := cns_inv h
      rw [q2]
      exact HT_5 (gD_ht f _ _ _ _ _ _ q1)
    · split at h
      · exact gD_ht f false (o + 1) d (a + 1) D a' h
      · cases h
theorem sg_ht {c : Nat} {φ : Fr} : ∀ (ks : List Kd), (∀ k ∈ ks, HTy (k.1 φ) 0) → HTy (sgT c ks φ) 0
  | [], _ => HT_nil
  | [a], h => HT_app (h a List.mem_cons_self) HT_1
  | [a, b], h => by
    show HTy (if c = 46 then b.1 φ ++ (a.1 φ ++ [(1, 13)]) else a.1 φ ++ (b.1 φ ++ [(1, cdO c)])) 0
    have ha := h a List.mem_cons_self
    have hb := h b (List.mem_cons_of_mem _ List.mem_cons_self)
    split
    · exact HT_app hb (HT_app ha HT_1)
    · exact HT_app ha (HT_app hb HT_1)
  | [a, b, d], h => HT_app (h a List.mem_cons_self) (HT_c (show ¬ (1 : Int32) = 5 by decide) (show ¬ (1 : Int32) = 4 by decide) (HT_app (HT_lst (h b (List.mem_cons_of_mem _ List.mem_cons_self))) (HT_lst (h d (List.mem_cons_of_mem _ (List.mem_cons_of_mem _ List.mem_cons_self))))))
  | _ :: _ :: _ :: _ :: _, _ => HT_nil
theorem cR_ht {tx : Nat → Nat} {r : rM} : ∀ (f n e : Nat) (t : Tau), cR tx r f n e t → ∀ φ, HTy (t φ) 0
  | 0, n, e, t, h, φ => absurd h id
  | f + 1, n, e, t, h, φ => by
    rcases h with ⟨h1, h2, h3⟩ | ⟨h1, h2, c, a, h3, h4, h5, h6, h7⟩ | ⟨h1, h2, a, a', d, D, h3, h4, h5, h6, h7⟩ | ⟨ks, l, h1, h2, h3, hT⟩
    · rw [h3]
      exact HT_c (show ¬ (1 : Int32) = 5 by decide) (show ¬ (1 : Int32) = 4 by decide) HT_1
    · rw [h7]
      exact HT_c (show ¬ (1 : Int32) = 5 by decide) (show ¬ (1 : Int32) = 4 by decide) (HT_c (show ¬ (6 : Int32) = 5 by decide) (show ¬ (6 : Int32) = 4 by decide) HT_nil)
    · rw [h7]
      exact HT_c (show ¬ (1 : Int32) = 5 by decide) (show ¬ (1 : Int32) = 4 by decide) (gD_ht _ _ _ _ _ _ _ h5)
    · obtain ⟨A1, -⟩ := cKL_all (fun i m t w => cR_lt (tx := tx) (r := r) f i m t w.1) ks _ _ _ h1
      have kid : ∀ k ∈ ks, ∀ φ, HTy (k.1 φ) 0 := fun k hk φ => by
        obtain ⟨a, b, -, -, w⟩ := A1 k hk
        exact cR_ht f a b k.1 w.1 φ
      rcases hT with ⟨k1, c, c1, c2, c3, c4, rfl⟩ | ⟨k1, a, args, rfl, c2, rfl⟩ | ⟨k1, a, ls, rfl, c2, c3, c4, c5, rfl⟩ | ⟨k1, a, args, ls, rfl, c2, c3, c4, c5, rfl⟩ | ⟨k1, a, args, ls, rfl, c2, c3, c4, c5, rfl⟩
      · exact sg_ht ks (fun k hk => kid k hk φ)
      · exact HT_app (HT_row args (fun k hk => kid k (List.mem_cons_of_mem _ hk) φ)) (HT_app (kid a List.mem_cons_self φ) HT_1)
      · exact HT_bo (kid a List.mem_cons_self _)
      · exact HT_app (HT_row args (fun k hk => kid k (List.mem_cons_of_mem _ hk) φ)) (HT_app (HT_bo (kid a List.mem_cons_self _)) HT_1)
      · exact HT_c (show ¬ (1 : Int32) = 5 by decide) (show ¬ (1 : Int32) = 4 by decide) (HT_app (HT_row args (fun k hk => kid k (List.mem_cons_of_mem _ hk) _)) (HT_app (HT_bo (kid a List.mem_cons_self _)) HT_1))
theorem ty_app {A B : TL} (hA : LTy A) {a b : LSt} (ha : GDl a) (h : LY (A ++ B) a b) {k : Sk} {n : Nat} {e : En} (hB : ∀ c, LY B a c → GDl c → c.2.2.2.2 = a.2.2.2.2 ∧ WTl c c.2.2.2.1 (false :: k) n false e) : b.2.2.2.2 = a.2.2.2.2 ∧ WTl b b.2.2.2.1 k n false e := by
  obtain ⟨c, h1, h2⟩ := LY_app _ _ _ _ h
  obtain ⟨g1, -⟩ := LY_gd _ _ _ ha h1
  obtain ⟨w1, w2⟩ := hB c h1 g1
  obtain ⟨p1, p2⟩ := hA c b g1 h2
  exact ⟨p1.trans w1, p2 k n e w2⟩
theorem row_app {ks : List Kd} {φ : Fr} {B : TL} (hA : ∀ k ∈ ks, LTy (k.1 φ)) {a b : LSt} (ha : GDl a) (h : LY (rowT ks φ ++ B) a b) {k : Sk} {n : Nat} {e : En} (hB : ∀ c, LY B a c → GDl c → c.2.2.2.2 = a.2.2.2.2 ∧ WTl c c.2.2.2.1 (true :: k) n false e) : b.2.2.2.2 = a.2.2.2.2 ∧ WTl b b.2.2.2.1 k n false e := by
  obtain ⟨c, h1, h2⟩ := LY_app _ _ _ _ h
  obtain ⟨g1, -⟩ := LY_gd _ _ _ ha h1
  obtain ⟨w1, w2⟩ := hB c h1 g1
  obtain ⟨p1, p2⟩ := row_ty ks hA c b g1 h2
  exact ⟨p1.trans w1, p2 k n e w2⟩
theorem LTy_of {T : TL} (hp : ∀ a b, GDl a → LY T a b → b.2.2.2.2 = a.2.2.2.2) (hw : ∀ a b, GDl a → LY T a b → ∀ k n e, WTl a a.2.2.2.1 (false :: k) n false e → WTl b b.2.2.2.1 k n false e) : LTy T := fun a b ha h => ⟨hp a b ha h, hw a b ha h⟩
