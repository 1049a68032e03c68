theorem L1_at {t : Int32 × Int32} {a b : LSt} (ha : GDl a) (h5 : ¬ t.1 = 5) (h4 : ¬ t.1 = 4) (h : L1 t a b) : ∃ c, b.2.2.2.1 = vPr c ∧ b.1 c = hvT t ∧ b.2.1 c = a.2.2.2.1 ∧ b.2.2.2.2 = a.2.2.2.2 ∧ GDl b ∧ XT a b := by
  obtain ⟨g1, g2⟩ := L1_gd ha h
  rcases h with ⟨q, -⟩ | ⟨q, -⟩ | ⟨-, -, k, hk, rfl⟩
  · exact absurd q h5
  · exact absurd q h4
  · exact ⟨k, rfl, if_pos rfl, if_pos rfl, rfl, g1, g2⟩
theorem const_wt {a c b : LSt} {d : Nat} {t : Bool} {k : Sk} {n : Nat} {e : En} (ha : GDl a) (gc : GDl c) (xc : XT a c) (e1 : c.2.2.2.1 = vPr d) (e2 : c.2.1 d = a.2.2.2.1) (hv : t = true → c.1 d = vNil) (h : L1 (1, 1) c b) (hw : WTl a a.2.2.2.1 (t :: k) n false e) : WTl b b.2.2.2.1 k n false e ∧ b.2.2.2.2 = c.2.2.2.2 := by
  obtain ⟨c0, q1, q2, q3, q4, q5, q6⟩ := L1_int gc h
  have ud : c.2.2.1 d := inU_pr (by rw [← e1]; exact gc.2.1.1)
  obtain ⟨y1, -, y3⟩ := q6.1 d ud
  obtain ⟨f, hf⟩ := WT_x ha (XT_tr xc q6) ha.2.1.1 hw
  refine ⟨?_, q4⟩
  rw [q1]
  refine ⟨f + 1, c0, 1, rfl, rfl, q2, Or.inl ⟨rfl, d, t, q3.trans e1, rfl, fun w => (y3 rfl).trans (hv w), ?_⟩⟩
  rw [y1, e2]
  exact hf
def LDy (D : TL) : Prop := ∀ a b, GDl a → LY D a b → b.2.2.2.2 = a.2.2.2.2 ∧ ∃ d, b.2.2.2.1 = vPr d ∧ b.2.1 d = a.2.2.2.1
def SDy (b : Bool) : Nat → TL → Prop
  | 0, D => if b = true then D = [] else LDy D
  | o + 1, D => ∀ x y, GDl x → LY D x y → ∃ xs : List Vl, xs.length = o ∧ y.2.2.2.2 = xs ++ (x.2.2.2.1 :: x.2.2.2.2)
theorem SDy_b {o : Nat} {D : TL} {b b' : Bool} (h : SDy b (o + 1) D) : SDy b' (o + 1) D := h
theorem SD_atom {t : Int32 × Int32} (h5 : ¬ t.1 = 5) (h4 : ¬ t.1 = 4) {D : TL} : ∀ {o : Nat}, SDy true o D → SDy false o (t :: D)
  | 0, h => by
    have h : D = [] := h
    subst h
    intro a b ha hl
    obtain ⟨c, q1, q2, q3, q4, -⟩ := L1_at ha h5 h4 (LY_one hl)
    exact ⟨q4, c, q1, q3⟩
  | o + 1, h => by
    intro x y gx hl
    obtain ⟨c, h1, h2⟩ := hl
    obtain ⟨g1, x1⟩ := LY_gd _ _ _ gx h1
    obtain ⟨xs, q1, q2⟩ := h x c gx h1
    obtain ⟨-, -, -, -, q4, -⟩ := L1_at g1 h5 h4 h2
    exact ⟨xs, q1, q4.trans q2⟩
theorem SD_open {D : TL} {b : Bool} {o : Nat} (h : SDy b (o + 1) D) : SDy false o ((4, 0) :: D) := by
  have key : ∀ x y, GDl x → LY ((4, 0) :: D) x y → ∃ xs : List Vl, xs.length = o ∧ ∃ c P ps k, xs ++ (x.2.2.2.1 :: x.2.2.2.2) = P :: ps ∧ y = newL c k c.2.2.2.1 P ps := by
    intro x y gx hl
    obtain ⟨c, h1, h2⟩ := hl
    obtain ⟨xs, q1, q2⟩ := h x c gx h1
    rcases h2 with ⟨q, -⟩ | ⟨-, P, ps, k, e, hk, rfl⟩ | ⟨-, q, -⟩
    · exact absurd (show (4 : Int32) = 5 from q) (by decide)
    · exact ⟨xs, q1, c, P, ps, k, q2.symm.trans e, rfl⟩
    · exact absurd rfl q
  cases o with
  | zero =>
    intro a b ha hl
    obtain ⟨xs, q1, c, P, ps, k, q2, rfl⟩ := key a b ha hl
    have : xs = [] := List.length_eq_zero_iff.mp q1
    subst this
    injection q2 with e1 e2
    exact ⟨e2.symm, k, rfl, (if_pos rfl : upW c.2.1 k P k = P).trans e1.symm⟩
  | succ o =>
    intro x y gx hl
    obtain ⟨xs, q1, c, P, ps, k, q2, rfl⟩ := key x y gx hl
    cases xs with
    | nil => cases q1
    | cons x0 xs =>
      injection q2 with e1 e2
      exact ⟨xs, by rw [List.length_cons] at q1; omega, e2.symm⟩
theorem SD_close {D : TL} : ∀ {o : Nat}, SDy true o D → SDy true (o + 1) ((5, 0) :: D)
  | 0, h => by
    have h : D = [] := h
    subst h
    intro x y gx hl
    rcases LY_one hl with ⟨-, rfl⟩ | ⟨q, -⟩ | ⟨q, -⟩
    · exact ⟨[], rfl, rfl⟩
    · exact absurd (show (5 : Int32) = 4 from q) (by decide)
    · exact absurd rfl q
  | o + 1, h => by
    intro x y gx hl
    obtain ⟨c, h1, h2⟩ := hl
    obtain ⟨xs, q1, q2⟩ := h x c gx h1
    rcases h2 with ⟨-, rfl⟩ | ⟨q, -⟩ | ⟨q, -⟩
    · refine ⟨c.2.2.2.1 :: xs, by rw [List.length_cons, q1], ?_⟩
      show c.2.2.2.1 :: c.2.2.2.2 = _
      rw [q2]
      rfl
    · exact absurd (show (5 : Int32) = 4 from q) (by decide)
    · exact absurd rfl q
theorem gD_sd {tx : Nat → Nat} : ∀ (f : Nat) (b : Bool) (o d a : Nat) (D : TL) (a' : Nat), gD tx f b o d a = .inl (D, a') → SDy b o D
  | 0, b, o, d, a, D, a', h => by cases h
  | f + 1, false, o, d, a, D, a', h => by
    have e0 : gD tx (f + 1) false o d a = if tx a = 40 then (if d + o < 9 then cns (4, 0) (gD tx f (decide (tx (a + 1) = 41)) (o + 1) d (a + 1)) else .inr a) else if cL (tx a) then cns (2, nI (tx a)) (gD tx f true o d (a + 1)) else if cD (tx (pA1 tx a)) then cns (1, pVal tx a) (gD tx f true o d (pDg tx 4 (pA1 tx a) 0).1) else .inr (pA1 tx a) := rfl
    rw [e0] at h
    split at h
    · split at h
      · obtain ⟨D2, q1, q2⟩ := cns_inv h
        rw [q2]
        exact SD_open (gD_sd f _ _ _ _ _ _ q1)
      · cases h
    · split at h
      · obtain ⟨D2, q1, q2⟩ := cns_inv h
        rw [q2]
        exact SD_atom (show ¬ (2 : Int32) = 5 by decide) (show ¬ (2 : Int32) = 4 by decide) (gD_sd f _ _ _ _ _ _ q1)
      · split at h
        · obtain ⟨D2, q1, q2⟩ := cns_inv h
          rw [q2]
          exact SD_atom (show ¬ (1 : Int32) = 5 by decide) (show ¬ (1 : Int32) = 4 by decide) (gD_sd f _ _ _ _ _ _ q1)
        · cases h
  | f + 1, true, 0, d, a, D, a', h => by
    have h : (Sum.inl ([], a) : (TL × Nat) ⊕ Nat) = .inl (D, a') := h
    cases h
    rfl
  | f + 1, true, o + 1, d, a, D, a', h => by
    have e1 : gD tx (f + 1) true (o + 1) d a = if tx a = 41 then cns (5, 0) (gD tx f true o d (a + 1)) else if tx a = 32 then gD tx f false (o + 1) d (a + 1) else .inr a := rfl
    rw [e1] at h
    split at h
    · obtain ⟨D2, q1, q2⟩ := cns_inv h
      rw [q2]
      exact SD_close (gD_sd f _ _ _ _ _ _ q1)
    · split at h
      · exact SDy_b (gD_sd f false (o + 1) d (a + 1) D a' h)
      · cases h
theorem row_ty {φ : Fr} : ∀ (ks : List Kd), (∀ k ∈ ks, LTy (k.1 φ)) → ∀ a b, GDl a → LY (rowT ks φ) a b → b.2.2.2.2 = a.2.2.2.2 ∧ ∀ k n e, WTl a a.2.2.2.1 (true :: k) n false e → WTl b b.2.2.2.1 k n false e
  | [], _, a, b, ha, h => by
    obtain ⟨c, h1, h2⟩ := h
    obtain ⟨d, q1, q2, q3, q4, q5, q6⟩ := L1_at ha (show ¬ (0 : Int32) = 5 by decide) (show ¬ (0 : Int32) = 4 by decide) (LY_one h1)
    refine ⟨?_, fun k n e hw => ?_⟩
    · obtain ⟨-, -, -, -, w, -⟩ := L1_int q5 h2
      exact w.trans q4
    · exact (const_wt (t := true) ha q5 q6 q1 q3 (fun _ => q2) h2 hw).1
  | k0 :: ks, hks, a, b, ha, h => by
    have h : LY (rowT ks φ ++ (k0.1 φ ++ [(1, 13)])) a b := h
    obtain ⟨c, h1, h2⟩ := LY_app _ _ _ _ h
    obtain ⟨d, h3, h4⟩ := LY_app _ _ _ _ h1
    have h3 := LY_one h3
    obtain ⟨g1, x1⟩ := L1_gd ha h3
    obtain ⟨g2, x2⟩ := LY_gd _ _ _ g1 h4
    obtain ⟨p1, p2⟩ := hks k0 List.mem_cons_self d c g1 h4
    obtain ⟨r1, r2⟩ := row_ty ks (fun k hk => hks k (List.mem_cons_of_mem _ hk)) c b g2 h2
    obtain ⟨-, -, -, -, w, -⟩ := L1_int ha h3
    refine ⟨r1.trans (p1.trans w), fun k n e hw => r2 k n e (p2 (true :: k) n e (o_13 ha h3 hw).1)⟩
theorem bo_ty {a : Kd} {ls : List Nat} {φ : Fr} (ht : LTy (a.1 (ls :: φ))) {x y : LSt} (hx : GDl x) (h : LY (boT a ls φ) x y) : y.2.2.2.2 = x.2.2.2.2 ∧ ∀ k n e, WTl x x.2.2.2.1 (false :: k) n (decide (0 < n)) e → WTl y y.2.2.2.1 k n false e := by
  obtain ⟨c, h1, h2⟩ := h
  obtain ⟨d, q1, q2, q3, q4, q5, q6⟩ := lst_wt hx h1 ht (k1 := []) (n1 := 1) (e1 := eRet) (fun a' b' g w => o_5 g w)
  obtain ⟨c0, p1, p2, p3, p4, p5, p6⟩ := L1_int q5 h2
  refine ⟨p4.trans q4, fun k n e hw => ?_⟩
  have ud : c.2.2.1 d := inU_pr (by rw [← q1]; exact q5.2.1.1)
  obtain ⟨y1, -, y3⟩ := p6.1 d ud
  obtain ⟨f1, hf1⟩ := WT_x q5 p6 (SI_h q5.1 ud) q3
  obtain ⟨f2, hf2⟩ := WT_x hx (XT_tr q6 p6) hx.2.1.1 hw
  rw [p1]
  refine ⟨f1 + f2 + 1, c0, 3, rfl, rfl, p2, Or.inr (Or.inr (Or.inl ⟨rfl, d, p3.trans q1, rfl, ?_, ?_⟩))⟩
  · rw [y3 rfl]
    exact wt_le hf1 f2
  · rw [y1, q2, Nat.add_comm f1 f2]
    exact wt_le hf2 f1
theorem LTy_app {A : TL} {i : Int32} (hA : LTy A) {k0 : Sk} {a b : LSt} (ha : GDl a) (h : LY (A ++ [(1, i)]) a b) {k : Sk} {n : Nat} {e : En} (hw : ∀ c, L1 (1, i) a c → WTl c c.2.2.2.1 (false :: k) n false e) : b.2.2.2.2 = a.2.2.2.2 ∧ WTl b b.2.2.2.1 k n false e := by
  obtain ⟨c, h1, h2⟩ := LY_app _ _ _ _ h
  have h1 := LY_one h1
  obtain ⟨g1, x1⟩ := L1_gd ha h1
  obtain ⟨p1, p2⟩ := hA c b g1 h2
  obtain ⟨-, -, -, -, w, -⟩ := L1_int ha h1
  exact ⟨p1.trans w, p2 k n e (hw c h1)⟩
