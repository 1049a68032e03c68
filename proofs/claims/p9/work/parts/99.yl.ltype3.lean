section
def okTt (T : TL) : Prop := ∀ x ∈ T, x.1 = 6 → ∃ X, X < 10000 ∧ x.2 = nI X
theorem okT_l {A B : TL} (h : okTt (A ++ B)) : okTt A := fun x hx => h x (List.mem_append.mpr (Or.inl hx))
theorem okT_r {A B : TL} (h : okTt (A ++ B)) : okTt B := fun x hx => h x (List.mem_append.mpr (Or.inr hx))
theorem okT_c {t : Int32 × Int32} {B : TL} (h : okTt (t :: B)) : okTt B := fun x hx => h x (List.mem_cons_of_mem _ hx)
theorem okT_lst {i : Int32} {t : Tau} {φ : Fr} (h : okTt (lstT i t φ)) : okTt (t φ) := okT_l (okT_c h)
theorem okT_row {φ : Fr} : ∀ (ks : List Kd), okTt (rowT ks φ) → ∀ k ∈ ks, okTt (k.1 φ)
  | [], _, k, hk => by cases hk
  | k0 :: ks, h, k, hk => by
    have h : okTt (rowT ks φ ++ (k0.1 φ ++ [(1, 13)])) := h
    rcases List.mem_cons.mp hk with w | w
    · rw [w]
      exact okT_l (okT_r h)
    · exact okT_row ks (okT_l h) k w
theorem cd_1 {c : Nat} (h : ar c = 1) : cdO c = 10 ∨ cdO c = 11 ∨ cdO c = 12 := by
  unfold ar at h
  split at h
  · omega
  · split at h
    · next w =>
      rcases w with w | w | w <;> subst w
      · exact Or.inl rfl
      · exact Or.inr (Or.inl rfl)
      · exact Or.inr (Or.inr rfl)
    · split at h <;> omega
theorem cd_2 {c : Nat} (h : ar c = 2) : cdO c = 13 ∨ cdO c = 14 ∨ cdO c = 15 ∨ cdO c = 16 ∨ cdO c = 17 ∨ cdO c = 18 := by
  unfold ar at h
  split at h
  · next w =>
    rcases w with w | w | w | w | w | w <;> subst w <;> decide
  · split at h
    · omega
    · split at h <;> omega
def htT : TL → Option Nat
  | [] => some 0
  | t :: T => match htT T with
    | none => none
    | some h => if t.1 = 5 then some (h + 1) else if t.1 = 4 then (match h with
      | 0 => none
      | h + 1 => some h) else some h
def HTy (T : TL) (o : Nat) : Prop := ∀ B h, htT B = some h → htT (T ++ B) = some (h + o)
theorem HT_nil : HTy [] 0 := fun B h e => e
theorem HT_app {A B : TL} {o p : Nat} (hA : HTy A o) (hB : HTy B p) : HTy (A ++ B) (o + p) := by
  intro C h e
  rw [List.append_assoc, hA _ _ (hB C h e)]
  congr 1
  omega
theorem HT_c {t : Int32 × Int32} {A : TL} {o : Nat} (h5 : ¬ t.1 = 5) (h4 : ¬ t.1 = 4) (hA : HTy A o) : HTy (t :: A) o := by
  intro B h e
  show (match htT (A ++ B) with | none => none | some h => if t.1 = 5 then some (h + 1) else if t.1 = 4 then (match h with | 0 => none | h + 1 => some h) else some h) = _
  rw [hA B h e]
  show (if t.1 = 5 then some (h + o + 1) else if t.1 = 4 then _ else some (h + o)) = _
  rw [if_neg h5, if_neg h4]
theorem HT_5 {v : Int32} {A : TL} {o : Nat} (hA : HTy A o) : HTy ((5, v) :: A) (o + 1) := by
  intro B h e
  show (match htT (A ++ B) with | none => none | some h => if (5 : Int32) = 5 then some (h + 1) else if (5 : Int32) = 4 then (match h with | 0 => none | h + 1 => some h) else some h) = _
  rw [hA B h e]
  rfl
theorem HT_4 {v : Int32} {A : TL} {o : Nat} (hA : HTy A (o + 1)) : HTy ((4, v) :: A) o := by
  intro B h e
  show (match htT (A ++ B) with | none => none | some h => if (4 : Int32) = 5 then some (h + 1) else if (4 : Int32) = 4 then (match h with | 0 => none | h + 1 => some h) else some h) = _
  rw [hA B h e]
  rfl
theorem HT_1 {v : Int32} : HTy [(1, v)] 0 := HT_c (show ¬ (1 : Int32) = 5 by decide) (show ¬ (1 : Int32) = 4 by decide) HT_nil
theorem HT_lst {i : Int32} {t : Tau} {φ : Fr} (h : HTy (t φ) 0) : HTy (lstT i t φ) 0 := by
  unfold lstT
  have h1 : HTy [((1 : Int32), i), (5, 0)] 1 := HT_c (show ¬ (1 : Int32) = 5 by decide) (show ¬ (1 : Int32) = 4 by decide) (HT_5 HT_nil)
  have h2 := HT_app h h1
  exact HT_4 h2
theorem HT_row {φ : Fr} : ∀ (ks : List Kd), (∀ k ∈ ks, HTy (k.1 φ) 0) → HTy (rowT ks φ) 0
  | [], _ => HT_c (show ¬ (1 : Int32) = 5 by decide) (show ¬ (1 : Int32) = 4 by decide) (HT_c (show ¬ (0 : Int32) = 5 by decide) (show ¬ (0 : Int32) = 4 by decide) HT_nil)
  | k :: ks, h => HT_app (HT_row ks (fun k hk => h k (List.mem_cons_of_mem _ hk))) (HT_app (h k List.mem_cons_self) HT_1)
theorem HT_bo {a : Kd} {ls : List Nat} {φ : Fr} (h : HTy (a.1 (ls :: φ)) 0) : HTy (boT a ls φ) 0 := HT_c (show ¬ (1 : Int32) = 5 by decide) (show ¬ (1 : Int32) = 4 by decide) (HT_lst h)
theorem gD_ht {tx : Nat → Nat} : ∀ (f : Nat) (b : Bool) (o d a : Nat) (D : TL) (a' : Nat), gD tx f b o d a = .inl (D, a') → HTy D o
  | 0, b, o, d, a, D, a', h => by cases h
  | f + 1, false, o, d, a, D, a', h => by
    have e0 : gD tx (f + 1) false o d a = if tx a = 40 then (if d + o < 9 then cns (4, 0) (gD tx f (decide (tx (a + 1) = 41)) (o + 1) d (a + 1)) else .inr a) else if cL (tx a) then cns (2, nI (tx a)) (gD tx f true o d (a + 1)) else if cD (tx (pA1 tx a)) then cns (1, pVal tx a) (gD tx f true o d (pDg tx 4 (pA1 tx a) 0).1) else .inr (pA1 tx a) := rfl
    rw [e0] at h
    split at h
    · split at h
      · obtain ⟨D2, q1, q2⟩ := cns_inv h
        rw [q2]
        exact HT_4 (gD_ht f _ _ _ _ _ _ q1)
      · cases h
    · split at h
      · obtain ⟨D2, q1, q2⟩ := cns_inv h
        rw [q2]
        exact HT_c (show ¬ (2 : Int32) = 5 by decide) (show ¬ (2 : Int32) = 4 by decide) (gD_ht f _ _ _ _ _ _ q1)
      · split at h
        · obtain ⟨D2, q1, q2⟩ := cns_inv h
          rw [q2]
          exact HT_c (show ¬ (1 : Int32) = 5 by decide) (show ¬ (1 : Int32) = 4 by decide) (gD_ht f _ _ _ _ _ _ q1)
        · cases h
  | f + 1, true, 0, d, a, D, a', h => by
    have h : (Sum.inl ([], a) : (TL × Nat) ⊕ Nat) = .inl (D, a') := h
    cases h
    exact HT_nil
  | f + 1, true, o + 1, d, a, D, a', h => by
    have e1 : gD tx (f + 1) true (o + 1) d a = if tx a = 41 then cns (5, 0) (gD tx f true o d (a + 1)) else if tx a = 32 then gD tx f false (o + 1) d (a + 1) else .inr a := rfl
    rw [e1] at h
    split at h
    · obtain ⟨D2, q1, q2⟩ := cns_inv h
      rw [q2]
      exact HT_5 (gD_ht f _ _ _ _ _ _ q1)
    · split at h
      · exact gD_ht f false (o + 1) d (a + 1) D a' h
      · cases h
theorem sg_ht {c : Nat} {φ : Fr} : ∀ (ks : List Kd), (∀ k ∈ ks, HTy (k.1 φ) 0) → HTy (sgT c ks φ) 0
  | [], _ => HT_nil
  | [a], h => HT_app (h a List.mem_cons_self) HT_1
  | [a, b], h => by
    show HTy (if c = 46 then b.1 φ ++ (a.1 φ ++ [(1, 13)]) else a.1 φ ++ (b.1 φ ++ [(1, cdO c)])) 0
    have ha := h a List.mem_cons_self
    have hb := h b (List.mem_cons_of_mem _ List.mem_cons_self)
    split
    · exact HT_app hb (HT_app ha HT_1)
    · exact HT_app ha (HT_app hb HT_1)
  | [a, b, d], h => HT_app (h a List.mem_cons_self) (HT_c (show ¬ (1 : Int32) = 5 by decide) (show ¬ (1 : Int32) = 4 by decide) (HT_app (HT_lst (h b (List.mem_cons_of_mem _ List.mem_cons_self))) (HT_lst (h d (List.mem_cons_of_mem _ (List.mem_cons_of_mem _ List.mem_cons_self))))))
  | _ :: _ :: _ :: _ :: _, _ => HT_nil
theorem cR_ht {tx : Nat → Nat} {r : rM} : ∀ (f n e : Nat) (t : Tau), cR tx r f n e t → ∀ φ, HTy (t φ) 0
  | 0, n, e, t, h, φ => absurd h id
  | f + 1, n, e, t, h, φ => by
    rcases h with ⟨h1, h2, h3⟩ | ⟨h1, h2, c, a, h3, h4, h5, h6, h7⟩ | ⟨h1, h2, a, a', d, D, h3, h4, h5, h6, h7⟩ | ⟨ks, l, h1, h2, h3, hT⟩
    · rw [h3]
      exact HT_c (show ¬ (1 : Int32) = 5 by decide) (show ¬ (1 : Int32) = 4 by decide) HT_1
    · rw [h7]
      exact HT_c (show ¬ (1 : Int32) = 5 by decide) (show ¬ (1 : Int32) = 4 by decide) (HT_c (show ¬ (6 : Int32) = 5 by decide) (show ¬ (6 : Int32) = 4 by decide) HT_nil)
    · rw [h7]
      exact HT_c (show ¬ (1 : Int32) = 5 by decide) (show ¬ (1 : Int32) = 4 by decide) (gD_ht _ _ _ _ _ _ _ h5)
    · obtain ⟨A1, -⟩ := cKL_all (fun i m t w => cR_lt (tx := tx) (r := r) f i m t w.1) ks _ _ _ h1
      have kid : ∀ k ∈ ks, ∀ φ, HTy (k.1 φ) 0 := fun k hk φ => by
        obtain ⟨a, b, -, -, w⟩ := A1 k hk
        exact cR_ht f a b k.1 w.1 φ
      rcases hT with ⟨k1, c, c1, c2, c3, c4, rfl⟩ | ⟨k1, a, args, rfl, c2, rfl⟩ | ⟨k1, a, ls, rfl, c2, c3, c4, c5, rfl⟩ | ⟨k1, a, args, ls, rfl, c2, c3, c4, c5, rfl⟩ | ⟨k1, a, args, ls, rfl, c2, c3, c4, c5, rfl⟩
      · exact sg_ht ks (fun k hk => kid k hk φ)
      · exact HT_app (HT_row args (fun k hk => kid k (List.mem_cons_of_mem _ hk) φ)) (HT_app (kid a List.mem_cons_self φ) HT_1)
      · exact HT_bo (kid a List.mem_cons_self _)
      · exact HT_app (HT_row args (fun k hk => kid k (List.mem_cons_of_mem _ hk) φ)) (HT_app (HT_bo (kid a List.mem_cons_self _)) HT_1)
      · exact HT_c (show ¬ (1 : Int32) = 5 by decide) (show ¬ (1 : Int32) = 4 by decide) (HT_app (HT_row args (fun k hk => kid k (List.mem_cons_of_mem _ hk) _)) (HT_app (HT_bo (kid a List.mem_cons_self _)) HT_1))
theorem ty_app {A B : TL} (hA : LTy A) {a b : LSt} (ha : GDl a) (h : LY (A ++ B) a b) {k : Sk} {n : Nat} {e : En} (hB : ∀ c, LY B a c → GDl c → c.2.2.2.2 = a.2.2.2.2 ∧ WTl c c.2.2.2.1 (false :: k) n false e) : b.2.2.2.2 = a.2.2.2.2 ∧ WTl b b.2.2.2.1 k n false e := by
  obtain ⟨c, h1, h2⟩ := LY_app _ _ _ _ h
  obtain ⟨g1, -⟩ := LY_gd _ _ _ ha h1
  obtain ⟨w1, w2⟩ := hB c h1 g1
  obtain ⟨p1, p2⟩ := hA c b g1 h2
  exact ⟨p1.trans w1, p2 k n e w2⟩
theorem row_app {ks : List Kd} {φ : Fr} {B : TL} (hA : ∀ k ∈ ks, LTy (k.1 φ)) {a b : LSt} (ha : GDl a) (h : LY (rowT ks φ ++ B) a b) {k : Sk} {n : Nat} {e : En} (hB : ∀ c, LY B a c → GDl c → c.2.2.2.2 = a.2.2.2.2 ∧ WTl c c.2.2.2.1 (true :: k) n false e) : b.2.2.2.2 = a.2.2.2.2 ∧ WTl b b.2.2.2.1 k n false e := by
  obtain ⟨c, h1, h2⟩ := LY_app _ _ _ _ h
  obtain ⟨g1, -⟩ := LY_gd _ _ _ ha h1
  obtain ⟨w1, w2⟩ := hB c h1 g1
  obtain ⟨p1, p2⟩ := row_ty ks hA c b g1 h2
  exact ⟨p1.trans w1, p2 k n e w2⟩
theorem LTy_of {T : TL} (hp : ∀ a b, GDl a → LY T a b → b.2.2.2.2 = a.2.2.2.2) (hw : ∀ a b, GDl a → LY T a b → ∀ k n e, WTl a a.2.2.2.1 (false :: k) n false e → WTl b b.2.2.2.1 k n false e) : LTy T := fun a b ha h => ⟨hp a b ha h, hw a b ha h⟩
end
section
def PSy (T : TL) : Prop := ∀ a b, GDl a → LY T a b → b.2.2.2.2 = a.2.2.2.2
theorem PS_1 {v : Int32} : PSy [(1, v)] := fun a b ha h => by
  obtain ⟨-, -, -, -, w, -⟩ := L1_int ha (LY_one h)
  exact w
theorem PS_app {A B : TL} (hA : PSy A) (hB : PSy B) : PSy (A ++ B) := fun a b ha h => by
  obtain ⟨c, h1, h2⟩ := LY_app _ _ _ _ h
  obtain ⟨g1, -⟩ := LY_gd _ _ _ ha h1
  exact (hA c b g1 h2).trans (hB a c ha h1)
theorem PS_c {v : Int32} {A : TL} (hA : PSy A) : PSy ((1, v) :: A) := PS_app (A := [(1, v)]) PS_1 hA
theorem PS_lst {i : Int32} {t : Tau} {φ : Fr} (ht : PSy (t φ)) : PSy (lstT i t φ) := by
  intro a b ha h
  obtain ⟨d, h1, h2⟩ := h
  obtain ⟨a2, h3, h4⟩ := LY_app _ _ _ _ h1
  obtain ⟨a1, h5, h6⟩ := h3
  have h5 := LY_one h5
  obtain ⟨g1, x1⟩ := L1_gd ha h5
  obtain ⟨g2, x2⟩ := L1_gd g1 h6
  obtain ⟨-, -, -, -, w2, -⟩ := L1_int g1 h6
  have w3 := ht a2 d g2 h4
  rcases h5 with ⟨-, rfl⟩ | ⟨q, -⟩ | ⟨q, -⟩
  · have ep : d.2.2.2.2 = a.2.2.2.1 :: a.2.2.2.2 := w3.trans w2
    rcases h2 with ⟨q, -⟩ | ⟨-, P, ps, c, e, hc, rfl⟩ | ⟨-, q, -⟩
    · exact absurd (show (4 : Int32) = 5 from q) (by decide)
    · rw [ep] at e
      injection e with e1 e2
      exact e2.symm
    · exact absurd rfl q
  · exact absurd (show (5 : Int32) = 4 from q) (by decide)
  · exact absurd rfl q
theorem LTy_ps {T : TL} (h : LTy T) : PSy T := fun a b ha hl => (h a b ha hl).1
theorem PS_row {φ : Fr} (ks : List Kd) (h : ∀ k ∈ ks, LTy (k.1 φ)) : PSy (rowT ks φ) := fun a b ha hl => (row_ty ks h a b ha hl).1
theorem PS_bo {a : Kd} {ls : List Nat} {φ : Fr} (h : LTy (a.1 (ls :: φ))) : PSy (boT a ls φ) := fun x y hx hl => (bo_ty h hx hl).1
theorem one_ty {i : Int32} {a c : LSt} (h : LY [(1, i)] a c) {k : Sk} {n : Nat} {e : En} (hw : L1 (1, i) a c → WTl c c.2.2.2.1 k n false e ∧ c.2.2.2.2 = a.2.2.2.2) : c.2.2.2.2 = a.2.2.2.2 ∧ WTl c c.2.2.2.1 k n false e := ⟨(hw (LY_one h)).2, (hw (LY_one h)).1⟩
theorem ch_ty {a b d : Tau} {φ : Fr} (ha : LTy (a φ)) (hb : LTy (b φ)) (hd : LTy (d φ)) : LTy (a φ ++ ((1, 8) :: (lstT 9 b φ ++ lstT 9 d φ))) := by
  refine LTy_of (PS_app (LTy_ps ha) (PS_c (PS_app (PS_lst (LTy_ps hb)) (PS_lst (LTy_ps hd))))) (fun x y hx h k n e hw => ?_)
  refine (ty_app ha hx h (fun c h1 g1 => ⟨PS_c (PS_app (PS_lst (LTy_ps hb)) (PS_lst (LTy_ps hd))) x c hx h1, ?_⟩)).2
  obtain ⟨c2, h2, h3⟩ := h1
  obtain ⟨c1, h4, h5⟩ := LY_app _ _ _ _ h2
  obtain ⟨q, p1, p2, p3, -, p5, p6⟩ := lst_wt hx h4 hd (k1 := k) (n1 := n) (e1 := eJoin (false :: k) n) (fun a' b' g w => o_9 g w)
  obtain ⟨d2, s1, s2, s3, -, s5, s6⟩ := lst_wt p5 h5 hb (k1 := k) (n1 := n) (e1 := eJoin (false :: k) n) (fun a' b' g w => o_9 g w)
  obtain ⟨c0, t1, t2, t3, t4, t5, t6⟩ := L1_int s5 h3
  have uq : c1.2.2.1 q := inU_pr (by rw [← p1]; exact p5.2.1.1)
  have ud : c2.2.2.1 d2 := inU_pr (by rw [← s1]; exact s5.2.1.1)
  have x12 := XT_tr s6 t6
  obtain ⟨y1, -, y3⟩ := t6.1 d2 ud
  obtain ⟨z1, -, z3⟩ := x12.1 q uq
  obtain ⟨f1, hf1⟩ := WT_x s5 t6 (SI_h s5.1 ud) s3
  obtain ⟨f2, hf2⟩ := WT_x p5 x12 (SI_h p5.1 uq) p3
  obtain ⟨f3, hf3⟩ := WT_x hx (XT_tr p6 x12) hx.2.1.1 hw
  rw [t1]
  refine ⟨f1 + f2 + f3 + 1, c0, 8, rfl, rfl, t2, Or.inr (Or.inr (Or.inr (Or.inr (Or.inr (Or.inr (Or.inr (Or.inl ⟨rfl, false, k, d2, q, rfl, t3.trans s1, rfl, y1.trans (s2.trans p1), rfl, ?_, ?_, ?_⟩)))))))⟩
  · rw [y3 rfl, Nat.add_assoc]
    exact wt_le hf1 (f2 + f3)
  · rw [z3 rfl, Nat.add_comm f1 f2, Nat.add_assoc]
    exact wt_le hf2 (f1 + f3)
  · rw [z1, p2, Nat.add_comm (f1 + f2) f3]
    exact wt_le hf3 (f1 + f2)
theorem sg_ty {c : Nat} {φ : Fr} : ∀ (ks : List Kd), ks.length = ar c → (∀ k ∈ ks, LTy (k.1 φ)) → 0 < ar c → LTy (sgT c ks φ)
  | [], hl, _, h0 => by
    rw [List.length_nil] at hl
    omega
  | [a], hl, h, _ => by
    have ha := h a List.mem_cons_self
    have hi := cd_1 hl.symm
    refine LTy_of (PS_app (LTy_ps ha) PS_1) (fun x y hx hy k n e hw => ?_)
    exact (ty_app ha hx hy (fun c1 h1 g1 => one_ty h1 (fun w => o_1 hx hi w hw))).2
  | [a, b], hl, h, _ => by
    have ha := h a List.mem_cons_self
    have hb := h b (List.mem_cons_of_mem _ List.mem_cons_self)
    have hi := cd_2 hl.symm
    show LTy (if c = 46 then b.1 φ ++ (a.1 φ ++ [(1, 13)]) else a.1 φ ++ (b.1 φ ++ [(1, cdO c)]))
    split
    · refine LTy_of (PS_app (LTy_ps hb) (PS_app (LTy_ps ha) PS_1)) (fun x y hx hy k n e hw => ?_)
      exact (ty_app hb hx hy (fun c1 h1 g1 => ty_app ha hx h1 (fun c2 h2 g2 => one_ty h2 (fun w => o_2 hx (Or.inl rfl) w hw)))).2
    · refine LTy_of (PS_app (LTy_ps ha) (PS_app (LTy_ps hb) PS_1)) (fun x y hx hy k n e hw => ?_)
      exact (ty_app ha hx hy (fun c1 h1 g1 => ty_app hb hx h1 (fun c2 h2 g2 => one_ty h2 (fun w => o_2 hx hi w hw)))).2
  | [a, b, d], hl, h, _ => ch_ty (h a List.mem_cons_self) (h b (List.mem_cons_of_mem _ List.mem_cons_self)) (h d (List.mem_cons_of_mem _ (List.mem_cons_of_mem _ List.mem_cons_self)))
  | a :: b :: d :: e :: ks, hl, _, _ => by
    have := ar_le c
    rw [List.length_cons, List.length_cons, List.length_cons, List.length_cons] at hl
    omega
theorem okT_sg {c : Nat} {φ : Fr} : ∀ (ks : List Kd), ks.length = ar c → okTt (sgT c ks φ) → ∀ k ∈ ks, okTt (k.1 φ)
  | [], _, _, k, hk => by cases hk
  | [a], _, h, k, hk => by
    rw [List.mem_singleton.mp hk]
    exact okT_l h
  | [a, b], _, h, k, hk => by
    have h : okTt (if c = 46 then b.1 φ ++ (a.1 φ ++ [(1, 13)]) else a.1 φ ++ (b.1 φ ++ [(1, cdO c)])) := h
    split at h
    · rcases List.mem_cons.mp hk with w | w
      · rw [w]
        exact okT_l (okT_r h)
      · rw [List.mem_singleton.mp w]
        exact okT_l h
    · rcases List.mem_cons.mp hk with w | w
      · rw [w]
        exact okT_l h
      · rw [List.mem_singleton.mp w]
        exact okT_l (okT_r h)
  | [a, b, d], _, h, k, hk => by
    have h : okTt (a.1 φ ++ ((1, 8) :: (lstT 9 b.1 φ ++ lstT 9 d.1 φ))) := h
    rcases List.mem_cons.mp hk with w | w
    · rw [w]
      exact okT_l h
    · rcases List.mem_cons.mp w with w | w
      · rw [w]
        exact okT_lst (okT_l (okT_c (okT_r h)))
      · rw [List.mem_singleton.mp w]
        exact okT_lst (okT_r (okT_c (okT_r h)))
  | a :: b :: d :: e :: ks, hl, _, _, _ => by
    have := ar_le c
    rw [List.length_cons, List.length_cons, List.length_cons, List.length_cons] at hl
    omega
theorem cR_ty {tx : Nat → Nat} {r : rM} : ∀ (f n e : Nat) (t : Tau), cR tx r f n e t → ∀ φ, okTt (t φ) → LTy (t φ)
  | 0, n, e, t, h, φ, _ => absurd h id
  | f + 1, n, e, t, h, φ, hok => by
    rcases h with ⟨h1, h2, h3⟩ | ⟨h1, h2, c, a, h3, h4, h5, h6, h7⟩ | ⟨h1, h2, a, a', d, D, h3, h4, h5, h6, h7⟩ | ⟨ks, l, h1, h2, h3, hT⟩
    · rw [h3]
      intro x y hx hl
      obtain ⟨c, q1, q2⟩ := hl
      obtain ⟨d, p1, p2, p3, p4, p5, p6⟩ := L1_int hx (LY_one q1)
      refine ⟨?_, fun k n e hw => (const_wt (t := false) hx p5 p6 p1 p3 (fun w => by cases w) q2 hw).1⟩
      obtain ⟨-, -, -, -, w, -⟩ := L1_int p5 q2
      exact w.trans p4
    · rw [h7] at hok ⊢
      obtain ⟨X, hX, eX⟩ := hok (6, lkF c φ 0) (List.mem_cons_of_mem _ List.mem_cons_self) rfl
      have eX : lkF c φ 0 = nI X := eX
      intro x y hx hl
      obtain ⟨c1, q1, q2⟩ := hl
      obtain ⟨d, p1, p2, p3, p4, p5, p6⟩ := L1_at hx (show ¬ (6 : Int32) = 5 by decide) (show ¬ (6 : Int32) = 4 by decide) (LY_one q1)
      have p2 : c1.1 d = vInt (nI X) := by
        rw [p2]
        show hvT (6, lkF c φ 0) = _
        rw [eX]
        rfl
      obtain ⟨c0, s1, s2, s3, s4, s5, s6⟩ := L1_int p5 q2
      refine ⟨s4.trans p4, fun k n e hw => ?_⟩
      have ud : c1.2.2.1 d := inU_pr (by rw [← p1]; exact p5.2.1.1)
      obtain ⟨y1, -, y3⟩ := s6.1 d ud
      obtain ⟨f2, hf2⟩ := WT_x hx (XT_tr p6 s6) hx.2.1.1 hw
      rw [s1]
      refine ⟨f2 + 1, c0, 2, rfl, rfl, s2, Or.inr (Or.inl ⟨rfl, d, X, s3.trans p1, rfl, ⟨hX, (y3 rfl).trans p2⟩, ?_⟩)⟩
      rw [y1, p3]
      exact hf2
    · rw [h7]
      have hD : LDy D := gD_sd _ _ _ _ _ _ _ h5
      intro x y hx hl
      obtain ⟨c, q1, q2⟩ := hl
      obtain ⟨g1, x1⟩ := LY_gd _ _ _ hx q1
      obtain ⟨p0, d2, p1, p2⟩ := hD x c hx q1
      refine ⟨?_, fun k n e hw => (const_wt (t := false) hx g1 x1 p1 p2 (fun w => by cases w) q2 hw).1⟩
      obtain ⟨-, -, -, -, w, -⟩ := L1_int g1 q2
      exact w.trans p0
    · obtain ⟨A1, -⟩ := cKL_all (fun i m t w => cR_lt (tx := tx) (r := r) f i m t w.1) ks _ _ _ h1
      have kid : ∀ k ∈ ks, ∀ φ, okTt (k.1 φ) → LTy (k.1 φ) := fun k hk φ ho => by
        obtain ⟨a, b, -, -, w⟩ := A1 k hk
        exact cR_ty f a b k.1 w.1 φ ho
      rcases hT with ⟨k1, c, c1, c2, c3, c4, rfl⟩ | ⟨k1, a, args, rfl, c2, rfl⟩ | ⟨k1, a, ls, rfl, c2, c3, c4, c5, rfl⟩ | ⟨k1, a, args, ls, rfl, c2, c3, c4, c5, rfl⟩ | ⟨k1, a, args, ls, rfl, c2, c3, c4, c5, rfl⟩
      · exact sg_ty ks c4 (fun k hk => kid k hk φ (okT_sg ks c4 hok k hk)) c3
      · have hok : okTt (rowT args φ ++ (a.1 φ ++ [(1, 4)])) := hok
        have hr : ∀ k ∈ args, LTy (k.1 φ) := fun k hk => kid k (List.mem_cons_of_mem _ hk) φ (okT_row args (okT_l hok) k hk)
        have ha := kid a List.mem_cons_self φ (okT_l (okT_r hok))
        show LTy (rowT args φ ++ (a.1 φ ++ [(1, 4)]))
        refine LTy_of (PS_app (PS_row args hr) (PS_app (LTy_ps ha) PS_1)) (fun x y hx hy k n e hw => ?_)
        exact (row_app hr hx hy (fun c1 h1 g1 => ty_app ha hx h1 (fun c2 h2 g2 => one_ty h2 (fun w => o_4 hx w hw)))).2
      · have ha := kid a List.mem_cons_self (ls :: φ) (okT_lst (okT_c (show okTt ((1, 3) :: lstT 5 a.1 (ls :: φ)) from hok)))
        exact LTy_of (PS_bo ha) (fun x y hx hy k n e hw => (bo_ty ha hx hy).2 k n e (WT_b _ hw))
      · have hok : okTt (rowT args φ ++ (boT a ls φ ++ [(1, 4)])) := hok
        have hr : ∀ k ∈ args, LTy (k.1 φ) := fun k hk => kid k (List.mem_cons_of_mem _ hk) φ (okT_row args (okT_l hok) k hk)
        have ha := kid a List.mem_cons_self (ls :: φ) (okT_lst (okT_c (show okTt ((1, 3) :: lstT 5 a.1 (ls :: φ)) from okT_l (okT_r hok))))
        show LTy (rowT args φ ++ (boT a ls φ ++ [(1, 4)]))
        refine LTy_of (PS_app (PS_row args hr) (PS_app (PS_bo ha) PS_1)) (fun x y hx hy k n e hw => ?_)
        refine (row_app hr hx hy (fun c1 h1 g1 => ⟨PS_app (PS_bo ha) PS_1 x c1 hx h1, ?_⟩)).2
        obtain ⟨c2, h2, h3⟩ := LY_app _ _ _ _ h1
        have h2 := LY_one h2
        obtain ⟨g2, -⟩ := L1_gd hx h2
        exact (bo_ty ha g2 h3).2 (true :: k) n e (WT_b _ (o_4 hx h2 hw).1)
      · have hok : okTt ((1, 6) :: (rowT args (ls :: φ) ++ (boT a ls φ ++ [(1, 7)]))) := hok
        have hok2 := okT_c hok
        have hr : ∀ k ∈ args, LTy (k.1 (ls :: φ)) := fun k hk => kid k (List.mem_cons_of_mem _ hk) _ (okT_row args (okT_l hok2) k hk)
        have ha := kid a List.mem_cons_self (ls :: φ) (okT_lst (okT_c (show okTt ((1, 3) :: lstT 5 a.1 (ls :: φ)) from okT_l (okT_r hok2))))
        show LTy ((1, 6) :: (rowT args (ls :: φ) ++ (boT a ls φ ++ [(1, 7)])))
        refine LTy_of (PS_c (PS_app (PS_row args hr) (PS_app (PS_bo ha) PS_1))) (fun x y hx hy k n e hw => ?_)
        obtain ⟨c0, h0, h9⟩ := hy
        obtain ⟨g0, -⟩ := LY_gd _ _ _ hx h0
        have w0 := (row_app (k := k) (n := n + 1) (e := e) hr hx h0 (fun c1 h1 g1 => ⟨PS_app (PS_bo ha) PS_1 x c1 hx h1, by
          obtain ⟨c2, h2, h3⟩ := LY_app _ _ _ _ h1
          have h2 := LY_one h2
          obtain ⟨g2, -⟩ := L1_gd hx h2
          have w7 := (o_7 hx h2 hw).1
          have ed : decide (0 < n + 1) = true := decide_eq_true (Nat.succ_pos n)
          refine (bo_ty ha g2 h3).2 (true :: k) (n + 1) e ?_
          rw [ed]
          exact w7⟩)).2
        exact (o_6 g0 h9 w0).1
end
section
def kdT (T : TL) : Prop := ∀ t ∈ T, (t.1 = 0 ∧ t.2 = 0) ∨ t.1 = 1 ∨ t.1 = 2 ∨ t.1 = 4 ∨ t.1 = 5 ∨ t.1 = 6
theorem kd_app {A B : TL} (hA : kdT A) (hB : kdT B) : kdT (A ++ B) := fun t ht => (List.mem_append.mp ht).elim (hA t) (hB t)
theorem kd_c {t : Int32 × Int32} {B : TL} (h : (t.1 = 0 ∧ t.2 = 0) ∨ t.1 = 1 ∨ t.1 = 2 ∨ t.1 = 4 ∨ t.1 = 5 ∨ t.1 = 6) (hB : kdT B) : kdT (t :: B) := fun x hx => (List.mem_cons.mp hx).elim (fun e => by rw [e]; exact h) (hB x)
theorem kd_nil : kdT [] := fun t ht => by cases ht
theorem kd_1 {v : Int32} : kdT [(1, v)] := kd_c (Or.inr (Or.inl rfl)) kd_nil
theorem kd_lst {i : Int32} {t : Tau} {φ : Fr} (h : kdT (t φ)) : kdT (lstT i t φ) := kd_c (Or.inr (Or.inr (Or.inr (Or.inl rfl)))) (kd_app h (kd_c (Or.inr (Or.inl rfl)) (kd_c (Or.inr (Or.inr (Or.inr (Or.inr (Or.inl rfl))))) kd_nil)))
theorem kd_row {φ : Fr} : ∀ (ks : List Kd), (∀ k ∈ ks, kdT (k.1 φ)) → kdT (rowT ks φ)
  | [], _ => kd_c (Or.inr (Or.inl rfl)) (kd_c (Or.inl ⟨rfl, rfl⟩) kd_nil)
  | k :: ks, h => kd_app (kd_row ks (fun k hk => h k (List.mem_cons_of_mem _ hk))) (kd_app (h k List.mem_cons_self) kd_1)
theorem kd_bo {a : Kd} {ls : List Nat} {φ : Fr} (h : kdT (a.1 (ls :: φ))) : kdT (boT a ls φ) := kd_c (Or.inr (Or.inl rfl)) (kd_lst h)
theorem kd_sg {c : Nat} {φ : Fr} : ∀ (ks : List Kd), (∀ k ∈ ks, kdT (k.1 φ)) → kdT (sgT c ks φ)
  | [], _ => kd_nil
  | [a], h => kd_app (h a List.mem_cons_self) kd_1
  | [a, b], h => by
    show kdT (if c = 46 then b.1 φ ++ (a.1 φ ++ [(1, 13)]) else a.1 φ ++ (b.1 φ ++ [(1, cdO c)]))
    have ha := h a List.mem_cons_self
    have hb := h b (List.mem_cons_of_mem _ List.mem_cons_self)
    split
    · exact kd_app hb (kd_app ha kd_1)
    · exact kd_app ha (kd_app hb kd_1)
  | [a, b, d], h => kd_app (h a List.mem_cons_self) (kd_c (Or.inr (Or.inl rfl)) (kd_app (kd_lst (h b (List.mem_cons_of_mem _ List.mem_cons_self))) (kd_lst (h d (List.mem_cons_of_mem _ (List.mem_cons_of_mem _ List.mem_cons_self))))))
  | _ :: _ :: _ :: _ :: _, _ => kd_nil
theorem gD_kd {tx : Nat → Nat} : ∀ (f : Nat) (b : Bool) (o d a : Nat) (D : TL) (a' : Nat), gD tx f b o d a = .inl (D, a') → kdT D
  | 0, b, o, d, a, D, a', h => by cases h
  | f + 1, false, o, d, a, D, a', h => by
    have e0 : gD tx (f + 1) false o d a = if tx a = 40 then (if d + o < 9 then cns (4, 0) (gD tx f (decide (tx (a + 1) = 41)) (o + 1) d (a + 1)) else .inr a) else if cL (tx a) then cns (2, nI (tx a)) (gD tx f true o d (a + 1)) else if cD (tx (pA1 tx a)) then cns (1, pVal tx a) (gD tx f true o d (pDg tx 4 (pA1 tx a) 0).1) else .inr (pA1 tx a) := rfl
    rw [e0] at h
    split at h
    · split at h
      · obtain ⟨D2, q1, q2⟩ := cns_inv h
        rw [q2]
        exact kd_c (Or.inr (Or.inr (Or.inr (Or.inl rfl)))) (gD_kd f _ _ _ _ _ _ q1)
      · cases h
    · split at h
      · obtain ⟨D2, q1, q2⟩ := cns_inv h
        rw [q2]
        exact kd_c (Or.inr (Or.inr (Or.inl rfl))) (gD_kd f _ _ _ _ _ _ q1)
      · split at h
        · obtain ⟨D2, q1, q2⟩ := cns_inv h
          rw [q2]
          exact kd_c (Or.inr (Or.inl rfl)) (gD_kd f _ _ _ _ _ _ q1)
        · cases h
  | f + 1, true, 0, d, a, D, a', h => by
    have h : (Sum.inl ([], a) : (TL × Nat) ⊕ Nat) = .inl (D, a') := h
    cases h
    exact kd_nil
  | f + 1, true, o + 1, d, a, D, a', h => by
    have e1 : gD tx (f + 1) true (o + 1) d a = if tx a = 41 then cns (5, 0) (gD tx f true o d (a + 1)) else if tx a = 32 then gD tx f false (o + 1) d (a + 1) else .inr a := rfl
    rw [e1] at h
    split at h
    · obtain ⟨D2, q1, q2⟩ := cns_inv h
      rw [q2]
      exact kd_c (Or.inr (Or.inr (Or.inr (Or.inr (Or.inl rfl))))) (gD_kd f _ _ _ _ _ _ q1)
    · split at h
      · exact gD_kd f false (o + 1) d (a + 1) D a' h
      · cases h
theorem cR_kd {tx : Nat → Nat} {r : rM} : ∀ (f n e : Nat) (t : Tau), cR tx r f n e t → ∀ φ, kdT (t φ)
  | 0, n, e, t, h, φ => absurd h id
  | f + 1, n, e, t, h, φ => by
    rcases h with ⟨h1, h2, h3⟩ | ⟨h1, h2, c, a, h3, h4, h5, h6, h7⟩ | ⟨h1, h2, a, a', d, D, h3, h4, h5, h6, h7⟩ | ⟨ks, l, h1, h2, h3, hT⟩
    · rw [h3]
      exact kd_c (Or.inr (Or.inl rfl)) kd_1
    · rw [h7]
      exact kd_c (Or.inr (Or.inl rfl)) (kd_c (Or.inr (Or.inr (Or.inr (Or.inr (Or.inr rfl))))) kd_nil)
    · rw [h7]
      exact kd_c (Or.inr (Or.inl rfl)) (gD_kd _ _ _ _ _ _ _ h5)
    · obtain ⟨A1, -⟩ := cKL_all (fun i m t w => cR_lt (tx := tx) (r := r) f i m t w.1) ks _ _ _ h1
      have kid : ∀ k ∈ ks, ∀ φ, kdT (k.1 φ) := fun k hk φ => by
        obtain ⟨a, b, -, -, w⟩ := A1 k hk
        exact cR_kd f a b k.1 w.1 φ
      rcases hT with ⟨k1, c, c1, c2, c3, c4, rfl⟩ | ⟨k1, a, args, rfl, c2, rfl⟩ | ⟨k1, a, ls, rfl, c2, c3, c4, c5, rfl⟩ | ⟨k1, a, args, ls, rfl, c2, c3, c4, c5, rfl⟩ | ⟨k1, a, args, ls, rfl, c2, c3, c4, c5, rfl⟩
      · exact kd_sg ks (fun k hk => kid k hk φ)
      · exact kd_app (kd_row args (fun k hk => kid k (List.mem_cons_of_mem _ hk) φ)) (kd_app (kid a List.mem_cons_self φ) kd_1)
      · exact kd_bo (kid a List.mem_cons_self _)
      · exact kd_app (kd_row args (fun k hk => kid k (List.mem_cons_of_mem _ hk) φ)) (kd_app (kd_bo (kid a List.mem_cons_self _)) kd_1)
      · exact kd_c (Or.inr (Or.inl rfl)) (kd_app (kd_row args (fun k hk => kid k (List.mem_cons_of_mem _ hk) _)) (kd_app (kd_bo (kid a List.mem_cons_self _)) kd_1))
theorem L1_lw {t : Int32 × Int32} {a b : LSt} (h : L1 (lw t) a b) : L1 t a b := by
  unfold lw at h
  split at h
  · next e =>
    rcases h with ⟨q, -⟩ | ⟨q, -⟩ | ⟨-, -, k, hk, hb⟩
    · exact absurd (show (1 : Int32) = 5 from q) (by decide)
    · exact absurd (show (1 : Int32) = 4 from q) (by decide)
    · refine Or.inr (Or.inr ⟨by rw [e]; decide, by rw [e]; decide, k, hk, ?_⟩)
      have eh : hvT t = hvT (1, t.2) := by
        unfold hvT
        rw [e]
        rfl
      rw [eh]
      exact hb
  · exact h
theorem LY_low : ∀ (T : TL) (a b : LSt), LY (low T) a b → LY T a b
  | [], a, b, h => h
  | t :: T, a, b, ⟨c, h1, h2⟩ => ⟨c, LY_low T a c h1, L1_lw h2⟩
theorem ht_low : ∀ (T : TL), htT (low T) = htT T
  | [] => rfl
  | t :: T => by
    have ih := ht_low T
    show (match htT (low T) with | none => none | some h => if (lw t).1 = 5 then some (h + 1) else if (lw t).1 = 4 then (match h with | 0 => none | h + 1 => some h) else some h) = (match htT T with | none => none | some h => if t.1 = 5 then some (h + 1) else if t.1 = 4 then (match h with | 0 => none | h + 1 => some h) else some h)
    rw [ih]
    have e : ((lw t).1 = 5 ↔ t.1 = 5) ∧ ((lw t).1 = 4 ↔ t.1 = 4) := by
      unfold lw
      split
      · next w =>
        rw [w]
        exact ⟨⟨fun q => absurd (show (1 : Int32) = 5 from q) (by decide), fun q => absurd q (by decide)⟩, ⟨fun q => absurd (show (1 : Int32) = 4 from q) (by decide), fun q => absurd q (by decide)⟩⟩
      · exact ⟨Iff.rfl, Iff.rfl⟩
    cases htT T with
    | none => rfl
    | some h =>
      show (if (lw t).1 = 5 then some (h + 1) else if (lw t).1 = 4 then _ else some h) = (if t.1 = 5 then some (h + 1) else if t.1 = 4 then _ else some h)
      by_cases w5 : t.1 = 5
      · rw [if_pos w5, if_pos (e.1.mpr w5)]
      · rw [if_neg w5, if_neg (fun q => w5 (e.1.mp q))]
        by_cases w4 : t.1 = 4
        · rw [if_pos w4, if_pos (e.2.mpr w4)]
        · rw [if_neg w4, if_neg (fun q => w4 (e.2.mp q))]
theorem kd_low {T : TL} (h : kdT T) : ∀ t ∈ low T, (t.1 = 0 ∧ t.2 = 0) ∨ t.1 = 1 ∨ t.1 = 2 ∨ t.1 = 4 ∨ t.1 = 5 := by
  intro t ht
  obtain ⟨x, hx, rfl⟩ := List.mem_map.mp ht
  unfold lw
  split
  · exact Or.inr (Or.inl rfl)
  · next n6 =>
    rcases h x hx with w | w | w | w | w | w
    · exact Or.inl w
    · exact Or.inr (Or.inl w)
    · exact Or.inr (Or.inr (Or.inl w))
    · exact Or.inr (Or.inr (Or.inr (Or.inl w)))
    · exact Or.inr (Or.inr (Or.inr (Or.inr w)))
    · exact absurd w n6
theorem ht_le : ∀ (A B : TL) (h p : Nat), htT (A ++ B) = some h → htT B = some p → p ≤ h + cnt A
  | [], B, h, p, h1, h2 => by
    have h1 : htT B = some h := h1
    rw [h1] at h2
    cases h2
    exact Nat.le_add_right _ _
  | t :: A, B, h, p, h1, h2 => by
    have h1 : (match htT (A ++ B) with | none => none | some h => if t.1 = 5 then some (h + 1) else if t.1 = 4 then (match h with | 0 => none | h + 1 => some h) else some h) = some h := h1
    have ec : cnt (t :: A) = (if t.1 = 5 then 0 else 1) + cnt A := rfl
    cases hq : htT (A ++ B) with
    | none => rw [hq] at h1; cases h1
    | some q =>
      rw [hq] at h1
      have ih := ht_le A B q p hq h2
      have h1 : (if t.1 = 5 then some (q + 1) else if t.1 = 4 then (match (generalizing := false) q with | 0 => none | h + 1 => some h) else some q) = some h := h1
      rw [ec]
      by_cases w5 : t.1 = 5
      · rw [if_pos w5] at h1
        cases h1
        omega
      · rw [if_neg w5] at h1 ⊢
        by_cases w4 : t.1 = 4
        · rw [if_pos w4] at h1
          cases q with
          | zero => cases h1
          | succ q =>
            have h1 : some q = some h := h1
            cases h1
            omega
        · rw [if_neg w4] at h1
          cases h1
          omega
theorem ht_pre : ∀ (A B : TL) (h : Nat), htT (A ++ B) = some h → ∃ p, htT B = some p
  | [], B, h, h1 => ⟨h, h1⟩
  | t :: A, B, h, h1 => by
    have h1 : (match htT (A ++ B) with | none => none | some h => if t.1 = 5 then some (h + 1) else if t.1 = 4 then (match h with | 0 => none | h + 1 => some h) else some h) = some h := h1
    cases hq : htT (A ++ B) with
    | none => rw [hq] at h1; cases h1
    | some q => exact ht_pre A B q hq
theorem snoc_ex : ∀ (A : TL), A = [] ∨ ∃ A' t, A = A' ++ [t]
  | [] => Or.inl rfl
  | t :: A => by
    rcases snoc_ex A with rfl | ⟨A', t', rfl⟩
    · exact Or.inr ⟨[], t, rfl⟩
    · exact Or.inr ⟨t :: A', t', rfl⟩
end
section
def PLE (r : rM) (ps : List Vl) : Prop := r.piled = nI ps.length ∧ ∀ i P, ps[i]? = some P → rg r P (r.pile (ps.length - 1 - i))
def LI (r r2 : rM) (z : Nat) (B : TL) (st : LSt) (x : Int32) : Prop := (kp r r2 ∧ r2.state = r.state ∧ r2.reg = r.reg ∧ r2.signKind = r.signKind ∧ r2.signValue = r.signValue ∧ r2.cells = r.cells) ∧ (RB r2 st.1 st.2.1 ∧ Ur r2 = st.2.2.1 ∧ rg r2 st.2.2.2.1 x) ∧ PLE r2 st.2.2.2.2 ∧ fz r2 + cnt B = z
def pcR (r : rM) (p : Nat) (x : Int32) : rM := ((r.s_pile (upd r.pile p x)).s_piled (nI (p + 1)))
def ppR (r : rM) (p : Nat) : rM := (r.s_piled (nI p))
theorem subadd (x : Int32) : x + Int32.ofInt (-1) = x - Int32.ofInt 1 := by
  rw [Int32.sub_eq_add_neg]
  rfl
section YO
variable {cst : Nat → Option (Nat × (Nat → Int32))} {m b0 b1 : Nat} {op : Bool} {tl : List mj_O} {Q : mj_R → Prop} {s : cS} {r : rM} {σ : TL} {z : Nat} {init : LSt}
set_option maxRecDepth 10000
theorem rg_pile {r r' : rM} (h1 : Ur r' = Ur r) (h2 : r'.function = r.function) {v : Vl} {x : Int32} (h : rg r v x) : rg r' v x := by
  rcases h with h | ⟨a, q1, q2, q3, q4⟩
  · exact Or.inl h
  · exact Or.inr ⟨a, q1, q2, by rw [h1]; exact q3, by rw [h2]; exact q4⟩
theorem LI_close {r2 : rM} {B : TL} {st : LSt} {x v : Int32} (h : LI r r2 z B st x) : LI r (pcR r2 st.2.2.2.2.length x) z ((5, v) :: B) (st.1, st.2.1, st.2.2.1, vNil, st.2.2.2.1 :: st.2.2.2.2) (-1) := by
  obtain ⟨h1, ⟨h2, h3, h4⟩, ⟨h5, h6⟩, h7⟩ := h
  refine ⟨h1, ⟨h2, h3, Or.inl ⟨rfl, rfl⟩⟩, ⟨rfl, fun i P hi => ?_⟩, ?_⟩
  · show rg (pcR r2 st.2.2.2.2.length x) P (upd r2.pile st.2.2.2.2.length x ((st.2.2.2.1 :: st.2.2.2.2).length - 1 - i))
    rw [List.length_cons]
    cases i with
    | zero =>
      have hi : some st.2.2.2.1 = some P := hi
      cases hi
      have e : upd r2.pile st.2.2.2.2.length x (st.2.2.2.2.length + 1 - 1 - 0) = x := if_pos (by omega)
      rw [e]
      exact rg_pile rfl rfl h4
    | succ i =>
      have hi : st.2.2.2.2[i]? = some P := hi
      have hlt : i < st.2.2.2.2.length := by
        rcases Nat.lt_or_ge i st.2.2.2.2.length with w | w
        · exact w
        · rw [List.getElem?_eq_none w] at hi
          cases hi
      have e : upd r2.pile st.2.2.2.2.length x (st.2.2.2.2.length + 1 - 1 - (i + 1)) = r2.pile (st.2.2.2.2.length - 1 - i) := by
        show (if _ = _ then _ else _) = _
        rw [if_neg (by omega)]
        congr 1
        omega
      rw [e]
      exact rg_pile rfl rfl (h6 i P hi)
  · show fz r2 + (0 + cnt B) = z
    omega
theorem LI_new {r2 : rM} {B : TL} {st : LSt} {x c a b : Int32} {k : Nat} {h t : Vl} {ps : List Vl} {v : Int32 × Int32} (hI : LI r r2 z B st x) (hv5 : ¬ v.1 = 5) (hf : 1 ≤ fz r2) (hh : rv r2 h a b) (ht : rg r2 t c) (hk : k = ffN r2.used (r2.z - 1) 0) (r3 : rM) (e3 : r3 = mkR r2 k a b c ∨ r3 = ppR (mkR r2 k a b c) ps.length) (hps : r3.piled = nI ps.length) (hpl : ∀ i P, ps[i]? = some P → rg r2 P (r2.pile (ps.length - 1 - i))) : LI r r3 z (v :: B) (newL st k h t ps) (nI k) ∧ ¬ st.2.2.1 k := by
  obtain ⟨⟨g1, g2, g3, g4, g5, g6⟩, ⟨h2, h3, h4⟩, h5, h7⟩ := hI
  obtain ⟨m1, m2, m3, m4, m5, m6, m7⟩ := mk_ok h2 hf hk hh ht
  have kpm : kp r2 (mkR r2 k a b c) := ⟨⟨rfl, rfl, rfl, rfl, rfl⟩, rfl, rfl, rfl, rfl, rfl⟩
  have hne : ¬ st.2.2.1 k := by rw [← h3]; exact m1
  have hcnt : cnt (v :: B) = 1 + cnt B := by
    show (if v.1 = 5 then 0 else 1) + cnt B = _
    rw [if_neg hv5]
  rcases e3 with rfl | rfl
  · refine ⟨⟨⟨kp_tr g1 kpm, g2, g3, g4, g5, g6⟩, ⟨m4, by rw [m6, h3]; rfl, m5⟩, ⟨hps, fun i P hi => rg_up m3 (hpl i P hi)⟩, by omega⟩, hne⟩
  · refine ⟨⟨⟨kp_tr g1 kpm, g2, g3, g4, g5, g6⟩, ⟨m4, by show Ur (mkR r2 k a b c) = _; rw [m6, h3]; rfl, rg_pile (r := mkR r2 k a b c) rfl rfl m5⟩, ⟨hps, fun i P hi => rg_pile (r := mkR r2 k a b c) rfl rfl (rg_up m3 (hpl i P hi))⟩, by show fz (mkR r2 k a b c) + _ = z; omega⟩, hne⟩
set_option maxHeartbeats 4000000 in
theorem R_lay (hW : WSr r σ []) (hs : σ.length ≤ 1200) (hkd : ∀ t ∈ σ, (t.1 = 0 ∧ t.2 = 0) ∨ t.1 = 1 ∨ t.1 = 2 ∨ t.1 = 4 ∨ t.1 = 5) (hht : htT σ = some 0) (hz : z ≤ 250) (hc : cnt σ ≤ z) (hI0 : LI r (ppR r 0) z [] init (-1)) (hp0 : init.2.2.2.2 = []) (hQ : ∀ r2 st x, LI r r2 z σ st x → LY σ init st → Q (.inl (some (.int x)), (cW s (rW r2 tl), b0, b1, op))) : mj_Mt gT cst gnw (m + 3) y_R_lay [.ref 27] (cW s (rW r tl), b0, b1, op) Q := by
  obtain ⟨⟨hs1, hs2⟩, -, -⟩ := hW
  intro J hJ
  have loop : ∀ (n : Nat) (A B : TL) (st : LSt) (r2 : rM) (x y : Int32), A.length = n → A ++ B = σ → LY B init st → htT B = some st.2.2.2.2.length → LI r r2 z B st x → y = nI A.length - Int32.ofInt 1 → J 10 [some (.ref 27), some (.int x), some (.int y)] [] (cW s (rW r2 tl), b0, b1, op) := by
    intro n
    induction n with
    | zero =>
      intro A B st r2 x y hA hAB hL hh hI hy
      have : A = [] := List.length_eq_zero_iff.mp hA
      subst this
      have hAB : B = σ := hAB
      subst hAB
      refine hJ _ _ _ _ ?_
      refine And.intro (fun _ => hQ r2 st x hI hL) (fun (g : ¬ y < 0) => absurd (by rw [hy]; decide) g)
    | succ n ih =>
      intro A B st r2 x y hA hAB hL hh hI hy
      obtain ⟨A, t, rfl⟩ : ∃ A' t, A = A' ++ [t] := by
        rcases snoc_ex A with rfl | w
        · cases hA
        · exact w
      rw [len_s] at hA hy
      have hy2 : y = nI A.length := by rw [hy]; exact nI_pred _
      subst hy2
      rw [List.append_assoc] at hAB
      have hAB : A ++ (t :: B) = σ := hAB
      have hlt : A.length < σ.length := by rw [← hAB, List.length_append, List.length_cons]; omega
      have hat : σ[A.length]? = some t := by
        rw [← hAB, List.getElem?_append_right (Nat.le_refl _), Nat.sub_self]
        rfl
      obtain ⟨t1, t2⟩ := hs2 A.length t hat
      have htm : t ∈ σ := List.mem_of_getElem? hat
      have hin : vp_in (nI A.length) 1200 := vp_in_nI (by omega) (by decide)
      have ek : (nI A.length).toNatClampNeg = A.length := nI_clamp (by omega)
      obtain ⟨p, hp⟩ := ht_pre A (t :: B) 0 (by rw [hAB]; exact hht)
      have hple := ht_le A (t :: B) 0 p (by rw [hAB]; exact hht) hp
      have hcs : cnt A + cnt (t :: B) = cnt σ := by rw [← hAB, cnt_app]
      have e0 : htT (t :: B) = (match htT B with | none => none | some h => if t.1 = 5 then some (h + 1) else if t.1 = 4 then (match h with | 0 => none | h + 1 => some h) else some h) := rfl
      rw [hh] at e0
      have ecn : cnt (t :: B) = (if t.1 = 5 then 0 else 1) + cnt B := rfl
      have hI' := hI
      obtain ⟨⟨g1, g2, g3, g4, g5, g6⟩, ⟨i2, i3, i4⟩, ⟨i5, i6⟩, i7⟩ := hI'
      have nxt : ∀ (st' : LSt) (r3 : rM) (x' y' : Int32), y' = nI A.length + Int32.ofInt (-1) → LY (t :: B) init st' → htT (t :: B) = some st'.2.2.2.2.length → LI r r3 z (t :: B) st' x' → J 10 [some (.ref 27), some (.int x'), some (.int y')] [] (cW s (rW r3 tl), b0, b1, op) := by
        intro st' r3 x' y' hy' h1 h2 h3
        exact ih A (t :: B) st' r3 x' y' (by omega) hAB h1 h2 h3 (by rw [hy']; exact subadd _)
      refine hJ _ _ _ _ ?_
      refine And.intro (fun (g : nI A.length < 0) => absurd g (nI_pos (by omega))) (fun _ => ?_)
      refine And.intro hin ?_
      rw [ek, g4, t1]
      refine And.intro (fun (n5 : ¬ t.1 = 5) => ?_) (fun (e5 : t.1 = 5) => ?_)
      rotate_left
      · obtain ⟨tk, tv⟩ := t
        have e5 : tk = 5 := e5
        subst e5
        have hp5 : st.2.2.2.2.length < 260 := by
          have e0 : htT ((5, tv) :: B) = some (st.2.2.2.2.length + 1) := e0
          rw [e0] at hp
          cases hp
          omega
        refine And.intro (show vp_in r2.piled 260 by rw [i5]; exact vp_in_nI hp5 (by decide)) ?_
        have key : ∀ (i : Nat) (y : Int32), i = st.2.2.2.2.length → y = nI (st.2.2.2.2.length + 1) → J 10 [some (.ref 27), some (.int (-1)), some (.int (nI A.length + Int32.ofInt (-1)))] [] (cW s (rW ((r2.s_pile (upd r2.pile i x)).s_piled y) tl), b0, b1, op) := by
          intro i y q1 q2
          rw [q1, q2]
          exact nxt _ (pcR r2 st.2.2.2.2.length x) _ _ rfl ⟨st, hL, Or.inl ⟨rfl, rfl⟩⟩ e0 (LI_close hI)
        refine key r2.piled.toNatClampNeg (r2.piled + Int32.ofInt 1) ?_ ?_
        · show r2.piled.toNatClampNeg = _
          rw [i5]
          exact nI_clamp (by omega)
        · show r2.piled + Int32.ofInt 1 = _
          rw [i5]
          exact (nI_succ _).symm
      · rw [if_neg n5] at ecn
        have hf : 1 ≤ fz r2 := by omega
        refine And.intro hin ?_
        rw [ek, g4, t1]
        refine And.intro (fun (n4 : ¬ t.1 = 4) => ?_) (fun (e4 : t.1 = 4) => ?_)
        · -- a cell
          have hrv : rv r2 (hvT t) t.1 t.2 := by
            unfold hvT
            rcases hkd t htm with ⟨w1, w2⟩ | w | w | w | w
            · rw [if_pos w1]
              exact ⟨w1, w2⟩
            · rw [if_neg (by rw [w]; decide), if_neg (by rw [w]; decide)]
              exact ⟨w, rfl⟩
            · rw [if_neg (by rw [w]; decide), if_pos w]
              exact ⟨w, rfl⟩
            · exact absurd w n4
            · exact absurd w n5
          refine And.intro hin ?_
          rw [ek, g4, t1]
          refine And.intro hin ?_
          rw [ek, g5, t2]
          refine r_make i2.1.2 i2.1.1 (fun k hk => ?_)
          obtain ⟨w1, w2⟩ := LI_new (v := t) (ps := st.2.2.2.2) hI n5 hf hrv i4 hk (mkR r2 k t.1 t.2 x) (Or.inl rfl) i5 i6
          refine nxt _ (mkR r2 k t.1 t.2 x) (nI k) _ rfl ⟨st, hL, Or.inr (Or.inr ⟨n5, n4, k, w2, rfl⟩)⟩ ?_ w1
          rw [e0]
          show (if t.1 = 5 then _ else if t.1 = 4 then _ else some st.2.2.2.2.length) = _
          rw [if_neg n5, if_neg n4]
          rfl
        · -- a list
          obtain ⟨P, ps, eps⟩ : ∃ P ps, st.2.2.2.2 = P :: ps := by
            cases hps : st.2.2.2.2 with
            | nil =>
              rw [hps] at e0
              have e0 : htT (t :: B) = (if t.1 = 5 then some (0 + 1) else if t.1 = 4 then none else some 0) := e0
              rw [if_neg n5, if_pos e4] at e0
              rw [e0] at hp
              cases hp
            | cons P ps => exact ⟨P, ps, rfl⟩
          have hl : st.2.2.2.2.length = ps.length + 1 := by rw [eps]; rfl
          rw [hl] at i5
          have hp5 : ps.length < 260 := by
            rw [hl] at e0
            have e0 : htT (t :: B) = (if t.1 = 5 then some (ps.length + 1 + 1) else if t.1 = 4 then some ps.length else some (ps.length + 1)) := e0
            rw [if_neg n5, if_pos e4] at e0
            rw [e0] at hp
            cases hp
            omega
          have ep : r2.piled - Int32.ofInt 1 = nI ps.length := by rw [i5]; exact nI_pred _
          have hP : rg r2 P (r2.pile ps.length) := by
            have := i6 0 P (by rw [eps]; rfl)
            rw [hl] at this
            exact this
          refine And.intro (show vp_in (r2.piled - Int32.ofInt 1) 260 by rw [ep]; exact vp_in_nI hp5 (by decide)) ?_
          have key : ∀ (c y : Int32), c = r2.pile ps.length → y = nI ps.length → ∀ Q' : mj_R → Prop, (∀ k, k = ffN r2.used (r2.z - 1) 0 → Q' (.inl (some (.int (nI k))), (cW s (rW (ppR (mkR r2 k (if x < 0 then 0 else 3) (if x < 0 then 0 else x) (r2.pile ps.length)) ps.length) tl), b0, b1, op))) → mj_Mt gT cst gnw (m + 2) y_R_makeOf [.ref 27, .int x, .int c] (cW s (rW (r2.s_piled y) tl), b0, b1, op) Q' := by
            rintro c y rfl rfl Q' hQ'
            exact r_makeOf (r := ppR r2 ps.length) i2.1.2 i2.1.1 hQ'
          refine key _ _ ?_ ep _ (fun k hk => ?_)
          · show r2.pile (r2.piled - Int32.ofInt 1).toNatClampNeg = _
            rw [ep, nI_clamp (by omega)]
          · have hpl : ∀ i P2, ps[i]? = some P2 → rg r2 P2 (r2.pile (ps.length - 1 - i)) := by
              intro i P2 hi
              have := i6 (i + 1) P2 (by rw [eps]; exact hi)
              rw [hl] at this
              rw [show ps.length + 1 - 1 - (i + 1) = ps.length - 1 - i by omega] at this
              exact this
            obtain ⟨w1, w2⟩ := LI_new (v := t) (ps := ps) hI n5 hf (rg_rv i4 i2.1.2) hP hk (ppR (mkR r2 k (if x < 0 then 0 else 3) (if x < 0 then 0 else x) (r2.pile ps.length)) ps.length) (Or.inr rfl) rfl hpl
            refine nxt _ _ (nI k) _ rfl ⟨st, hL, Or.inr (Or.inl ⟨e4, P, ps, k, eps, w2, rfl⟩)⟩ ?_ w1
            rw [e0, hl]
            show (if t.1 = 5 then _ else if t.1 = 4 then some ps.length else _) = _
            rw [if_neg n5, if_pos e4]
            rfl
  refine hJ _ _ _ _ ?_
  refine loop σ.length σ [] init (ppR r 0) (-1) _ rfl (List.append_nil σ) rfl (by rw [hp0]; rfl) hI0 ?_
  show r.signs - Int32.ofInt 1 = _
  rw [hs1]
end YO
end
section
def cpR (r r' : rM) : rM := ((((((((((((r'.s_z r.z).s_used r.used).s_function r.function).s_headKind r.headKind).s_head r.head).s_tailKind r.tailKind).s_tail r.tail).s_marked r.marked).s_reg r.reg).s_program r.program).s_state r.state).s_shown r.shown)
theorem kr_cp {r r' : rM} (h : kr r r') : r' = cpR r r' := by
  have h : krT r' = krT r := h
  have e1 : r'.z = r.z := congrArg (fun q => q.1.1) h
  have e2 : r'.used = r.used := congrArg (fun q => q.2.1.1) h
  have e3 : r'.function = r.function := congrArg (fun q => q.2.1.2.1) h
  have e4 : r'.headKind = r.headKind := congrArg (fun q => q.2.1.2.2.1) h
  have e5 : r'.head = r.head := congrArg (fun q => q.2.1.2.2.2.1) h
  have e6 : r'.tailKind = r.tailKind := congrArg (fun q => q.2.1.2.2.2.2.1) h
  have e7 : r'.tail = r.tail := congrArg (fun q => q.2.1.2.2.2.2.2) h
  have e8 : r'.marked = r.marked := congrArg (fun q => q.2.2.1.1) h
  have e9 : r'.reg = r.reg := congrArg (fun q => q.2.2.1.2.1) h
  have e10 : r'.program = r.program := congrArg (fun q => q.2.2.1.2.2.1) h
  have e11 : r'.state = r.state := congrArg (fun q => q.2.2.1.2.2.2) h
  have e12 : r'.shown = r.shown := congrArg (fun q => q.2.2.2.2.2.2.1) h
  unfold cpR
  rw [← e1, ← e2, ← e3, ← e4, ← e5, ← e6, ← e7, ← e8, ← e9, ← e10, ← e11, ← e12]
  rfl
theorem RMI_kr {r r' : rM} (h : kr r r') (hI : RMI r) : RMI r' := by
  rw [kr_cp h]
  exact hI
theorem kr_z {r r' : rM} (h : kr r r') : r'.z = r.z := congrArg (fun q => q.1.1) (show krT r' = krT r from h)
theorem czN_0 (u : Nat → Int32) (hu : ∀ i, i < 250 → u i = 0) : ∀ n k a, k + n ≤ 250 → czN u n k a = a + n
  | 0, k, a, _ => rfl
  | n + 1, k, a, h => by
    have e : czN u (n + 1) k a = czN u n (k + 1) (if u k = 0 then a + 1 else a) := rfl
    rw [e, if_pos (hu k (by omega)), czN_0 u hu n (k + 1) (a + 1) (by omega)]
    omega
def erR (r : rM) (e t : Int32) : rM := (((r.s_error e).s_thrown t).s_typed 0)
def clU (r : rM) (u g : Nat → Int32) : rM := ((r.s_used u).s_reg g)
def etR (r : rM) (e t : Int32) : rM := ((r.s_error e).s_thrown t)
def tyR (r : rM) (t : Int32) : rM := ((r.s_thrown t).s_typed 0)
def fiR (r : rM) (g : Nat → Int32) : rM := ((((((r.s_reg g).s_program 1).s_state 0).s_collections 0).s_takenBack 0).s_steps 0)
section YP
variable {cst : Nat → Option (Nat × (Nat → Int32))} {m b0 b1 : Nat} {op : Bool} {tl : List mj_O} {Q : mj_R → Prop} {s : cS} {r : rM} {len : Nat} {tx : Nat → Nat}
set_option maxRecDepth 10000
theorem cR_same {tx : Nat → Nat} {r r' : rM} {f n e : Nat} {t : Tau} (h : (r'.kind, r'.value, r'.at_, r'.until_, r'.first, r'.letters, r'.next, r'.bound, r'.parent) = (r.kind, r.value, r.at_, r.until_, r.first, r.letters, r.next, r.bound, r.parent)) (hc : cR tx r f n e t) : cR tx r' f n e t := by
  have e1 : r'.kind = r.kind := congrArg (fun q => q.1) h
  have e2 : r'.value = r.value := congrArg (fun q => q.2.1) h
  have e3 : r'.at_ = r.at_ := congrArg (fun q => q.2.2.1) h
  have e4 : r'.until_ = r.until_ := congrArg (fun q => q.2.2.2.1) h
  have e5 : r'.first = r.first := congrArg (fun q => q.2.2.2.2.1) h
  have e6 : r'.letters = r.letters := congrArg (fun q => q.2.2.2.2.2.1) h
  have e7 : r'.next = r.next := congrArg (fun q => q.2.2.2.2.2.2.1) h
  have e8 : r'.bound = r.bound := congrArg (fun q => q.2.2.2.2.2.2.2.1) h
  have e9 : r'.parent = r.parent := congrArg (fun q => q.2.2.2.2.2.2.2.2) h
  refine cR_ag f n e t ⟨fun i _ _ => ?_, fun i _ _ => by rw [e6], fun i _ _ => by rw [e7, e8, e9]; exact ⟨rfl, rfl, rfl⟩⟩ hc
  rw [e1, e2, e3, e4, e5]
  exact ⟨rfl, rfl, rfl, rfl, rfl⟩
end YP
end
section
theorem RMI_r0 (z : Nat) (h1 : 1 ≤ z) (h2 : z ≤ 250) : RMI (r0 z) := by
  have hU : ∀ a, ¬ Ur (r0 z) a := fun a h => h.2 rfl
  have hg : ∀ x : Int32, x = -1 → rg (r0 z) vNil x := fun x e => Or.inl ⟨rfl, e⟩
  refine ⟨⟨⟨fun _ => false, ?_⟩, ⟨0, by omega, rfl⟩⟩, Or.inl ⟨rfl, rfl, fun _ => vNil, fun _ => vNil, ⟨⟨h1, h2⟩, fun a h => absurd h (hU a), fun a _ => ⟨fun h => ?_, fun h => ?_⟩⟩, hg _ rfl, hg _ rfl, hg _ rfl, hg _ rfl, hg _ rfl⟩⟩
  · funext a
    rfl
  · exact absurd (show (0 : Int32) = 3 from h) (by decide)
  · exact absurd (show (0 : Int32) = 3 from h) (by decide)
theorem fillU_eN (z : Nat) : ∀ (n k : Nat) (fr : Nat → Nat), k + n ≤ z → (∀ j, j < z → fr j < z) → ∃ fr' : Nat → Nat, fillU (eN fr) k n = eN fr' ∧ ∀ j, j < z → fr' j < z
  | 0, k, fr, _, h => ⟨fr, rfl, h⟩
  | n + 1, k, fr, hk, h => by
    have hu : ∀ j, j < z → upW fr k k j < z := by
      intro j hj
      unfold upW
      split
      · omega
      · exact h j hj
    obtain ⟨fr', e, h'⟩ := fillU_eN z n (k + 1) (upW fr k k) (by omega) hu
    refine ⟨fr', ?_, h'⟩
    rw [← e, ← upd_nI]
    rfl
theorem CI_c0 (z : Nat) (h1 : 1 ≤ z) (h2 : z ≤ 250) (tl : List mj_O) : CI z 0 (fun _ => 0) 0 0 tl (cW (c0 z) tl) := by
  obtain ⟨fr, e, hfr⟩ := fillU_eN z z 0 (fun _ => 0) (by omega) (fun j _ => by omega)
  refine ⟨-1, (0, z0, z0, z0, fun _ => some 0, fun _ => some 0, fun _ => some 0), z0, 0, ((fun _ => vNil, fun _ => vNil, 0, some 0, false), fun _ => some 0, 0, 0), vNil, vNil, vNil, vNil, 0, 0, 0, fun _ => vNil, fun _ => vNil, fr, (fun _ => false, fun _ => 0, 0), z, 0, 0, fun _ => 0, fun _ => vNil, ?_, h2, ?_, txOK_0, ?_, ?_, ?_, hfr, Nat.le_refl _, Nat.zero_le _, ?_⟩
  · have e2 : fillF z0 0 z = eN fr := e
    unfold c0
    rw [e2]
    rfl
  · refine ⟨Nat.zero_le _, fun i j q => ?_, ⟨fun i j q => ?_, fun i hi => absurd hi (Nat.not_lt_zero i)⟩, fun i j q => ?_⟩ <;> (cases q; decide)
  · intro i j q
    cases q
    decide
  · exact ⟨fun i _ => trivial, fun i _ => trivial⟩
  · exact ⟨fun i _ => trivial, fun i _ => trivial, trivial, trivial, trivial, trivial⟩
  · exact ⟨⟨[], rfl, Nat.zero_le _, fun i hi => absurd hi (Nat.not_lt_zero i)⟩, fun k _ => trivial⟩
def CX (z len : Nat) (tx : Nat → Nat) (mode : Int32) (c : Nat) (s : cS) : Prop := ∀ tl, CI z len tx mode c tl (cW s tl)
theorem CX_c0 (z : Nat) (h1 : 1 ≤ z) (h2 : z ≤ 250) : CX z 0 (fun _ => 0) 0 0 (c0 z) := fun tl => CI_c0 z h1 h2 tl
end
section
section LCL
variable {m b0 b1 z len c : Nat} {tx : Nat → Nat} {mode : Int32} {op : Bool} {Q : mj_R → Prop} {s : cS} {r : rM} {xs : List Int32} {f : Nat → Int64}
set_option maxRecDepth 10000
end LCL
def RY (len : Nat) (tx : Nat → Nat) (r : rM) : Prop := RMI r ∧ txOK r.text len tx ∧ r.typed = nI len
theorem RY_r0 (z : Nat) (h1 : 1 ≤ z) (h2 : z ≤ 250) : RY 0 (fun _ => 0) (r0 z) := ⟨RMI_r0 z h1 h2, txOK_0, rfl⟩
theorem RY_ke {len : Nat} {tx : Nat → Nat} {r r' : rM} (h : RY len tx r) (hk : ke r r') (hI : RMI r') : RY len tx r' := by
  obtain ⟨-, q1, q2, -⟩ := hk
  refine ⟨hI, ?_, q1.trans h.2.2⟩
  rw [q2]
  exact h.2.1
theorem RY_typed {r : rM} (h : RMI r) (e : r.typed = nI 0) : RY 0 (fun _ => 0) r := ⟨h, txOK_0, e⟩
section LCM
variable {m b0 b1 z len c : Nat} {tx : Nat → Nat} {mode : Int32} {op : Bool} {Q : mj_R → Prop} {s : cS} {r : rM} {xs : List Int32} {tl : List mj_O} {cst : Nat → Option (Nat × (Nat → Int32))}
set_option maxRecDepth 10000
end LCM
end
section
def ly1 (z : Nat) (x : Int32 × Int32) (p : cC × List Nat) : cC × List Nat :=
  if x.1 = 5 then (match p.2 with | [] => p | q :: st => (cEd p.1 q, st))
  else if x.1 = 4 then (cBg z p.1, cn p.1 :: p.2)
  else if x.1 = 0 then (cAp z p.1 vNil, p.2)
  else if x.1 = 2 then (cAp z p.1 (vSym x.2), p.2)
  else (cAp z p.1 (vInt x.2), p.2)
def lyS (z : Nat) : TL → cC × List Nat → cC × List Nat
  | [], p => p
  | x :: T, p => lyS z T (ly1 z x p)
def knT (T : TL) : Prop := ∀ x ∈ T, x.1 = 6 → ¬ x.2 < 0
def RES (z : Nat) (T : TL) (s s' : cD_) : Prop := (∀ st, lyS z T (dC s, st) = (dC s', st)) ∧ dK s' = dK s ∧ (∀ i, i < dK s → dF s' i = dF s i) ∧ (dU s' = -1 ↔ dU s = -1 ∧ knT T)
theorem lyS_app (z : Nat) : ∀ (A B : TL) (p : cC × List Nat), lyS z (A ++ B) p = lyS z B (lyS z A p)
  | [], B, p => rfl
  | x :: A, B, p => lyS_app z A B (ly1 z x p)
theorem knT_app {A B : TL} : knT (A ++ B) ↔ knT A ∧ knT B := by
  refine ⟨fun h => ⟨fun x hx => h x (List.mem_append_left _ hx), fun x hx => h x (List.mem_append_right _ hx)⟩, fun h x hx => ?_⟩
  rcases List.mem_append.mp hx with w | w
  · exact h.1 x w
  · exact h.2 x w
theorem knT_1 {x : Int32 × Int32} (h : ¬ x.1 = 6) : knT [x] := fun y hy => by
  rw [List.mem_singleton.mp hy]
  exact fun e => absurd e h
section ZA
variable {z : Nat} {A B T : TL} {s s1 s2 : cD_}
theorem RES_nil : RES z [] s s := ⟨fun _ => rfl, rfl, fun _ _ => rfl, ⟨fun h => ⟨h, fun x hx => by cases hx⟩, fun h => h.1⟩⟩
theorem RES_app (h1 : RES z A s s1) (h2 : RES z B s1 s2) : RES z (A ++ B) s s2 := by
  obtain ⟨a1, a2, a3, a4⟩ := h1
  obtain ⟨b1, b2, b3, b4⟩ := h2
  refine ⟨fun st => ?_, b2.trans a2, fun i hi => (b3 i (by omega)).trans (a3 i hi), ?_⟩
  · rw [lyS_app, a1, b1]
  · rw [b4, a4, knT_app]
    exact ⟨fun h => ⟨h.1.1, h.1.2, h.2⟩, fun h => ⟨⟨h.1, h.2.1⟩, h.2.2⟩⟩
theorem RES_one {x : Int32 × Int32} {v : Vl} (hx : ∀ p, ly1 z x p = (cAp z p.1 v, p.2)) (h6 : ¬ x.1 = 6) : RES z [x] s (dA z s v) := by
  refine ⟨fun st => hx (dC s, st), rfl, fun _ _ => rfl, ⟨fun h => ⟨h, knT_1 h6⟩, fun h => h.1⟩⟩
theorem RES_I (x : Int32) : RES z [(1, x)] s (dI z s x) := RES_one (fun _ => rfl) (show ¬ (1 : Int32) = 6 by decide)
theorem RES_N : RES z [(0, 0)] s (dA z s vNil) := RES_one (fun _ => rfl) (show ¬ (0 : Int32) = 6 by decide)
theorem RES_y (x : Int32) : RES z [(2, x)] s (dA z s (vSym x)) := RES_one (fun _ => rfl) (show ¬ (2 : Int32) = 6 by decide)
theorem RES_li (h : RES z T (dB z s) s1) : RES z ((4, 0) :: (T ++ [(5, 0)])) s (dE s1 (cn (dC s))) := by
  obtain ⟨a1, a2, a3, a4⟩ := h
  refine ⟨fun st => ?_, a2, a3, ?_⟩
  · show lyS z (T ++ [(5, 0)]) (cBg z (dC s), cn (dC s) :: st) = _
    rw [lyS_app]
    have := a1 (cn (dC s) :: st)
    rw [show (dC (dB z s)) = cBg z (dC s) from rfl] at this
    rw [this]
    rfl
  · show dU s1 = -1 ↔ _
    rw [a4]
    have e : dU (dB z s) = dU s := rfl
    rw [e]
    refine ⟨fun h => ⟨h.1, ?_⟩, fun h => ⟨h.1, ?_⟩⟩
    · intro x hx
      rcases List.mem_cons.mp hx with w | w
      · rw [w]
        exact fun e => absurd e (by decide)
      · rcases List.mem_append.mp w with w | w
        · exact h.2 x w
        · rw [List.mem_singleton.mp w]
          exact fun e => absurd e (by decide)
    · exact fun x hx => h.2 x (List.mem_cons_of_mem _ (List.mem_append_left _ hx))
end ZA
def LTR (t : tS) : Option Nat → List Nat → Prop
  | o, [] => o = none
  | o, c :: ls => ∃ i, o = some i ∧ i < tn t ∧ tV t i = nI c ∧ LTR t (tN t i) ls
def FRM (t : tS) (F : Nat → Option Nat) : Nat → Fr → Prop
  | k, [] => k = 0
  | k, ls :: φ => ∃ j, k = j + 1 ∧ LTR t (F j) ls ∧ ls.length ≤ 3 ∧ (∀ c ∈ ls, c < 256) ∧ FRM t F j φ
theorem FRM_len {t : tS} {F : Nat → Option Nat} : ∀ {φ : Fr} {k : Nat}, FRM t F k φ → k = φ.length
  | [], k, h => h
  | ls :: φ, k, ⟨j, h1, _, _, _, h2⟩ => by rw [h1, FRM_len h2]; rfl
theorem FRM_ag {t : tS} {F F' : Nat → Option Nat} : ∀ {φ : Fr} {k : Nat}, (∀ i, i < k → F' i = F i) → FRM t F k φ → FRM t F' k φ
  | [], k, _, h => h
  | ls :: φ, k, hF, ⟨j, h1, h2, h3, h4, h5⟩ => ⟨j, h1, by rw [hF j (by omega)]; exact h2, h3, h4, FRM_ag (fun i hi => hF i (by omega)) h5⟩
theorem FRM_res {z : Nat} {T : TL} {t : tS} {s s' : cD_} {φ : Fr} (h : RES z T s s') (hf : FRM t (dF s) (dK s) φ) : FRM t (dF s') (dK s') φ := by
  obtain ⟨-, h2, h3, -⟩ := h
  rw [h2]
  exact FRM_ag h3 hf
theorem plc_sh (c : Nat) : ∀ (ls : List Nat) (i : Nat), plc c ls i = (plc c ls 0).map (· + i)
  | [], i => rfl
  | y :: ls, i => by
    have e1 : plc c (y :: ls) i = if y = c then some i else plc c ls (i + 1) := rfl
    have e2 : plc c (y :: ls) 0 = if y = c then some 0 else plc c ls (0 + 1) := rfl
    rw [e1, e2]
    split
    · show some i = some (0 + i)
      rw [Nat.zero_add]
    · rw [plc_sh c ls (i + 1), plc_sh c ls (0 + 1), Option.map_map]
      congr 1
      funext x
      show x + (i + 1) = x + (0 + 1) + i
      omega
theorem tPl_plc {t : tS} {c : Nat} (hc : c < 256) : ∀ (ls : List Nat) (o : Option Nat) (k : Nat), LTR t o ls → (∀ y ∈ ls, y < 256) → ls.length < k → tPl t (nI c) k o = plc c ls 0
  | [], o, k, h, _, hk => by
    rw [show o = none from h]
    cases k with
    | zero => rfl
    | succ k => rfl
  | y :: ls, o, k, ⟨i, h1, h2, h3, h4⟩, hl, hk => by
    subst h1
    cases k with
    | zero => exact absurd hk (Nat.not_lt_zero _)
    | succ k =>
      have e1 : tPl t (nI c) (k + 1) (some i) = if i < tn t then (if tV t i = nI c then some 0 else (tPl t (nI c) k (tN t i)).map (· + 1)) else none := rfl
      have e2 : plc c (y :: ls) 0 = if y = c then some 0 else plc c ls (0 + 1) := rfl
      have hy := hl y List.mem_cons_self
      have hk : ls.length + 1 < k + 1 := hk
      rw [e1, if_pos h2, e2, h3]
      by_cases e : y = c
      · rw [if_pos (by rw [e]), if_pos e]
      · rw [if_neg (fun q => e (nIj (by omega) (by omega) q)), if_neg e, tPl_plc hc ls (tN t i) k h4 (fun q hq => hl q (List.mem_cons_of_mem _ hq)) (by omega), plc_sh c ls (0 + 1)]
theorem dPl_lk {t : tS} {F : Nat → Option Nat} {c : Nat} (hc : c < 256) : ∀ (φ : Fr) (k i kn : Nat), FRM t F k φ → kn = k + i → dPl t F (nI c) kn k i = lkF c φ i
  | [], k, i, kn, h, _ => by
    rw [show k = 0 from h]
    rfl
  | ls :: φ, k, i, kn, ⟨j, h1, h2, h3, h4, h5⟩, hk => by
    subst h1
    have e1 : dPl t F (nI c) kn (j + 1) i = match tPl t (nI c) 96 (F (kn - 1 - i)) with | some p => nI (16 * i + p) | none => dPl t F (nI c) kn j (i + 1) := rfl
    have e2 : lkF c (ls :: φ) i = match plc c ls 0 with | some p => nI (16 * i + p) | none => lkF c φ (i + 1) := rfl
    rw [e1, e2, show kn - 1 - i = j by omega, tPl_plc hc ls (F j) 96 h2 h4 (by omega), dPl_lk hc φ j (i + 1) kn h5 (by omega)]
theorem plc_b {c : Nat} : ∀ (ls : List Nat) (i p : Nat), plc c ls i = some p → p < i + ls.length
  | [], i, p, h => by cases h
  | y :: ls, i, p, h => by
    have h : (if y = c then some i else plc c ls (i + 1)) = some p := h
    show p < i + (ls.length + 1)
    split at h
    · cases h
      omega
    · have := plc_b ls (i + 1) p h
      omega
theorem lkF_or {t : tS} {F : Nat → Option Nat} {c : Nat} : ∀ (φ : Fr) (k i : Nat), FRM t F k φ → i + φ.length ≤ 600 → lkF c φ i = -1 ∨ ∃ X, X < 10000 ∧ lkF c φ i = nI X
  | [], k, i, h, _ => Or.inl rfl
  | ls :: φ, k, i, ⟨j, h1, h2, h3, h4, h5⟩, hi => by
    have hi : i + (φ.length + 1) ≤ 600 := hi
    have e2 : lkF c (ls :: φ) i = match plc c ls 0 with | some p => nI (16 * i + p) | none => lkF c φ (i + 1) := rfl
    rw [e2]
    cases hp : plc c ls 0 with
    | none => exact lkF_or φ j (i + 1) h5 (by omega)
    | some p =>
      have := plc_b ls 0 p hp
      exact Or.inr ⟨16 * i + p, by omega, rfl⟩
theorem nI_nn {n : Nat} (h : n < 2 ^ 31) : ¬ nI n = -1 := oV_ne (k := n) h
theorem dNo_U {s : cD_} {a : Nat} (ha : a ≤ 96) : ¬ dU (dNo s (nI a)) = -1 ∧ dC (dNo s (nI a)) = dC s ∧ dF (dNo s (nI a)) = dF s ∧ dK (dNo s (nI a)) = dK s := by
  unfold dNo
  split
  · exact ⟨nI_nn (by omega), rfl, rfl, rfl⟩
  · next h => exact ⟨fun e => h (Or.inl e), rfl, rfl, rfl⟩
theorem RES_va {z : Nat} {t : tS} {s : cD_} {φ : Fr} {c a n : Nat} (hc : c < 256) (ha : a ≤ 96) (hn : n < tn t) (hv : tV t n = nI c) (hp : tP t n = nI a) (hφ : φ.length ≤ 600) (hf : FRM t (dF s) (dK s) φ) : RES z [(1, 2), (6, lkF c φ 0)] s (dVa z t (some n) s) := by
  have ev : tEi t (tV t) (some n) = nI c := (if_pos hn).trans hv
  have ep : tEi t (tP t) (some n) = nI a := (if_pos hn).trans hp
  have el := dPl_lk (F := dF s) hc φ (dK s) 0 (dK s) hf rfl
  unfold dVa
  rw [ev, ep, el]
  rcases lkF_or (c := c) φ (dK s) 0 hf (by omega) with e | ⟨X, hX, e⟩
  · rw [if_pos e]
    obtain ⟨u1, u2, u3, u4⟩ := dNo_U (s := s) ha
    refine ⟨fun st => ?_, u4, fun i _ => by show dF (dNo s (nI a)) i = _; rw [u3], ⟨fun h => absurd h u1, fun h => ?_⟩⟩
    · show (cAp z (cAp z (dC s) (vInt 2)) (vInt (lkF c φ 0)), st) = (cAp z (cAp z (dC (dNo s (nI a))) (vInt 2)) (vInt (lkF c φ 0)), st)
      rw [u2]
    · exact absurd (show lkF c φ 0 < 0 by rw [e]; decide) (h.2 (6, lkF c φ 0) (List.mem_cons_of_mem _ List.mem_cons_self) rfl)
  · rw [if_neg (by rw [e]; exact nI_nn (by omega))]
    refine ⟨fun st => rfl, rfl, fun _ _ => rfl, ⟨fun h => ⟨h, fun x hx h6 => ?_⟩, fun h => h.1⟩⟩
    rcases List.mem_cons.mp hx with w | w
    · rw [w] at h6
      exact absurd h6 (by decide)
    · rw [List.mem_singleton.mp w]
      show ¬ lkF c φ 0 < 0
      rw [e]
      exact nI_pos (by omega)
end
section
abbrev KP : Type := tS → Nat → Prop
def agN (t t' : tS) (n e : Nat) : Prop := (∀ i, n ≤ i → i < e → tK t' i = tK t i ∧ tV t' i = tV t i ∧ tP t' i = tP t i ∧ tF t' i = tF t i) ∧ ∀ i, n < i → i < e → tN t' i = tN t i
def STB (P : KP) (t : tS) (n e : Nat) : Prop := ∀ t', agN t t' n e → e ≤ tn t' → P t' n
def sgP (t : tS) : List KP → List Nat → Nat → Nat → Prop
  | [], [], a, e => a = e
  | P :: Ps, c :: cs, a, e => c = a ∧ ∃ b, c < b ∧ STB P t c b ∧ sgP t Ps cs b e
  | [], _ :: _, _, _ => False
  | _ :: _, [], _, _ => False
def F2K (t : tS) : List KP → List Nat → Prop
  | [], [] => True
  | P :: Ps, c :: cs => (c < tn t ∧ P t c) ∧ F2K t Ps cs
  | [], _ :: _ => False
  | _ :: _, [] => False
def NODE (k v p : Int32) (Ps : List KP) : KP := fun t n => n < tn t ∧ (tK t n = k ∧ tV t n = v ∧ tP t n = p) ∧ Ps.length ≤ 96 ∧ ∃ cs, chain t (tF t n) cs ∧ F2K t Ps cs
def agA (n : Nat) (t t' : tS) : Prop := ∀ i, i < n → (tK t' i = tK t i ∧ tV t' i = tV t i ∧ tP t' i = tP t i) ∧ tF t' i = tF t i ∧ tL t' i = tL t i ∧ tN t' i = tN t i
def OpQ (t0 t : tS) (n : Nat) (k v p : Int32) (Ps : List KP) : Prop := n = tn t0 ∧ n < tn t ∧ (tK t n = k ∧ tV t n = v ∧ tP t n = p) ∧ (∃ cs, chain t (tF t n) cs ∧ sgP t Ps cs (n + 1) (tn t) ∧ tL t n = cs.getLast?) ∧ tN t n = none ∧ agA n t0 t
def WR (t : tS) (P : KP) (c : Nat) (t' : tS) : Prop := c = tn t ∧ STB P t' (tn t) (tn t') ∧ tn t < tn t' ∧ tN t' (tn t) = none ∧ agA (tn t) t t'
theorem agA.tr {n : Nat} {a b c : tS} (h1 : agA n a b) (h2 : agA n b c) : agA n a c := fun i hi => by
  obtain ⟨⟨p1, p2, p3⟩, p4, p5, p6⟩ := h1 i hi
  obtain ⟨⟨q1, q2, q3⟩, q4, q5, q6⟩ := h2 i hi
  exact ⟨⟨q1.trans p1, q2.trans p2, q3.trans p3⟩, q4.trans p4, q5.trans p5, q6.trans p6⟩
theorem agA.le {n k : Nat} {a b : tS} (h : agA n a b) (hk : k ≤ n) : agA k a b := fun i hi => h i (by omega)
theorem agA_add {t : tS} {k v p : Int32} : agA (tn t) t (tAdd t k v p) := fun i hi => by
  have : i ≠ tn t := by omega
  exact ⟨⟨if_neg this, if_neg this, if_neg this⟩, if_neg this, if_neg this, if_neg this⟩
theorem agN_sub {t t' : tS} {n e n2 e2 : Nat} (h : agN t t' n e) (h1 : n ≤ n2) (h2 : e2 ≤ e) : agN t t' n2 e2 := ⟨fun i a b => h.1 i (by omega) (by omega), fun i a b => h.2 i (by omega) (by omega)⟩
theorem agN_tr {a b c : tS} {n e : Nat} (h1 : agN a b n e) (h2 : agN b c n e) : agN a c n e := by
  refine ⟨fun i q1 q2 => ?_, fun i q1 q2 => (h2.2 i q1 q2).trans (h1.2 i q1 q2)⟩
  obtain ⟨p1, p2, p3, p4⟩ := h1.1 i q1 q2
  obtain ⟨r1, r2, r3, r4⟩ := h2.1 i q1 q2
  exact ⟨r1.trans p1, r2.trans p2, r3.trans p3, r4.trans p4⟩
theorem STB_ag {P : KP} {t t2 : tS} {n e : Nat} (h : STB P t n e) (ha : agN t t2 n e) : STB P t2 n e := fun t' h1 h2 => h t' (agN_tr ha h1) h2
theorem STB_mono {P R : KP} {t : tS} {n e : Nat} (h : STB P t n e) (hr : ∀ t', P t' n → R t' n) : STB R t n e := fun t' h1 h2 => hr t' (h t' h1 h2)
theorem sgP_le {t : tS} : ∀ {Ps : List KP} {cs : List Nat} {a e : Nat}, sgP t Ps cs a e → a + Ps.length ≤ e
  | [], [], a, e, h => Nat.le_of_eq h
  | P :: Ps, c :: cs, a, e, ⟨h1, b, h2, h3, h4⟩ => by
    have := sgP_le h4
    show a + (Ps.length + 1) ≤ e
    omega
  | [], _ :: _, a, e, h => absurd h id
  | _ :: _, [], a, e, h => absurd h id
theorem sgP_in {t : tS} : ∀ {Ps : List KP} {cs : List Nat} {a e : Nat}, sgP t Ps cs a e → ∀ c, c ∈ cs → a ≤ c ∧ c < e
  | [], [], a, e, h, c, hc => by cases hc
  | P :: Ps, d :: cs, a, e, ⟨h1, b, h2, h3, h4⟩, c, hc => by
    have := sgP_le h4
    rcases List.mem_cons.mp hc with rfl | hc
    · omega
    · have := sgP_in h4 c hc
      omega
  | [], _ :: _, a, e, h, _, _ => absurd h id
  | _ :: _, [], a, e, h, _, _ => absurd h id
theorem sgP_nodup {t : tS} : ∀ {Ps : List KP} {cs : List Nat} {a e : Nat}, sgP t Ps cs a e → cs.Nodup
  | [], [], a, e, h => List.nodup_nil
  | P :: Ps, c :: cs, a, e, ⟨h1, b, h2, h3, h4⟩ => by
    refine List.nodup_cons.mpr ⟨fun hc => ?_, sgP_nodup h4⟩
    have := sgP_in h4 c hc
    omega
  | [], _ :: _, a, e, h => absurd h id
  | _ :: _, [], a, e, h => absurd h id
theorem sgP_ag {t t2 : tS} : ∀ {Ps : List KP} {cs : List Nat} {a e : Nat}, (∀ i, a ≤ i → i < e → tK t2 i = tK t i ∧ tV t2 i = tV t i ∧ tP t2 i = tP t i ∧ tF t2 i = tF t i) → (∀ i, a ≤ i → i < e → i ∉ cs → tN t2 i = tN t i) → sgP t Ps cs a e → sgP t2 Ps cs a e
  | [], [], a, e, _, _, h => h
  | P :: Ps, c :: cs, a, e, hF, hN, ⟨h1, b, h2, h3, h4⟩ => by
    have hle := sgP_le h4
    refine ⟨h1, b, h2, STB_ag h3 ⟨fun i q1 q2 => hF i (by omega) (by omega), fun i q1 q2 => hN i (by omega) (by omega) (fun hc => ?_)⟩, sgP_ag (fun i q1 q2 => hF i (by omega) q2) (fun i q1 q2 q3 => hN i (by omega) q2 (fun hc => ?_)) h4⟩
    · rcases List.mem_cons.mp hc with w | w
      · omega
      · have := sgP_in h4 i w
        omega
    · rcases List.mem_cons.mp hc with w | w
      · omega
      · exact q3 w
  | [], _ :: _, a, e, _, _, h => absurd h id
  | _ :: _, [], a, e, _, _, h => absurd h id
theorem sgP_snoc {t : tS} {P : KP} {c e : Nat} (hp : STB P t c e) (hc : c < e) : ∀ {Ps : List KP} {cs : List Nat} {a : Nat}, sgP t Ps cs a c → sgP t (Ps ++ [P]) (cs ++ [c]) a e
  | [], [], a, h => ⟨h.symm, e, hc, hp, rfl⟩
  | Q :: Ps, d :: cs, a, ⟨h1, b, h2, h3, h4⟩ => ⟨h1, b, h2, h3, sgP_snoc hp hc h4⟩
  | [], _ :: _, a, h => absurd h id
  | _ :: _, [], a, h => absurd h id
theorem sgP_F2 {t : tS} : ∀ {Ps : List KP} {cs : List Nat} {a e : Nat} (t' : tS), (∀ c b, a ≤ c → b ≤ e → agN t t' c b) → e ≤ tn t' → sgP t Ps cs a e → F2K t' Ps cs
  | [], [], a, e, t', _, _, h => trivial
  | P :: Ps, c :: cs, a, e, t', hA, he, ⟨h1, b, h2, h3, h4⟩ => by
    have hle := sgP_le h4
    exact ⟨⟨by omega, h3 t' (hA c b (by omega) (by omega)) (by omega)⟩, sgP_F2 t' (fun c2 b2 q1 q2 => hA c2 b2 (by omega) q2) he h4⟩
  | [], _ :: _, a, e, t', _, _, h => absurd h id
  | _ :: _, [], a, e, t', _, _, h => absurd h id
theorem opq_new {t : tS} {k v p : Int32} : OpQ t (tAdd t k v p) (tn t) k v p [] := by
  refine ⟨rfl, Nat.lt_succ_self _, ⟨if_pos rfl, if_pos rfl, if_pos rfl⟩, ⟨[], if_pos rfl, rfl, if_pos rfl⟩, if_pos rfl, agA_add⟩
theorem opq_part {t0 t t2 : tS} {n c : Nat} {k v p : Int32} {Ps : List KP} {P : KP} (h : OpQ t0 t n k v p Ps) (hw : WR t P c t2) : OpQ t0 (tPart t2 n c) n k v p (Ps ++ [P]) := by
  obtain ⟨h0, h1, ⟨hk, hv, hp⟩, ⟨cs, h2, h3, h4⟩, h5, h6⟩ := h
  obtain ⟨rfl, hs, hc, hN, ha⟩ := hw
  obtain ⟨⟨a1, a2, a3⟩, hF, hL, hNn⟩ := ha n h1
  have hL : tL t2 n = cs.getLast? := hL.trans h4
  have hin : ∀ c, c ∈ cs → n + 1 ≤ c ∧ c < tn t := sgP_in h3
  have h3' : sgP t2 Ps cs (n + 1) (tn t) := sgP_ag (fun i _ q2 => by obtain ⟨⟨p1, p2, p3⟩, p4, -, -⟩ := ha i q2; exact ⟨p1, p2, p3, p4⟩) (fun i _ q2 _ => (ha i q2).2.2.2) h3
  have h2' : chain t2 (tF t2 n) cs := by
    rw [hF]
    exact chain_fr (fun c hc => (ha c (hin c hc).2).2.2.2) h2
  have hA6 : agA n t0 t2 := h6.tr (ha.le (Nat.le_of_lt h1))
  unfold tPart
  cases hg : cs.getLast? with
  | none =>
    have hcs : cs = [] := List.getLast?_eq_none_iff.mp hg
    subst hcs
    rw [hL, hg]
    refine ⟨h0, by show n < tn t2; omega, ⟨a1.trans hk, a2.trans hv, a3.trans hp⟩, ⟨[tn t], ?_, ?_, ?_⟩, hNn.trans h5, fun i hi => ?_⟩
    · show chain _ (upW (tF t2) n (some (tn t)) n) [tn t]
      rw [show upW (tF t2) n (some (tn t)) n = some (tn t) from if_pos rfl]
      exact ⟨rfl, hN⟩
    · have hPs : Ps = [] := by
        cases Ps with
        | nil => rfl
        | cons P Ps => exact absurd h3 id
      subst hPs
      have h3 : n + 1 = tn t := h3
      refine ⟨h3.symm, tn t2, hc, ?_, rfl⟩
      exact STB_ag hs ⟨fun i q1 q2 => ⟨rfl, rfl, rfl, if_neg (by omega)⟩, fun i q1 q2 => rfl⟩
    · show upW (tL t2) n (some (tn t)) n = some (tn t)
      exact if_pos rfl
    · have hne : i ≠ n := by omega
      obtain ⟨b1, b2, b3, b4⟩ := hA6 i hi
      exact ⟨b1, (if_neg hne).trans b2, (if_neg hne).trans b3, b4⟩
  | some l =>
    have hlm := List.mem_of_getLast? hg
    have hl := hin l hlm
    rw [hL, hg]
    have eN : ∀ d, d ≠ l → upW (tN t2) l (some (tn t)) d = tN t2 d := fun d hd => if_neg hd
    refine ⟨h0, by show n < tn t2; omega, ⟨a1.trans hk, a2.trans hv, a3.trans hp⟩, ⟨cs ++ [tn t], ?_, ?_, ?_⟩, ?_, fun i hi => ?_⟩
    · show chain _ (tF t2 n) (cs ++ [tn t])
      refine chain_snoc (t := t2) (l := l) ?_ ?_ (fun d _ hd => eN d hd) hg (sgP_nodup h3) h2'
      · show upW (tN t2) l (some (tn t)) (tn t) = none
        rw [eN _ (by omega)]
        exact hN
      · show upW (tN t2) l (some (tn t)) l = some (tn t)
        exact if_pos rfl
    · refine sgP_snoc ?_ hc (sgP_ag (t := t2) (fun i _ _ => ⟨rfl, rfl, rfl, rfl⟩) (fun i _ _ q3 => eN i (fun e => q3 (by rw [e]; exact hlm))) h3')
      exact STB_ag hs ⟨fun i q1 q2 => ⟨rfl, rfl, rfl, rfl⟩, fun i q1 q2 => eN i (by omega)⟩
    · show upW (tL t2) n (some (tn t)) n = (cs ++ [tn t]).getLast?
      rw [List.getLast?_append, List.getLast?_singleton]
      exact if_pos rfl
    · show upW (tN t2) l (some (tn t)) n = none
      rw [eN n (by omega)]
      exact hNn.trans h5
    · have hne : i ≠ n := by omega
      have hnl : i ≠ l := by omega
      obtain ⟨b1, b2, b3, b4⟩ := hA6 i hi
      exact ⟨b1, b2, (if_neg hne).trans b3, (eN i hnl).trans b4⟩
theorem opq_node {t0 t : tS} {n : Nat} {k v p : Int32} {Ps : List KP} (h : OpQ t0 t n k v p Ps) (h96 : tn t ≤ 96) : STB (NODE k v p Ps) t n (tn t) := by
  obtain ⟨h0, h1, ⟨hk, hv, hp⟩, ⟨cs, h2, h3, h4⟩, h5, h6⟩ := h
  intro t' ha he
  obtain ⟨b1, b2, b3, b4⟩ := ha.1 n (Nat.le_refl _) h1
  have hin := sgP_in h3
  have hle := sgP_le h3
  refine ⟨by omega, ⟨b1.trans hk, b2.trans hv, b3.trans hp⟩, by omega, cs, ?_, ?_⟩
  · rw [b4]
    exact chain_fr (fun c hc => ha.2 c (by have := hin c hc; omega) (hin c hc).2) h2
  · exact sgP_F2 t' (fun c b q1 q2 => agN_sub ha (by omega) q2) he h3
theorem opq_done {t0 t : tS} {n : Nat} {k v p : Int32} {Ps : List KP} {P : KP} (h : OpQ t0 t n k v p Ps) (h96 : tn t ≤ 96) (hP : ∀ t', NODE k v p Ps t' n → P t' n) : WR t0 P n t := by
  have hn := opq_node h h96
  obtain ⟨rfl, h1, -, -, h5, h6⟩ := h
  exact ⟨rfl, STB_mono hn hP, h1, h5, h6⟩
theorem opq_cur {t0 t : tS} {n : Nat} {k v p : Int32} {Ps : List KP} (h : OpQ t0 t n k v p Ps) (h96 : tn t ≤ 96) : NODE k v p Ps t n := opq_node h h96 t ⟨fun _ _ _ => ⟨rfl, rfl, rfl, rfl⟩, fun _ _ _ => rfl⟩ (Nat.le_refl _)
end
