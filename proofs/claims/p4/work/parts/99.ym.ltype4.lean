def PSy (T : TL) : Prop := ∀ a b, GDl a → LY T a b → b.2.2.2.2 = a.2.2.2.2
theorem PS_1 {v : Int32} : PSy [(1, v)] := fun a b ha h => by
  obtain ⟨-, -, -, -, w, -⟩ := L1_int ha (LY_one h)
  exact w
theorem PS_app {A B : TL} (hA : PSy A) (hB : PSy B) : PSy (A ++ B) := fun a b ha h => by
  obtain ⟨c, h1, h2⟩ := LY_app _ _ _ _ h
  obtain ⟨g1, -⟩ := LY_gd _ _ _ ha h1
  exact (hA c b g1 h2).trans (hB a c ha h1)
theorem PS_c {v : Int32} {A : TL} (hA : PSy A) : PSy ((1, v) :: A) := PS_app (A := [(1, v)]) PS_1 hA
theorem PS_lst {i : Int32} {t : Tau} {φ : Fr} (ht : PSy (t φ)) : PSy (lstT i t φ) := by
  intro a b ha h
  obtain ⟨d, h1, h2⟩ := h
  obtain ⟨a2, h3, h4⟩ := LY_app _ _ _ _ h1
  obtain ⟨a1, h5, h6⟩ := h3
  have h5 := LY_one h5
  obtain ⟨g1, x1⟩ := L1_gd ha h5
  obtain ⟨g2, x2⟩ := L1_gd g1 h6
  obtain ⟨-, -, -, -, w2, -⟩ := L1_int g1 h6
  have w3 := ht a2 d g2 h4
  rcases h5 with ⟨-, rfl⟩ | ⟨q, -⟩ | ⟨q, -⟩
  · have ep : d.2.2.2.2 = a.2.2.2.1 :: a.2.2.2.2 := w3.trans w2
    rcases h2 with ⟨q, -⟩ | ⟨-, P, ps, c, e, hc, rfl⟩ | ⟨-, q, -⟩
    · exact absurd (show (4 : Int32) = 5 from q) (by decide)
    · rw [ep] at e
      injection e with e1 e2
      exact e2.symm
    · exact absurd rfl q
  · exact absurd (show (5 : Int32) = 4 from q) (by decide)
  · exact absurd rfl q
theorem LTy_ps {T : TL} (h : LTy T) : PSy T := fun a b ha hl => (h a b ha hl).1
theorem PS_row {φ : Fr} (ks : List Kd) (h : ∀ k ∈ ks, LTy (k.1 φ)) : PSy (rowT ks φ) := fun a b ha hl => (row_ty ks h a b ha hl).1
theorem PS_bo {a : Kd} {ls : List Nat} {φ : Fr} (h : LTy (a.1 (ls :: φ))) : PSy (boT a ls φ) := fun x y hx hl => (bo_ty h hx hl).1
theorem one_ty {i : Int32} {a c : LSt} (h : LY [(1, i)] a c) {k : Sk} {n : Nat} {e : En} (hw : L1 (1, i) a c → WTl c c.2.2.2.1 k n false e ∧ c.2.2.2.2 = a.2.2.2.2) : c.2.2.2.2 = a.2.2.2.2 ∧ WTl c c.2.2.2.1 k n false e := ⟨(hw (LY_one h)).2, (hw (LY_one h)).1⟩
theorem ch_ty {a b d : Tau} {φ : Fr} (ha : LTy (a φ)) (hb : LTy (b φ)) (hd : LTy (d φ)) : LTy (a φ ++ ((1, 8) :: (lstT 9 b φ ++ lstT 9 d φ))) := by
  refine LTy_of (PS_app (LTy_ps ha) (PS_c (PS_app (PS_lst (LTy_ps hb)) (PS_lst (LTy_ps hd))))) (fun x y hx h k n e hw => ?_)
  refine (ty_app ha hx h (fun c h1 g1 => ⟨PS_c (PS_app (PS_lst (LTy_ps hb)) (PS_lst (LTy_ps hd))) x c hx h1, ?_⟩)).2
  obtain ⟨c2, h2, h3⟩ := h1
  obtain ⟨c1, h4, h5⟩ := LY_app _ _ _ _ h2
  obtain ⟨q, p1, p2, p3, -, p5, p6⟩ := lst_wt hx h4 hd (k1 := k) (n1 := n) (e1 := eJoin (false :: k) n) (fun a' b' g w => o_9 g w)
  obtain ⟨d2, s1, s2, s3, -, s5, s6⟩ := lst_wt p5 h5 hb (k1 := k) (n1 := n) (e1 := eJoin (false :: k) n) (fun a' b' g w => o_9 g w)
  obtain ⟨c0, t1, t2, t3, t4, t5, t6⟩ := L1_int s5 h3
  have uq : c1.2.2.1 q := inU_pr (by rw [← p1]; exact p5.2.1.1)
  have ud : c2.2.2.1 d2 := inU_pr (by rw [← s1]; exact s5.2.1.1)
  have x12 := XT_tr s6 t6
  obtain ⟨y1, -, y3⟩ := t6.1 d2 ud
  obtain ⟨z1, -, z3⟩ := x12.1 q uq
  obtain ⟨f1, hf1⟩ := WT_x s5 t6 (SI_h s5.1 ud) s3
  obtain ⟨f2, hf2⟩ := WT_x p5 x12 (SI_h p5.1 uq) p3
  obtain ⟨f3, hf3⟩ := WT_x hx (XT_tr p6 x12) hx.2.1.1 hw
  rw [t1]
  refine ⟨f1 + f2 + f3 + 1, c0, 8, rfl, rfl, t2, Or.inr (Or.inr (Or.inr (Or.inr (Or.inr (Or.inr (Or.inr (Or.inl ⟨rfl, false, k, d2, q, rfl, t3.trans s1, rfl, y1.trans (s2.trans p1), rfl, ?_, ?_, ?_⟩)))))))⟩
  · rw [y3 rfl, Nat.add_assoc]
    exact wt_le hf1 (f2 + f3)
  · rw [z3 rfl, Nat.add_comm f1 f2, Nat.add_assoc]
    exact wt_le hf2 (f1 + f3)
  · rw [z1, p2, Nat.add_comm (f1 + f2) f3]
    exact wt_le hf3 (f1 + f2)
theorem sg_ty {c : Nat} {φ : Fr} : ∀ (ks : List Kd), ks.length = ar c → (∀ k ∈ ks, LTy (k.1 φ)) → 0 < ar c → LTy (sgT c ks φ)
  | [], hl, _, h0 => by
    rw [List.length_nil] at hl
    omega
  | [a], hl, h, _ => by
    have ha := h a List.mem_cons_self
    have hi := cd_1 hl.symm
    refine LTy_of (PS_app (LTy_ps ha) PS_1) (fun x y hx hy k n e hw => ?_)
    exact (ty_app ha hx hy (fun c1 h1 g1 => one_ty h1 (fun w => o_1 hx hi w hw))).2
  | [a, b], hl, h, _ => by
    have ha := h a List.mem_cons_self
    have hb := h b (List.mem_cons_of_mem _ List.mem_cons_self)
    have hi := cd_2 hl.symm
    show LTy (if c = 46 then b.1 φ ++ (a.1 φ ++ [(1, 13)]) else a.1 φ ++ (b.1 φ ++ [(1, cdO c)]))
    split
    · refine LTy_of (PS_app (LTy_ps hb) (PS_app (LTy_ps ha) PS_1)) (fun x y hx hy k n e hw => ?_)
      exact (ty_app hb hx hy (fun c1 h1 g1 => ty_app ha hx h1 (fun c2 h2 g2 => one_ty h2 (fun w => o_2 hx (Or.inl rfl) w hw)))).2
    · refine LTy_of (PS_app (LTy_ps ha) (PS_app (LTy_ps hb) PS_1)) (fun x y hx hy k n e hw => ?_)
      exact (ty_app ha hx hy (fun c1 h1 g1 => ty_app hb hx h1 (fun c2 h2 g2 => one_ty h2 (fun w => o_2 hx hi w hw)))).2
  | [a, b, d], hl, h, _ => ch_ty (h a List.mem_cons_self) (h b (List.mem_cons_of_mem _ List.mem_cons_self)) (h d (List.mem_cons_of_mem _ (List.mem_cons_of_mem _ List.mem_cons_self)))
  | a :: b :: d :: e :: ks, hl, _, _ => by
    have := ar_le c
    rw [List.length_cons, List.length_cons, List.length_cons, List.length_cons] at hl
    omega
theorem okT_sg {c : Nat} {φ : Fr} : ∀ (ks : List Kd), ks.length = ar c → okTt (sgT c ks φ) → ∀ k ∈ ks, okTt (k.1 φ)
  | [], _, _, k, hk => by cases hk
  | [a], _, h, k, hk => by
    rw [List.mem_singleton.mp hk]
    exact okT_l h
  | [a, b], _, h, k, hk => by
    have h : okTt (if c = 46 then b.1 φ ++ (a.1 φ ++ [(1, 13)]) else a.1 φ ++ (b.1 φ ++ [(1, cdO c)])) := h
    split at h
    · rcases List.mem_cons.mp hk with w | w
      · rw [w]
        exact okT_l (okT_r h)
      · rw [List.mem_singleton.mp w]
        exact okT_l h
    · rcases List.mem_cons.mp hk with w | w
      · rw [w]
        exact okT_l h
      · rw [List.mem_singleton.mp w]
        exact okT_l (okT_r h)
  | [a, b, d], _, h, k, hk => by
    have h : okTt (a.1 φ ++ ((1, 8) :: (lstT 9 b.1 φ ++ lstT 9 d.1 φ))) := h
    rcases List.mem_cons.mp hk with w | w
    · rw [w]
      exact okT_l h
    · rcases List.mem_cons.mp w with w | w
      · rw [w]
        exact okT_lst (okT_l (okT_c (okT_r h)))
      · rw [List.mem_singleton.mp w]
        exact okT_lst (okT_r (okT_c (okT_r h)))
  | a :: b :: d :: e :: ks, hl, _, _, _ => by
    have := ar_le c
    rw [List.length_cons, List.length_cons, List.length_cons, List.length_cons] at hl
    omega
theorem cR_ty {tx : Nat → Nat} {r : rM} : ∀ (f n e : Nat) (t : Tau), cR tx r f n e t → ∀ φ, okTt (t φ) → LTy (t φ)
  | 0, n, e, t, h, φ, _ => absurd h id
  | f + 1, n, e, t, h, φ, hok => by
    rcases h with ⟨h1, h2, h3⟩ | ⟨h1, h2, c, a, h3, h4, h5, h6, h7⟩ | ⟨h1, h2, a, a', d, D, h3, h4, h5, h6, h7⟩ | ⟨ks, l, h1, h2, h3, hT⟩
    · rw [h3]
      intro x y hx hl
      obtain ⟨c, q1, q2⟩ := hl
      obtain ⟨d, p1, p2, p3, p4, p5, p6⟩ := L1_int hx (LY_one q1)
      refine ⟨?_, fun k n e hw => (const_wt (t := false) hx p5 p6 p1 p3 (fun w => by cases w) q2 hw).1⟩
      obtain ⟨-, -, -, -, w, -⟩ := L1_int p5 q2
      exact w.trans p4
    · rw [h7] at hok ⊢
      obtain ⟨X, hX, eX⟩ := hok (6, lkF c (uP a) φ 0) (List.mem_cons_of_mem _ List.mem_cons_self) rfl
      have eX : lkF c (uP a) φ 0 = nI X := eX
      intro x y hx hl
      obtain ⟨c1, q1, q2⟩ := hl
      obtain ⟨d, p1, p2, p3, p4, p5, p6⟩ := L1_at hx (show ¬ (6 : Int32) = 5 by decide) (show ¬ (6 : Int32) = 4 by decide) (LY_one q1)
      have p2 : c1.1 d = vInt (nI X) := by
        rw [p2]
        show hvT (6, lkF c (uP a) φ 0) = _
        rw [eX]
        rfl
      obtain ⟨c0, s1, s2, s3, s4, s5, s6⟩ := L1_int p5 q2
      refine ⟨s4.trans p4, fun k n e hw => ?_⟩
      have ud : c1.2.2.1 d := inU_pr (by rw [← p1]; exact p5.2.1.1)
      obtain ⟨y1, -, y3⟩ := s6.1 d ud
      obtain ⟨f2, hf2⟩ := WT_x hx (XT_tr p6 s6) hx.2.1.1 hw
      rw [s1]
      refine ⟨f2 + 1, c0, 2, rfl, rfl, s2, Or.inr (Or.inl ⟨rfl, d, X, s3.trans p1, rfl, ⟨hX, (y3 rfl).trans p2⟩, ?_⟩)⟩
      rw [y1, p3]
      exact hf2
    · rw [h7]
      have hD : LDy D := gD_sd _ _ _ _ _ _ _ h5
      intro x y hx hl
      obtain ⟨c, q1, q2⟩ := hl
      obtain ⟨g1, x1⟩ := LY_gd _ _ _ hx q1
      obtain ⟨p0, d2, p1, p2⟩ := hD x c hx q1
      refine ⟨?_, fun k n e hw => (const_wt (t := false) hx g1 x1 p1 p2 (fun w => by cases w) q2 hw).1⟩
      obtain ⟨-, -, -, -, w, -⟩ := L1_int g1 q2
      exact w.trans p0
    · obtain ⟨A1, -⟩ := cKL_all (fun i m t w => cR_lt (tx := tx) (r := r) f i m t w.1) ks _ _ _ h1
      have kid : ∀ k ∈ ks, ∀ φ, okTt (k.1 φ) → LTy (k.1 φ) := fun k hk φ ho => by
        obtain ⟨a, b, -, -, w⟩ := A1 k hk
        exact cR_ty f a b k.1 w.1 φ ho
      rcases hT with ⟨k1, c, c1, c2, c3, c4, rfl⟩ | ⟨k1, a, args, rfl, c2, rfl⟩ | ⟨k1, a, ls, rfl, c2, c3, c4, c5, rfl⟩ | ⟨k1, a, args, ls, rfl, c2, c3, c4, c5, rfl⟩ | ⟨k1, a, args, ls, rfl, c2, c3, c4, c5, rfl⟩
      · exact sg_ty ks c4 (fun k hk => kid k hk φ (okT_sg ks c4 hok k hk)) c3
      · have hok : okTt (rowT args φ ++ (a.1 φ ++ [(1, 4)])) := hok
        have hr : ∀ k ∈ args, LTy (k.1 φ) := fun k hk => kid k (List.mem_cons_of_mem _ hk) φ (okT_row args (okT_l hok) k hk)
        have ha := kid a List.mem_cons_self φ (okT_l (okT_r hok))
        show LTy (rowT args φ ++ (a.1 φ ++ [(1, 4)]))
        refine LTy_of (PS_app (PS_row args hr) (PS_app (LTy_ps ha) PS_1)) (fun x y hx hy k n e hw => ?_)
        exact (row_app hr hx hy (fun c1 h1 g1 => ty_app ha hx h1 (fun c2 h2 g2 => one_ty h2 (fun w => o_4 hx w hw)))).2
      · have ha := kid a List.mem_cons_self (ls :: φ) (okT_lst (okT_c (show okTt ((1, 3) :: lstT 5 a.1 (ls :: φ)) from hok)))
        exact LTy_of (PS_bo ha) (fun x y hx hy k n e hw => (bo_ty ha hx hy).2 k n e (WT_b _ hw))
      · have hok : okTt (rowT args φ ++ (boT a ls φ ++ [(1, 4)])) := hok
        have hr : ∀ k ∈ args, LTy (k.1 φ) := fun k hk => kid k (List.mem_cons_of_mem _ hk) φ (okT_row args (okT_l hok) k hk)
        have ha := kid a List.mem_cons_self (ls :: φ) (okT_lst (okT_c (show okTt ((1, 3) :: lstT 5 a.1 (ls :: φ)) from okT_l (okT_r hok))))
        show LTy (rowT args φ ++ (boT a ls φ ++ [(1, 4)]))
        refine LTy_of (PS_app (PS_row args hr) (PS_app (PS_bo ha) PS_1)) (fun x y hx hy k n e hw => ?_)
        refine (row_app hr hx hy (fun c1 h1 g1 => ⟨PS_app (PS_bo ha) PS_1 x c1 hx h1, ?_⟩)).2
        obtain ⟨c2, h2, h3⟩ := LY_app _ _ _ _ h1
        have h2 := LY_one h2
        obtain ⟨g2, -⟩ := L1_gd hx h2
        exact (bo_ty ha g2 h3).2 (true :: k) n e (WT_b _ (o_4 hx h2 hw).1)
      · have hok : okTt ((1, 6) :: (rowT args (ls :: φ) ++ (boT a ls φ ++ [(1, 7)]))) := hok
        have hok2 := okT_c hok
        have hr : ∀ k ∈ args, LTy (k.1 (ls :: φ)) := fun k hk => kid k (List.mem_cons_of_mem _ hk) _ (okT_row args (okT_l hok2) k hk)
        have ha := kid a List.mem_cons_self (ls :: φ) (okT_lst (okT_c (show okTt ((1, 3) :: lstT 5 a.1 (ls :: φ)) from okT_l (okT_r hok2))))
        show LTy ((1, 6) :: (rowT args (ls :: φ) ++ (boT a ls φ ++ [(1, 7)])))
        refine LTy_of (PS_c (PS_app (PS_row args hr) (PS_app (PS_bo ha) PS_1))) (fun x y hx hy k n e hw => ?_)
        obtain ⟨c0, h0, h9⟩ := hy
        obtain ⟨g0, -⟩ := LY_gd _ _ _ hx h0
        have w0 := (row_app (k := k) (n := n + 1) (e := e) hr hx h0 (fun c1 h1 g1 => ⟨PS_app (PS_bo ha) PS_1 x c1 hx h1, by
          obtain ⟨c2, h2, h3⟩ := LY_app _ _ _ _ h1
          have h2 := LY_one h2
          obtain ⟨g2, -⟩ := L1_gd hx h2
          have w7 := (o_7 hx h2 hw).1
          have ed : decide (0 < n + 1) = true := decide_eq_true (Nat.succ_pos n)
          refine (bo_ty ha g2 h3).2 (true :: k) (n + 1) e ?_
          rw [ed]
          exact w7⟩)).2
        exact (o_6 g0 h9 w0).1
