section
theorem lkF_bd {r : rM} {c : Nat} {u : Int32} (k n : Nat) (φ : Fr) (j : Nat) (h : CHd r k n φ) (hn : ¬ lkF c (-1) φ j < 0) (hb : j + k ≤ 600) : ∃ X, X < 10000 ∧ lkF c u φ j = nI X := by
  rcases lkF_ud (c := c) (u := u) k n φ j h hb with ⟨e1, -⟩ | ⟨X, hX, -, e2⟩
  · exact absurd (by rw [e1]; decide) hn
  · exact ⟨X, hX, e2⟩
def NM (r : rM) (K i c k : Nat) (φ : Fr) : Prop := r.kind i = 1 ∧ r.value i = nI c ∧ c < 256 ∧ CHd r k i φ ∧ k ≤ K
def cov (r : rM) (K n e : Nat) (T : TL) : Prop := (∀ i, n ≤ i → i < e → r.kind i = 1 → (∃ a, a ≤ 96 ∧ r.at_ i = nI a) ∧ ∃ c k φ, NM r K i c k φ) ∧ (∀ x ∈ T, x.1 = 6 → ∃ i c k φ, n ≤ i ∧ i < e ∧ NM r K i c k φ ∧ x.2 = lkF c (uP (pn r.at_ i)) φ 0)
theorem lst_mem {x : Int32 × Int32} {i : Int32} {t : Tau} {φ : Fr} (h : x ∈ lstT i t φ) (h6 : x.1 = 6) (hi : True) : x ∈ t φ := by
  unfold lstT at h
  rcases List.mem_cons.mp h with w | w
  · rw [w] at h6
    exact absurd h6 (by decide)
  · rcases List.mem_append.mp w with w | w
    · exact w
    · rcases List.mem_cons.mp w with w | w
      · rw [w] at h6
        exact absurd (show (1 : Int32) = 6 from h6) (by decide)
      · rw [List.mem_singleton.mp w] at h6
        exact absurd h6 (by decide)
theorem row_mem {x : Int32 × Int32} {φ : Fr} (h6 : x.1 = 6) : ∀ (ks : List Kd), x ∈ rowT ks φ → ∃ k ∈ ks, x ∈ k.1 φ
  | [], h => by
    have h : x ∈ [((1 : Int32), (1 : Int32)), (0, 0)] := h
    rcases List.mem_cons.mp h with w | w
    · rw [w] at h6
      exact absurd h6 (by decide)
    · rw [List.mem_singleton.mp w] at h6
      exact absurd h6 (by decide)
  | k :: ks, h => by
    have h : x ∈ rowT ks φ ++ (k.1 φ ++ [(1, 13)]) := h
    rcases List.mem_append.mp h with w | w
    · obtain ⟨k2, q1, q2⟩ := row_mem h6 ks w
      exact ⟨k2, List.mem_cons_of_mem _ q1, q2⟩
    · rcases List.mem_append.mp w with w | w
      · exact ⟨k, List.mem_cons_self, w⟩
      · rw [List.mem_singleton.mp w] at h6
        exact absurd h6 (by decide)
theorem one_mem {x : Int32 × Int32} {v : Int32} (h6 : x.1 = 6) (h : x ∈ [((1 : Int32), v)]) : False := by
  rw [List.mem_singleton.mp h] at h6
  exact absurd (show (1 : Int32) = 6 from h6) (by decide)
theorem cKL_all {P : Nat → Nat → Tau → Prop} {nx bo : Nat → Int32} (hlt : ∀ i m t, P i m t → i < m) : ∀ (ks : List Kd) (i l m : Nat), cKL P nx bo ks i l m → (∀ k ∈ ks, ∃ a b, i ≤ a ∧ b ≤ m ∧ P a b k.1) ∧ (∀ j, i ≤ j → j < m → ∃ k ∈ ks, ∃ a b, i ≤ a ∧ a ≤ j ∧ j < b ∧ b ≤ m ∧ P a b k.1)
  | [], _, _, _, h => absurd h id
  | k :: [], i, l, m, h => by
    obtain ⟨rfl, h2, -⟩ := h
    refine ⟨fun k2 hk => ?_, fun j h3 h4 => ⟨k, List.mem_cons_self, i, m, Nat.le_refl _, h3, h4, Nat.le_refl _, h2⟩⟩
    rw [List.mem_singleton.mp hk]
    exact ⟨i, m, Nat.le_refl _, Nat.le_refl _, h2⟩
  | k :: k2 :: ks, i, l, m, h => by
    obtain ⟨j, h1, -, -, h4⟩ := h
    have c1 := hlt _ _ _ h1
    have c2 := cKL_lt hlt (k2 :: ks) j l m h4
    obtain ⟨q1, q2⟩ := cKL_all hlt (k2 :: ks) j l m h4
    refine ⟨fun k3 hk => ?_, fun j2 h5 h6 => ?_⟩
    · rcases List.mem_cons.mp hk with w | w
      · rw [w]
        exact ⟨i, j, Nat.le_refl _, by omega, h1⟩
      · obtain ⟨a, b, w1, w2, w3⟩ := q1 k3 w
        exact ⟨a, b, by omega, w2, w3⟩
    · rcases Nat.lt_or_ge j2 j with w | w
      · exact ⟨k, List.mem_cons_self, i, j, Nat.le_refl _, h5, w, by omega, h1⟩
      · obtain ⟨k3, w1, a, b, w2, w3, w4, w5, w6⟩ := q2 j2 w h6
        exact ⟨k3, List.mem_cons_of_mem _ w1, a, b, by omega, w3, w4, w5, w6⟩
theorem sg_mem {x : Int32 × Int32} {c : Nat} {φ : Fr} (h6 : x.1 = 6) : ∀ (ks : List Kd), x ∈ sgT c ks φ → ∃ k ∈ ks, x ∈ k.1 φ
  | [], h => by cases h
  | [a], h => by
    have h : x ∈ a.1 φ ++ [(1, cdO c)] := h
    rcases List.mem_append.mp h with w | w
    · exact ⟨a, List.mem_cons_self, w⟩
    · exact absurd (one_mem h6 w) id
  | [a, b], h => by
    have h : x ∈ (if c = 46 then b.1 φ ++ (a.1 φ ++ [(1, 13)]) else a.1 φ ++ (b.1 φ ++ [(1, cdO c)])) := h
    split at h
    · rcases List.mem_append.mp h with w | w
      · exact ⟨b, List.mem_cons_of_mem _ List.mem_cons_self, w⟩
      · rcases List.mem_append.mp w with w | w
        · exact ⟨a, List.mem_cons_self, w⟩
        · exact absurd (one_mem h6 w) id
    · rcases List.mem_append.mp h with w | w
      · exact ⟨a, List.mem_cons_self, w⟩
      · rcases List.mem_append.mp w with w | w
        · exact ⟨b, List.mem_cons_of_mem _ List.mem_cons_self, w⟩
        · exact absurd (one_mem h6 w) id
  | [a, b, d], h => by
    have h : x ∈ a.1 φ ++ ((1, 8) :: (lstT 9 b.1 φ ++ lstT 9 d.1 φ)) := h
    rcases List.mem_append.mp h with w | w
    · exact ⟨a, List.mem_cons_self, w⟩
    · rcases List.mem_cons.mp w with w | w
      · rw [w] at h6
        exact absurd h6 (by decide)
      · rcases List.mem_append.mp w with w | w
        · exact ⟨b, List.mem_cons_of_mem _ List.mem_cons_self, lst_mem w h6 trivial⟩
        · exact ⟨d, List.mem_cons_of_mem _ (List.mem_cons_of_mem _ List.mem_cons_self), lst_mem w h6 trivial⟩
  | _ :: _ :: _ :: _ :: _, h => by cases h
theorem bo_mem {x : Int32 × Int32} {a : Kd} {ls : List Nat} {φ : Fr} (h6 : x.1 = 6) (h : x ∈ boT a ls φ) : x ∈ a.1 (ls :: φ) := by
  unfold boT at h
  rcases List.mem_cons.mp h with w | w
  · rw [w] at h6
    exact absurd h6 (by decide)
  · exact lst_mem w h6 trivial
theorem F2_mem {R : Kd → Nat → Prop} {kd : Kd} : ∀ (ks : List Kd) (is : List Nat), F2 R ks is → kd ∈ ks → ∃ j, R kd j
  | [], [], _, hm => by cases hm
  | k :: ks, i :: is, ⟨a, b⟩, hm => by
    rcases List.mem_cons.mp hm with w | w
    · rw [w]
      exact ⟨i, a⟩
    · exact F2_mem ks is b w
  | [], _ :: _, h, _ => absurd h id
  | _ :: _, [], h, _ => absurd h id
section YH
variable {r : rM} {tx : Nat → Nat}
theorem cR_cov {K : Nat} : ∀ (f n e : Nat) (t : Tau) (k : Nat) (φ : Fr), cR tx r f n e t → e ≤ 100 → CHd r k n φ → k + f ≤ K → cov r K n e (t φ)
  | 0, n, e, t, k, φ, h, _, _, _ => absurd h id
  | f + 1, n, e, t, k, φ, h, he, hc, hK => by
    have hlt := cR_lt (f + 1) n e t h
    rcases h with ⟨h1, h2, h3⟩ | ⟨h1, h2, c, a, h3, h4, h5, h6, h7⟩ | ⟨h1, h2, a, a', d, D, h3, h4, h5, h6, h7⟩ | ⟨ks, l, h1, h2, h3, hT⟩
    · refine ⟨fun i q1 q2 q3 => ?_, fun x hx h6 => ?_⟩
      · obtain rfl : i = n := by omega
        rw [h1] at q3
        exact absurd q3 (by decide)
      · rw [h3] at hx
        rcases List.mem_cons.mp hx with w | w
        · rw [w] at h6
          exact absurd h6 (by decide)
        · exact absurd (one_mem h6 w) id
    · refine ⟨fun i q1 q2 q3 => ?_, fun x hx h6' => ?_⟩
      · obtain rfl : i = n := by omega
        exact ⟨⟨a, h4, h5⟩, c, k, φ, h1, h6, h3, hc, by omega⟩
      · rw [h7] at hx
        rcases List.mem_cons.mp hx with w | w
        · rw [w] at h6'
          exact absurd h6' (by decide)
        · rw [List.mem_singleton.mp w]
          have ep : pn r.at_ n = a := by
            unfold pn
            rw [h5]
            exact nI_clamp (by omega)
          exact ⟨n, c, k, φ, Nat.le_refl _, by omega, ⟨h1, h6, h3, hc, by omega⟩, by rw [ep]⟩
    · refine ⟨fun i q1 q2 q3 => ?_, fun x hx h6' => ?_⟩
      · obtain rfl : i = n := by omega
        rw [h1] at q3
        exact absurd q3 (by decide)
      · rw [h7] at hx
        rcases List.mem_cons.mp hx with w | w
        · rw [w] at h6'
          exact absurd h6' (by decide)
        · exact absurd h6' (gD_low _ _ _ _ _ _ _ h5 x w)
    · obtain ⟨A1, A2⟩ := cKL_all (fun i m t w => cR_lt (tx := tx) (r := r) f i m t w.1) ks _ _ _ h1
      have hlt2 := cKL_lt (fun i m t w => cR_lt (tx := tx) (r := r) f i m t w.1) ks _ _ _ h1
      have kid : ∀ (a b : Nat) (t2 : Tau) (φ2 : Fr), n + 1 ≤ a → b ≤ e → (cR tx r f a b t2 ∧ r.parent a = nI n) → CHd r (k + 1) a φ2 → cov r K a b (t2 φ2) := fun a b t2 φ2 q1 q2 q3 q4 => cR_cov f a b t2 (k + 1) φ2 q3.1 (by omega) q4 (by omega)
      have fr : (∀ a, n + 1 ≤ a → a < e → r.parent a = nI n → ∃ φ2, CHd r (k + 1) a φ2) → (∀ x ∈ t φ, x.1 = 6 → ∃ kd ∈ ks, ∃ a b φ2, n + 1 ≤ a ∧ b ≤ e ∧ (cR tx r f a b kd.1 ∧ r.parent a = nI n) ∧ CHd r (k + 1) a φ2 ∧ x ∈ kd.1 φ2) → ¬ r.kind n = 1 → cov r K n e (t φ) := by
        intro g1 g2 g3
        refine ⟨fun i q1 q2 q3 => ?_, fun x hx h6 => ?_⟩
        · by_cases ei : i = n
          · rw [ei] at q3
            exact absurd q3 g3
          · obtain ⟨kd, w1, a, b, w2, w3, w4, w5, w6⟩ := A2 i (by omega) q2
            obtain ⟨φ2, w7⟩ := g1 a w2 (by omega) w6.2
            exact (kid a b kd.1 φ2 w2 w5 w6 w7).1 i w3 w4 q3
        · obtain ⟨kd, w1, a, b, φ2, w2, w3, w4, w5, w6⟩ := g2 x hx h6
          obtain ⟨i, c, k2, φ3, u1, u2, u3, u4⟩ := (kid a b kd.1 φ2 w2 w3 w4 w5).2 x w6 h6
          exact ⟨i, c, k2, φ3, by omega, by omega, u3, u4⟩
      have pick : ∀ (kd : Kd) (φ2 : Fr), kd ∈ ks → (∀ a, n + 1 ≤ a → a < e → r.parent a = nI n → CHd r (k + 1) a φ2) → ∀ x ∈ kd.1 φ2, ∃ kd ∈ ks, ∃ a b φ2, n + 1 ≤ a ∧ b ≤ e ∧ (cR tx r f a b kd.1 ∧ r.parent a = nI n) ∧ CHd r (k + 1) a φ2 ∧ x ∈ kd.1 φ2 := by
        intro kd φ2 hk hch x hx
        obtain ⟨a, b, w1, w2, w3⟩ := A1 kd hk
        have := cR_lt f a b kd.1 w3.1
        exact ⟨kd, hk, a, b, φ2, w1, w2, w3, hch a w1 (by omega) w3.2, hx⟩
      have hlk : ∀ (a : Kd) (args : List Kd), ks = a :: args → (∃ e2, (cR tx r f (n + 1) e2 a.1 ∧ r.parent (n + 1) = nI n) ∧ e2 ≤ e) ∧ ∃ is, chI r.next is (r.next (n + 1)) ∧ F2 (fun k j => n + 1 < j ∧ ∃ e2, (cR tx r f j e2 k.1 ∧ r.parent j = nI n) ∧ e2 ≤ e) args is := by
        intro a args ea
        rw [ea] at h1
        exact cKL_is (fun i m t w => cR_lt (tx := tx) (r := r) f i m t w.1) args a (n + 1) l e h1 h2 (by omega)
      rcases hT with ⟨k1, c, c1, c2, c3, c4, c5⟩ | ⟨k1, a, args, c1, c2, c3⟩ | ⟨k1, a, ls, c1, c2, c3, c4, c5, c6⟩ | ⟨k1, a, args, ls, c1, c2, c3, c4, c5, c6⟩ | ⟨k1, a, args, ls, c1, c2, c3, c4, c5, c6⟩
      · have chn : ∀ a, n + 1 ≤ a → a < e → r.parent a = nI n → CHd r (k + 1) a φ := fun a _ _ hj => CH_no (by omega) hj hc (by rw [k1]; decide) (by rw [k1]; decide) (Or.inl (by rw [k1]; decide))
        refine fr (fun a w1 w2 w3 => ⟨φ, chn a w1 w2 w3⟩) (fun x hx h6 => ?_) (by rw [k1]; decide)
        rw [c5] at hx
        obtain ⟨kd, w1, w2⟩ := sg_mem h6 ks hx
        exact pick kd φ w1 chn x w2
      · have chn : ∀ a, n + 1 ≤ a → a < e → r.parent a = nI n → CHd r (k + 1) a φ := fun a _ _ hj => CH_no (by omega) hj hc (by rw [k1]; decide) (by rw [k1]; decide) (Or.inl (by rw [k1]; decide))
        refine fr (fun a w1 w2 w3 => ⟨φ, chn a w1 w2 w3⟩) (fun x hx h6 => ?_) (by rw [k1]; decide)
        rw [c3] at hx
        have hx : x ∈ rowT args φ ++ (a.1 φ ++ [(1, 4)]) := hx
        rcases List.mem_append.mp hx with w | w
        · obtain ⟨kd, w1, w2⟩ := row_mem h6 args w
          exact pick kd φ (by rw [c1]; exact List.mem_cons_of_mem _ w1) chn x w2
        · rcases List.mem_append.mp w with w | w
          · exact pick a φ (by rw [c1]; exact List.mem_cons_self) chn x w
          · exact absurd (one_mem h6 w) id
      · have chn : ∀ a, n + 1 ≤ a → a < e → r.parent a = nI n → CHd r (k + 1) a (ls :: φ) := fun a _ _ hj => CH_fr (by omega) hj hc (Or.inl ⟨k1, c3, c2, c4, c5⟩)
        refine fr (fun a w1 w2 w3 => ⟨_, chn a w1 w2 w3⟩) (fun x hx h6 => ?_) (by rw [k1]; decide)
        rw [c6] at hx
        exact pick a (ls :: φ) (by rw [c1]; exact List.mem_cons_self) chn x (bo_mem h6 hx)
      · skip
        have hlen : ls.length = args.length := by
          have := congrArg List.length c4
          rw [List.length_map, List.length_map] at this
          exact this.symm
        have hch := h1
        rw [c1] at hch
        have hch2 := cKL_ch (fun i m t w => cR_lt (tx := tx) (r := r) f i m t w.1) args a (n + 1) l e hch h2 (by omega)
        rw [c4] at hch2
        have hF : FRk r n ls := ⟨Or.inl k1, n + 1, by omega, h3, hch2, c5, by omega⟩
        obtain ⟨⟨e2, p1, p2⟩, is, q1, q2⟩ := hlk a args c1
        have cha : CHd r (k + 1) (n + 1) (ls :: φ) := CH_fr (by omega) p1.2 hc (Or.inr ⟨hF, Or.inr h3⟩)
        have cho : ∀ j, n + 1 < j → j < 100 → r.parent j = nI n → CHd r (k + 1) j φ := by
          intro j w1 w2 w3
          refine CH_no (by omega) w3 hc (by rw [k1]; decide) (by rw [k1]; decide) (Or.inr (fun q => ?_))
          have := nIj (by omega) (by omega) (h3.symm.trans q)
          omega
        have oth : ∀ x kd, kd ∈ args → x ∈ kd.1 φ → ∃ kd ∈ ks, ∃ a b φ2, n + 1 ≤ a ∧ b ≤ e ∧ (cR tx r f a b kd.1 ∧ r.parent a = nI n) ∧ CHd r (k + 1) a φ2 ∧ x ∈ kd.1 φ2 := by
          intro x kd hm hx
          obtain ⟨j, w0, e3, w1, w2⟩ := F2_mem args is q2 hm
          have := cR_lt f j e3 kd.1 w1.1
          exact ⟨kd, by rw [c1]; exact List.mem_cons_of_mem _ hm, j, e3, φ, by omega, w2, w1, cho j w0 (by omega) w1.2, hx⟩
        have own : ∀ x, x ∈ a.1 (ls :: φ) → ∃ kd ∈ ks, ∃ a b φ2, n + 1 ≤ a ∧ b ≤ e ∧ (cR tx r f a b kd.1 ∧ r.parent a = nI n) ∧ CHd r (k + 1) a φ2 ∧ x ∈ kd.1 φ2 := fun x hx => ⟨a, by rw [c1]; exact List.mem_cons_self, n + 1, e2, ls :: φ, Nat.le_refl _, p2, p1, cha, hx⟩
        refine fr (fun j w1 w2 w3 => ?_) (fun x hx h6 => ?_) (by rw [k1]; decide)
        · rcases Nat.lt_or_ge (n + 1) j with w | w
          · exact ⟨_, cho j w (by omega) w3⟩
          · obtain rfl : j = n + 1 := by omega
            exact ⟨_, cha⟩
        · rw [c6] at hx
          have hx : x ∈ rowT args φ ++ (boT a ls φ ++ [(1, 4)]) := hx
          rcases List.mem_append.mp hx with w | w
          · obtain ⟨kd, w1, w2⟩ := row_mem h6 args w
            exact oth x kd w1 w2
          · rcases List.mem_append.mp w with w | w
            · exact own x (bo_mem h6 w)
            · exact absurd (one_mem h6 w) id
      · skip
        have hlen : ls.length = args.length := by
          have := congrArg List.length c4
          rw [List.length_map, List.length_map] at this
          exact this.symm
        have hch := h1
        rw [c1] at hch
        have hch2 := cKL_ch (fun i m t w => cR_lt (tx := tx) (r := r) f i m t w.1) args a (n + 1) l e hch h2 (by omega)
        rw [c4] at hch2
        have hF : FRk r n ls := ⟨Or.inr k1, n + 1, by omega, h3, hch2, c5, by omega⟩
        obtain ⟨⟨e2, p1, p2⟩, is, q1, q2⟩ := hlk a args c1
        have cha : CHd r (k + 1) (n + 1) (ls :: φ) := CH_fr (by omega) p1.2 hc (Or.inr ⟨hF, Or.inr h3⟩)
        have cho : ∀ j, n + 1 < j → j < 100 → r.parent j = nI n → CHd r (k + 1) j (ls :: φ) := by
          intro j w1 w2 w3
          exact CH_fr (by omega) w3 hc (Or.inr ⟨hF, Or.inl k1⟩)
        have oth : ∀ x kd, kd ∈ args → x ∈ kd.1 (ls :: φ) → ∃ kd ∈ ks, ∃ a b φ2, n + 1 ≤ a ∧ b ≤ e ∧ (cR tx r f a b kd.1 ∧ r.parent a = nI n) ∧ CHd r (k + 1) a φ2 ∧ x ∈ kd.1 φ2 := by
          intro x kd hm hx
          obtain ⟨j, w0, e3, w1, w2⟩ := F2_mem args is q2 hm
          have := cR_lt f j e3 kd.1 w1.1
          exact ⟨kd, by rw [c1]; exact List.mem_cons_of_mem _ hm, j, e3, (ls :: φ), by omega, w2, w1, cho j w0 (by omega) w1.2, hx⟩
        have own : ∀ x, x ∈ a.1 (ls :: φ) → ∃ kd ∈ ks, ∃ a b φ2, n + 1 ≤ a ∧ b ≤ e ∧ (cR tx r f a b kd.1 ∧ r.parent a = nI n) ∧ CHd r (k + 1) a φ2 ∧ x ∈ kd.1 φ2 := fun x hx => ⟨a, by rw [c1]; exact List.mem_cons_self, n + 1, e2, ls :: φ, Nat.le_refl _, p2, p1, cha, hx⟩
        refine fr (fun j w1 w2 w3 => ?_) (fun x hx h6 => ?_) (by rw [k1]; decide)
        · rcases Nat.lt_or_ge (n + 1) j with w | w
          · exact ⟨_, cho j w (by omega) w3⟩
          · obtain rfl : j = n + 1 := by omega
            exact ⟨_, cha⟩
        · rw [c6] at hx
          have hx : x ∈ (1, 6) :: (rowT args (ls :: φ) ++ (boT a ls φ ++ [(1, 7)])) := hx
          rcases List.mem_cons.mp hx with hx | hx
          · rw [hx] at h6
            exact absurd h6 (by decide)
          rcases List.mem_append.mp hx with w | w
          · obtain ⟨kd, w1, w2⟩ := row_mem h6 args w
            exact oth x kd w1 w2
          · rcases List.mem_append.mp w with w | w
            · exact own x (bo_mem h6 w)
            · exact absurd (one_mem h6 w) id
end YH
end
section
theorem gD_tl {tx : Nat → Nat} {X : Nat → Int32} {len : Nat} (hx : txOK X len tx) : ∀ (f : Nat) (b : Bool) (o d a : Nat) (D : TL) (a' : Nat), a ≤ len → gD tx f b o d a = .inl (D, a') → D.length + a ≤ a'
  | 0, b, o, d, a, D, a', _, h => by cases h
  | f + 1, false, o, d, a, D, a', ha, h => by
    have e0 : gD tx (f + 1) false o d a = if tx a = 40 then (if d + o < 9 then cns (4, 0) (gD tx f (decide (tx (a + 1) = 41)) (o + 1) d (a + 1)) else .inr a) else if cL (tx a) then cns (2, nI (tx a)) (gD tx f true o d (a + 1)) else if cD (tx (pA1 tx a)) then cns (1, pVal tx a) (gD tx f true o d (pDg tx 4 (pA1 tx a) 0).1) else .inr (pA1 tx a) := rfl
    have hlt := gD_pos hx h
    have sub : ∀ (x : Int32 × Int32) (b : Bool) (o d a2 : Nat), a < a2 → a2 ≤ len → cns x (gD tx f b o d a2) = .inl (D, a') → D.length + a ≤ a' := by
      intro x b o d a2 h1 h2 h
      obtain ⟨D2, q1, q2⟩ := cns_inv h
      have := gD_tl hx f b o d a2 D2 a' h2 q1
      rw [q2, List.length_cons]
      omega
    rw [e0] at h
    split at h
    · split at h
      · exact sub _ _ _ _ _ (by omega) (by omega) h
      · cases h
    · split at h
      · exact sub _ _ _ _ _ (by omega) (by omega) h
      · split at h
        · next hd =>
          obtain ⟨w1, w2, w3⟩ := num_len hx ha hd
          exact sub _ _ _ _ _ w1 w2 h
        · cases h
  | f + 1, true, 0, d, a, D, a', _, h => by
    have h : (Sum.inl ([], a) : (TL × Nat) ⊕ Nat) = .inl (D, a') := h
    cases h
    show 0 + a ≤ a
    omega
  | f + 1, true, o + 1, d, a, D, a', ha, h => by
    have e1 : gD tx (f + 1) true (o + 1) d a = if tx a = 41 then cns (5, 0) (gD tx f true o d (a + 1)) else if tx a = 32 then gD tx f false (o + 1) d (a + 1) else .inr a := rfl
    rw [e1] at h
    split at h
    · have hlt := hx.lt (a := a) (by omega)
      obtain ⟨D2, q1, q2⟩ := cns_inv h
      have := gD_tl hx f true o d (a + 1) D2 a' (by omega) q1
      rw [q2, List.length_cons]
      omega
    · split at h
      · have hlt := hx.lt (a := a) (by omega)
        have := gD_tl hx f false (o + 1) d (a + 1) D a' (by omega) h
        omega
      · cases h
def tot : List Kd → Fr → Nat
  | [], _ => 0
  | k :: ks, φ => (k.1 φ).length + tot ks φ
theorem tot_app : ∀ (A B : List Kd) (φ : Fr), tot (A ++ B) φ = tot A φ + tot B φ
  | [], B, φ => by show tot B φ = 0 + tot B φ; omega
  | k :: A, B, φ => by
    show (k.1 φ).length + tot (A ++ B) φ = (k.1 φ).length + tot A φ + tot B φ
    rw [tot_app A B φ]
    omega
theorem row_len : ∀ (ks : List Kd) (φ : Fr), (rowT ks φ).length = 2 + ks.length + tot ks φ
  | [], φ => rfl
  | k :: ks, φ => by
    show (rowT ks φ ++ (k.1 φ ++ [(1, 13)])).length = _
    rw [List.length_append, List.length_append, row_len ks φ, List.length_cons, List.length_cons, List.length_nil]
    show _ = 2 + (ks.length + 1) + ((k.1 φ).length + tot ks φ)
    omega
theorem lst_len (i : Int32) (t : Tau) (φ : Fr) : (lstT i t φ).length = (t φ).length + 3 := by
  unfold lstT
  rw [List.length_cons, List.length_append]
  rfl
theorem sg_len (c : Nat) (φ : Fr) : ∀ (ks : List Kd), (sgT c ks φ).length ≤ tot ks φ + 7
  | [] => Nat.zero_le _
  | [a] => by
    show (a.1 φ ++ [(1, cdO c)]).length ≤ (a.1 φ).length + 0 + 7
    rw [List.length_append, List.length_cons, List.length_nil]
    omega
  | [a, b] => by
    show (if c = 46 then b.1 φ ++ (a.1 φ ++ [(1, 13)]) else a.1 φ ++ (b.1 φ ++ [(1, cdO c)])).length ≤ (a.1 φ).length + ((b.1 φ).length + 0) + 7
    split
    · rw [List.length_append, List.length_append, List.length_cons, List.length_nil]
      omega
    · rw [List.length_append, List.length_append, List.length_cons, List.length_nil]
      omega
  | [a, b, d] => by
    show (a.1 φ ++ ((1, 8) :: (lstT 9 b.1 φ ++ lstT 9 d.1 φ))).length ≤ (a.1 φ).length + ((b.1 φ).length + ((d.1 φ).length + 0)) + 7
    rw [List.length_append, List.length_cons, List.length_append, lst_len, lst_len]
    omega
  | _ :: _ :: _ :: _ :: _ => Nat.zero_le _
theorem bo_len (a : Kd) (ls : List Nat) (φ : Fr) : (boT a ls φ).length = (a.1 (ls :: φ)).length + 4 := by
  unfold boT
  rw [List.length_cons, lst_len]
section YI
variable {tx : Nat → Nat} {X : Nat → Int32} {len : Nat}
def PE (pe : Nat → GR) : Prop := ∀ a t a', pe a = .inl (t, a') → a < a' ∧ ∀ φ, (t φ).length ≤ 11 * (a' - a)
theorem gCl_e {t t' : Tau} {a a' : Nat} (h : gCl tx t a = .inl (t', a')) : t' = t ∧ a' = a + 1 := by
  unfold gCl at h
  split at h
  · cases h
    exact ⟨rfl, rfl⟩
  · cases h
theorem gAr_len {pe : Nat → GR} (hp : PE pe) {c : Nat} : ∀ (k a : Nat) (ks : List Kd) (t : Tau) (a' : Nat), gAr tx pe c k a ks = .inl (t, a') → a < a' ∧ ∀ φ, (t φ).length ≤ tot ks φ + 11 * (a' - a)
  | 0, a, ks, t, a', h => by
    obtain ⟨rfl, rfl⟩ := gCl_e h
    refine ⟨by omega, fun φ => ?_⟩
    have := sg_len c φ ks
    omega
  | k + 1, a, ks, t, a', h => by
    unfold gAr at h
    split at h
    · cases hpe : pe (a + 1) with
      | inr e => rw [hpe] at h; cases h
      | inl q =>
        obtain ⟨t2, a2⟩ := q
        rw [hpe] at h
        obtain ⟨q1, q2⟩ := hp _ _ _ hpe
        obtain ⟨q3, q4⟩ := gAr_len hp k a2 (ks ++ [(t2, 0)]) t a' h
        refine ⟨by omega, fun φ => ?_⟩
        have w1 := q2 φ
        have w2 := q4 φ
        rw [tot_app] at w2
        have w2 : (t φ).length ≤ tot ks φ + ((t2 φ).length + 0) + 11 * (a' - a2) := w2
        omega
    · cases h
theorem gMo_len {pe : Nat → GR} (hp : PE pe) {hd : Kd} : ∀ (k a : Nat) (ks : List Kd) (t : Tau) (a' : Nat), k + ks.length = 3 → gMo tx pe hd k a ks = .inl (t, a') → a < a' ∧ ∀ φ, (t φ).length ≤ (hd.1 φ).length + tot ks φ + 11 * (a' - a)
  | k, a, ks, t, a', hk, h => by
    have fin : gCl tx (caT hd ks) a = .inl (t, a') → a < a' ∧ ∀ φ, (t φ).length ≤ (hd.1 φ).length + tot ks φ + 11 * (a' - a) := by
      intro h
      obtain ⟨rfl, rfl⟩ := gCl_e h
      refine ⟨by omega, fun φ => ?_⟩
      unfold caT
      rw [List.length_append, List.length_append, row_len, List.length_cons, List.length_nil]
      omega
    cases k with
    | zero => exact fin h
    | succ k =>
      unfold gMo at h
      split at h
      · cases hpe : pe (a + 1) with
        | inr e => rw [hpe] at h; cases h
        | inl q =>
          obtain ⟨t2, a2⟩ := q
          rw [hpe] at h
          obtain ⟨q1, q2⟩ := hp _ _ _ hpe
          obtain ⟨q3, q4⟩ := gMo_len hp k a2 (ks ++ [(t2, 0)]) t a' (by rw [List.length_append, List.length_cons, List.length_nil]; omega) h
          refine ⟨by omega, fun φ => ?_⟩
          have w1 := q2 φ
          have w2 := q4 φ
          rw [tot_app] at w2
          have w2 : (t φ).length ≤ (hd.1 φ).length + (tot ks φ + ((t2 φ).length + 0)) + 11 * (a' - a2) := w2
          omega
      · exact fin h
theorem gLs_len : ∀ (k a : Nat) (ls ls' : List Nat) (a' : Nat), gLs tx k a ls = .inl (ls', a') → a < a'
  | 0, a, ls, ls', a', h => by cases h
  | k + 1, a, ls, ls', a', h => by
    unfold gLs at h
    split at h
    · split at h
      · have := gLs_len k _ _ _ _ h
        omega
      · split at h
        · split at h
          · cases h
            omega
          · cases h
        · cases h
    · cases h
theorem gPa_len {d a : Nat} {ls : List Nat} {a' : Nat} (h : gPa tx d a = .inl (ls, a')) : a < a' := by
  unfold gPa at h
  split at h
  · split at h
    · split at h
      · have := gLs_len _ _ _ _ _ h
        omega
      · split at h
        · split at h
          · cases h
            omega
          · cases h
        · cases h
    · cases h
  · cases h
theorem gBi_len {pe : Nat → GR} (hp : PE pe) {rc : Bool} {d : Nat} {hd : Kd} {H : Nat} (hH : ∀ φ, (hd.1 φ).length ≤ H) : ∀ (k a : Nat) (ks : List Kd) (bs : List Nat) (B : Nat) (t : Tau) (a' : Nat), k + ks.length = 2 → (∀ φ, tot ks φ ≤ B) → gBi tx pe rc d (fiN rc hd) k a ks bs = .inl (t, a') → a < a' ∧ ∀ φ, (t φ).length ≤ H + B + 11 * (a' - a)
  | k, a, ks, bs, B, t, a', hk, hB, h => by
    rw [gBi_e, gB1_e] at h
    cases h0 : gB0 tx rc d a bs with
    | some e => rw [h0] at h; cases h
    | none =>
      rw [h0] at h
      cases hpe : pe (a + 1 + 1 + 1) with
      | inr e => simp only [hpe] at h; cases h
      | inl q =>
        obtain ⟨t2, a2⟩ := q
        simp only [hpe] at h
        obtain ⟨q1, q2⟩ := hp _ _ _ hpe
        split at h
        · have hB2 : ∀ φ, tot (ks ++ [(t2, nI (tx (a + 1)))]) φ ≤ B + 11 * (a2 - (a + 1 + 1 + 1)) := by
            intro φ
            rw [tot_app]
            have := hB φ
            have := q2 φ
            show tot ks φ + ((t2 φ).length + 0) ≤ _
            omega
          have fin : gCl tx (fiN rc hd (ks ++ [(t2, nI (tx (a + 1)))]) (bs ++ [tx (a + 1)])) (a2 + 1) = .inl (t, a') → a < a' ∧ ∀ φ, (t φ).length ≤ H + B + 11 * (a' - a) := by
            intro h
            obtain ⟨rfl, rfl⟩ := gCl_e h
            refine ⟨by omega, fun φ => ?_⟩
            have hl : (ks ++ [(t2, nI (tx (a + 1)))]).length ≤ 3 := by rw [List.length_append, List.length_cons, List.length_nil]; omega
            cases rc with
            | false =>
              show (leT hd (ks ++ [(t2, nI (tx (a + 1)))]) (bs ++ [tx (a + 1)]) φ).length ≤ _
              unfold leT
              rw [List.length_append, List.length_append, row_len, bo_len, List.length_cons, List.length_nil]
              have := hB2 φ
              have := hH ((bs ++ [tx (a + 1)]) :: φ)
              omega
            | true =>
              show (reT hd (ks ++ [(t2, nI (tx (a + 1)))]) (bs ++ [tx (a + 1)]) φ).length ≤ _
              unfold reT
              rw [List.length_cons, List.length_append, List.length_append, row_len, bo_len, List.length_cons, List.length_nil]
              have := hB2 ((bs ++ [tx (a + 1)]) :: φ)
              have := hH ((bs ++ [tx (a + 1)]) :: φ)
              omega
          cases k with
          | zero => exact fin h
          | succ k =>
            have h : (if tx (a2 + 1) = 32 then gBi tx pe rc d (fiN rc hd) k (a2 + 1 + 1) (ks ++ [(t2, nI (tx (a + 1)))]) (bs ++ [tx (a + 1)]) else gCl tx (fiN rc hd (ks ++ [(t2, nI (tx (a + 1)))]) (bs ++ [tx (a + 1)])) (a2 + 1)) = .inl (t, a') := h
            split at h
            · obtain ⟨q3, q4⟩ := gBi_len hp hH k (a2 + 1 + 1) _ _ _ t a' (by rw [List.length_append, List.length_cons, List.length_nil]; omega) hB2 h
              refine ⟨by omega, fun φ => ?_⟩
              have := q4 φ
              omega
            · exact fin h
        · cases h
theorem gEx_len (hx : txOK X len tx) : ∀ (f d : Nat), PE (gEx tx f d)
  | 0, d => fun a t a' h => by cases h
  | f + 1, d => by
    intro a t a' h
    have p1 := gEx_len hx f (d + 1)
    have p2 := gEx_len hx f (d + 2)
    have e0 : gEx tx (f + 1) d a = if cL (tx a) then .inl (fun φ => [(1, 2), (6, lkF (tx a) (uP a) φ 0)], a + 1) else if tx a = 39 then (match gD tx 200 false 0 d (a + 1) with | .inr e => .inr e | .inl (D, a2) => .inl (fun _ => (1, 1) :: D, a2)) else if tx a = 40 then (if d < 9 then gBr tx (gEx tx f (d + 1)) (gEx tx f (d + 2)) (d + 1) (a + 1) else .inr a) else if cD (tx (pA1 tx a)) then .inl (fun _ => [(1, 1), (1, pVal tx a)], (pDg tx 4 (pA1 tx a) 0).1) else .inr (pA1 tx a) := rfl
    rw [e0] at h
    split at h
    · cases h
      exact ⟨by omega, fun φ => by show 2 ≤ _; omega⟩
    · split at h
      · cases hg : gD tx 200 false 0 d (a + 1) with
        | inr e => rw [hg] at h; cases h
        | inl q =>
          obtain ⟨D, a2⟩ := q
          rw [hg] at h
          cases h
          have hp := gD_pos hx hg
          have := gD_tl hx 200 false 0 d (a + 1) D a' (by omega) hg
          exact ⟨by omega, fun φ => by show D.length + 1 ≤ _; omega⟩
      · split at h
        · split at h
          · unfold gBr at h
            split at h
            · unfold gSg at h
              split at h
              · cases hpe : gEx tx f (d + 1) (a + 1 + 1 + 1) with
                | inr e => rw [hpe] at h; cases h
                | inl q =>
                  obtain ⟨t2, a2⟩ := q
                  rw [hpe] at h
                  obtain ⟨q1, q2⟩ := p1 _ _ _ hpe
                  obtain ⟨q3, q4⟩ := gAr_len p1 _ _ _ _ _ h
                  refine ⟨by omega, fun φ => ?_⟩
                  have w1 := q2 φ
                  have w2 : (t φ).length ≤ ((t2 φ).length + 0) + 11 * (a' - a2) := q4 φ
                  omega
              · cases h
            · split at h
              · unfold gBo at h
                cases hg : gPa tx (d + 1) (a + 1 + 1) with
                | inr e => rw [hg] at h; cases h
                | inl q =>
                  obtain ⟨ls, a1⟩ := q
                  rw [hg] at h
                  have hl := gPa_len hg
                  cases hpe : gEx tx f (d + 1) a1 with
                  | inr e => simp only [hpe] at h; cases h
                  | inl q =>
                    obtain ⟨t2, a2⟩ := q
                    simp only [hpe] at h
                    obtain ⟨q1, q2⟩ := p1 _ _ _ hpe
                    obtain ⟨rfl, rfl⟩ := gCl_e h
                    refine ⟨by omega, fun φ => ?_⟩
                    rw [bo_len]
                    have := q2 (ls :: φ)
                    show (t2 (ls :: φ)).length + 4 ≤ _
                    omega
              · split at h
                · unfold gLe at h
                  split at h
                  · cases hpe : gEx tx f (d + 1) (a + 1 + 1 + 1) with
                    | inr e => rw [hpe] at h; cases h
                    | inl q =>
                      obtain ⟨t2, a2⟩ := q
                      rw [hpe] at h
                      obtain ⟨q1, q2⟩ := p1 _ _ _ hpe
                      have h : (if tx a2 = 32 then gBi tx (gEx tx f (d + 2)) (decide (tx (a + 1) = 59)) (d + 1) (fiN (decide (tx (a + 1) = 59)) (t2, 0)) 2 (a2 + 1) [] [] else .inr a2) = .inl (t, a') := h
                      split at h
                      · obtain ⟨q3, q4⟩ := gBi_len p2 (hd := (t2, 0)) (H := 11 * (a2 - (a + 1 + 1 + 1))) q2 2 (a2 + 1) [] [] 0 t a' rfl (fun φ => Nat.le_refl _) h
                        refine ⟨by omega, fun φ => ?_⟩
                        have := q4 φ
                        omega
                      · cases h
                  · cases h
                · unfold gCa at h
                  cases hpe : gEx tx f (d + 1) (a + 1) with
                  | inr e => rw [hpe] at h; cases h
                  | inl q =>
                    obtain ⟨t2, a2⟩ := q
                    rw [hpe] at h
                    obtain ⟨q1, q2⟩ := p1 _ _ _ hpe
                    obtain ⟨q3, q4⟩ := gMo_len p1 3 a2 [] t a' rfl h
                    refine ⟨by omega, fun φ => ?_⟩
                    have w1 := q2 φ
                    have w2 : (t φ).length ≤ (t2 φ).length + 0 + 11 * (a' - a2) := q4 φ
                    omega
          · cases h
        · split at h
          · next hd =>
            cases h
            have hl : a < len ∨ ¬ a < len := Nat.lt_or_ge a len |>.imp id (fun w => by omega)
            rcases hl with w | w
            · obtain ⟨w1, w2, w3⟩ := num_len hx (Nat.le_of_lt w) hd
              exact ⟨w1, fun φ => by show 2 ≤ _; omega⟩
            · have e1 : tx a = 0 := hx.2.2 a (by omega)
              have e2 : pA1 tx a = a := if_neg (by omega)
              rw [e2, e1] at hd
              exact absurd hd (by decide)
          · cases h
end YI
end
section
abbrev LSt : Type := (Nat → Vl) × (Nat → Vl) × (Nat → Prop) × Vl × List Vl
def ro0 : Nat → Bool := fun _ => false
theorem upW_ro0 (n : Nat) : upW ro0 n false = ro0 := by
  funext i
  unfold upW ro0
  split <;> rfl
def hvT (t : Int32 × Int32) : Vl := if t.1 = 0 then vNil else if t.1 = 2 then vSym t.2 else vInt t.2
def newL (a : LSt) (k : Nat) (h t : Vl) (ps : List Vl) : LSt := (upW a.1 k h, upW a.2.1 k t, addU a.2.2.1 k, vPr k, ps)
def L1 (t : Int32 × Int32) (a b : LSt) : Prop :=
    (t.1 = 5 ∧ b = (a.1, a.2.1, a.2.2.1, vNil, a.2.2.2.1 :: a.2.2.2.2))
  ∨ (t.1 = 4 ∧ ∃ P ps k, a.2.2.2.2 = P :: ps ∧ ¬ a.2.2.1 k ∧ b = newL a k a.2.2.2.1 P ps)
  ∨ (¬ t.1 = 5 ∧ ¬ t.1 = 4 ∧ ∃ k, ¬ a.2.2.1 k ∧ b = newL a k (hvT t) a.2.2.2.1 a.2.2.2.2)
def LY : TL → LSt → LSt → Prop
  | [], a, b => a = b
  | t :: T, a, b => ∃ c, LY T a c ∧ L1 t c b
theorem LY_app : ∀ (A B : TL) (a b : LSt), LY (A ++ B) a b → ∃ c, LY B a c ∧ LY A c b
  | [], B, a, b, h => ⟨b, h, rfl⟩
  | t :: A, B, a, b, ⟨c, h1, h2⟩ => by
    obtain ⟨d, h3, h4⟩ := LY_app A B a c h1
    exact ⟨d, h3, c, h4, h2⟩
theorem LY_one {t : Int32 × Int32} {a b : LSt} (h : LY [t] a b) : L1 t a b := by
  obtain ⟨c, h1, h2⟩ := h
  have h1 : a = c := h1
  rw [h1]
  exact h2
def GDl (a : LSt) : Prop := SI a.1 a.2.1 ro0 a.2.2.1 ∧ (inU a.2.2.1 a.2.2.2.1 ∧ isL_ a.2.2.2.1) ∧ ∀ P ∈ a.2.2.2.2, inU a.2.2.1 P ∧ isL_ P
def XT (a b : LSt) : Prop := Ext a.2.2.1 a.1 a.2.1 ro0 b.1 b.2.1 ro0 ∧ ∀ x, a.2.2.1 x → b.2.2.1 x
theorem XT_rfl (a : LSt) : XT a a := ⟨fun i _ => ⟨rfl, rfl, fun _ => rfl⟩, fun x h => h⟩
theorem XT_tr {a b c : LSt} (h1 : XT a b) (h2 : XT b c) : XT a c := by
  refine ⟨fun i hi => ?_, fun x h => h2.2 x (h1.2 x h)⟩
  obtain ⟨p1, p2, p3⟩ := h1.1 i hi
  obtain ⟨q1, q2, q3⟩ := h2.1 i (h1.2 i hi)
  exact ⟨q1.trans p1, q2.trans p2, fun w => (q3 (p2.trans w)).trans (p3 w)⟩
theorem isL_gF {H T : Nat → Vl} {ro : Nat → Bool} {v : Vl} (h : isL_ v) : gF H T ro v := by
  rcases h with rfl | ⟨a, rfl⟩
  · exact gF_nil
  · exact gF_pr
theorem hv_ok {H T : Nat → Vl} {ro : Nat → Bool} {U : Nat → Prop} (t : Int32 × Int32) : inU U (hvT t) ∧ gF H T ro (hvT t) := by
  unfold hvT
  split
  · exact ⟨nil_inU, gF_nil⟩
  · split
    · exact ⟨fun b e => (by cases e), fun f e => (by cases e)⟩
    · exact ⟨int_inU, gF_int⟩
theorem new_gd {a : LSt} {k : Nat} {h t : Vl} {ps : List Vl} (ha : GDl a) (hk : ¬ a.2.2.1 k) (h1 : inU a.2.2.1 h ∧ gF a.1 a.2.1 ro0 h) (h2 : inU a.2.2.1 t ∧ isL_ t) (h3 : ∀ P ∈ ps, inU a.2.2.1 P ∧ isL_ P) : GDl (newL a k h t ps) ∧ XT a (newL a k h t ps) := by
  have hs := SI_new (b := false) ha.1 hk h1.1 h2.1 h1.2 (isL_gF h2.2) (fun q => by cases q)
  have hx := Ext_new (H := a.1) (T := a.2.1) (ro := ro0) (h := h) (t := t) (b := false) hk
  rw [upW_ro0] at hs hx
  exact ⟨⟨hs, ⟨pr_inU new_in, Or.inr ⟨k, rfl⟩⟩, fun P hP => ⟨in_new (h3 P hP).1, (h3 P hP).2⟩⟩, hx, fun x hx => Or.inl hx⟩
theorem L1_gd {t : Int32 × Int32} {a b : LSt} (ha : GDl a) (h : L1 t a b) : GDl b ∧ XT a b := by
  rcases h with ⟨-, rfl⟩ | ⟨-, P, ps, k, e, hk, rfl⟩ | ⟨-, -, k, hk, rfl⟩
  · refine ⟨⟨ha.1, ⟨nil_inU, Or.inl rfl⟩, fun P hP => ?_⟩, fun i _ => ⟨rfl, rfl, fun _ => rfl⟩, fun x h => h⟩
    have hP : P ∈ a.2.2.2.1 :: a.2.2.2.2 := hP
    rcases List.mem_cons.mp hP with w | w
    · rw [w]
      exact ha.2.1
    · exact ha.2.2 P w
  · refine new_gd ha hk ⟨ha.2.1.1, isL_gF ha.2.1.2⟩ ?_ (fun P2 hP => ?_)
    · exact ha.2.2 P (by rw [e]; exact List.mem_cons_self)
    · exact ha.2.2 P2 (by rw [e]; exact List.mem_cons_of_mem _ hP)
  · exact new_gd ha hk (hv_ok t) ha.2.1 ha.2.2
theorem LY_gd : ∀ (T : TL) (a b : LSt), GDl a → LY T a b → GDl b ∧ XT a b
  | [], a, b, ha, h => by
    have h : a = b := h
    subst h
    exact ⟨ha, XT_rfl a⟩
  | t :: T, a, b, ha, ⟨c, h1, h2⟩ => by
    obtain ⟨g1, g2⟩ := LY_gd T a c ha h1
    obtain ⟨g3, g4⟩ := L1_gd g1 h2
    exact ⟨g3, XT_tr g2 g4⟩
def WTl (a : LSt) (v : Vl) (k : Sk) (n : Nat) (b : Bool) (e : En) : Prop := wtx a.1 a.2.1 ro0 v k n b e
theorem WT_x {a b : LSt} {v : Vl} {k : Sk} {n : Nat} {β : Bool} {e : En} (ha : GDl a) (hx : XT a b) (hv : inU a.2.2.1 v) (h : WTl a v k n β e) : WTl b v k n β e := wtx_ext ha.1 hx.1 hv h
theorem wt_le {H T : Nat → Vl} {ro : Nat → Bool} {v : Vl} {k : Sk} {n : Nat} {b : Bool} {e : En} {f : Nat} (h : wt H T ro f v k n b e) : ∀ j, wt H T ro (f + j) v k n b e
  | 0 => h
  | j + 1 => wt_mono _ _ _ _ _ _ (wt_le h j)
theorem WT_b {a : LSt} {v : Vl} {k : Sk} {n : Nat} (β : Bool) {e : En} (h : WTl a v k n false e) : WTl a v k n β e := by
  obtain ⟨f, h⟩ := h
  exact ⟨f, wt_b f _ _ _ _ _ h⟩
theorem L1_int {v : Int32} {a b : LSt} (ha : GDl a) (h : L1 (1, v) a b) : ∃ c, b.2.2.2.1 = vPr c ∧ b.1 c = vInt v ∧ b.2.1 c = a.2.2.2.1 ∧ b.2.2.2.2 = a.2.2.2.2 ∧ GDl b ∧ XT a b := by
  obtain ⟨g1, g2⟩ := L1_gd ha h
  rcases h with ⟨q, -⟩ | ⟨q, -⟩ | ⟨-, -, k, hk, rfl⟩
  · exact absurd (show (1 : Int32) = 5 from q) (by decide)
  · exact absurd (show (1 : Int32) = 4 from q) (by decide)
  · exact ⟨k, rfl, if_pos rfl, if_pos rfl, rfl, g1, g2⟩
section YJ
variable {a b : LSt} {k : Sk} {n : Nat} {e : En} {i : Int32}
theorem op_wt (ha : GDl a) (h : L1 (1, i) a b) {k0 : Sk} {n0 : Nat} {β : Bool} {e0 : En} (hw : ∀ c f, wt b.1 b.2.1 ro0 f (b.2.1 c) k n false e → b.2.1 c = a.2.2.2.1 → b.1 c = vInt i → wt b.1 b.2.1 ro0 (f + 1) (vPr c) k0 n0 β e0) (hk : WTl a a.2.2.2.1 k n false e) : WTl b b.2.2.2.1 k0 n0 β e0 ∧ b.2.2.2.2 = a.2.2.2.2 := by
  obtain ⟨c, q1, q2, q3, q4, q5, q6⟩ := L1_int ha h
  obtain ⟨f, hf⟩ := WT_x ha q6 ha.2.1.1 hk
  refine ⟨?_, q4⟩
  rw [q1]
  refine ⟨f + 1, hw c f ?_ q3 q2⟩
  rw [q3]
  exact hf
theorem o_4 (ha : GDl a) (h : L1 (1, 4) a b) (hk : WTl a a.2.2.2.1 (false :: k) n false e) : WTl b b.2.2.2.1 (false :: true :: k) n false e ∧ b.2.2.2.2 = a.2.2.2.2 :=
  op_wt ha h (fun c f hw _ hi => ⟨c, 4, rfl, rfl, hi, Or.inr (Or.inr (Or.inr (Or.inl ⟨rfl, false, k, rfl, hw⟩)))⟩) hk
theorem o_6 (ha : GDl a) (h : L1 (1, 6) a b) (hk : WTl a a.2.2.2.1 k (n + 1) false e) : WTl b b.2.2.2.1 k n false e ∧ b.2.2.2.2 = a.2.2.2.2 :=
  op_wt ha h (fun c f hw _ hi => ⟨c, 6, rfl, rfl, hi, Or.inr (Or.inr (Or.inr (Or.inr (Or.inr (Or.inl ⟨rfl, hw⟩)))))⟩) hk
theorem o_7 (ha : GDl a) (h : L1 (1, 7) a b) (hk : WTl a a.2.2.2.1 (false :: k) n false e) : WTl b b.2.2.2.1 (false :: true :: k) (n + 1) true e ∧ b.2.2.2.2 = a.2.2.2.2 :=
  op_wt ha h (fun c f hw _ hi => ⟨c, 7, rfl, rfl, hi, Or.inr (Or.inr (Or.inr (Or.inr (Or.inr (Or.inr (Or.inl ⟨rfl, false, k, rfl, by omega, rfl, hw⟩))))))⟩) hk
theorem o_1 (ha : GDl a) (hi : i = 10 ∨ i = 11 ∨ i = 12) (h : L1 (1, i) a b) (hk : WTl a a.2.2.2.1 (false :: k) n false e) : WTl b b.2.2.2.1 (false :: k) n false e ∧ b.2.2.2.2 = a.2.2.2.2 :=
  op_wt ha h (fun c f hw _ hh => ⟨c, i, rfl, rfl, hh, Or.inr (Or.inr (Or.inr (Or.inr (Or.inr (Or.inr (Or.inr (Or.inr (Or.inr (Or.inl ⟨hi, false, k, rfl, hw⟩)))))))))⟩) hk
theorem o_2 (ha : GDl a) (hi : i = 13 ∨ i = 14 ∨ i = 15 ∨ i = 16 ∨ i = 17 ∨ i = 18) (h : L1 (1, i) a b) (hk : WTl a a.2.2.2.1 (false :: k) n false e) : WTl b b.2.2.2.1 (false :: false :: k) n false e ∧ b.2.2.2.2 = a.2.2.2.2 :=
  op_wt ha h (fun c f hw _ hh => ⟨c, i, rfl, rfl, hh, Or.inr (Or.inr (Or.inr (Or.inr (Or.inr (Or.inr (Or.inr (Or.inr (Or.inr (Or.inr (Or.inl ⟨hi, false, false, false, k, rfl, fun q => (by cases q), hw⟩))))))))))⟩) hk
theorem o_13 (ha : GDl a) (h : L1 (1, 13) a b) (hk : WTl a a.2.2.2.1 (true :: k) n false e) : WTl b b.2.2.2.1 (false :: true :: k) n false e ∧ b.2.2.2.2 = a.2.2.2.2 :=
  op_wt ha h (fun c f hw _ hh => ⟨c, 13, rfl, rfl, hh, Or.inr (Or.inr (Or.inr (Or.inr (Or.inr (Or.inr (Or.inr (Or.inr (Or.inr (Or.inr (Or.inl ⟨Or.inl rfl, false, true, true, k, rfl, fun _ => ⟨rfl, rfl⟩, hw⟩))))))))))⟩) hk
theorem end_wt (ha : GDl a) (h : L1 (1, i) a b) {k0 : Sk} {n0 : Nat} {e0 : En} (hw : ∀ c, b.1 c = vInt i → wt b.1 b.2.1 ro0 1 (vPr c) k0 n0 false e0) : WTl b b.2.2.2.1 k0 n0 false e0 ∧ b.2.2.2.2 = a.2.2.2.2 := by
  obtain ⟨c, q1, q2, q3, q4, q5, q6⟩ := L1_int ha h
  refine ⟨?_, q4⟩
  rw [q1]
  exact ⟨1, hw c q2⟩
theorem o_5 (ha : GDl a) (h : L1 (1, 5) a b) : WTl b b.2.2.2.1 [false] 1 false eRet ∧ b.2.2.2.2 = a.2.2.2.2 :=
  end_wt ha h (fun c hh => ⟨c, 5, rfl, rfl, hh, Or.inr (Or.inr (Or.inr (Or.inr (Or.inl ⟨rfl, false, [], rfl, rfl⟩))))⟩)
theorem o_9 (ha : GDl a) (h : L1 (1, 9) a b) : WTl b b.2.2.2.1 (false :: k) n false (eJoin (false :: k) n) ∧ b.2.2.2.2 = a.2.2.2.2 :=
  end_wt ha h (fun c hh => ⟨c, 9, rfl, rfl, hh, Or.inr (Or.inr (Or.inr (Or.inr (Or.inr (Or.inr (Or.inr (Or.inr (Or.inl ⟨rfl, rfl⟩))))))))⟩)
theorem o_19 (ha : GDl a) (h : L1 (1, 19) a b) : WTl b b.2.2.2.1 [false] 0 false eStop ∧ b.2.2.2.2 = a.2.2.2.2 :=
  end_wt ha h (fun c hh => ⟨c, 19, rfl, rfl, hh, Or.inr (Or.inr (Or.inr (Or.inr (Or.inr (Or.inr (Or.inr (Or.inr (Or.inr (Or.inr (Or.inr ⟨rfl, false, [], rfl, rfl⟩))))))))))⟩)
end YJ
def LTy (T : TL) : Prop := ∀ a b, GDl a → LY T a b → b.2.2.2.2 = a.2.2.2.2 ∧ ∀ k n e, WTl a a.2.2.2.1 (false :: k) n false e → WTl b b.2.2.2.1 k n false e
theorem lst_wt {i : Int32} {t : Tau} {φ : Fr} {a b : LSt} (ha : GDl a) (h : LY (lstT i t φ) a b) (ht : LTy (t φ)) {k1 : Sk} {n1 : Nat} {e1 : En} (hi : ∀ a' b', GDl a' → L1 (1, i) a' b' → WTl b' b'.2.2.2.1 (false :: k1) n1 false e1 ∧ b'.2.2.2.2 = a'.2.2.2.2) : ∃ c, b.2.2.2.1 = vPr c ∧ b.2.1 c = a.2.2.2.1 ∧ WTl b (b.1 c) k1 n1 false e1 ∧ b.2.2.2.2 = a.2.2.2.2 ∧ GDl b ∧ XT a b := by
  obtain ⟨gb, xb⟩ := LY_gd _ _ _ ha h
  obtain ⟨d, h1, h2⟩ := h
  obtain ⟨a2, h3, h4⟩ := LY_app _ _ _ _ h1
  obtain ⟨a1, h5, h6⟩ := h3
  have h5 := LY_one h5
  obtain ⟨g1, x1⟩ := L1_gd ha h5
  obtain ⟨g2, x2⟩ := L1_gd g1 h6
  obtain ⟨g3, x3⟩ := LY_gd _ _ _ g2 h4
  obtain ⟨w1, w2⟩ := hi a1 a2 g1 h6
  obtain ⟨w3, w4⟩ := ht a2 d g2 h4
  have w5 := w4 k1 n1 e1 w1
  rcases h5 with ⟨-, rfl⟩ | ⟨q, -⟩ | ⟨q, -⟩
  · have ep : d.2.2.2.2 = a.2.2.2.1 :: a.2.2.2.2 := w3.trans w2
    obtain ⟨g4, x4⟩ := L1_gd g3 h2
    rcases h2 with ⟨q, -⟩ | ⟨-, P, ps, c, e, hc, rfl⟩ | ⟨-, q, -⟩
    · exact absurd (show (4 : Int32) = 5 from q) (by decide)
    · rw [ep] at e
      injection e with e1 e2
      have eh : (newL d c d.2.2.2.1 P ps).1 c = d.2.2.2.1 := if_pos rfl
      have et : (newL d c d.2.2.2.1 P ps).2.1 c = P := if_pos rfl
      refine ⟨c, rfl, et.trans e1.symm, ?_, e2.symm, gb, xb⟩
      rw [eh]
      exact WT_x g3 x4 g3.2.1.1 w5
    · exact absurd rfl q
  · exact absurd (show (5 : Int32) = 4 from q) (by decide)
  · exact absurd rfl q
end
section
theorem L1_at {t : Int32 × Int32} {a b : LSt} (ha : GDl a) (h5 : ¬ t.1 = 5) (h4 : ¬ t.1 = 4) (h : L1 t a b) : ∃ c, b.2.2.2.1 = vPr c ∧ b.1 c = hvT t ∧ b.2.1 c = a.2.2.2.1 ∧ b.2.2.2.2 = a.2.2.2.2 ∧ GDl b ∧ XT a b := by
  obtain ⟨g1, g2⟩ := L1_gd ha h
  rcases h with ⟨q, -⟩ | ⟨q, -⟩ | ⟨-, -, k, hk, rfl⟩
  · exact absurd q h5
  · exact absurd q h4
  · exact ⟨k, rfl, if_pos rfl, if_pos rfl, rfl, g1, g2⟩
theorem const_wt {a c b : LSt} {d : Nat} {t : Bool} {k : Sk} {n : Nat} {e : En} (ha : GDl a) (gc : GDl c) (xc : XT a c) (e1 : c.2.2.2.1 = vPr d) (e2 : c.2.1 d = a.2.2.2.1) (hv : t = true → c.1 d = vNil) (h : L1 (1, 1) c b) (hw : WTl a a.2.2.2.1 (t :: k) n false e) : WTl b b.2.2.2.1 k n false e ∧ b.2.2.2.2 = c.2.2.2.2 := by
  obtain ⟨c0, q1, q2, q3, q4, q5, q6⟩ := L1_int gc h
  have ud : c.2.2.1 d := inU_pr (by rw [← e1]; exact gc.2.1.1)
  obtain ⟨y1, -, y3⟩ := q6.1 d ud
  obtain ⟨f, hf⟩ := WT_x ha (XT_tr xc q6) ha.2.1.1 hw
  refine ⟨?_, q4⟩
  rw [q1]
  refine ⟨f + 1, c0, 1, rfl, rfl, q2, Or.inl ⟨rfl, d, t, q3.trans e1, rfl, fun w => (y3 rfl).trans (hv w), ?_⟩⟩
  rw [y1, e2]
  exact hf
def LDy (D : TL) : Prop := ∀ a b, GDl a → LY D a b → b.2.2.2.2 = a.2.2.2.2 ∧ ∃ d, b.2.2.2.1 = vPr d ∧ b.2.1 d = a.2.2.2.1
def SDy (b : Bool) : Nat → TL → Prop
  | 0, D => if b = true then D = [] else LDy D
  | o + 1, D => ∀ x y, GDl x → LY D x y → ∃ xs : List Vl, xs.length = o ∧ y.2.2.2.2 = xs ++ (x.2.2.2.1 :: x.2.2.2.2)
theorem SDy_b {o : Nat} {D : TL} {b b' : Bool} (h : SDy b (o + 1) D) : SDy b' (o + 1) D := h
theorem SD_atom {t : Int32 × Int32} (h5 : ¬ t.1 = 5) (h4 : ¬ t.1 = 4) {D : TL} : ∀ {o : Nat}, SDy true o D → SDy false o (t :: D)
  | 0, h => by
    have h : D = [] := h
    subst h
    intro a b ha hl
    obtain ⟨c, q1, q2, q3, q4, -⟩ := L1_at ha h5 h4 (LY_one hl)
    exact ⟨q4, c, q1, q3⟩
  | o + 1, h => by
    intro x y gx hl
    obtain ⟨c, h1, h2⟩ := hl
    obtain ⟨g1, x1⟩ := LY_gd _ _ _ gx h1
    obtain ⟨xs, q1, q2⟩ := h x c gx h1
    obtain ⟨-, -, -, -, q4, -⟩ := L1_at g1 h5 h4 h2
    exact ⟨xs, q1, q4.trans q2⟩
theorem SD_open {D : TL} {b : Bool} {o : Nat} (h : SDy b (o + 1) D) : SDy false o ((4, 0) :: D) := by
  have key : ∀ x y, GDl x → LY ((4, 0) :: D) x y → ∃ xs : List Vl, xs.length = o ∧ ∃ c P ps k, xs ++ (x.2.2.2.1 :: x.2.2.2.2) = P :: ps ∧ y = newL c k c.2.2.2.1 P ps := by
    intro x y gx hl
    obtain ⟨c, h1, h2⟩ := hl
    obtain ⟨xs, q1, q2⟩ := h x c gx h1
    rcases h2 with ⟨q, -⟩ | ⟨-, P, ps, k, e, hk, rfl⟩ | ⟨-, q, -⟩
    · exact absurd (show (4 : Int32) = 5 from q) (by decide)
    · exact ⟨xs, q1, c, P, ps, k, q2.symm.trans e, rfl⟩
    · exact absurd rfl q
  cases o with
  | zero =>
    intro a b ha hl
    obtain ⟨xs, q1, c, P, ps, k, q2, rfl⟩ := key a b ha hl
    have : xs = [] := List.length_eq_zero_iff.mp q1
    subst this
    injection q2 with e1 e2
    exact ⟨e2.symm, k, rfl, (if_pos rfl : upW c.2.1 k P k = P).trans e1.symm⟩
  | succ o =>
    intro x y gx hl
    obtain ⟨xs, q1, c, P, ps, k, q2, rfl⟩ := key x y gx hl
    cases xs with
    | nil => cases q1
    | cons x0 xs =>
      injection q2 with e1 e2
      exact ⟨xs, by rw [List.length_cons] at q1; omega, e2.symm⟩
theorem SD_close {D : TL} : ∀ {o : Nat}, SDy true o D → SDy true (o + 1) ((5, 0) :: D)
  | 0, h => by
    have h : D = [] := h
    subst h
    intro x y gx hl
    rcases LY_one hl with ⟨-, rfl⟩ | ⟨q, -⟩ | ⟨q, -⟩
    · exact ⟨[], rfl, rfl⟩
    · exact absurd (show (5 : Int32) = 4 from q) (by decide)
    · exact absurd rfl q
  | o + 1, h => by
    intro x y gx hl
    obtain ⟨c, h1, h2⟩ := hl
    obtain ⟨xs, q1, q2⟩ := h x c gx h1
    rcases h2 with ⟨-, rfl⟩ | ⟨q, -⟩ | ⟨q, -⟩
    · refine ⟨c.2.2.2.1 :: xs, by rw [List.length_cons, q1], ?_⟩
      show c.2.2.2.1 :: c.2.2.2.2 = _
      rw [q2]
      rfl
    · exact absurd (show (5 : Int32) = 4 from q) (by decide)
    · exact absurd rfl q
theorem gD_sd {tx : Nat → Nat} : ∀ (f : Nat) (b : Bool) (o d a : Nat) (D : TL) (a' : Nat), gD tx f b o d a = .inl (D, a') → SDy b o D
  | 0, b, o, d, a, D, a', h => by cases h
  | f + 1, false, o, d, a, D, a', h => by
    have e0 : gD tx (f + 1) false o d a = if tx a = 40 then (if d + o < 9 then cns (4, 0) (gD tx f (decide (tx (a + 1) = 41)) (o + 1) d (a + 1)) else .inr a) else if cL (tx a) then cns (2, nI (tx a)) (gD tx f true o d (a + 1)) else if cD (tx (pA1 tx a)) then cns (1, pVal tx a) (gD tx f true o d (pDg tx 4 (pA1 tx a) 0).1) else .inr (pA1 tx a) := rfl
    rw [e0] at h
    split at h
    · split at h
      · obtain ⟨D2, q1, q2⟩ := cns_inv h
        rw [q2]
        exact SD_open (gD_sd f _ _ _ _ _ _ q1)
      · cases h
    · split at h
      · obtain ⟨D2, q1, q2⟩ := cns_inv h
        rw [q2]
        exact SD_atom (show ¬ (2 : Int32) = 5 by decide) (show ¬ (2 : Int32) = 4 by decide) (gD_sd f _ _ _ _ _ _ q1)
      · split at h
        · obtain ⟨D2, q1, q2⟩ := cns_inv h
          rw [q2]
          exact SD_atom (show ¬ (1 : Int32) = 5 by decide) (show ¬ (1 : Int32) = 4 by decide) (gD_sd f _ _ _ _ _ _ q1)
        · cases h
  | f + 1, true, 0, d, a, D, a', h => by
    have h : (Sum.inl ([], a) : (TL × Nat) ⊕ Nat) = .inl (D, a') := h
    cases h
    rfl
  | f + 1, true, o + 1, d, a, D, a', h => by
    have e1 : gD tx (f + 1) true (o + 1) d a = if tx a = 41 then cns (5, 0) (gD tx f true o d (a + 1)) else if tx a = 32 then gD tx f false (o + 1) d (a + 1) else .inr a := rfl
    rw [e1] at h
    split at h
    · obtain ⟨D2, q1, q2⟩ := cns_inv h
      rw [q2]
      exact SD_close (gD_sd f _ _ _ _ _ _ q1)
    · split at h
      · exact SDy_b (gD_sd f false (o + 1) d (a + 1) D a' h)
      · cases h
theorem row_ty {φ : Fr} : ∀ (ks : List Kd), (∀ k ∈ ks, LTy (k.1 φ)) → ∀ a b, GDl a → LY (rowT ks φ) a b → b.2.2.2.2 = a.2.2.2.2 ∧ ∀ k n e, WTl a a.2.2.2.1 (true :: k) n false e → WTl b b.2.2.2.1 k n false e
  | [], _, a, b, ha, h => by
    obtain ⟨c, h1, h2⟩ := h
    obtain ⟨d, q1, q2, q3, q4, q5, q6⟩ := L1_at ha (show ¬ (0 : Int32) = 5 by decide) (show ¬ (0 : Int32) = 4 by decide) (LY_one h1)
    refine ⟨?_, fun k n e hw => ?_⟩
    · obtain ⟨-, -, -, -, w, -⟩ := L1_int q5 h2
      exact w.trans q4
    · exact (const_wt (t := true) ha q5 q6 q1 q3 (fun _ => q2) h2 hw).1
  | k0 :: ks, hks, a, b, ha, h => by
    have h : LY (rowT ks φ ++ (k0.1 φ ++ [(1, 13)])) a b := h
    obtain ⟨c, h1, h2⟩ := LY_app _ _ _ _ h
    obtain ⟨d, h3, h4⟩ := LY_app _ _ _ _ h1
    have h3 := LY_one h3
    obtain ⟨g1, x1⟩ := L1_gd ha h3
    obtain ⟨g2, x2⟩ := LY_gd _ _ _ g1 h4
    obtain ⟨p1, p2⟩ := hks k0 List.mem_cons_self d c g1 h4
    obtain ⟨r1, r2⟩ := row_ty ks (fun k hk => hks k (List.mem_cons_of_mem _ hk)) c b g2 h2
    obtain ⟨-, -, -, -, w, -⟩ := L1_int ha h3
    refine ⟨r1.trans (p1.trans w), fun k n e hw => r2 k n e (p2 (true :: k) n e (o_13 ha h3 hw).1)⟩
theorem bo_ty {a : Kd} {ls : List Nat} {φ : Fr} (ht : LTy (a.1 (ls :: φ))) {x y : LSt} (hx : GDl x) (h : LY (boT a ls φ) x y) : y.2.2.2.2 = x.2.2.2.2 ∧ ∀ k n e, WTl x x.2.2.2.1 (false :: k) n (decide (0 < n)) e → WTl y y.2.2.2.1 k n false e := by
  obtain ⟨c, h1, h2⟩ := h
  obtain ⟨d, q1, q2, q3, q4, q5, q6⟩ := lst_wt hx h1 ht (k1 := []) (n1 := 1) (e1 := eRet) (fun a' b' g w => o_5 g w)
  obtain ⟨c0, p1, p2, p3, p4, p5, p6⟩ := L1_int q5 h2
  refine ⟨p4.trans q4, fun k n e hw => ?_⟩
  have ud : c.2.2.1 d := inU_pr (by rw [← q1]; exact q5.2.1.1)
  obtain ⟨y1, -, y3⟩ := p6.1 d ud
  obtain ⟨f1, hf1⟩ := WT_x q5 p6 (SI_h q5.1 ud) q3
  obtain ⟨f2, hf2⟩ := WT_x hx (XT_tr q6 p6) hx.2.1.1 hw
  rw [p1]
  refine ⟨f1 + f2 + 1, c0, 3, rfl, rfl, p2, Or.inr (Or.inr (Or.inl ⟨rfl, d, p3.trans q1, rfl, ?_, ?_⟩))⟩
  · rw [y3 rfl]
    exact wt_le hf1 f2
  · rw [y1, q2, Nat.add_comm f1 f2]
    exact wt_le hf2 f1
theorem LTy_app {A : TL} {i : Int32} (hA : LTy A) {k0 : Sk} {a b : LSt} (ha : GDl a) (h : LY (A ++ [(1, i)]) a b) {k : Sk} {n : Nat} {e : En} (hw : ∀ c, L1 (1, i) a c → WTl c c.2.2.2.1 (false :: k) n false e) : b.2.2.2.2 = a.2.2.2.2 ∧ WTl b b.2.2.2.1 k n false e := by
  obtain ⟨c, h1, h2⟩ := LY_app _ _ _ _ h
  have h1 := LY_one h1
  obtain ⟨g1, x1⟩ := L1_gd ha h1
  obtain ⟨p1, p2⟩ := hA c b g1 h2
  obtain ⟨-, -, -, -, w, -⟩ := L1_int ha h1
  exact ⟨p1.trans w, p2 k n e (hw c h1)⟩
end
section
def okTt (T : TL) : Prop := ∀ x ∈ T, x.1 = 6 → ∃ X, X < 10000 ∧ x.2 = nI X
theorem okT_l {A B : TL} (h : okTt (A ++ B)) : okTt A := fun x hx => h x (List.mem_append.mpr (Or.inl hx))
theorem okT_r {A B : TL} (h : okTt (A ++ B)) : okTt B := fun x hx => h x (List.mem_append.mpr (Or.inr hx))
theorem okT_c {t : Int32 × Int32} {B : TL} (h : okTt (t :: B)) : okTt B := fun x hx => h x (List.mem_cons_of_mem _ hx)
theorem okT_lst {i : Int32} {t : Tau} {φ : Fr} (h : okTt (lstT i t φ)) : okTt (t φ) := okT_l (okT_c h)
theorem okT_row {φ : Fr} : ∀ (ks : List Kd), okTt (rowT ks φ) → ∀ k ∈ ks, okTt (k.1 φ)
  | [], _, k, hk => by cases hk
  | k0 :: ks, h, k, hk => by
    have h : okTt (rowT ks φ ++ (k0.1 φ ++ [(1, 13)])) := h
    rcases List.mem_cons.mp hk with w | w
    · rw [w]
      exact okT_l (okT_r h)
    · exact okT_row ks (okT_l h) k w
theorem cd_1 {c : Nat} (h : ar c = 1) : cdO c = 10 ∨ cdO c = 11 ∨ cdO c = 12 := by
  unfold ar at h
  split at h
  · omega
  · split at h
    · next w =>
      rcases w with w | w | w <;> subst w
      · exact Or.inl rfl
      · exact Or.inr (Or.inl rfl)
      · exact Or.inr (Or.inr rfl)
    · split at h <;> omega
theorem cd_2 {c : Nat} (h : ar c = 2) : cdO c = 13 ∨ cdO c = 14 ∨ cdO c = 15 ∨ cdO c = 16 ∨ cdO c = 17 ∨ cdO c = 18 := by
  unfold ar at h
  split at h
  · next w =>
    rcases w with w | w | w | w | w | w <;> subst w <;> decide
  · split at h
    · omega
    · split at h <;> omega
def htT : TL → Option Nat
  | [] => some 0
  | t :: T => match htT T with
    | none => none
    | some h => if t.1 = 5 then some (h + 1) else if t.1 = 4 then (match h with
      | 0 => none
      | h + 1 => some h) else some h
def HTy (T : TL) (o : Nat) : Prop := ∀ B h, htT B = some h → htT (T ++ B) = some (h + o)
theorem HT_nil : HTy [] 0 := fun B h e => e
theorem HT_app {A B : TL} {o p : Nat} (hA : HTy A o) (hB : HTy B p) : HTy (A ++ B) (o + p) := by
  intro C h e
  rw [List.append_assoc, hA _ _ (hB C h e)]
  congr 1
  omega
theorem HT_c {t : Int32 × Int32} {A : TL} {o : Nat} (h5 : ¬ t.1 = 5) (h4 : ¬ t.1 = 4) (hA : HTy A o) : HTy (t :: A) o := by
  intro B h e
  show (match htT (A ++ B) with | none => none | some h => if t.1 = 5 then some (h + 1) else if t.1 = 4 then (match h with | 0 => none | h + 1 => some h) else some h) = _
  rw [hA B h e]
  show (if t.1 = 5 then some (h + o + 1) else if t.1 = 4 then _ else some (h + o)) = _
  rw [if_neg h5, if_neg h4]
theorem HT_5 {v : Int32} {A : TL} {o : Nat} (hA : HTy A o) : HTy ((5, v) :: A) (o + 1) := by
  intro B h e
  show (match htT (A ++ B) with | none => none | some h => if (5 : Int32) = 5 then some (h + 1) else if (5 : Int32) = 4 then (match h with | 0 => none | h + 1 => some h) else some h) = _
  rw [hA B h e]
  rfl
theorem HT_4 {v : Int32} {A : TL} {o : Nat} (hA : HTy A (o + 1)) : HTy ((4, v) :: A) o := by
  intro B h e
  show (match htT (A ++ B) with | none => none | some h => if (4 : Int32) = 5 then some (h + 1) else if (4 : Int32) = 4 then (match h with | 0 => none | h + 1 => some h) else some h) = _
  rw [hA B h e]
  rfl
theorem HT_1 {v : Int32} : HTy [(1, v)] 0 := HT_c (show ¬ (1 : Int32) = 5 by decide) (show ¬ (1 : Int32) = 4 by decide) HT_nil
theorem HT_lst {i : Int32} {t : Tau} {φ : Fr} (h : HTy (t φ) 0) : HTy (lstT i t φ) 0 := by
  unfold lstT
  have h1 : HTy [((1 : Int32), i), (5, 0)] 1 := HT_c (show ¬ (1 : Int32) = 5 by decide) (show ¬ (1 : Int32) = 4 by decide) (HT_5 HT_nil)
  have h2 := HT_app h h1
  exact HT_4 h2
theorem HT_row {φ : Fr} : ∀ (ks : List Kd), (∀ k ∈ ks, HTy (k.1 φ) 0) → HTy (rowT ks φ) 0
  | [], _ => HT_c (show ¬ (1 : Int32) = 5 by decide) (show ¬ (1 : Int32) = 4 by decide) (HT_c (show ¬ (0 : Int32) = 5 by decide) (show ¬ (0 : Int32) = 4 by decide) HT_nil)
  | k :: ks, h => HT_app (HT_row ks (fun k hk => h k (List.mem_cons_of_mem _ hk))) (HT_app (h k List.mem_cons_self) HT_1)
theorem HT_bo {a : Kd} {ls : List Nat} {φ : Fr} (h : HTy (a.1 (ls :: φ)) 0) : HTy (boT a ls φ) 0 := HT_c (show ¬ (1 : Int32) = 5 by decide) (show ¬ (1 : Int32) = 4 by decide) (HT_lst h)
theorem gD_ht {tx : Nat → Nat} : ∀ (f : Nat) (b : Bool) (o d a : Nat) (D : TL) (a' : Nat), gD tx f b o d a = .inl (D, a') → HTy D o
  | 0, b, o, d, a, D, a', h => by cases h
  | f + 1, false, o, d, a, D, a', h => by
    have e0 : gD tx (f + 1) false o d a = if tx a = 40 then (if d + o < 9 then cns (4, 0) (gD tx f (decide (tx (a + 1) = 41)) (o + 1) d (a + 1)) else .inr a) else if cL (tx a) then cns (2, nI (tx a)) (gD tx f true o d (a + 1)) else if cD (tx (pA1 tx a)) then cns (1, pVal tx a) (gD tx f true o d (pDg tx 4 (pA1 tx a) 0).1) else .inr (pA1 tx a) := rfl
    rw [e0] at h
    split at h
    · split at h
      · obtain ⟨D2, q1, q2⟩ := cns_inv h
        rw [q2]
        exact HT_4 (gD_ht f _ _ _ _ _ _ q1)
      · cases h
    · split at h
      · obtain ⟨D2, q1, q2⟩ := cns_inv h
        rw [q2]
        exact HT_c (show ¬ (2 : Int32) = 5 by decide) (show ¬ (2 : Int32) = 4 by decide) (gD_ht f _ _ _ _ _ _ q1)
      · split at h
        · obtain ⟨D2, q1, q2⟩ := cns_inv h
          rw [q2]
          exact HT_c (show ¬ (1 : Int32) = 5 by decide) (show ¬ (1 : Int32) = 4 by decide) (gD_ht f _ _ _ _ _ _ q1)
        · cases h
  | f + 1, true, 0, d, a, D, a', h => by
    have h : (Sum.inl ([], a) : (TL × Nat) ⊕ Nat) = .inl (D, a') := h
    cases h
    exact HT_nil
  | f + 1, true, o + 1, d, a, D, a', h => by
    have e1 : gD tx (f + 1) true (o + 1) d a = if tx a = 41 then cns (5, 0) (gD tx f true o d (a + 1)) else if tx a = 32 then gD tx f false (o + 1) d (a + 1) else .inr a := rfl
    rw [e1] at h
    split at h
    · obtain ⟨D2, q1, q2⟩ := cns_inv h
      rw [q2]
      exact HT_5 (gD_ht f _ _ _ _ _ _ q1)
    · split at h
      · exact gD_ht f false (o + 1) d (a + 1) D a' h
      · cases h
theorem sg_ht {c : Nat} {φ : Fr} : ∀ (ks : List Kd), (∀ k ∈ ks, HTy (k.1 φ) 0) → HTy (sgT c ks φ) 0
  | [], _ => HT_nil
  | [a], h => HT_app (h a List.mem_cons_self) HT_1
  | [a, b], h => by
    show HTy (if c = 46 then b.1 φ ++ (a.1 φ ++ [(1, 13)]) else a.1 φ ++ (b.1 φ ++ [(1, cdO c)])) 0
    have ha := h a List.mem_cons_self
    have hb := h b (List.mem_cons_of_mem _ List.mem_cons_self)
    split
    · exact HT_app hb (HT_app ha HT_1)
    · exact HT_app ha (HT_app hb HT_1)
  | [a, b, d], h => HT_app (h a List.mem_cons_self) (HT_c (show ¬ (1 : Int32) = 5 by decide) (show ¬ (1 : Int32) = 4 by decide) (HT_app (HT_lst (h b (List.mem_cons_of_mem _ List.mem_cons_self))) (HT_lst (h d (List.mem_cons_of_mem _ (List.mem_cons_of_mem _ List.mem_cons_self))))))
  | _ :: _ :: _ :: _ :: _, _ => HT_nil
theorem cR_ht {tx : Nat → Nat} {r : rM} : ∀ (f n e : Nat) (t : Tau), cR tx r f n e t → ∀ φ, HTy (t φ) 0
  | 0, n, e, t, h, φ => absurd h id
  | f + 1, n, e, t, h, φ => by
    rcases h with ⟨h1, h2, h3⟩ | ⟨h1, h2, c, a, h3, h4, h5, h6, h7⟩ | ⟨h1, h2, a, a', d, D, h3, h4, h5, h6, h7⟩ | ⟨ks, l, h1, h2, h3, hT⟩
    · rw [h3]
      exact HT_c (show ¬ (1 : Int32) = 5 by decide) (show ¬ (1 : Int32) = 4 by decide) HT_1
    · rw [h7]
      exact HT_c (show ¬ (1 : Int32) = 5 by decide) (show ¬ (1 : Int32) = 4 by decide) (HT_c (show ¬ (6 : Int32) = 5 by decide) (show ¬ (6 : Int32) = 4 by decide) HT_nil)
    · rw [h7]
      exact HT_c (show ¬ (1 : Int32) = 5 by decide) (show ¬ (1 : Int32) = 4 by decide) (gD_ht _ _ _ _ _ _ _ h5)
    · obtain ⟨A1, -⟩ := cKL_all (fun i m t w => cR_lt (tx := tx) (r := r) f i m t w.1) ks _ _ _ h1
      have kid : ∀ k ∈ ks, ∀ φ, HTy (k.1 φ) 0 := fun k hk φ => by
        obtain ⟨a, b, -, -, w⟩ := A1 k hk
        exact cR_ht f a b k.1 w.1 φ
      rcases hT with ⟨k1, c, c1, c2, c3, c4, rfl⟩ | ⟨k1, a, args, rfl, c2, rfl⟩ | ⟨k1, a, ls, rfl, c2, c3, c4, c5, rfl⟩ | ⟨k1, a, args, ls, rfl, c2, c3, c4, c5, rfl⟩ | ⟨k1, a, args, ls, rfl, c2, c3, c4, c5, rfl⟩
      · exact sg_ht ks (fun k hk => kid k hk φ)
      · exact HT_app (HT_row args (fun k hk => kid k (List.mem_cons_of_mem _ hk) φ)) (HT_app (kid a List.mem_cons_self φ) HT_1)
      · exact HT_bo (kid a List.mem_cons_self _)
      · exact HT_app (HT_row args (fun k hk => kid k (List.mem_cons_of_mem _ hk) φ)) (HT_app (HT_bo (kid a List.mem_cons_self _)) HT_1)
      · exact HT_c (show ¬ (1 : Int32) = 5 by decide) (show ¬ (1 : Int32) = 4 by decide) (HT_app (HT_row args (fun k hk => kid k (List.mem_cons_of_mem _ hk) _)) (HT_app (HT_bo (kid a List.mem_cons_self _)) HT_1))
theorem ty_app {A B : TL} (hA : LTy A) {a b : LSt} (ha : GDl a) (h : LY (A ++ B) a b) {k : Sk} {n : Nat} {e : En} (hB : ∀ c, LY B a c → GDl c → c.2.2.2.2 = a.2.2.2.2 ∧ WTl c c.2.2.2.1 (false :: k) n false e) : b.2.2.2.2 = a.2.2.2.2 ∧ WTl b b.2.2.2.1 k n false e := by
  obtain ⟨c, h1, h2⟩ := LY_app _ _ _ _ h
  obtain ⟨g1, -⟩ := LY_gd _ _ _ ha h1
  obtain ⟨w1, w2⟩ := hB c h1 g1
  obtain ⟨p1, p2⟩ := hA c b g1 h2
  exact ⟨p1.trans w1, p2 k n e w2⟩
theorem row_app {ks : List Kd} {φ : Fr} {B : TL} (hA : ∀ k ∈ ks, LTy (k.1 φ)) {a b : LSt} (ha : GDl a) (h : LY (rowT ks φ ++ B) a b) {k : Sk} {n : Nat} {e : En} (hB : ∀ c, LY B a c → GDl c → c.2.2.2.2 = a.2.2.2.2 ∧ WTl c c.2.2.2.1 (true :: k) n false e) : b.2.2.2.2 = a.2.2.2.2 ∧ WTl b b.2.2.2.1 k n false e := by
  obtain ⟨c, h1, h2⟩ := LY_app _ _ _ _ h
  obtain ⟨g1, -⟩ := LY_gd _ _ _ ha h1
  obtain ⟨w1, w2⟩ := hB c h1 g1
  obtain ⟨p1, p2⟩ := row_ty ks hA c b g1 h2
  exact ⟨p1.trans w1, p2 k n e w2⟩
theorem LTy_of {T : TL} (hp : ∀ a b, GDl a → LY T a b → b.2.2.2.2 = a.2.2.2.2) (hw : ∀ a b, GDl a → LY T a b → ∀ k n e, WTl a a.2.2.2.1 (false :: k) n false e → WTl b b.2.2.2.1 k n false e) : LTy T := fun a b ha h => ⟨hp a b ha h, hw a b ha h⟩
end
section
def PSy (T : TL) : Prop := ∀ a b, GDl a → LY T a b → b.2.2.2.2 = a.2.2.2.2
theorem PS_1 {v : Int32} : PSy [(1, v)] := fun a b ha h => by
  obtain ⟨-, -, -, -, w, -⟩ := L1_int ha (LY_one h)
  exact w
theorem PS_app {A B : TL} (hA : PSy A) (hB : PSy B) : PSy (A ++ B) := fun a b ha h => by
  obtain ⟨c, h1, h2⟩ := LY_app _ _ _ _ h
  obtain ⟨g1, -⟩ := LY_gd _ _ _ ha h1
  exact (hA c b g1 h2).trans (hB a c ha h1)
theorem PS_c {v : Int32} {A : TL} (hA : PSy A) : PSy ((1, v) :: A) := PS_app (A := [(1, v)]) PS_1 hA
theorem PS_lst {i : Int32} {t : Tau} {φ : Fr} (ht : PSy (t φ)) : PSy (lstT i t φ) := by
  intro a b ha h
  obtain ⟨d, h1, h2⟩ := h
  obtain ⟨a2, h3, h4⟩ := LY_app _ _ _ _ h1
  obtain ⟨a1, h5, h6⟩ := h3
  have h5 := LY_one h5
  obtain ⟨g1, x1⟩ := L1_gd ha h5
  obtain ⟨g2, x2⟩ := L1_gd g1 h6
  obtain ⟨-, -, -, -, w2, -⟩ := L1_int g1 h6
  have w3 := ht a2 d g2 h4
  rcases h5 with ⟨-, rfl⟩ | ⟨q, -⟩ | ⟨q, -⟩
  · have ep : d.2.2.2.2 = a.2.2.2.1 :: a.2.2.2.2 := w3.trans w2
    rcases h2 with ⟨q, -⟩ | ⟨-, P, ps, c, e, hc, rfl⟩ | ⟨-, q, -⟩
    · exact absurd (show (4 : Int32) = 5 from q) (by decide)
    · rw [ep] at e
      injection e with e1 e2
      exact e2.symm
    · exact absurd rfl q
  · exact absurd (show (5 : Int32) = 4 from q) (by decide)
  · exact absurd rfl q
theorem LTy_ps {T : TL} (h : LTy T) : PSy T := fun a b ha hl => (h a b ha hl).1
theorem PS_row {φ : Fr} (ks : List Kd) (h : ∀ k ∈ ks, LTy (k.1 φ)) : PSy (rowT ks φ) := fun a b ha hl => (row_ty ks h a b ha hl).1
theorem PS_bo {a : Kd} {ls : List Nat} {φ : Fr} (h : LTy (a.1 (ls :: φ))) : PSy (boT a ls φ) := fun x y hx hl => (bo_ty h hx hl).1
theorem one_ty {i : Int32} {a c : LSt} (h : LY [(1, i)] a c) {k : Sk} {n : Nat} {e : En} (hw : L1 (1, i) a c → WTl c c.2.2.2.1 k n false e ∧ c.2.2.2.2 = a.2.2.2.2) : c.2.2.2.2 = a.2.2.2.2 ∧ WTl c c.2.2.2.1 k n false e := ⟨(hw (LY_one h)).2, (hw (LY_one h)).1⟩
theorem ch_ty {a b d : Tau} {φ : Fr} (ha : LTy (a φ)) (hb : LTy (b φ)) (hd : LTy (d φ)) : LTy (a φ ++ ((1, 8) :: (lstT 9 b φ ++ lstT 9 d φ))) := by
  refine LTy_of (PS_app (LTy_ps ha) (PS_c (PS_app (PS_lst (LTy_ps hb)) (PS_lst (LTy_ps hd))))) (fun x y hx h k n e hw => ?_)
  refine (ty_app ha hx h (fun c h1 g1 => ⟨PS_c (PS_app (PS_lst (LTy_ps hb)) (PS_lst (LTy_ps hd))) x c hx h1, ?_⟩)).2
  obtain ⟨c2, h2, h3⟩ := h1
  obtain ⟨c1, h4, h5⟩ := LY_app _ _ _ _ h2
  obtain ⟨q, p1, p2, p3, -, p5, p6⟩ := lst_wt hx h4 hd (k1 := k) (n1 := n) (e1 := eJoin (false :: k) n) (fun a' b' g w => o_9 g w)
  obtain ⟨d2, s1, s2, s3, -, s5, s6⟩ := lst_wt p5 h5 hb (k1 := k) (n1 := n) (e1 := eJoin (false :: k) n) (fun a' b' g w => o_9 g w)
  obtain ⟨c0, t1, t2, t3, t4, t5, t6⟩ := L1_int s5 h3
  have uq : c1.2.2.1 q := inU_pr (by rw [← p1]; exact p5.2.1.1)
  have ud : c2.2.2.1 d2 := inU_pr (by rw [← s1]; exact s5.2.1.1)
  have x12 := XT_tr s6 t6
  obtain ⟨y1, -, y3⟩ := t6.1 d2 ud
  obtain ⟨z1, -, z3⟩ := x12.1 q uq
  obtain ⟨f1, hf1⟩ := WT_x s5 t6 (SI_h s5.1 ud) s3
  obtain ⟨f2, hf2⟩ := WT_x p5 x12 (SI_h p5.1 uq) p3
  obtain ⟨f3, hf3⟩ := WT_x hx (XT_tr p6 x12) hx.2.1.1 hw
  rw [t1]
  refine ⟨f1 + f2 + f3 + 1, c0, 8, rfl, rfl, t2, Or.inr (Or.inr (Or.inr (Or.inr (Or.inr (Or.inr (Or.inr (Or.inl ⟨rfl, false, k, d2, q, rfl, t3.trans s1, rfl, y1.trans (s2.trans p1), rfl, ?_, ?_, ?_⟩)))))))⟩
  · rw [y3 rfl, Nat.add_assoc]
    exact wt_le hf1 (f2 + f3)
  · rw [z3 rfl, Nat.add_comm f1 f2, Nat.add_assoc]
    exact wt_le hf2 (f1 + f3)
  · rw [z1, p2, Nat.add_comm (f1 + f2) f3]
    exact wt_le hf3 (f1 + f2)
theorem sg_ty {c : Nat} {φ : Fr} : ∀ (ks : List Kd), ks.length = ar c → (∀ k ∈ ks, LTy (k.1 φ)) → 0 < ar c → LTy (sgT c ks φ)
  | [], hl, _, h0 => by
    rw [List.length_nil] at hl
    omega
  | [a], hl, h, _ => by
    have ha := h a List.mem_cons_self
    have hi := cd_1 hl.symm
    refine LTy_of (PS_app (LTy_ps ha) PS_1) (fun x y hx hy k n e hw => ?_)
    exact (ty_app ha hx hy (fun c1 h1 g1 => one_ty h1 (fun w => o_1 hx hi w hw))).2
  | [a, b], hl, h, _ => by
    have ha := h a List.mem_cons_self
    have hb := h b (List.mem_cons_of_mem _ List.mem_cons_self)
    have hi := cd_2 hl.symm
    show LTy (if c = 46 then b.1 φ ++ (a.1 φ ++ [(1, 13)]) else a.1 φ ++ (b.1 φ ++ [(1, cdO c)]))
    split
    · refine LTy_of (PS_app (LTy_ps hb) (PS_app (LTy_ps ha) PS_1)) (fun x y hx hy k n e hw => ?_)
      exact (ty_app hb hx hy (fun c1 h1 g1 => ty_app ha hx h1 (fun c2 h2 g2 => one_ty h2 (fun w => o_2 hx (Or.inl rfl) w hw)))).2
    · refine LTy_of (PS_app (LTy_ps ha) (PS_app (LTy_ps hb) PS_1)) (fun x y hx hy k n e hw => ?_)
      exact (ty_app ha hx hy (fun c1 h1 g1 => ty_app hb hx h1 (fun c2 h2 g2 => one_ty h2 (fun w => o_2 hx hi w hw)))).2
  | [a, b, d], hl, h, _ => ch_ty (h a List.mem_cons_self) (h b (List.mem_cons_of_mem _ List.mem_cons_self)) (h d (List.mem_cons_of_mem _ (List.mem_cons_of_mem _ List.mem_cons_self)))
  | a :: b :: d :: e :: ks, hl, _, _ => by
    have := ar_le c
    rw [List.length_cons, List.length_cons, List.length_cons, List.length_cons] at hl
    omega
theorem okT_sg {c : Nat} {φ : Fr} : ∀ (ks : List Kd), ks.length = ar c → okTt (sgT c ks φ) → ∀ k ∈ ks, okTt (k.1 φ)
  | [], _, _, k, hk => by cases hk
  | [a], _, h, k, hk => by
    rw [List.mem_singleton.mp hk]
    exact okT_l h
  | [a, b], _, h, k, hk => by
    have h : okTt (if c = 46 then b.1 φ ++ (a.1 φ ++ [(1, 13)]) else a.1 φ ++ (b.1 φ ++ [(1, cdO c)])) := h
    split at h
    · rcases List.mem_cons.mp hk with w | w
      · rw [w]
        exact okT_l (okT_r h)
      · rw [List.mem_singleton.mp w]
        exact okT_l h
    · rcases List.mem_cons.mp hk with w | w
      · rw [w]
        exact okT_l h
      · rw [List.mem_singleton.mp w]
        exact okT_l (okT_r h)
  | [a, b, d], _, h, k, hk => by
    have h : okTt (a.1 φ ++ ((1, 8) :: (lstT 9 b.1 φ ++ lstT 9 d.1 φ))) := h
    rcases List.mem_cons.mp hk with w | w
    · rw [w]
      exact okT_l h
    · rcases List.mem_cons.mp w with w | w
      · rw [w]
        exact okT_lst (okT_l (okT_c (okT_r h)))
      · rw [List.mem_singleton.mp w]
        exact okT_lst (okT_r (okT_c (okT_r h)))
  | a :: b :: d :: e :: ks, hl, _, _, _ => by
    have := ar_le c
    rw [List.length_cons, List.length_cons, List.length_cons, List.length_cons] at hl
    omega
theorem cR_ty {tx : Nat → Nat} {r : rM} : ∀ (f n e : Nat) (t : Tau), cR tx r f n e t → ∀ φ, okTt (t φ) → LTy (t φ)
  | 0, n, e, t, h, φ, _ => absurd h id
  | f + 1, n, e, t, h, φ, hok => by
    rcases h with ⟨h1, h2, h3⟩ | ⟨h1, h2, c, a, h3, h4, h5, h6, h7⟩ | ⟨h1, h2, a, a', d, D, h3, h4, h5, h6, h7⟩ | ⟨ks, l, h1, h2, h3, hT⟩
    · rw [h3]
      intro x y hx hl
      obtain ⟨c, q1, q2⟩ := hl
      obtain ⟨d, p1, p2, p3, p4, p5, p6⟩ := L1_int hx (LY_one q1)
      refine ⟨?_, fun k n e hw => (const_wt (t := false) hx p5 p6 p1 p3 (fun w => by cases w) q2 hw).1⟩
      obtain ⟨-, -, -, -, w, -⟩ := L1_int p5 q2
      exact w.trans p4
    · rw [h7] at hok ⊢
      obtain ⟨X, hX, eX⟩ := hok (6, lkF c (uP a) φ 0) (List.mem_cons_of_mem _ List.mem_cons_self) rfl
      have eX : lkF c (uP a) φ 0 = nI X := eX
      intro x y hx hl
      obtain ⟨c1, q1, q2⟩ := hl
      obtain ⟨d, p1, p2, p3, p4, p5, p6⟩ := L1_at hx (show ¬ (6 : Int32) = 5 by decide) (show ¬ (6 : Int32) = 4 by decide) (LY_one q1)
      have p2 : c1.1 d = vInt (nI X) := by
        rw [p2]
        show hvT (6, lkF c (uP a) φ 0) = _
        rw [eX]
        rfl
      obtain ⟨c0, s1, s2, s3, s4, s5, s6⟩ := L1_int p5 q2
      refine ⟨s4.trans p4, fun k n e hw => ?_⟩
      have ud : c1.2.2.1 d := inU_pr (by rw [← p1]; exact p5.2.1.1)
      obtain ⟨y1, -, y3⟩ := s6.1 d ud
      obtain ⟨f2, hf2⟩ := WT_x hx (XT_tr p6 s6) hx.2.1.1 hw
      rw [s1]
      refine ⟨f2 + 1, c0, 2, rfl, rfl, s2, Or.inr (Or.inl ⟨rfl, d, X, s3.trans p1, rfl, ⟨hX, (y3 rfl).trans p2⟩, ?_⟩)⟩
      rw [y1, p3]
      exact hf2
    · rw [h7]
      have hD : LDy D := gD_sd _ _ _ _ _ _ _ h5
      intro x y hx hl
      obtain ⟨c, q1, q2⟩ := hl
      obtain ⟨g1, x1⟩ := LY_gd _ _ _ hx q1
      obtain ⟨p0, d2, p1, p2⟩ := hD x c hx q1
      refine ⟨?_, fun k n e hw => (const_wt (t := false) hx g1 x1 p1 p2 (fun w => by cases w) q2 hw).1⟩
      obtain ⟨-, -, -, -, w, -⟩ := L1_int g1 q2
      exact w.trans p0
    · obtain ⟨A1, -⟩ := cKL_all (fun i m t w => cR_lt (tx := tx) (r := r) f i m t w.1) ks _ _ _ h1
      have kid : ∀ k ∈ ks, ∀ φ, okTt (k.1 φ) → LTy (k.1 φ) := fun k hk φ ho => by
        obtain ⟨a, b, -, -, w⟩ := A1 k hk
        exact cR_ty f a b k.1 w.1 φ ho
      rcases hT with ⟨k1, c, c1, c2, c3, c4, rfl⟩ | ⟨k1, a, args, rfl, c2, rfl⟩ | ⟨k1, a, ls, rfl, c2, c3, c4, c5, rfl⟩ | ⟨k1, a, args, ls, rfl, c2, c3, c4, c5, rfl⟩ | ⟨k1, a, args, ls, rfl, c2, c3, c4, c5, rfl⟩
      · exact sg_ty ks c4 (fun k hk => kid k hk φ (okT_sg ks c4 hok k hk)) c3
      · have hok : okTt (rowT args φ ++ (a.1 φ ++ [(1, 4)])) := hok
        have hr : ∀ k ∈ args, LTy (k.1 φ) := fun k hk => kid k (List.mem_cons_of_mem _ hk) φ (okT_row args (okT_l hok) k hk)
        have ha := kid a List.mem_cons_self φ (okT_l (okT_r hok))
        show LTy (rowT args φ ++ (a.1 φ ++ [(1, 4)]))
        refine LTy_of (PS_app (PS_row args hr) (PS_app (LTy_ps ha) PS_1)) (fun x y hx hy k n e hw => ?_)
        exact (row_app hr hx hy (fun c1 h1 g1 => ty_app ha hx h1 (fun c2 h2 g2 => one_ty h2 (fun w => o_4 hx w hw)))).2
      · have ha := kid a List.mem_cons_self (ls :: φ) (okT_lst (okT_c (show okTt ((1, 3) :: lstT 5 a.1 (ls :: φ)) from hok)))
        exact LTy_of (PS_bo ha) (fun x y hx hy k n e hw => (bo_ty ha hx hy).2 k n e (WT_b _ hw))
      · have hok : okTt (rowT args φ ++ (boT a ls φ ++ [(1, 4)])) := hok
        have hr : ∀ k ∈ args, LTy (k.1 φ) := fun k hk => kid k (List.mem_cons_of_mem _ hk) φ (okT_row args (okT_l hok) k hk)
        have ha := kid a List.mem_cons_self (ls :: φ) (okT_lst (okT_c (show okTt ((1, 3) :: lstT 5 a.1 (ls :: φ)) from okT_l (okT_r hok))))
        show LTy (rowT args φ ++ (boT a ls φ ++ [(1, 4)]))
        refine LTy_of (PS_app (PS_row args hr) (PS_app (PS_bo ha) PS_1)) (fun x y hx hy k n e hw => ?_)
        refine (row_app hr hx hy (fun c1 h1 g1 => ⟨PS_app (PS_bo ha) PS_1 x c1 hx h1, ?_⟩)).2
        obtain ⟨c2, h2, h3⟩ := LY_app _ _ _ _ h1
        have h2 := LY_one h2
        obtain ⟨g2, -⟩ := L1_gd hx h2
        exact (bo_ty ha g2 h3).2 (true :: k) n e (WT_b _ (o_4 hx h2 hw).1)
      · have hok : okTt ((1, 6) :: (rowT args (ls :: φ) ++ (boT a ls φ ++ [(1, 7)]))) := hok
        have hok2 := okT_c hok
        have hr : ∀ k ∈ args, LTy (k.1 (ls :: φ)) := fun k hk => kid k (List.mem_cons_of_mem _ hk) _ (okT_row args (okT_l hok2) k hk)
        have ha := kid a List.mem_cons_self (ls :: φ) (okT_lst (okT_c (show okTt ((1, 3) :: lstT 5 a.1 (ls :: φ)) from okT_l (okT_r hok2))))
        show LTy ((1, 6) :: (rowT args (ls :: φ) ++ (boT a ls φ ++ [(1, 7)])))
        refine LTy_of (PS_c (PS_app (PS_row args hr) (PS_app (PS_bo ha) PS_1))) (fun x y hx hy k n e hw => ?_)
        obtain ⟨c0, h0, h9⟩ := hy
        obtain ⟨g0, -⟩ := LY_gd _ _ _ hx h0
        have w0 := (row_app (k := k) (n := n + 1) (e := e) hr hx h0 (fun c1 h1 g1 => ⟨PS_app (PS_bo ha) PS_1 x c1 hx h1, by
          obtain ⟨c2, h2, h3⟩ := LY_app _ _ _ _ h1
          have h2 := LY_one h2
          obtain ⟨g2, -⟩ := L1_gd hx h2
          have w7 := (o_7 hx h2 hw).1
          have ed : decide (0 < n + 1) = true := decide_eq_true (Nat.succ_pos n)
          refine (bo_ty ha g2 h3).2 (true :: k) (n + 1) e ?_
          rw [ed]
          exact w7⟩)).2
        exact (o_6 g0 h9 w0).1
end
section
def kdT (T : TL) : Prop := ∀ t ∈ T, (t.1 = 0 ∧ t.2 = 0) ∨ t.1 = 1 ∨ t.1 = 2 ∨ t.1 = 4 ∨ t.1 = 5 ∨ t.1 = 6
theorem kd_app {A B : TL} (hA : kdT A) (hB : kdT B) : kdT (A ++ B) := fun t ht => (List.mem_append.mp ht).elim (hA t) (hB t)
theorem kd_c {t : Int32 × Int32} {B : TL} (h : (t.1 = 0 ∧ t.2 = 0) ∨ t.1 = 1 ∨ t.1 = 2 ∨ t.1 = 4 ∨ t.1 = 5 ∨ t.1 = 6) (hB : kdT B) : kdT (t :: B) := fun x hx => (List.mem_cons.mp hx).elim (fun e => by rw [e]; exact h) (hB x)
theorem kd_nil : kdT [] := fun t ht => by cases ht
theorem kd_1 {v : Int32} : kdT [(1, v)] := kd_c (Or.inr (Or.inl rfl)) kd_nil
theorem kd_lst {i : Int32} {t : Tau} {φ : Fr} (h : kdT (t φ)) : kdT (lstT i t φ) := kd_c (Or.inr (Or.inr (Or.inr (Or.inl rfl)))) (kd_app h (kd_c (Or.inr (Or.inl rfl)) (kd_c (Or.inr (Or.inr (Or.inr (Or.inr (Or.inl rfl))))) kd_nil)))
theorem kd_row {φ : Fr} : ∀ (ks : List Kd), (∀ k ∈ ks, kdT (k.1 φ)) → kdT (rowT ks φ)
  | [], _ => kd_c (Or.inr (Or.inl rfl)) (kd_c (Or.inl ⟨rfl, rfl⟩) kd_nil)
  | k :: ks, h => kd_app (kd_row ks (fun k hk => h k (List.mem_cons_of_mem _ hk))) (kd_app (h k List.mem_cons_self) kd_1)
theorem kd_bo {a : Kd} {ls : List Nat} {φ : Fr} (h : kdT (a.1 (ls :: φ))) : kdT (boT a ls φ) := kd_c (Or.inr (Or.inl rfl)) (kd_lst h)
theorem kd_sg {c : Nat} {φ : Fr} : ∀ (ks : List Kd), (∀ k ∈ ks, kdT (k.1 φ)) → kdT (sgT c ks φ)
  | [], _ => kd_nil
  | [a], h => kd_app (h a List.mem_cons_self) kd_1
  | [a, b], h => by
    show kdT (if c = 46 then b.1 φ ++ (a.1 φ ++ [(1, 13)]) else a.1 φ ++ (b.1 φ ++ [(1, cdO c)]))
    have ha := h a List.mem_cons_self
    have hb := h b (List.mem_cons_of_mem _ List.mem_cons_self)
    split
    · exact kd_app hb (kd_app ha kd_1)
    · exact kd_app ha (kd_app hb kd_1)
  | [a, b, d], h => kd_app (h a List.mem_cons_self) (kd_c (Or.inr (Or.inl rfl)) (kd_app (kd_lst (h b (List.mem_cons_of_mem _ List.mem_cons_self))) (kd_lst (h d (List.mem_cons_of_mem _ (List.mem_cons_of_mem _ List.mem_cons_self))))))
  | _ :: _ :: _ :: _ :: _, _ => kd_nil
theorem gD_kd {tx : Nat → Nat} : ∀ (f : Nat) (b : Bool) (o d a : Nat) (D : TL) (a' : Nat), gD tx f b o d a = .inl (D, a') → kdT D
  | 0, b, o, d, a, D, a', h => by cases h
  | f + 1, false, o, d, a, D, a', h => by
    have e0 : gD tx (f + 1) false o d a = if tx a = 40 then (if d + o < 9 then cns (4, 0) (gD tx f (decide (tx (a + 1) = 41)) (o + 1) d (a + 1)) else .inr a) else if cL (tx a) then cns (2, nI (tx a)) (gD tx f true o d (a + 1)) else if cD (tx (pA1 tx a)) then cns (1, pVal tx a) (gD tx f true o d (pDg tx 4 (pA1 tx a) 0).1) else .inr (pA1 tx a) := rfl
    rw [e0] at h
    split at h
    · split at h
      · obtain ⟨D2, q1, q2⟩ := cns_inv h
        rw [q2]
        exact kd_c (Or.inr (Or.inr (Or.inr (Or.inl rfl)))) (gD_kd f _ _ _ _ _ _ q1)
      · cases h
    · split at h
      · obtain ⟨D2, q1, q2⟩ := cns_inv h
        rw [q2]
        exact kd_c (Or.inr (Or.inr (Or.inl rfl))) (gD_kd f _ _ _ _ _ _ q1)
      · split at h
        · obtain ⟨D2, q1, q2⟩ := cns_inv h
          rw [q2]
          exact kd_c (Or.inr (Or.inl rfl)) (gD_kd f _ _ _ _ _ _ q1)
        · cases h
  | f + 1, true, 0, d, a, D, a', h => by
    have h : (Sum.inl ([], a) : (TL × Nat) ⊕ Nat) = .inl (D, a') := h
    cases h
    exact kd_nil
  | f + 1, true, o + 1, d, a, D, a', h => by
    have e1 : gD tx (f + 1) true (o + 1) d a = if tx a = 41 then cns (5, 0) (gD tx f true o d (a + 1)) else if tx a = 32 then gD tx f false (o + 1) d (a + 1) else .inr a := rfl
    rw [e1] at h
    split at h
    · obtain ⟨D2, q1, q2⟩ := cns_inv h
      rw [q2]
      exact kd_c (Or.inr (Or.inr (Or.inr (Or.inr (Or.inl rfl))))) (gD_kd f _ _ _ _ _ _ q1)
    · split at h
      · exact gD_kd f false (o + 1) d (a + 1) D a' h
      · cases h
theorem cR_kd {tx : Nat → Nat} {r : rM} : ∀ (f n e : Nat) (t : Tau), cR tx r f n e t → ∀ φ, kdT (t φ)
  | 0, n, e, t, h, φ => absurd h id
  | f + 1, n, e, t, h, φ => by
    rcases h with ⟨h1, h2, h3⟩ | ⟨h1, h2, c, a, h3, h4, h5, h6, h7⟩ | ⟨h1, h2, a, a', d, D, h3, h4, h5, h6, h7⟩ | ⟨ks, l, h1, h2, h3, hT⟩
    · rw [h3]
      exact kd_c (Or.inr (Or.inl rfl)) kd_1
    · rw [h7]
      exact kd_c (Or.inr (Or.inl rfl)) (kd_c (Or.inr (Or.inr (Or.inr (Or.inr (Or.inr rfl))))) kd_nil)
    · rw [h7]
      exact kd_c (Or.inr (Or.inl rfl)) (gD_kd _ _ _ _ _ _ _ h5)
    · obtain ⟨A1, -⟩ := cKL_all (fun i m t w => cR_lt (tx := tx) (r := r) f i m t w.1) ks _ _ _ h1
      have kid : ∀ k ∈ ks, ∀ φ, kdT (k.1 φ) := fun k hk φ => by
        obtain ⟨a, b, -, -, w⟩ := A1 k hk
        exact cR_kd f a b k.1 w.1 φ
      rcases hT with ⟨k1, c, c1, c2, c3, c4, rfl⟩ | ⟨k1, a, args, rfl, c2, rfl⟩ | ⟨k1, a, ls, rfl, c2, c3, c4, c5, rfl⟩ | ⟨k1, a, args, ls, rfl, c2, c3, c4, c5, rfl⟩ | ⟨k1, a, args, ls, rfl, c2, c3, c4, c5, rfl⟩
      · exact kd_sg ks (fun k hk => kid k hk φ)
      · exact kd_app (kd_row args (fun k hk => kid k (List.mem_cons_of_mem _ hk) φ)) (kd_app (kid a List.mem_cons_self φ) kd_1)
      · exact kd_bo (kid a List.mem_cons_self _)
      · exact kd_app (kd_row args (fun k hk => kid k (List.mem_cons_of_mem _ hk) φ)) (kd_app (kd_bo (kid a List.mem_cons_self _)) kd_1)
      · exact kd_c (Or.inr (Or.inl rfl)) (kd_app (kd_row args (fun k hk => kid k (List.mem_cons_of_mem _ hk) _)) (kd_app (kd_bo (kid a List.mem_cons_self _)) kd_1))
theorem L1_lw {t : Int32 × Int32} {a b : LSt} (hk : t.1 = 6 → ¬ t.2 < 0) (h : L1 (lw t) a b) : L1 t a b := by
  unfold lw at h
  split at h
  · next e =>
    rcases h with ⟨q, -⟩ | ⟨q, -⟩ | ⟨-, -, k, hk, hb⟩
    · exact absurd (show (1 : Int32) = 5 from q) (by decide)
    · exact absurd (show (1 : Int32) = 4 from q) (by decide)
    · refine Or.inr (Or.inr ⟨by rw [e]; decide, by rw [e]; decide, k, hk, ?_⟩)
      have en : nr t.2 = t.2 := if_neg (hk e)
      have eh : hvT t = hvT (1, nr t.2) := by
        rw [en]
        unfold hvT
        rw [e]
        rfl
      rw [eh]
      exact hb
  · exact h
theorem LY_low : ∀ (T : TL) (a b : LSt), (∀ t ∈ T, t.1 = 6 → ¬ t.2 < 0) → LY (low T) a b → LY T a b
  | [], a, b, _, h => h
  | t :: T, a, b, hk, ⟨c, h1, h2⟩ => ⟨c, LY_low T a c (fun x hx => hk x (List.mem_cons_of_mem _ hx)) h1, L1_lw (hk t List.mem_cons_self) h2⟩
theorem ht_low : ∀ (T : TL), htT (low T) = htT T
  | [] => rfl
  | t :: T => by
    have ih := ht_low T
    show (match htT (low T) with | none => none | some h => if (lw t).1 = 5 then some (h + 1) else if (lw t).1 = 4 then (match h with | 0 => none | h + 1 => some h) else some h) = (match htT T with | none => none | some h => if t.1 = 5 then some (h + 1) else if t.1 = 4 then (match h with | 0 => none | h + 1 => some h) else some h)
    rw [ih]
    have e : ((lw t).1 = 5 ↔ t.1 = 5) ∧ ((lw t).1 = 4 ↔ t.1 = 4) := by
      unfold lw
      split
      · next w =>
        rw [w]
        exact ⟨⟨fun q => absurd (show (1 : Int32) = 5 from q) (by decide), fun q => absurd q (by decide)⟩, ⟨fun q => absurd (show (1 : Int32) = 4 from q) (by decide), fun q => absurd q (by decide)⟩⟩
      · exact ⟨Iff.rfl, Iff.rfl⟩
    cases htT T with
    | none => rfl
    | some h =>
      show (if (lw t).1 = 5 then some (h + 1) else if (lw t).1 = 4 then _ else some h) = (if t.1 = 5 then some (h + 1) else if t.1 = 4 then _ else some h)
      by_cases w5 : t.1 = 5
      · rw [if_pos w5, if_pos (e.1.mpr w5)]
      · rw [if_neg w5, if_neg (fun q => w5 (e.1.mp q))]
        by_cases w4 : t.1 = 4
        · rw [if_pos w4, if_pos (e.2.mpr w4)]
        · rw [if_neg w4, if_neg (fun q => w4 (e.2.mp q))]
theorem kd_low {T : TL} (h : kdT T) : ∀ t ∈ low T, (t.1 = 0 ∧ t.2 = 0) ∨ t.1 = 1 ∨ t.1 = 2 ∨ t.1 = 4 ∨ t.1 = 5 := by
  intro t ht
  obtain ⟨x, hx, rfl⟩ := List.mem_map.mp ht
  unfold lw
  split
  · exact Or.inr (Or.inl rfl)
  · next n6 =>
    rcases h x hx with w | w | w | w | w | w
    · exact Or.inl w
    · exact Or.inr (Or.inl w)
    · exact Or.inr (Or.inr (Or.inl w))
    · exact Or.inr (Or.inr (Or.inr (Or.inl w)))
    · exact Or.inr (Or.inr (Or.inr (Or.inr w)))
    · exact absurd w n6
theorem ht_le : ∀ (A B : TL) (h p : Nat), htT (A ++ B) = some h → htT B = some p → p ≤ h + cnt A
  | [], B, h, p, h1, h2 => by
    have h1 : htT B = some h := h1
    rw [h1] at h2
    cases h2
    exact Nat.le_add_right _ _
  | t :: A, B, h, p, h1, h2 => by
    have h1 : (match htT (A ++ B) with | none => none | some h => if t.1 = 5 then some (h + 1) else if t.1 = 4 then (match h with | 0 => none | h + 1 => some h) else some h) = some h := h1
    have ec : cnt (t :: A) = (if t.1 = 5 then 0 else 1) + cnt A := rfl
    cases hq : htT (A ++ B) with
    | none => rw [hq] at h1; cases h1
    | some q =>
      rw [hq] at h1
      have ih := ht_le A B q p hq h2
      have h1 : (if t.1 = 5 then some (q + 1) else if t.1 = 4 then (match (generalizing := false) q with | 0 => none | h + 1 => some h) else some q) = some h := h1
      rw [ec]
      by_cases w5 : t.1 = 5
      · rw [if_pos w5] at h1
        cases h1
        omega
      · rw [if_neg w5] at h1 ⊢
        by_cases w4 : t.1 = 4
        · rw [if_pos w4] at h1
          cases q with
          | zero => cases h1
          | succ q =>
            have h1 : some q = some h := h1
            cases h1
            omega
        · rw [if_neg w4] at h1
          cases h1
          omega
theorem ht_pre : ∀ (A B : TL) (h : Nat), htT (A ++ B) = some h → ∃ p, htT B = some p
  | [], B, h, h1 => ⟨h, h1⟩
  | t :: A, B, h, h1 => by
    have h1 : (match htT (A ++ B) with | none => none | some h => if t.1 = 5 then some (h + 1) else if t.1 = 4 then (match h with | 0 => none | h + 1 => some h) else some h) = some h := h1
    cases hq : htT (A ++ B) with
    | none => rw [hq] at h1; cases h1
    | some q => exact ht_pre A B q hq
theorem snoc_ex : ∀ (A : TL), A = [] ∨ ∃ A' t, A = A' ++ [t]
  | [] => Or.inl rfl
  | t :: A => by
    rcases snoc_ex A with rfl | ⟨A', t', rfl⟩
    · exact Or.inr ⟨[], t, rfl⟩
    · exact Or.inr ⟨t :: A', t', rfl⟩
end
